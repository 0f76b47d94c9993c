theorem dX9_init_0 : decode cX9_init 0 = .ok (.aload_n 0, 1) := by decide +kernel
theorem dX9_init_1 : decode cX9_init 1 = .ok (.invokespecial 1, 3) := by decide +kernel
theorem dX9_init_4 : decode cX9_init 4 = .ok (.aload_n 0, 1) := by decide +kernel
theorem dX9_init_5 : decode cX9_init 5 = .ok (.bipush 60, 2) := by decide +kernel
theorem dX9_init_7 : decode cX9_init 7 = .ok (.newarray .int, 2) := by decide +kernel
theorem dX9_init_9 : decode cX9_init 9 = .ok (.putfield 7, 3) := by decide +kernel
theorem dX9_init_12 : decode cX9_init 12 = .ok (.aload_n 0, 1) := by decide +kernel
theorem dX9_init_13 : decode cX9_init 13 = .ok (.bipush 9, 2) := by decide +kernel
theorem dX9_init_15 : decode cX9_init 15 = .ok (.newarray .int, 2) := by decide +kernel
theorem dX9_init_17 : decode cX9_init 17 = .ok (.putfield 13, 3) := by decide +kernel
theorem dX9_init_20 : decode cX9_init 20 = .ok (.aload_n 0, 1) := by decide +kernel
theorem dX9_init_21 : decode cX9_init 21 = .ok (.bipush 9, 2) := by decide +kernel
theorem dX9_init_23 : decode cX9_init 23 = .ok (.newarray .int, 2) := by decide +kernel
theorem dX9_init_25 : decode cX9_init 25 = .ok (.putfield 16, 3) := by decide +kernel
theorem dX9_init_28 : decode cX9_init 28 = .ok (.aload_n 0, 1) := by decide +kernel
theorem dX9_init_29 : decode cX9_init 29 = .ok (.iconst 3, 1) := by decide +kernel
theorem dX9_init_30 : decode cX9_init 30 = .ok (.newarray .int, 2) := by decide +kernel
theorem dX9_init_32 : decode cX9_init 32 = .ok (.putfield 19, 3) := by decide +kernel
theorem dX9_init_35 : decode cX9_init 35 = .ok (.aload_n 0, 1) := by decide +kernel
theorem dX9_init_36 : decode cX9_init 36 = .ok (.sipush 900, 3) := by decide +kernel
theorem dX9_init_39 : decode cX9_init 39 = .ok (.newarray .int, 2) := by decide +kernel
theorem dX9_init_41 : decode cX9_init 41 = .ok (.putfield 22, 3) := by decide +kernel
theorem dX9_init_44 : decode cX9_init 44 = .ok (.aload_n 0, 1) := by decide +kernel
theorem dX9_init_45 : decode cX9_init 45 = .ok (.sipush 900, 3) := by decide +kernel
theorem dX9_init_48 : decode cX9_init 48 = .ok (.newarray .int, 2) := by decide +kernel
theorem dX9_init_50 : decode cX9_init 50 = .ok (.putfield 25, 3) := by decide +kernel
theorem dX9_init_53 : decode cX9_init 53 = .ok (.aload_n 0, 1) := by decide +kernel
theorem dX9_init_54 : decode cX9_init 54 = .ok (.sipush 900, 3) := by decide +kernel
theorem dX9_init_57 : decode cX9_init 57 = .ok (.newarray .int, 2) := by decide +kernel
theorem dX9_init_59 : decode cX9_init 59 = .ok (.putfield 28, 3) := by decide +kernel
theorem dX9_init_62 : decode cX9_init 62 = .ok (.aload_n 0, 1) := by decide +kernel
theorem dX9_init_63 : decode cX9_init 63 = .ok (.sipush 900, 3) := by decide +kernel
theorem dX9_init_66 : decode cX9_init 66 = .ok (.newarray .boolean, 2) := by decide +kernel
theorem dX9_init_68 : decode cX9_init 68 = .ok (.putfield 31, 3) := by decide +kernel
theorem dX9_init_71 : decode cX9_init 71 = .ok (.aload_n 0, 1) := by decide +kernel
theorem dX9_init_72 : decode cX9_init 72 = .ok (.sipush 900, 3) := by decide +kernel
theorem dX9_init_75 : decode cX9_init 75 = .ok (.newarray .int, 2) := by decide +kernel
theorem dX9_init_77 : decode cX9_init 77 = .ok (.putfield 35, 3) := by decide +kernel
theorem dX9_init_80 : decode cX9_init 80 = .ok (.aload_n 0, 1) := by decide +kernel
theorem dX9_init_81 : decode cX9_init 81 = .ok (.sipush 900, 3) := by decide +kernel
theorem dX9_init_84 : decode cX9_init 84 = .ok (.newarray .int, 2) := by decide +kernel
theorem dX9_init_86 : decode cX9_init 86 = .ok (.putfield 38, 3) := by decide +kernel
theorem dX9_init_89 : decode cX9_init 89 = .ok (.aload_n 0, 1) := by decide +kernel
theorem dX9_init_90 : decode cX9_init 90 = .ok (.sipush 900, 3) := by decide +kernel
theorem dX9_init_93 : decode cX9_init 93 = .ok (.newarray .int, 2) := by decide +kernel
theorem dX9_init_95 : decode cX9_init 95 = .ok (.putfield 41, 3) := by decide +kernel
theorem dX9_init_98 : decode cX9_init 98 = .ok (.aload_n 0, 1) := by decide +kernel
theorem dX9_init_99 : decode cX9_init 99 = .ok (.iconst 3, 1) := by decide +kernel
theorem dX9_init_100 : decode cX9_init 100 = .ok (.newarray .int, 2) := by decide +kernel
theorem dX9_init_102 : decode cX9_init 102 = .ok (.putfield 44, 3) := by decide +kernel
theorem dX9_init_105 : decode cX9_init 105 = .ok (.aload_n 0, 1) := by decide +kernel
theorem dX9_init_106 : decode cX9_init 106 = .ok (.iconst 3, 1) := by decide +kernel
theorem dX9_init_107 : decode cX9_init 107 = .ok (.newarray .boolean, 2) := by decide +kernel
theorem dX9_init_109 : decode cX9_init 109 = .ok (.putfield 47, 3) := by decide +kernel
theorem dX9_init_112 : decode cX9_init 112 = .ok (.aload_n 0, 1) := by decide +kernel
theorem dX9_init_113 : decode cX9_init 113 = .ok (.bipush 60, 2) := by decide +kernel
theorem dX9_init_115 : decode cX9_init 115 = .ok (.newarray .int, 2) := by decide +kernel
theorem dX9_init_117 : decode cX9_init 117 = .ok (.putfield 50, 3) := by decide +kernel
theorem dX9_init_120 : decode cX9_init 120 = .ok (.aload_n 0, 1) := by decide +kernel
theorem dX9_init_121 : decode cX9_init 121 = .ok (.bipush 60, 2) := by decide +kernel
theorem dX9_init_123 : decode cX9_init 123 = .ok (.newarray .int, 2) := by decide +kernel
theorem dX9_init_125 : decode cX9_init 125 = .ok (.putfield 53, 3) := by decide +kernel
theorem dX9_init_128 : decode cX9_init 128 = .ok (.aload_n 0, 1) := by decide +kernel
theorem dX9_init_129 : decode cX9_init 129 = .ok (.bipush 60, 2) := by decide +kernel
theorem dX9_init_131 : decode cX9_init 131 = .ok (.newarray .int, 2) := by decide +kernel
theorem dX9_init_133 : decode cX9_init 133 = .ok (.putfield 56, 3) := by decide +kernel
theorem dX9_init_136 : decode cX9_init 136 = .ok (.aload_n 0, 1) := by decide +kernel
theorem dX9_init_137 : decode cX9_init 137 = .ok (.bipush 21, 2) := by decide +kernel
theorem dX9_init_139 : decode cX9_init 139 = .ok (.newarray .int, 2) := by decide +kernel
theorem dX9_init_141 : decode cX9_init 141 = .ok (.putfield 59, 3) := by decide +kernel
theorem dX9_init_144 : decode cX9_init 144 = .ok (.aload_n 0, 1) := by decide +kernel
theorem dX9_init_145 : decode cX9_init 145 = .ok (.bipush 21, 2) := by decide +kernel
theorem dX9_init_147 : decode cX9_init 147 = .ok (.newarray .int, 2) := by decide +kernel
theorem dX9_init_149 : decode cX9_init 149 = .ok (.putfield 62, 3) := by decide +kernel
theorem dX9_init_152 : decode cX9_init 152 = .ok (.aload_n 0, 1) := by decide +kernel
theorem dX9_init_153 : decode cX9_init 153 = .ok (.bipush 7, 2) := by decide +kernel
theorem dX9_init_155 : decode cX9_init 155 = .ok (.newarray .int, 2) := by decide +kernel
theorem dX9_init_157 : decode cX9_init 157 = .ok (.putfield 65, 3) := by decide +kernel
theorem dX9_init_160 : decode cX9_init 160 = .ok (.aload_n 0, 1) := by decide +kernel
theorem dX9_init_161 : decode cX9_init 161 = .ok (.bipush 7, 2) := by decide +kernel
theorem dX9_init_163 : decode cX9_init 163 = .ok (.newarray .int, 2) := by decide +kernel
theorem dX9_init_165 : decode cX9_init 165 = .ok (.putfield 68, 3) := by decide +kernel
theorem dX9_init_168 : decode cX9_init 168 = .ok (.aload_n 0, 1) := by decide +kernel
theorem dX9_init_169 : decode cX9_init 169 = .ok (.bipush 7, 2) := by decide +kernel
theorem dX9_init_171 : decode cX9_init 171 = .ok (.newarray .int, 2) := by decide +kernel
theorem dX9_init_173 : decode cX9_init 173 = .ok (.putfield 71, 3) := by decide +kernel
theorem dX9_init_176 : decode cX9_init 176 = .ok (.aload_n 0, 1) := by decide +kernel
theorem dX9_init_177 : decode cX9_init 177 = .ok (.bipush 7, 2) := by decide +kernel
theorem dX9_init_179 : decode cX9_init 179 = .ok (.newarray .int, 2) := by decide +kernel
theorem dX9_init_181 : decode cX9_init 181 = .ok (.putfield 74, 3) := by decide +kernel
theorem dX9_init_184 : decode cX9_init 184 = .ok (.aload_n 0, 1) := by decide +kernel
theorem dX9_init_185 : decode cX9_init 185 = .ok (.sipush 8400, 3) := by decide +kernel
theorem dX9_init_188 : decode cX9_init 188 = .ok (.newarray .int, 2) := by decide +kernel
theorem dX9_init_190 : decode cX9_init 190 = .ok (.putfield 77, 3) := by decide +kernel
theorem dX9_init_193 : decode cX9_init 193 = .ok (.aload_n 0, 1) := by decide +kernel
theorem dX9_init_194 : decode cX9_init 194 = .ok (.sipush 8400, 3) := by decide +kernel
theorem dX9_init_197 : decode cX9_init 197 = .ok (.newarray .int, 2) := by decide +kernel
theorem dX9_init_199 : decode cX9_init 199 = .ok (.putfield 80, 3) := by decide +kernel
theorem dX9_init_202 : decode cX9_init 202 = .ok (.aload_n 0, 1) := by decide +kernel
theorem dX9_init_203 : decode cX9_init 203 = .ok (.sipush 8400, 3) := by decide +kernel
theorem dX9_init_206 : decode cX9_init 206 = .ok (.newarray .int, 2) := by decide +kernel
theorem dX9_init_208 : decode cX9_init 208 = .ok (.putfield 83, 3) := by decide +kernel
theorem dX9_init_211 : decode cX9_init 211 = .ok (.aload_n 0, 1) := by decide +kernel
theorem dX9_init_212 : decode cX9_init 212 = .ok (.sipush 8400, 3) := by decide +kernel
theorem dX9_init_215 : decode cX9_init 215 = .ok (.newarray .int, 2) := by decide +kernel
theorem dX9_init_217 : decode cX9_init 217 = .ok (.putfield 86, 3) := by decide +kernel
theorem dX9_init_220 : decode cX9_init 220 = .ok (.aload_n 0, 1) := by decide +kernel
theorem dX9_init_221 : decode cX9_init 221 = .ok (.sipush 8400, 3) := by decide +kernel
theorem dX9_init_224 : decode cX9_init 224 = .ok (.newarray .boolean, 2) := by decide +kernel
theorem dX9_init_226 : decode cX9_init 226 = .ok (.putfield 89, 3) := by decide +kernel
theorem dX9_init_229 : decode cX9_init 229 = .ok (.aload_n 0, 1) := by decide +kernel
theorem dX9_init_230 : decode cX9_init 230 = .ok (.sipush 8400, 3) := by decide +kernel
theorem dX9_init_233 : decode cX9_init 233 = .ok (.newarray .int, 2) := by decide +kernel
theorem dX9_init_235 : decode cX9_init 235 = .ok (.putfield 92, 3) := by decide +kernel
theorem dX9_init_238 : decode cX9_init 238 = .ok (.aload_n 0, 1) := by decide +kernel
theorem dX9_init_239 : decode cX9_init 239 = .ok (.iconst 5, 1) := by decide +kernel
theorem dX9_init_240 : decode cX9_init 240 = .ok (.newarray .int, 2) := by decide +kernel
theorem dX9_init_242 : decode cX9_init 242 = .ok (.putfield 95, 3) := by decide +kernel
theorem dX9_init_245 : decode cX9_init 245 = .ok (.aload_n 0, 1) := by decide +kernel
theorem dX9_init_246 : decode cX9_init 246 = .ok (.sipush 8000, 3) := by decide +kernel
theorem dX9_init_249 : decode cX9_init 249 = .ok (.newarray .int, 2) := by decide +kernel
theorem dX9_init_251 : decode cX9_init 251 = .ok (.putfield 98, 3) := by decide +kernel
theorem dX9_init_254 : decode cX9_init 254 = .ok (.aload_n 0, 1) := by decide +kernel
theorem dX9_init_255 : decode cX9_init 255 = .ok (.sipush 8000, 3) := by decide +kernel
theorem dX9_init_258 : decode cX9_init 258 = .ok (.newarray .int, 2) := by decide +kernel
theorem dX9_init_260 : decode cX9_init 260 = .ok (.putfield 101, 3) := by decide +kernel
theorem dX9_init_263 : decode cX9_init 263 = .ok (.aload_n 0, 1) := by decide +kernel
theorem dX9_init_264 : decode cX9_init 264 = .ok (.sipush 8000, 3) := by decide +kernel
theorem dX9_init_267 : decode cX9_init 267 = .ok (.newarray .int, 2) := by decide +kernel
theorem dX9_init_269 : decode cX9_init 269 = .ok (.putfield 104, 3) := by decide +kernel
theorem dX9_init_272 : decode cX9_init 272 = .ok (.aload_n 0, 1) := by decide +kernel
theorem dX9_init_273 : decode cX9_init 273 = .ok (.sipush 8000, 3) := by decide +kernel
theorem dX9_init_276 : decode cX9_init 276 = .ok (.newarray .int, 2) := by decide +kernel
theorem dX9_init_278 : decode cX9_init 278 = .ok (.putfield 107, 3) := by decide +kernel
theorem dX9_init_281 : decode cX9_init 281 = .ok (.aload_n 0, 1) := by decide +kernel
theorem dX9_init_282 : decode cX9_init 282 = .ok (.sipush 8000, 3) := by decide +kernel
theorem dX9_init_285 : decode cX9_init 285 = .ok (.newarray .int, 2) := by decide +kernel
theorem dX9_init_287 : decode cX9_init 287 = .ok (.putfield 110, 3) := by decide +kernel
theorem dX9_init_290 : decode cX9_init 290 = .ok (.aload_n 0, 1) := by decide +kernel
theorem dX9_init_291 : decode cX9_init 291 = .ok (.iconst 1, 1) := by decide +kernel
theorem dX9_init_292 : decode cX9_init 292 = .ok (.putfield 113, 3) := by decide +kernel
theorem dX9_init_295 : decode cX9_init 295 = .ok (.aload_n 0, 1) := by decide +kernel
theorem dX9_init_296 : decode cX9_init 296 = .ok (.iconst 5, 1) := by decide +kernel
theorem dX9_init_297 : decode cX9_init 297 = .ok (.invokevirtual 117, 3) := by decide +kernel
theorem dX9_init_300 : decode cX9_init 300 = .ok (.aload_n 0, 1) := by decide +kernel
theorem dX9_init_301 : decode cX9_init 301 = .ok (.bipush 6, 2) := by decide +kernel
theorem dX9_init_303 : decode cX9_init 303 = .ok (.invokevirtual 117, 3) := by decide +kernel
theorem dX9_init_306 : decode cX9_init 306 = .ok (.return_, 1) := by decide +kernel
theorem dX9_thrown_0 : decode cX9_thrown 0 = .ok (.aload_n 0, 1) := by decide +kernel
theorem dX9_thrown_1 : decode cX9_thrown 1 = .ok (.getfield 121, 3) := by decide +kernel
theorem dX9_thrown_4 : decode cX9_thrown 4 = .ok (.ireturn, 1) := by decide +kernel
theorem dX9_can_0 : decode cX9_can 0 = .ok (.aload_n 0, 1) := by decide +kernel
theorem dX9_can_1 : decode cX9_can 1 = .ok (.iload_n 1, 1) := by decide +kernel
theorem dX9_can_2 : decode cX9_can 2 = .ok (.putfield 121, 3) := by decide +kernel
theorem dX9_can_5 : decode cX9_can 5 = .ok (.iload_n 1, 1) := by decide +kernel
theorem dX9_can_6 : decode cX9_can 6 = .ok (.ifCond .ne 7, 3) := by decide +kernel
theorem dX9_can_9 : decode cX9_can 9 = .ok (.iconst 1, 1) := by decide +kernel
theorem dX9_can_10 : decode cX9_can 10 = .ok (.goto 4, 3) := by decide +kernel
theorem dX9_can_13 : decode cX9_can 13 = .ok (.iconst 0, 1) := by decide +kernel
theorem dX9_can_14 : decode cX9_can 14 = .ok (.ireturn, 1) := by decide +kernel
theorem dX9_isIn_0 : decode cX9_isIn 0 = .ok (.iload_n 0, 1) := by decide +kernel
theorem dX9_isIn_1 : decode cX9_isIn 1 = .ok (.iload_n 1, 1) := by decide +kernel
theorem dX9_isIn_2 : decode cX9_isIn 2 = .ok (.if_icmp .lt 12, 3) := by decide +kernel
theorem dX9_isIn_5 : decode cX9_isIn 5 = .ok (.iload_n 0, 1) := by decide +kernel
theorem dX9_isIn_6 : decode cX9_isIn 6 = .ok (.iload_n 2, 1) := by decide +kernel
theorem dX9_isIn_7 : decode cX9_isIn 7 = .ok (.if_icmp .gt 7, 3) := by decide +kernel
theorem dX9_isIn_10 : decode cX9_isIn 10 = .ok (.iconst 1, 1) := by decide +kernel
theorem dX9_isIn_11 : decode cX9_isIn 11 = .ok (.goto 4, 3) := by decide +kernel
theorem dX9_isIn_14 : decode cX9_isIn 14 = .ok (.iconst 0, 1) := by decide +kernel
theorem dX9_isIn_15 : decode cX9_isIn 15 = .ok (.ireturn, 1) := by decide +kernel
theorem dX9_isPartition_0 : decode cX9_isPartition 0 = .ok (.iload_n 0, 1) := by decide +kernel
theorem dX9_isPartition_1 : decode cX9_isPartition 1 = .ok (.iconst 0, 1) := by decide +kernel
theorem dX9_isPartition_2 : decode cX9_isPartition 2 = .ok (.iconst 2, 1) := by decide +kernel
theorem dX9_isPartition_3 : decode cX9_isPartition 3 = .ok (.invokestatic 124, 3) := by decide +kernel
theorem dX9_isPartition_6 : decode cX9_isPartition 6 = .ok (.ireturn, 1) := by decide +kernel
theorem dX9_isKey_0 : decode cX9_isKey 0 = .ok (.iload_n 0, 1) := by decide +kernel
theorem dX9_isKey_1 : decode cX9_isKey 1 = .ok (.iconst 0, 1) := by decide +kernel
theorem dX9_isKey_2 : decode cX9_isKey 2 = .ok (.bipush 7, 2) := by decide +kernel
theorem dX9_isKey_4 : decode cX9_isKey 4 = .ok (.invokestatic 124, 3) := by decide +kernel
theorem dX9_isKey_7 : decode cX9_isKey 7 = .ok (.ireturn, 1) := by decide +kernel
theorem dX9_begins_0 : decode cX9_begins 0 = .ok (.iconst 0, 1) := by decide +kernel
theorem dX9_begins_1 : decode cX9_begins 1 = .ok (.istore_n 2, 1) := by decide +kernel
theorem dX9_begins_2 : decode cX9_begins 2 = .ok (.iload_n 2, 1) := by decide +kernel
theorem dX9_begins_3 : decode cX9_begins 3 = .ok (.iconst 3, 1) := by decide +kernel
theorem dX9_begins_4 : decode cX9_begins 4 = .ok (.if_icmp .ge 31, 3) := by decide +kernel
theorem dX9_begins_7 : decode cX9_begins 7 = .ok (.aload_n 0, 1) := by decide +kernel
theorem dX9_begins_8 : decode cX9_begins 8 = .ok (.getfield 59, 3) := by decide +kernel
theorem dX9_begins_11 : decode cX9_begins 11 = .ok (.iconst 3, 1) := by decide +kernel
theorem dX9_begins_12 : decode cX9_begins 12 = .ok (.iload_n 1, 1) := by decide +kernel
theorem dX9_begins_13 : decode cX9_begins 13 = .ok (.imul, 1) := by decide +kernel
theorem dX9_begins_14 : decode cX9_begins 14 = .ok (.iload_n 2, 1) := by decide +kernel
theorem dX9_begins_15 : decode cX9_begins 15 = .ok (.iadd, 1) := by decide +kernel
theorem dX9_begins_16 : decode cX9_begins 16 = .ok (.iconst 0, 1) := by decide +kernel
theorem dX9_begins_17 : decode cX9_begins 17 = .ok (.iastore, 1) := by decide +kernel
theorem dX9_begins_18 : decode cX9_begins 18 = .ok (.aload_n 0, 1) := by decide +kernel
theorem dX9_begins_19 : decode cX9_begins 19 = .ok (.getfield 62, 3) := by decide +kernel
theorem dX9_begins_22 : decode cX9_begins 22 = .ok (.iconst 3, 1) := by decide +kernel
theorem dX9_begins_23 : decode cX9_begins 23 = .ok (.iload_n 1, 1) := by decide +kernel
theorem dX9_begins_24 : decode cX9_begins 24 = .ok (.imul, 1) := by decide +kernel
theorem dX9_begins_25 : decode cX9_begins 25 = .ok (.iload_n 2, 1) := by decide +kernel
theorem dX9_begins_26 : decode cX9_begins 26 = .ok (.iadd, 1) := by decide +kernel
theorem dX9_begins_27 : decode cX9_begins 27 = .ok (.iconst (-1), 1) := by decide +kernel
theorem dX9_begins_28 : decode cX9_begins 28 = .ok (.iastore, 1) := by decide +kernel
theorem dX9_begins_29 : decode cX9_begins 29 = .ok (.iinc 2 1, 3) := by decide +kernel
theorem dX9_begins_32 : decode cX9_begins 32 = .ok (.goto (-30), 3) := by decide +kernel
theorem dX9_begins_35 : decode cX9_begins 35 = .ok (.aload_n 0, 1) := by decide +kernel
theorem dX9_begins_36 : decode cX9_begins 36 = .ok (.getfield 65, 3) := by decide +kernel
theorem dX9_begins_39 : decode cX9_begins 39 = .ok (.iload_n 1, 1) := by decide +kernel
theorem dX9_begins_40 : decode cX9_begins 40 = .ok (.iconst (-1), 1) := by decide +kernel
theorem dX9_begins_41 : decode cX9_begins 41 = .ok (.iastore, 1) := by decide +kernel
theorem dX9_begins_42 : decode cX9_begins 42 = .ok (.aload_n 0, 1) := by decide +kernel
theorem dX9_begins_43 : decode cX9_begins 43 = .ok (.getfield 68, 3) := by decide +kernel
theorem dX9_begins_46 : decode cX9_begins 46 = .ok (.iload_n 1, 1) := by decide +kernel
theorem dX9_begins_47 : decode cX9_begins 47 = .ok (.iconst 0, 1) := by decide +kernel
theorem dX9_begins_48 : decode cX9_begins 48 = .ok (.iastore, 1) := by decide +kernel
theorem dX9_begins_49 : decode cX9_begins 49 = .ok (.aload_n 0, 1) := by decide +kernel
theorem dX9_begins_50 : decode cX9_begins 50 = .ok (.getfield 71, 3) := by decide +kernel
theorem dX9_begins_53 : decode cX9_begins 53 = .ok (.iload_n 1, 1) := by decide +kernel
theorem dX9_begins_54 : decode cX9_begins 54 = .ok (.iconst 0, 1) := by decide +kernel
theorem dX9_begins_55 : decode cX9_begins 55 = .ok (.iastore, 1) := by decide +kernel
theorem dX9_begins_56 : decode cX9_begins 56 = .ok (.aload_n 0, 1) := by decide +kernel
theorem dX9_begins_57 : decode cX9_begins 57 = .ok (.getfield 74, 3) := by decide +kernel
theorem dX9_begins_60 : decode cX9_begins 60 = .ok (.iload_n 1, 1) := by decide +kernel
theorem dX9_begins_61 : decode cX9_begins 61 = .ok (.iconst 0, 1) := by decide +kernel
theorem dX9_begins_62 : decode cX9_begins 62 = .ok (.iastore, 1) := by decide +kernel
theorem dX9_begins_63 : decode cX9_begins 63 = .ok (.return_, 1) := by decide +kernel
theorem dX9_type_0 : decode cX9_type 0 = .ok (.aload_n 0, 1) := by decide +kernel
theorem dX9_type_1 : decode cX9_type 1 = .ok (.iload_n 1, 1) := by decide +kernel
theorem dX9_type_2 : decode cX9_type 2 = .ok (.bipush 32, 2) := by decide +kernel
theorem dX9_type_4 : decode cX9_type 4 = .ok (.bipush 126, 2) := by decide +kernel
theorem dX9_type_6 : decode cX9_type 6 = .ok (.invokestatic 124, 3) := by decide +kernel
theorem dX9_type_9 : decode cX9_type 9 = .ok (.ifCond .ne 7, 3) := by decide +kernel
theorem dX9_type_12 : decode cX9_type 12 = .ok (.iconst 1, 1) := by decide +kernel
theorem dX9_type_13 : decode cX9_type 13 = .ok (.goto 17, 3) := by decide +kernel
theorem dX9_type_16 : decode cX9_type 16 = .ok (.aload_n 0, 1) := by decide +kernel
theorem dX9_type_17 : decode cX9_type 17 = .ok (.getfield 128, 3) := by decide +kernel
theorem dX9_type_20 : decode cX9_type 20 = .ok (.bipush 60, 2) := by decide +kernel
theorem dX9_type_22 : decode cX9_type 22 = .ok (.if_icmp .ne 7, 3) := by decide +kernel
theorem dX9_type_25 : decode cX9_type 25 = .ok (.iconst 2, 1) := by decide +kernel
theorem dX9_type_26 : decode cX9_type 26 = .ok (.goto 4, 3) := by decide +kernel
theorem dX9_type_29 : decode cX9_type 29 = .ok (.iconst 0, 1) := by decide +kernel
theorem dX9_type_30 : decode cX9_type 30 = .ok (.invokevirtual 131, 3) := by decide +kernel
theorem dX9_type_33 : decode cX9_type 33 = .ok (.ifCond .ne 5, 3) := by decide +kernel
theorem dX9_type_36 : decode cX9_type 36 = .ok (.iconst 0, 1) := by decide +kernel
theorem dX9_type_37 : decode cX9_type 37 = .ok (.ireturn, 1) := by decide +kernel
theorem dX9_type_38 : decode cX9_type 38 = .ok (.aload_n 0, 1) := by decide +kernel
theorem dX9_type_39 : decode cX9_type 39 = .ok (.getfield 7, 3) := by decide +kernel
theorem dX9_type_42 : decode cX9_type 42 = .ok (.aload_n 0, 1) := by decide +kernel
theorem dX9_type_43 : decode cX9_type 43 = .ok (.getfield 128, 3) := by decide +kernel
theorem dX9_type_46 : decode cX9_type 46 = .ok (.iload_n 1, 1) := by decide +kernel
theorem dX9_type_47 : decode cX9_type 47 = .ok (.iastore, 1) := by decide +kernel
theorem dX9_type_48 : decode cX9_type 48 = .ok (.aload_n 0, 1) := by decide +kernel
theorem dX9_type_49 : decode cX9_type 49 = .ok (.dup, 1) := by decide +kernel
theorem dX9_type_50 : decode cX9_type 50 = .ok (.getfield 128, 3) := by decide +kernel
theorem dX9_type_53 : decode cX9_type 53 = .ok (.iconst 1, 1) := by decide +kernel
theorem dX9_type_54 : decode cX9_type 54 = .ok (.iadd, 1) := by decide +kernel
theorem dX9_type_55 : decode cX9_type 55 = .ok (.putfield 128, 3) := by decide +kernel
theorem dX9_type_58 : decode cX9_type 58 = .ok (.aload_n 0, 1) := by decide +kernel
theorem dX9_type_59 : decode cX9_type 59 = .ok (.getfield 128, 3) := by decide +kernel
theorem dX9_type_62 : decode cX9_type 62 = .ok (.ireturn, 1) := by decide +kernel
theorem dX9_wipe_0 : decode cX9_wipe 0 = .ok (.aload_n 0, 1) := by decide +kernel
theorem dX9_wipe_1 : decode cX9_wipe 1 = .ok (.iconst 0, 1) := by decide +kernel
theorem dX9_wipe_2 : decode cX9_wipe 2 = .ok (.putfield 121, 3) := by decide +kernel
theorem dX9_wipe_5 : decode cX9_wipe 5 = .ok (.aload_n 0, 1) := by decide +kernel
theorem dX9_wipe_6 : decode cX9_wipe 6 = .ok (.getfield 128, 3) := by decide +kernel
theorem dX9_wipe_9 : decode cX9_wipe 9 = .ok (.istore_n 1, 1) := by decide +kernel
theorem dX9_wipe_10 : decode cX9_wipe 10 = .ok (.aload_n 0, 1) := by decide +kernel
theorem dX9_wipe_11 : decode cX9_wipe 11 = .ok (.iconst 0, 1) := by decide +kernel
theorem dX9_wipe_12 : decode cX9_wipe 12 = .ok (.putfield 128, 3) := by decide +kernel
theorem dX9_wipe_15 : decode cX9_wipe 15 = .ok (.iload_n 1, 1) := by decide +kernel
theorem dX9_wipe_16 : decode cX9_wipe 16 = .ok (.ireturn, 1) := by decide +kernel
theorem dX9_at_0 : decode cX9_at 0 = .ok (.iload_n 1, 1) := by decide +kernel
theorem dX9_at_1 : decode cX9_at 1 = .ok (.aload_n 0, 1) := by decide +kernel
theorem dX9_at_2 : decode cX9_at 2 = .ok (.getfield 128, 3) := by decide +kernel
theorem dX9_at_5 : decode cX9_at 5 = .ok (.if_icmp .ge 12, 3) := by decide +kernel
theorem dX9_at_8 : decode cX9_at 8 = .ok (.aload_n 0, 1) := by decide +kernel
theorem dX9_at_9 : decode cX9_at 9 = .ok (.getfield 7, 3) := by decide +kernel
theorem dX9_at_12 : decode cX9_at 12 = .ok (.iload_n 1, 1) := by decide +kernel
theorem dX9_at_13 : decode cX9_at 13 = .ok (.iaload, 1) := by decide +kernel
theorem dX9_at_14 : decode cX9_at 14 = .ok (.goto 4, 3) := by decide +kernel
theorem dX9_at_17 : decode cX9_at 17 = .ok (.iconst (-1), 1) := by decide +kernel
theorem dX9_at_18 : decode cX9_at 18 = .ok (.ireturn, 1) := by decide +kernel
theorem dX9_word_0 : decode cX9_word 0 = .ok (.iconst 0, 1) := by decide +kernel
theorem dX9_word_1 : decode cX9_word 1 = .ok (.istore 8, 2) := by decide +kernel
theorem dX9_word_3 : decode cX9_word 3 = .ok (.iload 8, 2) := by decide +kernel
theorem dX9_word_5 : decode cX9_word 5 = .ok (.bipush 7, 2) := by decide +kernel
theorem dX9_word_7 : decode cX9_word 7 = .ok (.if_icmp .ge 111, 3) := by decide +kernel
theorem dX9_word_10 : decode cX9_word 10 = .ok (.iload 8, 2) := by decide +kernel
theorem dX9_word_12 : decode cX9_word 12 = .ok (.ifCond .ne 7, 3) := by decide +kernel
theorem dX9_word_15 : decode cX9_word 15 = .ok (.iload_n 1, 1) := by decide +kernel
theorem dX9_word_16 : decode cX9_word 16 = .ok (.goto 58, 3) := by decide +kernel
theorem dX9_word_19 : decode cX9_word 19 = .ok (.iload 8, 2) := by decide +kernel
theorem dX9_word_21 : decode cX9_word 21 = .ok (.iconst 1, 1) := by decide +kernel
theorem dX9_word_22 : decode cX9_word 22 = .ok (.if_icmp .ne 7, 3) := by decide +kernel
theorem dX9_word_25 : decode cX9_word 25 = .ok (.iload_n 2, 1) := by decide +kernel
theorem dX9_word_26 : decode cX9_word 26 = .ok (.goto 48, 3) := by decide +kernel
theorem dX9_word_29 : decode cX9_word 29 = .ok (.iload 8, 2) := by decide +kernel
theorem dX9_word_31 : decode cX9_word 31 = .ok (.iconst 2, 1) := by decide +kernel
theorem dX9_word_32 : decode cX9_word 32 = .ok (.if_icmp .ne 7, 3) := by decide +kernel
theorem dX9_word_35 : decode cX9_word 35 = .ok (.iload_n 3, 1) := by decide +kernel
theorem dX9_word_36 : decode cX9_word 36 = .ok (.goto 38, 3) := by decide +kernel
theorem dX9_word_39 : decode cX9_word 39 = .ok (.iload 8, 2) := by decide +kernel
theorem dX9_word_41 : decode cX9_word 41 = .ok (.iconst 3, 1) := by decide +kernel
theorem dX9_word_42 : decode cX9_word 42 = .ok (.if_icmp .ne 8, 3) := by decide +kernel
theorem dX9_word_45 : decode cX9_word 45 = .ok (.iload 4, 2) := by decide +kernel
theorem dX9_word_47 : decode cX9_word 47 = .ok (.goto 27, 3) := by decide +kernel
theorem dX9_word_50 : decode cX9_word 50 = .ok (.iload 8, 2) := by decide +kernel
theorem dX9_word_52 : decode cX9_word 52 = .ok (.iconst 4, 1) := by decide +kernel
theorem dX9_word_53 : decode cX9_word 53 = .ok (.if_icmp .ne 8, 3) := by decide +kernel
theorem dX9_word_56 : decode cX9_word 56 = .ok (.iload 5, 2) := by decide +kernel
theorem dX9_word_58 : decode cX9_word 58 = .ok (.goto 16, 3) := by decide +kernel
theorem dX9_word_61 : decode cX9_word 61 = .ok (.iload 8, 2) := by decide +kernel
theorem dX9_word_63 : decode cX9_word 63 = .ok (.iconst 5, 1) := by decide +kernel
theorem dX9_word_64 : decode cX9_word 64 = .ok (.if_icmp .ne 8, 3) := by decide +kernel
theorem dX9_word_67 : decode cX9_word 67 = .ok (.iload 6, 2) := by decide +kernel
theorem dX9_word_69 : decode cX9_word 69 = .ok (.goto 5, 3) := by decide +kernel
theorem dX9_word_72 : decode cX9_word 72 = .ok (.iload 7, 2) := by decide +kernel
theorem dX9_word_74 : decode cX9_word 74 = .ok (.istore 9, 2) := by decide +kernel
theorem dX9_word_76 : decode cX9_word 76 = .ok (.iload 9, 2) := by decide +kernel
theorem dX9_word_78 : decode cX9_word 78 = .ok (.ifCond .ne 5, 3) := by decide +kernel
theorem dX9_word_81 : decode cX9_word 81 = .ok (.iconst 1, 1) := by decide +kernel
theorem dX9_word_82 : decode cX9_word 82 = .ok (.ireturn, 1) := by decide +kernel
theorem dX9_word_83 : decode cX9_word 83 = .ok (.aload_n 0, 1) := by decide +kernel
theorem dX9_word_84 : decode cX9_word 84 = .ok (.aload_n 0, 1) := by decide +kernel
theorem dX9_word_85 : decode cX9_word 85 = .ok (.getfield 135, 3) := by decide +kernel
theorem dX9_word_88 : decode cX9_word 88 = .ok (.invokevirtual 138, 3) := by decide +kernel
theorem dX9_word_91 : decode cX9_word 91 = .ok (.iload 9, 2) := by decide +kernel
theorem dX9_word_93 : decode cX9_word 93 = .ok (.if_icmp .eq 9, 3) := by decide +kernel
theorem dX9_word_96 : decode cX9_word 96 = .ok (.aload_n 0, 1) := by decide +kernel
theorem dX9_word_97 : decode cX9_word 97 = .ok (.invokevirtual 142, 3) := by decide +kernel
theorem dX9_word_100 : decode cX9_word 100 = .ok (.iconst 0, 1) := by decide +kernel
theorem dX9_word_101 : decode cX9_word 101 = .ok (.ireturn, 1) := by decide +kernel
theorem dX9_word_102 : decode cX9_word 102 = .ok (.aload_n 0, 1) := by decide +kernel
theorem dX9_word_103 : decode cX9_word 103 = .ok (.dup, 1) := by decide +kernel
theorem dX9_word_104 : decode cX9_word 104 = .ok (.getfield 135, 3) := by decide +kernel
theorem dX9_word_107 : decode cX9_word 107 = .ok (.iconst 1, 1) := by decide +kernel
theorem dX9_word_108 : decode cX9_word 108 = .ok (.iadd, 1) := by decide +kernel
theorem dX9_word_109 : decode cX9_word 109 = .ok (.putfield 135, 3) := by decide +kernel
theorem dX9_word_112 : decode cX9_word 112 = .ok (.iinc 8 1, 3) := by decide +kernel
theorem dX9_word_115 : decode cX9_word 115 = .ok (.goto (-112), 3) := by decide +kernel
theorem dX9_word_118 : decode cX9_word 118 = .ok (.iconst 1, 1) := by decide +kernel
theorem dX9_word_119 : decode cX9_word 119 = .ok (.ireturn, 1) := by decide +kernel
theorem dX9_fails_0 : decode cX9_fails 0 = .ok (.aload_n 0, 1) := by decide +kernel
theorem dX9_fails_1 : decode cX9_fails 1 = .ok (.aload_n 0, 1) := by decide +kernel
theorem dX9_fails_2 : decode cX9_fails 2 = .ok (.getfield 135, 3) := by decide +kernel
theorem dX9_fails_5 : decode cX9_fails 5 = .ok (.putfield 145, 3) := by decide +kernel
theorem dX9_fails_8 : decode cX9_fails 8 = .ok (.return_, 1) := by decide +kernel
theorem dX9_blanks_0 : decode cX9_blanks 0 = .ok (.aload_n 0, 1) := by decide +kernel
theorem dX9_blanks_1 : decode cX9_blanks 1 = .ok (.aload_n 0, 1) := by decide +kernel
theorem dX9_blanks_2 : decode cX9_blanks 2 = .ok (.getfield 135, 3) := by decide +kernel
theorem dX9_blanks_5 : decode cX9_blanks 5 = .ok (.invokevirtual 138, 3) := by decide +kernel
theorem dX9_blanks_8 : decode cX9_blanks 8 = .ok (.bipush 32, 2) := by decide +kernel
theorem dX9_blanks_10 : decode cX9_blanks 10 = .ok (.if_icmp .eq 9, 3) := by decide +kernel
theorem dX9_blanks_13 : decode cX9_blanks 13 = .ok (.aload_n 0, 1) := by decide +kernel
theorem dX9_blanks_14 : decode cX9_blanks 14 = .ok (.invokevirtual 142, 3) := by decide +kernel
theorem dX9_blanks_17 : decode cX9_blanks 17 = .ok (.iconst 0, 1) := by decide +kernel
theorem dX9_blanks_18 : decode cX9_blanks 18 = .ok (.ireturn, 1) := by decide +kernel
theorem dX9_blanks_19 : decode cX9_blanks 19 = .ok (.aload_n 0, 1) := by decide +kernel
theorem dX9_blanks_20 : decode cX9_blanks 20 = .ok (.aload_n 0, 1) := by decide +kernel
theorem dX9_blanks_21 : decode cX9_blanks 21 = .ok (.getfield 135, 3) := by decide +kernel
theorem dX9_blanks_24 : decode cX9_blanks 24 = .ok (.invokevirtual 138, 3) := by decide +kernel
theorem dX9_blanks_27 : decode cX9_blanks 27 = .ok (.bipush 32, 2) := by decide +kernel
theorem dX9_blanks_29 : decode cX9_blanks 29 = .ok (.if_icmp .ne 16, 3) := by decide +kernel
theorem dX9_blanks_32 : decode cX9_blanks 32 = .ok (.aload_n 0, 1) := by decide +kernel
theorem dX9_blanks_33 : decode cX9_blanks 33 = .ok (.dup, 1) := by decide +kernel
theorem dX9_blanks_34 : decode cX9_blanks 34 = .ok (.getfield 135, 3) := by decide +kernel
theorem dX9_blanks_37 : decode cX9_blanks 37 = .ok (.iconst 1, 1) := by decide +kernel
theorem dX9_blanks_38 : decode cX9_blanks 38 = .ok (.iadd, 1) := by decide +kernel
theorem dX9_blanks_39 : decode cX9_blanks 39 = .ok (.putfield 135, 3) := by decide +kernel
theorem dX9_blanks_42 : decode cX9_blanks 42 = .ok (.goto (-23), 3) := by decide +kernel
theorem dX9_blanks_45 : decode cX9_blanks 45 = .ok (.iconst 1, 1) := by decide +kernel
theorem dX9_blanks_46 : decode cX9_blanks 46 = .ok (.ireturn, 1) := by decide +kernel
theorem dX9_number_0 : decode cX9_number 0 = .ok (.aload_n 0, 1) := by decide +kernel
theorem dX9_number_1 : decode cX9_number 1 = .ok (.aload_n 0, 1) := by decide +kernel
theorem dX9_number_2 : decode cX9_number 2 = .ok (.getfield 135, 3) := by decide +kernel
theorem dX9_number_5 : decode cX9_number 5 = .ok (.invokevirtual 138, 3) := by decide +kernel
theorem dX9_number_8 : decode cX9_number 8 = .ok (.istore_n 2, 1) := by decide +kernel
theorem dX9_number_9 : decode cX9_number 9 = .ok (.iload_n 2, 1) := by decide +kernel
theorem dX9_number_10 : decode cX9_number 10 = .ok (.iload_n 1, 1) := by decide +kernel
theorem dX9_number_11 : decode cX9_number 11 = .ok (.ifCond .eq 8, 3) := by decide +kernel
theorem dX9_number_14 : decode cX9_number 14 = .ok (.bipush 48, 2) := by decide +kernel
theorem dX9_number_16 : decode cX9_number 16 = .ok (.goto 5, 3) := by decide +kernel
theorem dX9_number_19 : decode cX9_number 19 = .ok (.bipush 49, 2) := by decide +kernel
theorem dX9_number_21 : decode cX9_number 21 = .ok (.bipush 57, 2) := by decide +kernel
theorem dX9_number_23 : decode cX9_number 23 = .ok (.invokestatic 124, 3) := by decide +kernel
theorem dX9_number_26 : decode cX9_number 26 = .ok (.ifCond .ne 9, 3) := by decide +kernel
theorem dX9_number_29 : decode cX9_number 29 = .ok (.aload_n 0, 1) := by decide +kernel
theorem dX9_number_30 : decode cX9_number 30 = .ok (.invokevirtual 142, 3) := by decide +kernel
theorem dX9_number_33 : decode cX9_number 33 = .ok (.iconst 0, 1) := by decide +kernel
theorem dX9_number_34 : decode cX9_number 34 = .ok (.ireturn, 1) := by decide +kernel
theorem dX9_number_35 : decode cX9_number 35 = .ok (.aload_n 0, 1) := by decide +kernel
theorem dX9_number_36 : decode cX9_number 36 = .ok (.iload_n 2, 1) := by decide +kernel
theorem dX9_number_37 : decode cX9_number 37 = .ok (.bipush 48, 2) := by decide +kernel
theorem dX9_number_39 : decode cX9_number 39 = .ok (.isub, 1) := by decide +kernel
theorem dX9_number_40 : decode cX9_number 40 = .ok (.putfield 148, 3) := by decide +kernel
theorem dX9_number_43 : decode cX9_number 43 = .ok (.aload_n 0, 1) := by decide +kernel
theorem dX9_number_44 : decode cX9_number 44 = .ok (.dup, 1) := by decide +kernel
theorem dX9_number_45 : decode cX9_number 45 = .ok (.getfield 135, 3) := by decide +kernel
theorem dX9_number_48 : decode cX9_number 48 = .ok (.iconst 1, 1) := by decide +kernel
theorem dX9_number_49 : decode cX9_number 49 = .ok (.iadd, 1) := by decide +kernel
theorem dX9_number_50 : decode cX9_number 50 = .ok (.putfield 135, 3) := by decide +kernel
theorem dX9_number_53 : decode cX9_number 53 = .ok (.aload_n 0, 1) := by decide +kernel
theorem dX9_number_54 : decode cX9_number 54 = .ok (.getfield 148, 3) := by decide +kernel
theorem dX9_number_57 : decode cX9_number 57 = .ok (.ifCond .le 54, 3) := by decide +kernel
theorem dX9_number_60 : decode cX9_number 60 = .ok (.aload_n 0, 1) := by decide +kernel
theorem dX9_number_61 : decode cX9_number 61 = .ok (.aload_n 0, 1) := by decide +kernel
theorem dX9_number_62 : decode cX9_number 62 = .ok (.getfield 135, 3) := by decide +kernel
theorem dX9_number_65 : decode cX9_number 65 = .ok (.invokevirtual 138, 3) := by decide +kernel
theorem dX9_number_68 : decode cX9_number 68 = .ok (.bipush 48, 2) := by decide +kernel
theorem dX9_number_70 : decode cX9_number 70 = .ok (.bipush 57, 2) := by decide +kernel
theorem dX9_number_72 : decode cX9_number 72 = .ok (.invokestatic 124, 3) := by decide +kernel
theorem dX9_number_75 : decode cX9_number 75 = .ok (.ifCond .eq 36, 3) := by decide +kernel
theorem dX9_number_78 : decode cX9_number 78 = .ok (.aload_n 0, 1) := by decide +kernel
theorem dX9_number_79 : decode cX9_number 79 = .ok (.bipush 10, 2) := by decide +kernel
theorem dX9_number_81 : decode cX9_number 81 = .ok (.aload_n 0, 1) := by decide +kernel
theorem dX9_number_82 : decode cX9_number 82 = .ok (.getfield 148, 3) := by decide +kernel
theorem dX9_number_85 : decode cX9_number 85 = .ok (.imul, 1) := by decide +kernel
theorem dX9_number_86 : decode cX9_number 86 = .ok (.aload_n 0, 1) := by decide +kernel
theorem dX9_number_87 : decode cX9_number 87 = .ok (.aload_n 0, 1) := by decide +kernel
theorem dX9_number_88 : decode cX9_number 88 = .ok (.getfield 135, 3) := by decide +kernel
theorem dX9_number_91 : decode cX9_number 91 = .ok (.invokevirtual 138, 3) := by decide +kernel
theorem dX9_number_94 : decode cX9_number 94 = .ok (.iadd, 1) := by decide +kernel
theorem dX9_number_95 : decode cX9_number 95 = .ok (.bipush 48, 2) := by decide +kernel
theorem dX9_number_97 : decode cX9_number 97 = .ok (.isub, 1) := by decide +kernel
theorem dX9_number_98 : decode cX9_number 98 = .ok (.putfield 148, 3) := by decide +kernel
theorem dX9_number_101 : decode cX9_number 101 = .ok (.aload_n 0, 1) := by decide +kernel
theorem dX9_number_102 : decode cX9_number 102 = .ok (.dup, 1) := by decide +kernel
theorem dX9_number_103 : decode cX9_number 103 = .ok (.getfield 135, 3) := by decide +kernel
theorem dX9_number_106 : decode cX9_number 106 = .ok (.iconst 1, 1) := by decide +kernel
theorem dX9_number_107 : decode cX9_number 107 = .ok (.iadd, 1) := by decide +kernel
theorem dX9_number_108 : decode cX9_number 108 = .ok (.putfield 135, 3) := by decide +kernel
theorem dX9_number_111 : decode cX9_number 111 = .ok (.iconst 1, 1) := by decide +kernel
theorem dX9_number_112 : decode cX9_number 112 = .ok (.ireturn, 1) := by decide +kernel
theorem dX9_readsFirst_0 : decode cX9_readsFirst 0 = .ok (.aload_n 0, 1) := by decide +kernel
theorem dX9_readsFirst_1 : decode cX9_readsFirst 1 = .ok (.iconst 0, 1) := by decide +kernel
theorem dX9_readsFirst_2 : decode cX9_readsFirst 2 = .ok (.invokevirtual 138, 3) := by decide +kernel
theorem dX9_readsFirst_5 : decode cX9_readsFirst 5 = .ok (.istore_n 1, 1) := by decide +kernel
theorem dX9_readsFirst_6 : decode cX9_readsFirst 6 = .ok (.aload_n 0, 1) := by decide +kernel
theorem dX9_readsFirst_7 : decode cX9_readsFirst 7 = .ok (.getfield 16, 3) := by decide +kernel
theorem dX9_readsFirst_10 : decode cX9_readsFirst 10 = .ok (.iconst 0, 1) := by decide +kernel
theorem dX9_readsFirst_11 : decode cX9_readsFirst 11 = .ok (.iload_n 1, 1) := by decide +kernel
theorem dX9_readsFirst_12 : decode cX9_readsFirst 12 = .ok (.bipush 99, 2) := by decide +kernel
theorem dX9_readsFirst_14 : decode cX9_readsFirst 14 = .ok (.if_icmp .ne 7, 3) := by decide +kernel
theorem dX9_readsFirst_17 : decode cX9_readsFirst 17 = .ok (.iconst 1, 1) := by decide +kernel
theorem dX9_readsFirst_18 : decode cX9_readsFirst 18 = .ok (.goto 14, 3) := by decide +kernel
theorem dX9_readsFirst_21 : decode cX9_readsFirst 21 = .ok (.iload_n 1, 1) := by decide +kernel
theorem dX9_readsFirst_22 : decode cX9_readsFirst 22 = .ok (.bipush 109, 2) := by decide +kernel
theorem dX9_readsFirst_24 : decode cX9_readsFirst 24 = .ok (.if_icmp .ne 7, 3) := by decide +kernel
theorem dX9_readsFirst_27 : decode cX9_readsFirst 27 = .ok (.iconst 2, 1) := by decide +kernel
theorem dX9_readsFirst_28 : decode cX9_readsFirst 28 = .ok (.goto 4, 3) := by decide +kernel
theorem dX9_readsFirst_31 : decode cX9_readsFirst 31 = .ok (.iconst 0, 1) := by decide +kernel
theorem dX9_readsFirst_32 : decode cX9_readsFirst 32 = .ok (.iastore, 1) := by decide +kernel
theorem dX9_readsFirst_33 : decode cX9_readsFirst 33 = .ok (.iload_n 1, 1) := by decide +kernel
theorem dX9_readsFirst_34 : decode cX9_readsFirst 34 = .ok (.bipush 99, 2) := by decide +kernel
theorem dX9_readsFirst_36 : decode cX9_readsFirst 36 = .ok (.if_icmp .ne 25, 3) := by decide +kernel
theorem dX9_readsFirst_39 : decode cX9_readsFirst 39 = .ok (.aload_n 0, 1) := by decide +kernel
theorem dX9_readsFirst_40 : decode cX9_readsFirst 40 = .ok (.bipush 99, 2) := by decide +kernel
theorem dX9_readsFirst_42 : decode cX9_readsFirst 42 = .ok (.bipush 111, 2) := by decide +kernel
theorem dX9_readsFirst_44 : decode cX9_readsFirst 44 = .ok (.bipush 117, 2) := by decide +kernel
theorem dX9_readsFirst_46 : decode cX9_readsFirst 46 = .ok (.bipush 110, 2) := by decide +kernel
theorem dX9_readsFirst_48 : decode cX9_readsFirst 48 = .ok (.bipush 116, 2) := by decide +kernel
theorem dX9_readsFirst_50 : decode cX9_readsFirst 50 = .ok (.iconst 0, 1) := by decide +kernel
theorem dX9_readsFirst_51 : decode cX9_readsFirst 51 = .ok (.iconst 0, 1) := by decide +kernel
theorem dX9_readsFirst_52 : decode cX9_readsFirst 52 = .ok (.invokevirtual 151, 3) := by decide +kernel
theorem dX9_readsFirst_55 : decode cX9_readsFirst 55 = .ok (.ifCond .eq 60, 3) := by decide +kernel
theorem dX9_readsFirst_58 : decode cX9_readsFirst 58 = .ok (.goto 46, 3) := by decide +kernel
theorem dX9_readsFirst_61 : decode cX9_readsFirst 61 = .ok (.iload_n 1, 1) := by decide +kernel
theorem dX9_readsFirst_62 : decode cX9_readsFirst 62 = .ok (.bipush 109, 2) := by decide +kernel
theorem dX9_readsFirst_64 : decode cX9_readsFirst 64 = .ok (.if_icmp .ne 23, 3) := by decide +kernel
theorem dX9_readsFirst_67 : decode cX9_readsFirst 67 = .ok (.aload_n 0, 1) := by decide +kernel
theorem dX9_readsFirst_68 : decode cX9_readsFirst 68 = .ok (.bipush 109, 2) := by decide +kernel
theorem dX9_readsFirst_70 : decode cX9_readsFirst 70 = .ok (.bipush 97, 2) := by decide +kernel
theorem dX9_readsFirst_72 : decode cX9_readsFirst 72 = .ok (.bipush 120, 2) := by decide +kernel
theorem dX9_readsFirst_74 : decode cX9_readsFirst 74 = .ok (.iconst 0, 1) := by decide +kernel
theorem dX9_readsFirst_75 : decode cX9_readsFirst 75 = .ok (.iconst 0, 1) := by decide +kernel
theorem dX9_readsFirst_76 : decode cX9_readsFirst 76 = .ok (.iconst 0, 1) := by decide +kernel
theorem dX9_readsFirst_77 : decode cX9_readsFirst 77 = .ok (.iconst 0, 1) := by decide +kernel
theorem dX9_readsFirst_78 : decode cX9_readsFirst 78 = .ok (.invokevirtual 151, 3) := by decide +kernel
theorem dX9_readsFirst_81 : decode cX9_readsFirst 81 = .ok (.ifCond .eq 34, 3) := by decide +kernel
theorem dX9_readsFirst_84 : decode cX9_readsFirst 84 = .ok (.goto 20, 3) := by decide +kernel
theorem dX9_readsFirst_87 : decode cX9_readsFirst 87 = .ok (.aload_n 0, 1) := by decide +kernel
theorem dX9_readsFirst_88 : decode cX9_readsFirst 88 = .ok (.bipush 115, 2) := by decide +kernel
theorem dX9_readsFirst_90 : decode cX9_readsFirst 90 = .ok (.bipush 117, 2) := by decide +kernel
theorem dX9_readsFirst_92 : decode cX9_readsFirst 92 = .ok (.bipush 109, 2) := by decide +kernel
theorem dX9_readsFirst_94 : decode cX9_readsFirst 94 = .ok (.iconst 0, 1) := by decide +kernel
theorem dX9_readsFirst_95 : decode cX9_readsFirst 95 = .ok (.iconst 0, 1) := by decide +kernel
theorem dX9_readsFirst_96 : decode cX9_readsFirst 96 = .ok (.iconst 0, 1) := by decide +kernel
theorem dX9_readsFirst_97 : decode cX9_readsFirst 97 = .ok (.iconst 0, 1) := by decide +kernel
theorem dX9_readsFirst_98 : decode cX9_readsFirst 98 = .ok (.invokevirtual 151, 3) := by decide +kernel
theorem dX9_readsFirst_101 : decode cX9_readsFirst 101 = .ok (.ifCond .eq 14, 3) := by decide +kernel
theorem dX9_readsFirst_104 : decode cX9_readsFirst 104 = .ok (.aload_n 0, 1) := by decide +kernel
theorem dX9_readsFirst_105 : decode cX9_readsFirst 105 = .ok (.invokevirtual 155, 3) := by decide +kernel
theorem dX9_readsFirst_108 : decode cX9_readsFirst 108 = .ok (.ifCond .eq 7, 3) := by decide +kernel
theorem dX9_readsFirst_111 : decode cX9_readsFirst 111 = .ok (.iconst 1, 1) := by decide +kernel
theorem dX9_readsFirst_112 : decode cX9_readsFirst 112 = .ok (.goto 4, 3) := by decide +kernel
theorem dX9_readsFirst_115 : decode cX9_readsFirst 115 = .ok (.iconst 0, 1) := by decide +kernel
theorem dX9_readsFirst_116 : decode cX9_readsFirst 116 = .ok (.ireturn, 1) := by decide +kernel
theorem dX9_readsIf_0 : decode cX9_readsIf 0 = .ok (.aload_n 0, 1) := by decide +kernel
theorem dX9_readsIf_1 : decode cX9_readsIf 1 = .ok (.getfield 16, 3) := by decide +kernel
theorem dX9_readsIf_4 : decode cX9_readsIf 4 = .ok (.iconst 1, 1) := by decide +kernel
theorem dX9_readsIf_5 : decode cX9_readsIf 5 = .ok (.iconst 0, 1) := by decide +kernel
theorem dX9_readsIf_6 : decode cX9_readsIf 6 = .ok (.iastore, 1) := by decide +kernel
theorem dX9_readsIf_7 : decode cX9_readsIf 7 = .ok (.aload_n 0, 1) := by decide +kernel
theorem dX9_readsIf_8 : decode cX9_readsIf 8 = .ok (.getfield 16, 3) := by decide +kernel
theorem dX9_readsIf_11 : decode cX9_readsIf 11 = .ok (.iconst 2, 1) := by decide +kernel
theorem dX9_readsIf_12 : decode cX9_readsIf 12 = .ok (.iconst 0, 1) := by decide +kernel
theorem dX9_readsIf_13 : decode cX9_readsIf 13 = .ok (.iastore, 1) := by decide +kernel
theorem dX9_readsIf_14 : decode cX9_readsIf 14 = .ok (.aload_n 0, 1) := by decide +kernel
theorem dX9_readsIf_15 : decode cX9_readsIf 15 = .ok (.aload_n 0, 1) := by decide +kernel
theorem dX9_readsIf_16 : decode cX9_readsIf 16 = .ok (.getfield 135, 3) := by decide +kernel
theorem dX9_readsIf_19 : decode cX9_readsIf 19 = .ok (.invokevirtual 138, 3) := by decide +kernel
theorem dX9_readsIf_22 : decode cX9_readsIf 22 = .ok (.bipush 105, 2) := by decide +kernel
theorem dX9_readsIf_24 : decode cX9_readsIf 24 = .ok (.if_icmp .eq 5, 3) := by decide +kernel
theorem dX9_readsIf_27 : decode cX9_readsIf 27 = .ok (.iconst 1, 1) := by decide +kernel
theorem dX9_readsIf_28 : decode cX9_readsIf 28 = .ok (.ireturn, 1) := by decide +kernel
theorem dX9_readsIf_29 : decode cX9_readsIf 29 = .ok (.aload_n 0, 1) := by decide +kernel
theorem dX9_readsIf_30 : decode cX9_readsIf 30 = .ok (.bipush 105, 2) := by decide +kernel
theorem dX9_readsIf_32 : decode cX9_readsIf 32 = .ok (.bipush 102, 2) := by decide +kernel
theorem dX9_readsIf_34 : decode cX9_readsIf 34 = .ok (.iconst 0, 1) := by decide +kernel
theorem dX9_readsIf_35 : decode cX9_readsIf 35 = .ok (.iconst 0, 1) := by decide +kernel
theorem dX9_readsIf_36 : decode cX9_readsIf 36 = .ok (.iconst 0, 1) := by decide +kernel
theorem dX9_readsIf_37 : decode cX9_readsIf 37 = .ok (.iconst 0, 1) := by decide +kernel
theorem dX9_readsIf_38 : decode cX9_readsIf 38 = .ok (.iconst 0, 1) := by decide +kernel
theorem dX9_readsIf_39 : decode cX9_readsIf 39 = .ok (.invokevirtual 151, 3) := by decide +kernel
theorem dX9_readsIf_42 : decode cX9_readsIf 42 = .ok (.ifCond .eq 10, 3) := by decide +kernel
theorem dX9_readsIf_45 : decode cX9_readsIf 45 = .ok (.aload_n 0, 1) := by decide +kernel
theorem dX9_readsIf_46 : decode cX9_readsIf 46 = .ok (.invokevirtual 155, 3) := by decide +kernel
theorem dX9_readsIf_49 : decode cX9_readsIf 49 = .ok (.ifCond .ne 5, 3) := by decide +kernel
theorem dX9_readsIf_52 : decode cX9_readsIf 52 = .ok (.iconst 0, 1) := by decide +kernel
theorem dX9_readsIf_53 : decode cX9_readsIf 53 = .ok (.ireturn, 1) := by decide +kernel
theorem dX9_readsIf_54 : decode cX9_readsIf 54 = .ok (.aload_n 0, 1) := by decide +kernel
theorem dX9_readsIf_55 : decode cX9_readsIf 55 = .ok (.aload_n 0, 1) := by decide +kernel
theorem dX9_readsIf_56 : decode cX9_readsIf 56 = .ok (.getfield 135, 3) := by decide +kernel
theorem dX9_readsIf_59 : decode cX9_readsIf 59 = .ok (.invokevirtual 138, 3) := by decide +kernel
theorem dX9_readsIf_62 : decode cX9_readsIf 62 = .ok (.istore_n 1, 1) := by decide +kernel
theorem dX9_readsIf_63 : decode cX9_readsIf 63 = .ok (.aload_n 0, 1) := by decide +kernel
theorem dX9_readsIf_64 : decode cX9_readsIf 64 = .ok (.getfield 16, 3) := by decide +kernel
theorem dX9_readsIf_67 : decode cX9_readsIf 67 = .ok (.iconst 1, 1) := by decide +kernel
theorem dX9_readsIf_68 : decode cX9_readsIf 68 = .ok (.iload_n 1, 1) := by decide +kernel
theorem dX9_readsIf_69 : decode cX9_readsIf 69 = .ok (.bipush 60, 2) := by decide +kernel
theorem dX9_readsIf_71 : decode cX9_readsIf 71 = .ok (.if_icmp .ne 7, 3) := by decide +kernel
theorem dX9_readsIf_74 : decode cX9_readsIf 74 = .ok (.iconst 1, 1) := by decide +kernel
theorem dX9_readsIf_75 : decode cX9_readsIf 75 = .ok (.goto 24, 3) := by decide +kernel
theorem dX9_readsIf_78 : decode cX9_readsIf 78 = .ok (.iload_n 1, 1) := by decide +kernel
theorem dX9_readsIf_79 : decode cX9_readsIf 79 = .ok (.bipush 61, 2) := by decide +kernel
theorem dX9_readsIf_81 : decode cX9_readsIf 81 = .ok (.if_icmp .ne 7, 3) := by decide +kernel
theorem dX9_readsIf_84 : decode cX9_readsIf 84 = .ok (.iconst 2, 1) := by decide +kernel
theorem dX9_readsIf_85 : decode cX9_readsIf 85 = .ok (.goto 14, 3) := by decide +kernel
theorem dX9_readsIf_88 : decode cX9_readsIf 88 = .ok (.iload_n 1, 1) := by decide +kernel
theorem dX9_readsIf_89 : decode cX9_readsIf 89 = .ok (.bipush 62, 2) := by decide +kernel
theorem dX9_readsIf_91 : decode cX9_readsIf 91 = .ok (.if_icmp .ne 7, 3) := by decide +kernel
theorem dX9_readsIf_94 : decode cX9_readsIf 94 = .ok (.iconst 3, 1) := by decide +kernel
theorem dX9_readsIf_95 : decode cX9_readsIf 95 = .ok (.goto 4, 3) := by decide +kernel
theorem dX9_readsIf_98 : decode cX9_readsIf 98 = .ok (.iconst 0, 1) := by decide +kernel
theorem dX9_readsIf_99 : decode cX9_readsIf 99 = .ok (.iastore, 1) := by decide +kernel
theorem dX9_readsIf_100 : decode cX9_readsIf 100 = .ok (.aload_n 0, 1) := by decide +kernel
theorem dX9_readsIf_101 : decode cX9_readsIf 101 = .ok (.getfield 16, 3) := by decide +kernel
theorem dX9_readsIf_104 : decode cX9_readsIf 104 = .ok (.iconst 1, 1) := by decide +kernel
theorem dX9_readsIf_105 : decode cX9_readsIf 105 = .ok (.iaload, 1) := by decide +kernel
theorem dX9_readsIf_106 : decode cX9_readsIf 106 = .ok (.ifCond .ne 9, 3) := by decide +kernel
theorem dX9_readsIf_109 : decode cX9_readsIf 109 = .ok (.aload_n 0, 1) := by decide +kernel
theorem dX9_readsIf_110 : decode cX9_readsIf 110 = .ok (.invokevirtual 142, 3) := by decide +kernel
theorem dX9_readsIf_113 : decode cX9_readsIf 113 = .ok (.iconst 0, 1) := by decide +kernel
theorem dX9_readsIf_114 : decode cX9_readsIf 114 = .ok (.ireturn, 1) := by decide +kernel
theorem dX9_readsIf_115 : decode cX9_readsIf 115 = .ok (.aload_n 0, 1) := by decide +kernel
theorem dX9_readsIf_116 : decode cX9_readsIf 116 = .ok (.dup, 1) := by decide +kernel
theorem dX9_readsIf_117 : decode cX9_readsIf 117 = .ok (.getfield 135, 3) := by decide +kernel
theorem dX9_readsIf_120 : decode cX9_readsIf 120 = .ok (.iconst 1, 1) := by decide +kernel
theorem dX9_readsIf_121 : decode cX9_readsIf 121 = .ok (.iadd, 1) := by decide +kernel
theorem dX9_readsIf_122 : decode cX9_readsIf 122 = .ok (.putfield 135, 3) := by decide +kernel
theorem dX9_readsIf_125 : decode cX9_readsIf 125 = .ok (.aload_n 0, 1) := by decide +kernel
theorem dX9_readsIf_126 : decode cX9_readsIf 126 = .ok (.invokevirtual 155, 3) := by decide +kernel
theorem dX9_readsIf_129 : decode cX9_readsIf 129 = .ok (.ifCond .ne 5, 3) := by decide +kernel
theorem dX9_readsIf_132 : decode cX9_readsIf 132 = .ok (.iconst 0, 1) := by decide +kernel
theorem dX9_readsIf_133 : decode cX9_readsIf 133 = .ok (.ireturn, 1) := by decide +kernel
theorem dX9_readsIf_134 : decode cX9_readsIf 134 = .ok (.aload_n 0, 1) := by decide +kernel
theorem dX9_readsIf_135 : decode cX9_readsIf 135 = .ok (.aload_n 0, 1) := by decide +kernel
theorem dX9_readsIf_136 : decode cX9_readsIf 136 = .ok (.getfield 135, 3) := by decide +kernel
theorem dX9_readsIf_139 : decode cX9_readsIf 139 = .ok (.invokevirtual 138, 3) := by decide +kernel
theorem dX9_readsIf_142 : decode cX9_readsIf 142 = .ok (.bipush 45, 2) := by decide +kernel
theorem dX9_readsIf_144 : decode cX9_readsIf 144 = .ok (.if_icmp .ne 7, 3) := by decide +kernel
theorem dX9_readsIf_147 : decode cX9_readsIf 147 = .ok (.iconst 1, 1) := by decide +kernel
theorem dX9_readsIf_148 : decode cX9_readsIf 148 = .ok (.goto 4, 3) := by decide +kernel
theorem dX9_readsIf_151 : decode cX9_readsIf 151 = .ok (.iconst 0, 1) := by decide +kernel
theorem dX9_readsIf_152 : decode cX9_readsIf 152 = .ok (.istore_n 2, 1) := by decide +kernel
theorem dX9_readsIf_153 : decode cX9_readsIf 153 = .ok (.aload_n 0, 1) := by decide +kernel
theorem dX9_readsIf_154 : decode cX9_readsIf 154 = .ok (.dup, 1) := by decide +kernel
theorem dX9_readsIf_155 : decode cX9_readsIf 155 = .ok (.getfield 135, 3) := by decide +kernel
theorem dX9_readsIf_158 : decode cX9_readsIf 158 = .ok (.iload_n 2, 1) := by decide +kernel
theorem dX9_readsIf_159 : decode cX9_readsIf 159 = .ok (.ifCond .eq 7, 3) := by decide +kernel
theorem dX9_readsIf_162 : decode cX9_readsIf 162 = .ok (.iconst 1, 1) := by decide +kernel
theorem dX9_readsIf_163 : decode cX9_readsIf 163 = .ok (.goto 4, 3) := by decide +kernel
theorem dX9_readsIf_166 : decode cX9_readsIf 166 = .ok (.iconst 0, 1) := by decide +kernel
theorem dX9_readsIf_167 : decode cX9_readsIf 167 = .ok (.iadd, 1) := by decide +kernel
theorem dX9_readsIf_168 : decode cX9_readsIf 168 = .ok (.putfield 135, 3) := by decide +kernel
theorem dX9_readsIf_171 : decode cX9_readsIf 171 = .ok (.aload_n 0, 1) := by decide +kernel
theorem dX9_readsIf_172 : decode cX9_readsIf 172 = .ok (.iconst 1, 1) := by decide +kernel
theorem dX9_readsIf_173 : decode cX9_readsIf 173 = .ok (.invokevirtual 159, 3) := by decide +kernel
theorem dX9_readsIf_176 : decode cX9_readsIf 176 = .ok (.ifCond .ne 5, 3) := by decide +kernel
theorem dX9_readsIf_179 : decode cX9_readsIf 179 = .ok (.iconst 0, 1) := by decide +kernel
theorem dX9_readsIf_180 : decode cX9_readsIf 180 = .ok (.ireturn, 1) := by decide +kernel
theorem dX9_readsIf_181 : decode cX9_readsIf 181 = .ok (.aload_n 0, 1) := by decide +kernel
theorem dX9_readsIf_182 : decode cX9_readsIf 182 = .ok (.getfield 16, 3) := by decide +kernel
theorem dX9_readsIf_185 : decode cX9_readsIf 185 = .ok (.iconst 2, 1) := by decide +kernel
theorem dX9_readsIf_186 : decode cX9_readsIf 186 = .ok (.iload_n 2, 1) := by decide +kernel
theorem dX9_readsIf_187 : decode cX9_readsIf 187 = .ok (.ifCond .eq 11, 3) := by decide +kernel
theorem dX9_readsIf_190 : decode cX9_readsIf 190 = .ok (.aload_n 0, 1) := by decide +kernel
theorem dX9_readsIf_191 : decode cX9_readsIf 191 = .ok (.getfield 148, 3) := by decide +kernel
theorem dX9_readsIf_194 : decode cX9_readsIf 194 = .ok (.ineg, 1) := by decide +kernel
theorem dX9_readsIf_195 : decode cX9_readsIf 195 = .ok (.goto 7, 3) := by decide +kernel
theorem dX9_readsIf_198 : decode cX9_readsIf 198 = .ok (.aload_n 0, 1) := by decide +kernel
theorem dX9_readsIf_199 : decode cX9_readsIf 199 = .ok (.getfield 148, 3) := by decide +kernel
theorem dX9_readsIf_202 : decode cX9_readsIf 202 = .ok (.iastore, 1) := by decide +kernel
theorem dX9_readsIf_203 : decode cX9_readsIf 203 = .ok (.aload_n 0, 1) := by decide +kernel
theorem dX9_readsIf_204 : decode cX9_readsIf 204 = .ok (.invokevirtual 155, 3) := by decide +kernel
theorem dX9_readsIf_207 : decode cX9_readsIf 207 = .ok (.ireturn, 1) := by decide +kernel
theorem dX9_readsJoin_0 : decode cX9_readsJoin 0 = .ok (.aload_n 0, 1) := by decide +kernel
theorem dX9_readsJoin_1 : decode cX9_readsJoin 1 = .ok (.getfield 16, 3) := by decide +kernel
theorem dX9_readsJoin_4 : decode cX9_readsJoin 4 = .ok (.iconst 3, 1) := by decide +kernel
theorem dX9_readsJoin_5 : decode cX9_readsJoin 5 = .ok (.aload_n 0, 1) := by decide +kernel
theorem dX9_readsJoin_6 : decode cX9_readsJoin 6 = .ok (.aload_n 0, 1) := by decide +kernel
theorem dX9_readsJoin_7 : decode cX9_readsJoin 7 = .ok (.getfield 135, 3) := by decide +kernel
theorem dX9_readsJoin_10 : decode cX9_readsJoin 10 = .ok (.invokevirtual 138, 3) := by decide +kernel
theorem dX9_readsJoin_13 : decode cX9_readsJoin 13 = .ok (.bipush 106, 2) := by decide +kernel
theorem dX9_readsJoin_15 : decode cX9_readsJoin 15 = .ok (.if_icmp .ne 7, 3) := by decide +kernel
theorem dX9_readsJoin_18 : decode cX9_readsJoin 18 = .ok (.iconst 1, 1) := by decide +kernel
theorem dX9_readsJoin_19 : decode cX9_readsJoin 19 = .ok (.goto 4, 3) := by decide +kernel
theorem dX9_readsJoin_22 : decode cX9_readsJoin 22 = .ok (.iconst 0, 1) := by decide +kernel
theorem dX9_readsJoin_23 : decode cX9_readsJoin 23 = .ok (.iastore, 1) := by decide +kernel
theorem dX9_readsJoin_24 : decode cX9_readsJoin 24 = .ok (.aload_n 0, 1) := by decide +kernel
theorem dX9_readsJoin_25 : decode cX9_readsJoin 25 = .ok (.getfield 16, 3) := by decide +kernel
theorem dX9_readsJoin_28 : decode cX9_readsJoin 28 = .ok (.iconst 3, 1) := by decide +kernel
theorem dX9_readsJoin_29 : decode cX9_readsJoin 29 = .ok (.iaload, 1) := by decide +kernel
theorem dX9_readsJoin_30 : decode cX9_readsJoin 30 = .ok (.ifCond .eq 28, 3) := by decide +kernel
theorem dX9_readsJoin_33 : decode cX9_readsJoin 33 = .ok (.aload_n 0, 1) := by decide +kernel
theorem dX9_readsJoin_34 : decode cX9_readsJoin 34 = .ok (.bipush 106, 2) := by decide +kernel
theorem dX9_readsJoin_36 : decode cX9_readsJoin 36 = .ok (.bipush 111, 2) := by decide +kernel
theorem dX9_readsJoin_38 : decode cX9_readsJoin 38 = .ok (.bipush 105, 2) := by decide +kernel
theorem dX9_readsJoin_40 : decode cX9_readsJoin 40 = .ok (.bipush 110, 2) := by decide +kernel
theorem dX9_readsJoin_42 : decode cX9_readsJoin 42 = .ok (.iconst 0, 1) := by decide +kernel
theorem dX9_readsJoin_43 : decode cX9_readsJoin 43 = .ok (.iconst 0, 1) := by decide +kernel
theorem dX9_readsJoin_44 : decode cX9_readsJoin 44 = .ok (.iconst 0, 1) := by decide +kernel
theorem dX9_readsJoin_45 : decode cX9_readsJoin 45 = .ok (.invokevirtual 151, 3) := by decide +kernel
theorem dX9_readsJoin_48 : decode cX9_readsJoin 48 = .ok (.ifCond .eq 14, 3) := by decide +kernel
theorem dX9_readsJoin_51 : decode cX9_readsJoin 51 = .ok (.aload_n 0, 1) := by decide +kernel
theorem dX9_readsJoin_52 : decode cX9_readsJoin 52 = .ok (.invokevirtual 155, 3) := by decide +kernel
theorem dX9_readsJoin_55 : decode cX9_readsJoin 55 = .ok (.ifCond .eq 7, 3) := by decide +kernel
theorem dX9_readsJoin_58 : decode cX9_readsJoin 58 = .ok (.iconst 1, 1) := by decide +kernel
theorem dX9_readsJoin_59 : decode cX9_readsJoin 59 = .ok (.goto 4, 3) := by decide +kernel
theorem dX9_readsJoin_62 : decode cX9_readsJoin 62 = .ok (.iconst 0, 1) := by decide +kernel
theorem dX9_readsJoin_63 : decode cX9_readsJoin 63 = .ok (.ireturn, 1) := by decide +kernel
theorem dX9_readsWindows_0 : decode cX9_readsWindows 0 = .ok (.aload_n 0, 1) := by decide +kernel
theorem dX9_readsWindows_1 : decode cX9_readsWindows 1 = .ok (.aload_n 0, 1) := by decide +kernel
theorem dX9_readsWindows_2 : decode cX9_readsWindows 2 = .ok (.getfield 135, 3) := by decide +kernel
theorem dX9_readsWindows_5 : decode cX9_readsWindows 5 = .ok (.invokevirtual 138, 3) := by decide +kernel
theorem dX9_readsWindows_8 : decode cX9_readsWindows 8 = .ok (.istore_n 1, 1) := by decide +kernel
theorem dX9_readsWindows_9 : decode cX9_readsWindows 9 = .ok (.aload_n 0, 1) := by decide +kernel
theorem dX9_readsWindows_10 : decode cX9_readsWindows 10 = .ok (.aload_n 0, 1) := by decide +kernel
theorem dX9_readsWindows_11 : decode cX9_readsWindows 11 = .ok (.getfield 135, 3) := by decide +kernel
theorem dX9_readsWindows_14 : decode cX9_readsWindows 14 = .ok (.iconst 1, 1) := by decide +kernel
theorem dX9_readsWindows_15 : decode cX9_readsWindows 15 = .ok (.iadd, 1) := by decide +kernel
theorem dX9_readsWindows_16 : decode cX9_readsWindows 16 = .ok (.invokevirtual 138, 3) := by decide +kernel
theorem dX9_readsWindows_19 : decode cX9_readsWindows 19 = .ok (.istore_n 2, 1) := by decide +kernel
theorem dX9_readsWindows_20 : decode cX9_readsWindows 20 = .ok (.aload_n 0, 1) := by decide +kernel
theorem dX9_readsWindows_21 : decode cX9_readsWindows 21 = .ok (.getfield 16, 3) := by decide +kernel
theorem dX9_readsWindows_24 : decode cX9_readsWindows 24 = .ok (.iconst 4, 1) := by decide +kernel
theorem dX9_readsWindows_25 : decode cX9_readsWindows 25 = .ok (.iload_n 1, 1) := by decide +kernel
theorem dX9_readsWindows_26 : decode cX9_readsWindows 26 = .ok (.bipush 102, 2) := by decide +kernel
theorem dX9_readsWindows_28 : decode cX9_readsWindows 28 = .ok (.if_icmp .ne 7, 3) := by decide +kernel
theorem dX9_readsWindows_31 : decode cX9_readsWindows 31 = .ok (.iconst 0, 1) := by decide +kernel
theorem dX9_readsWindows_32 : decode cX9_readsWindows 32 = .ok (.goto 14, 3) := by decide +kernel
theorem dX9_readsWindows_35 : decode cX9_readsWindows 35 = .ok (.iload_n 2, 1) := by decide +kernel
theorem dX9_readsWindows_36 : decode cX9_readsWindows 36 = .ok (.bipush 108, 2) := by decide +kernel
theorem dX9_readsWindows_38 : decode cX9_readsWindows 38 = .ok (.if_icmp .ne 7, 3) := by decide +kernel
theorem dX9_readsWindows_41 : decode cX9_readsWindows 41 = .ok (.iconst 1, 1) := by decide +kernel
theorem dX9_readsWindows_42 : decode cX9_readsWindows 42 = .ok (.goto 4, 3) := by decide +kernel
theorem dX9_readsWindows_45 : decode cX9_readsWindows 45 = .ok (.iconst 2, 1) := by decide +kernel
theorem dX9_readsWindows_46 : decode cX9_readsWindows 46 = .ok (.iastore, 1) := by decide +kernel
theorem dX9_readsWindows_47 : decode cX9_readsWindows 47 = .ok (.aload_n 0, 1) := by decide +kernel
theorem dX9_readsWindows_48 : decode cX9_readsWindows 48 = .ok (.getfield 16, 3) := by decide +kernel
theorem dX9_readsWindows_51 : decode cX9_readsWindows 51 = .ok (.bipush 6, 2) := by decide +kernel
theorem dX9_readsWindows_53 : decode cX9_readsWindows 53 = .ok (.iconst 0, 1) := by decide +kernel
theorem dX9_readsWindows_54 : decode cX9_readsWindows 54 = .ok (.iastore, 1) := by decide +kernel
theorem dX9_readsWindows_55 : decode cX9_readsWindows 55 = .ok (.iload_n 1, 1) := by decide +kernel
theorem dX9_readsWindows_56 : decode cX9_readsWindows 56 = .ok (.bipush 115, 2) := by decide +kernel
theorem dX9_readsWindows_58 : decode cX9_readsWindows 58 = .ok (.if_icmp .ne 31, 3) := by decide +kernel
theorem dX9_readsWindows_61 : decode cX9_readsWindows 61 = .ok (.iload_n 2, 1) := by decide +kernel
theorem dX9_readsWindows_62 : decode cX9_readsWindows 62 = .ok (.bipush 108, 2) := by decide +kernel
theorem dX9_readsWindows_64 : decode cX9_readsWindows 64 = .ok (.if_icmp .eq 25, 3) := by decide +kernel
theorem dX9_readsWindows_67 : decode cX9_readsWindows 67 = .ok (.iload_n 2, 1) := by decide +kernel
theorem dX9_readsWindows_68 : decode cX9_readsWindows 68 = .ok (.bipush 101, 2) := by decide +kernel
theorem dX9_readsWindows_70 : decode cX9_readsWindows 70 = .ok (.if_icmp .eq 19, 3) := by decide +kernel
theorem dX9_readsWindows_73 : decode cX9_readsWindows 73 = .ok (.aload_n 0, 1) := by decide +kernel
theorem dX9_readsWindows_74 : decode cX9_readsWindows 74 = .ok (.dup, 1) := by decide +kernel
theorem dX9_readsWindows_75 : decode cX9_readsWindows 75 = .ok (.getfield 135, 3) := by decide +kernel
theorem dX9_readsWindows_78 : decode cX9_readsWindows 78 = .ok (.iconst 1, 1) := by decide +kernel
theorem dX9_readsWindows_79 : decode cX9_readsWindows 79 = .ok (.iadd, 1) := by decide +kernel
theorem dX9_readsWindows_80 : decode cX9_readsWindows 80 = .ok (.putfield 135, 3) := by decide +kernel
theorem dX9_readsWindows_83 : decode cX9_readsWindows 83 = .ok (.aload_n 0, 1) := by decide +kernel
theorem dX9_readsWindows_84 : decode cX9_readsWindows 84 = .ok (.invokevirtual 142, 3) := by decide +kernel
theorem dX9_readsWindows_87 : decode cX9_readsWindows 87 = .ok (.iconst 0, 1) := by decide +kernel
theorem dX9_readsWindows_88 : decode cX9_readsWindows 88 = .ok (.ireturn, 1) := by decide +kernel
theorem dX9_readsWindows_89 : decode cX9_readsWindows 89 = .ok (.iload_n 1, 1) := by decide +kernel
theorem dX9_readsWindows_90 : decode cX9_readsWindows 90 = .ok (.bipush 102, 2) := by decide +kernel
theorem dX9_readsWindows_92 : decode cX9_readsWindows 92 = .ok (.if_icmp .ne 23, 3) := by decide +kernel
theorem dX9_readsWindows_95 : decode cX9_readsWindows 95 = .ok (.aload_n 0, 1) := by decide +kernel
theorem dX9_readsWindows_96 : decode cX9_readsWindows 96 = .ok (.bipush 102, 2) := by decide +kernel
theorem dX9_readsWindows_98 : decode cX9_readsWindows 98 = .ok (.bipush 105, 2) := by decide +kernel
theorem dX9_readsWindows_100 : decode cX9_readsWindows 100 = .ok (.bipush 120, 2) := by decide +kernel
theorem dX9_readsWindows_102 : decode cX9_readsWindows 102 = .ok (.bipush 101, 2) := by decide +kernel
theorem dX9_readsWindows_104 : decode cX9_readsWindows 104 = .ok (.bipush 100, 2) := by decide +kernel
theorem dX9_readsWindows_106 : decode cX9_readsWindows 106 = .ok (.iconst 0, 1) := by decide +kernel
theorem dX9_readsWindows_107 : decode cX9_readsWindows 107 = .ok (.iconst 0, 1) := by decide +kernel
theorem dX9_readsWindows_108 : decode cX9_readsWindows 108 = .ok (.invokevirtual 151, 3) := by decide +kernel
theorem dX9_readsWindows_111 : decode cX9_readsWindows 111 = .ok (.istore_n 3, 1) := by decide +kernel
theorem dX9_readsWindows_112 : decode cX9_readsWindows 112 = .ok (.goto 56, 3) := by decide +kernel
theorem dX9_readsWindows_115 : decode cX9_readsWindows 115 = .ok (.iload_n 1, 1) := by decide +kernel
theorem dX9_readsWindows_116 : decode cX9_readsWindows 116 = .ok (.bipush 115, 2) := by decide +kernel
theorem dX9_readsWindows_118 : decode cX9_readsWindows 118 = .ok (.if_icmp .ne 31, 3) := by decide +kernel
theorem dX9_readsWindows_121 : decode cX9_readsWindows 121 = .ok (.iload_n 2, 1) := by decide +kernel
theorem dX9_readsWindows_122 : decode cX9_readsWindows 122 = .ok (.bipush 108, 2) := by decide +kernel
theorem dX9_readsWindows_124 : decode cX9_readsWindows 124 = .ok (.if_icmp .ne 25, 3) := by decide +kernel
theorem dX9_readsWindows_127 : decode cX9_readsWindows 127 = .ok (.aload_n 0, 1) := by decide +kernel
theorem dX9_readsWindows_128 : decode cX9_readsWindows 128 = .ok (.bipush 115, 2) := by decide +kernel
theorem dX9_readsWindows_130 : decode cX9_readsWindows 130 = .ok (.bipush 108, 2) := by decide +kernel
theorem dX9_readsWindows_132 : decode cX9_readsWindows 132 = .ok (.bipush 105, 2) := by decide +kernel
theorem dX9_readsWindows_134 : decode cX9_readsWindows 134 = .ok (.bipush 100, 2) := by decide +kernel
theorem dX9_readsWindows_136 : decode cX9_readsWindows 136 = .ok (.bipush 105, 2) := by decide +kernel
theorem dX9_readsWindows_138 : decode cX9_readsWindows 138 = .ok (.bipush 110, 2) := by decide +kernel
theorem dX9_readsWindows_140 : decode cX9_readsWindows 140 = .ok (.bipush 103, 2) := by decide +kernel
theorem dX9_readsWindows_142 : decode cX9_readsWindows 142 = .ok (.invokevirtual 151, 3) := by decide +kernel
theorem dX9_readsWindows_145 : decode cX9_readsWindows 145 = .ok (.istore_n 3, 1) := by decide +kernel
theorem dX9_readsWindows_146 : decode cX9_readsWindows 146 = .ok (.goto 22, 3) := by decide +kernel
theorem dX9_readsWindows_149 : decode cX9_readsWindows 149 = .ok (.aload_n 0, 1) := by decide +kernel
theorem dX9_readsWindows_150 : decode cX9_readsWindows 150 = .ok (.bipush 115, 2) := by decide +kernel
theorem dX9_readsWindows_152 : decode cX9_readsWindows 152 = .ok (.bipush 101, 2) := by decide +kernel
theorem dX9_readsWindows_154 : decode cX9_readsWindows 154 = .ok (.bipush 115, 2) := by decide +kernel
theorem dX9_readsWindows_156 : decode cX9_readsWindows 156 = .ok (.bipush 115, 2) := by decide +kernel
theorem dX9_readsWindows_158 : decode cX9_readsWindows 158 = .ok (.bipush 105, 2) := by decide +kernel
theorem dX9_readsWindows_160 : decode cX9_readsWindows 160 = .ok (.bipush 111, 2) := by decide +kernel
theorem dX9_readsWindows_162 : decode cX9_readsWindows 162 = .ok (.bipush 110, 2) := by decide +kernel
theorem dX9_readsWindows_164 : decode cX9_readsWindows 164 = .ok (.invokevirtual 151, 3) := by decide +kernel
theorem dX9_readsWindows_167 : decode cX9_readsWindows 167 = .ok (.istore_n 3, 1) := by decide +kernel
theorem dX9_readsWindows_168 : decode cX9_readsWindows 168 = .ok (.iload_n 3, 1) := by decide +kernel
theorem dX9_readsWindows_169 : decode cX9_readsWindows 169 = .ok (.ifCond .eq 18, 3) := by decide +kernel
theorem dX9_readsWindows_172 : decode cX9_readsWindows 172 = .ok (.aload_n 0, 1) := by decide +kernel
theorem dX9_readsWindows_173 : decode cX9_readsWindows 173 = .ok (.invokevirtual 155, 3) := by decide +kernel
theorem dX9_readsWindows_176 : decode cX9_readsWindows 176 = .ok (.ifCond .eq 11, 3) := by decide +kernel
theorem dX9_readsWindows_179 : decode cX9_readsWindows 179 = .ok (.aload_n 0, 1) := by decide +kernel
theorem dX9_readsWindows_180 : decode cX9_readsWindows 180 = .ok (.iconst 0, 1) := by decide +kernel
theorem dX9_readsWindows_181 : decode cX9_readsWindows 181 = .ok (.invokevirtual 159, 3) := by decide +kernel
theorem dX9_readsWindows_184 : decode cX9_readsWindows 184 = .ok (.ifCond .ne 5, 3) := by decide +kernel
theorem dX9_readsWindows_187 : decode cX9_readsWindows 187 = .ok (.iconst 0, 1) := by decide +kernel
theorem dX9_readsWindows_188 : decode cX9_readsWindows 188 = .ok (.ireturn, 1) := by decide +kernel
theorem dX9_readsWindows_189 : decode cX9_readsWindows 189 = .ok (.aload_n 0, 1) := by decide +kernel
theorem dX9_readsWindows_190 : decode cX9_readsWindows 190 = .ok (.getfield 16, 3) := by decide +kernel
theorem dX9_readsWindows_193 : decode cX9_readsWindows 193 = .ok (.iconst 5, 1) := by decide +kernel
theorem dX9_readsWindows_194 : decode cX9_readsWindows 194 = .ok (.aload_n 0, 1) := by decide +kernel
theorem dX9_readsWindows_195 : decode cX9_readsWindows 195 = .ok (.getfield 148, 3) := by decide +kernel
theorem dX9_readsWindows_198 : decode cX9_readsWindows 198 = .ok (.iastore, 1) := by decide +kernel
theorem dX9_readsWindows_199 : decode cX9_readsWindows 199 = .ok (.aload_n 0, 1) := by decide +kernel
theorem dX9_readsWindows_200 : decode cX9_readsWindows 200 = .ok (.getfield 16, 3) := by decide +kernel
theorem dX9_readsWindows_203 : decode cX9_readsWindows 203 = .ok (.iconst 4, 1) := by decide +kernel
theorem dX9_readsWindows_204 : decode cX9_readsWindows 204 = .ok (.iaload, 1) := by decide +kernel
theorem dX9_readsWindows_205 : decode cX9_readsWindows 205 = .ok (.iconst 1, 1) := by decide +kernel
theorem dX9_readsWindows_206 : decode cX9_readsWindows 206 = .ok (.if_icmp .ne 31, 3) := by decide +kernel
theorem dX9_readsWindows_209 : decode cX9_readsWindows 209 = .ok (.aload_n 0, 1) := by decide +kernel
theorem dX9_readsWindows_210 : decode cX9_readsWindows 210 = .ok (.invokevirtual 155, 3) := by decide +kernel
theorem dX9_readsWindows_213 : decode cX9_readsWindows 213 = .ok (.ifCond .eq 11, 3) := by decide +kernel
theorem dX9_readsWindows_216 : decode cX9_readsWindows 216 = .ok (.aload_n 0, 1) := by decide +kernel
theorem dX9_readsWindows_217 : decode cX9_readsWindows 217 = .ok (.iconst 0, 1) := by decide +kernel
theorem dX9_readsWindows_218 : decode cX9_readsWindows 218 = .ok (.invokevirtual 159, 3) := by decide +kernel
theorem dX9_readsWindows_221 : decode cX9_readsWindows 221 = .ok (.ifCond .ne 5, 3) := by decide +kernel
theorem dX9_readsWindows_224 : decode cX9_readsWindows 224 = .ok (.iconst 0, 1) := by decide +kernel
theorem dX9_readsWindows_225 : decode cX9_readsWindows 225 = .ok (.ireturn, 1) := by decide +kernel
theorem dX9_readsWindows_226 : decode cX9_readsWindows 226 = .ok (.aload_n 0, 1) := by decide +kernel
theorem dX9_readsWindows_227 : decode cX9_readsWindows 227 = .ok (.getfield 16, 3) := by decide +kernel
theorem dX9_readsWindows_230 : decode cX9_readsWindows 230 = .ok (.bipush 6, 2) := by decide +kernel
theorem dX9_readsWindows_232 : decode cX9_readsWindows 232 = .ok (.aload_n 0, 1) := by decide +kernel
theorem dX9_readsWindows_233 : decode cX9_readsWindows 233 = .ok (.getfield 148, 3) := by decide +kernel
theorem dX9_readsWindows_236 : decode cX9_readsWindows 236 = .ok (.iastore, 1) := by decide +kernel
theorem dX9_readsWindows_237 : decode cX9_readsWindows 237 = .ok (.iconst 1, 1) := by decide +kernel
theorem dX9_readsWindows_238 : decode cX9_readsWindows 238 = .ok (.ireturn, 1) := by decide +kernel
theorem dX9_isAtEnd_0 : decode cX9_isAtEnd 0 = .ok (.aload_n 0, 1) := by decide +kernel
theorem dX9_isAtEnd_1 : decode cX9_isAtEnd 1 = .ok (.aload_n 0, 1) := by decide +kernel
theorem dX9_isAtEnd_2 : decode cX9_isAtEnd 2 = .ok (.getfield 135, 3) := by decide +kernel
theorem dX9_isAtEnd_5 : decode cX9_isAtEnd 5 = .ok (.invokevirtual 138, 3) := by decide +kernel
theorem dX9_isAtEnd_8 : decode cX9_isAtEnd 8 = .ok (.iconst (-1), 1) := by decide +kernel
theorem dX9_isAtEnd_9 : decode cX9_isAtEnd 9 = .ok (.if_icmp .ne 7, 3) := by decide +kernel
theorem dX9_isAtEnd_12 : decode cX9_isAtEnd 12 = .ok (.iconst 1, 1) := by decide +kernel
theorem dX9_isAtEnd_13 : decode cX9_isAtEnd 13 = .ok (.goto 4, 3) := by decide +kernel
theorem dX9_isAtEnd_16 : decode cX9_isAtEnd 16 = .ok (.iconst 0, 1) := by decide +kernel
theorem dX9_isAtEnd_17 : decode cX9_isAtEnd 17 = .ok (.ireturn, 1) := by decide +kernel
theorem dX9_readsLate_0 : decode cX9_readsLate 0 = .ok (.aload_n 0, 1) := by decide +kernel
theorem dX9_readsLate_1 : decode cX9_readsLate 1 = .ok (.getfield 16, 3) := by decide +kernel
theorem dX9_readsLate_4 : decode cX9_readsLate 4 = .ok (.bipush 7, 2) := by decide +kernel
theorem dX9_readsLate_6 : decode cX9_readsLate 6 = .ok (.iconst 0, 1) := by decide +kernel
theorem dX9_readsLate_7 : decode cX9_readsLate 7 = .ok (.iastore, 1) := by decide +kernel
theorem dX9_readsLate_8 : decode cX9_readsLate 8 = .ok (.aload_n 0, 1) := by decide +kernel
theorem dX9_readsLate_9 : decode cX9_readsLate 9 = .ok (.aload_n 0, 1) := by decide +kernel
theorem dX9_readsLate_10 : decode cX9_readsLate 10 = .ok (.getfield 135, 3) := by decide +kernel
theorem dX9_readsLate_13 : decode cX9_readsLate 13 = .ok (.invokevirtual 138, 3) := by decide +kernel
theorem dX9_readsLate_16 : decode cX9_readsLate 16 = .ok (.bipush 108, 2) := by decide +kernel
theorem dX9_readsLate_18 : decode cX9_readsLate 18 = .ok (.if_icmp .eq 5, 3) := by decide +kernel
theorem dX9_readsLate_21 : decode cX9_readsLate 21 = .ok (.iconst 1, 1) := by decide +kernel
theorem dX9_readsLate_22 : decode cX9_readsLate 22 = .ok (.ireturn, 1) := by decide +kernel
theorem dX9_readsLate_23 : decode cX9_readsLate 23 = .ok (.aload_n 0, 1) := by decide +kernel
theorem dX9_readsLate_24 : decode cX9_readsLate 24 = .ok (.bipush 108, 2) := by decide +kernel
theorem dX9_readsLate_26 : decode cX9_readsLate 26 = .ok (.bipush 97, 2) := by decide +kernel
theorem dX9_readsLate_28 : decode cX9_readsLate 28 = .ok (.bipush 116, 2) := by decide +kernel
theorem dX9_readsLate_30 : decode cX9_readsLate 30 = .ok (.bipush 101, 2) := by decide +kernel
theorem dX9_readsLate_32 : decode cX9_readsLate 32 = .ok (.iconst 0, 1) := by decide +kernel
theorem dX9_readsLate_33 : decode cX9_readsLate 33 = .ok (.iconst 0, 1) := by decide +kernel
theorem dX9_readsLate_34 : decode cX9_readsLate 34 = .ok (.iconst 0, 1) := by decide +kernel
theorem dX9_readsLate_35 : decode cX9_readsLate 35 = .ok (.invokevirtual 151, 3) := by decide +kernel
theorem dX9_readsLate_38 : decode cX9_readsLate 38 = .ok (.ifCond .eq 18, 3) := by decide +kernel
theorem dX9_readsLate_41 : decode cX9_readsLate 41 = .ok (.aload_n 0, 1) := by decide +kernel
theorem dX9_readsLate_42 : decode cX9_readsLate 42 = .ok (.invokevirtual 155, 3) := by decide +kernel
theorem dX9_readsLate_45 : decode cX9_readsLate 45 = .ok (.ifCond .eq 11, 3) := by decide +kernel
theorem dX9_readsLate_48 : decode cX9_readsLate 48 = .ok (.aload_n 0, 1) := by decide +kernel
theorem dX9_readsLate_49 : decode cX9_readsLate 49 = .ok (.iconst 1, 1) := by decide +kernel
theorem dX9_readsLate_50 : decode cX9_readsLate 50 = .ok (.invokevirtual 159, 3) := by decide +kernel
theorem dX9_readsLate_53 : decode cX9_readsLate 53 = .ok (.ifCond .ne 5, 3) := by decide +kernel
theorem dX9_readsLate_56 : decode cX9_readsLate 56 = .ok (.iconst 0, 1) := by decide +kernel
theorem dX9_readsLate_57 : decode cX9_readsLate 57 = .ok (.ireturn, 1) := by decide +kernel
theorem dX9_readsLate_58 : decode cX9_readsLate 58 = .ok (.aload_n 0, 1) := by decide +kernel
theorem dX9_readsLate_59 : decode cX9_readsLate 59 = .ok (.getfield 16, 3) := by decide +kernel
theorem dX9_readsLate_62 : decode cX9_readsLate 62 = .ok (.bipush 7, 2) := by decide +kernel
theorem dX9_readsLate_64 : decode cX9_readsLate 64 = .ok (.aload_n 0, 1) := by decide +kernel
theorem dX9_readsLate_65 : decode cX9_readsLate 65 = .ok (.getfield 148, 3) := by decide +kernel
theorem dX9_readsLate_68 : decode cX9_readsLate 68 = .ok (.iastore, 1) := by decide +kernel
theorem dX9_readsLate_69 : decode cX9_readsLate 69 = .ok (.aload_n 0, 1) := by decide +kernel
theorem dX9_readsLate_70 : decode cX9_readsLate 70 = .ok (.invokevirtual 162, 3) := by decide +kernel
theorem dX9_readsLate_73 : decode cX9_readsLate 73 = .ok (.ifCond .ne 10, 3) := by decide +kernel
theorem dX9_readsLate_76 : decode cX9_readsLate 76 = .ok (.aload_n 0, 1) := by decide +kernel
theorem dX9_readsLate_77 : decode cX9_readsLate 77 = .ok (.invokevirtual 155, 3) := by decide +kernel
theorem dX9_readsLate_80 : decode cX9_readsLate 80 = .ok (.ifCond .eq 7, 3) := by decide +kernel
theorem dX9_readsLate_83 : decode cX9_readsLate 83 = .ok (.iconst 1, 1) := by decide +kernel
theorem dX9_readsLate_84 : decode cX9_readsLate 84 = .ok (.goto 4, 3) := by decide +kernel
theorem dX9_readsLate_87 : decode cX9_readsLate 87 = .ok (.iconst 0, 1) := by decide +kernel
theorem dX9_readsLate_88 : decode cX9_readsLate 88 = .ok (.ireturn, 1) := by decide +kernel
theorem dX9_readsMode_0 : decode cX9_readsMode 0 = .ok (.aload_n 0, 1) := by decide +kernel
theorem dX9_readsMode_1 : decode cX9_readsMode 1 = .ok (.aload_n 0, 1) := by decide +kernel
theorem dX9_readsMode_2 : decode cX9_readsMode 2 = .ok (.getfield 135, 3) := by decide +kernel
theorem dX9_readsMode_5 : decode cX9_readsMode 5 = .ok (.invokevirtual 138, 3) := by decide +kernel
theorem dX9_readsMode_8 : decode cX9_readsMode 8 = .ok (.istore_n 1, 1) := by decide +kernel
theorem dX9_readsMode_9 : decode cX9_readsMode 9 = .ok (.aload_n 0, 1) := by decide +kernel
theorem dX9_readsMode_10 : decode cX9_readsMode 10 = .ok (.getfield 16, 3) := by decide +kernel
theorem dX9_readsMode_13 : decode cX9_readsMode 13 = .ok (.bipush 8, 2) := by decide +kernel
theorem dX9_readsMode_15 : decode cX9_readsMode 15 = .ok (.iload_n 1, 1) := by decide +kernel
theorem dX9_readsMode_16 : decode cX9_readsMode 16 = .ok (.bipush 100, 2) := by decide +kernel
theorem dX9_readsMode_18 : decode cX9_readsMode 18 = .ok (.if_icmp .ne 7, 3) := by decide +kernel
theorem dX9_readsMode_21 : decode cX9_readsMode 21 = .ok (.iconst 1, 1) := by decide +kernel
theorem dX9_readsMode_22 : decode cX9_readsMode 22 = .ok (.goto 14, 3) := by decide +kernel
theorem dX9_readsMode_25 : decode cX9_readsMode 25 = .ok (.iload_n 1, 1) := by decide +kernel
theorem dX9_readsMode_26 : decode cX9_readsMode 26 = .ok (.bipush 98, 2) := by decide +kernel
theorem dX9_readsMode_28 : decode cX9_readsMode 28 = .ok (.if_icmp .ne 7, 3) := by decide +kernel
theorem dX9_readsMode_31 : decode cX9_readsMode 31 = .ok (.iconst 2, 1) := by decide +kernel
theorem dX9_readsMode_32 : decode cX9_readsMode 32 = .ok (.goto 4, 3) := by decide +kernel
theorem dX9_readsMode_35 : decode cX9_readsMode 35 = .ok (.iconst 0, 1) := by decide +kernel
theorem dX9_readsMode_36 : decode cX9_readsMode 36 = .ok (.iastore, 1) := by decide +kernel
theorem dX9_readsMode_37 : decode cX9_readsMode 37 = .ok (.aload_n 0, 1) := by decide +kernel
theorem dX9_readsMode_38 : decode cX9_readsMode 38 = .ok (.invokevirtual 162, 3) := by decide +kernel
theorem dX9_readsMode_41 : decode cX9_readsMode 41 = .ok (.ifCond .eq 5, 3) := by decide +kernel
theorem dX9_readsMode_44 : decode cX9_readsMode 44 = .ok (.iconst 1, 1) := by decide +kernel
theorem dX9_readsMode_45 : decode cX9_readsMode 45 = .ok (.ireturn, 1) := by decide +kernel
theorem dX9_readsMode_46 : decode cX9_readsMode 46 = .ok (.iload_n 1, 1) := by decide +kernel
theorem dX9_readsMode_47 : decode cX9_readsMode 47 = .ok (.bipush 100, 2) := by decide +kernel
theorem dX9_readsMode_49 : decode cX9_readsMode 49 = .ok (.if_icmp .ne 24, 3) := by decide +kernel
theorem dX9_readsMode_52 : decode cX9_readsMode 52 = .ok (.aload_n 0, 1) := by decide +kernel
theorem dX9_readsMode_53 : decode cX9_readsMode 53 = .ok (.bipush 100, 2) := by decide +kernel
theorem dX9_readsMode_55 : decode cX9_readsMode 55 = .ok (.bipush 105, 2) := by decide +kernel
theorem dX9_readsMode_57 : decode cX9_readsMode 57 = .ok (.bipush 102, 2) := by decide +kernel
theorem dX9_readsMode_59 : decode cX9_readsMode 59 = .ok (.bipush 102, 2) := by decide +kernel
theorem dX9_readsMode_61 : decode cX9_readsMode 61 = .ok (.iconst 0, 1) := by decide +kernel
theorem dX9_readsMode_62 : decode cX9_readsMode 62 = .ok (.iconst 0, 1) := by decide +kernel
theorem dX9_readsMode_63 : decode cX9_readsMode 63 = .ok (.iconst 0, 1) := by decide +kernel
theorem dX9_readsMode_64 : decode cX9_readsMode 64 = .ok (.invokevirtual 151, 3) := by decide +kernel
theorem dX9_readsMode_67 : decode cX9_readsMode 67 = .ok (.ifCond .eq 51, 3) := by decide +kernel
theorem dX9_readsMode_70 : decode cX9_readsMode 70 = .ok (.goto 50, 3) := by decide +kernel
theorem dX9_readsMode_73 : decode cX9_readsMode 73 = .ok (.iload_n 1, 1) := by decide +kernel
theorem dX9_readsMode_74 : decode cX9_readsMode 74 = .ok (.bipush 98, 2) := by decide +kernel
theorem dX9_readsMode_76 : decode cX9_readsMode 76 = .ok (.if_icmp .ne 24, 3) := by decide +kernel
theorem dX9_readsMode_79 : decode cX9_readsMode 79 = .ok (.aload_n 0, 1) := by decide +kernel
theorem dX9_readsMode_80 : decode cX9_readsMode 80 = .ok (.bipush 98, 2) := by decide +kernel
theorem dX9_readsMode_82 : decode cX9_readsMode 82 = .ok (.bipush 97, 2) := by decide +kernel
theorem dX9_readsMode_84 : decode cX9_readsMode 84 = .ok (.bipush 99, 2) := by decide +kernel
theorem dX9_readsMode_86 : decode cX9_readsMode 86 = .ok (.bipush 107, 2) := by decide +kernel
theorem dX9_readsMode_88 : decode cX9_readsMode 88 = .ok (.iconst 0, 1) := by decide +kernel
theorem dX9_readsMode_89 : decode cX9_readsMode 89 = .ok (.iconst 0, 1) := by decide +kernel
theorem dX9_readsMode_90 : decode cX9_readsMode 90 = .ok (.iconst 0, 1) := by decide +kernel
theorem dX9_readsMode_91 : decode cX9_readsMode 91 = .ok (.invokevirtual 151, 3) := by decide +kernel
theorem dX9_readsMode_94 : decode cX9_readsMode 94 = .ok (.ifCond .eq 24, 3) := by decide +kernel
theorem dX9_readsMode_97 : decode cX9_readsMode 97 = .ok (.goto 23, 3) := by decide +kernel
theorem dX9_readsMode_100 : decode cX9_readsMode 100 = .ok (.aload_n 0, 1) := by decide +kernel
theorem dX9_readsMode_101 : decode cX9_readsMode 101 = .ok (.bipush 97, 2) := by decide +kernel
theorem dX9_readsMode_103 : decode cX9_readsMode 103 = .ok (.bipush 110, 2) := by decide +kernel
theorem dX9_readsMode_105 : decode cX9_readsMode 105 = .ok (.bipush 101, 2) := by decide +kernel
theorem dX9_readsMode_107 : decode cX9_readsMode 107 = .ok (.bipush 119, 2) := by decide +kernel
theorem dX9_readsMode_109 : decode cX9_readsMode 109 = .ok (.iconst 0, 1) := by decide +kernel
theorem dX9_readsMode_110 : decode cX9_readsMode 110 = .ok (.iconst 0, 1) := by decide +kernel
theorem dX9_readsMode_111 : decode cX9_readsMode 111 = .ok (.iconst 0, 1) := by decide +kernel
theorem dX9_readsMode_112 : decode cX9_readsMode 112 = .ok (.invokevirtual 151, 3) := by decide +kernel
theorem dX9_readsMode_115 : decode cX9_readsMode 115 = .ok (.ifCond .ne 5, 3) := by decide +kernel
theorem dX9_readsMode_118 : decode cX9_readsMode 118 = .ok (.iconst 0, 1) := by decide +kernel
theorem dX9_readsMode_119 : decode cX9_readsMode 119 = .ok (.ireturn, 1) := by decide +kernel
theorem dX9_readsMode_120 : decode cX9_readsMode 120 = .ok (.aload_n 0, 1) := by decide +kernel
theorem dX9_readsMode_121 : decode cX9_readsMode 121 = .ok (.invokevirtual 162, 3) := by decide +kernel
theorem dX9_readsMode_124 : decode cX9_readsMode 124 = .ok (.ifCond .ne 17, 3) := by decide +kernel
theorem dX9_readsMode_127 : decode cX9_readsMode 127 = .ok (.aload_n 0, 1) := by decide +kernel
theorem dX9_readsMode_128 : decode cX9_readsMode 128 = .ok (.invokevirtual 155, 3) := by decide +kernel
theorem dX9_readsMode_131 : decode cX9_readsMode 131 = .ok (.ifCond .eq 12, 3) := by decide +kernel
theorem dX9_readsMode_134 : decode cX9_readsMode 134 = .ok (.aload_n 0, 1) := by decide +kernel
theorem dX9_readsMode_135 : decode cX9_readsMode 135 = .ok (.invokevirtual 162, 3) := by decide +kernel
theorem dX9_readsMode_138 : decode cX9_readsMode 138 = .ok (.ifCond .eq 5, 3) := by decide +kernel
theorem dX9_readsMode_141 : decode cX9_readsMode 141 = .ok (.iconst 1, 1) := by decide +kernel
theorem dX9_readsMode_142 : decode cX9_readsMode 142 = .ok (.ireturn, 1) := by decide +kernel
theorem dX9_readsMode_143 : decode cX9_readsMode 143 = .ok (.aload_n 0, 1) := by decide +kernel
theorem dX9_readsMode_144 : decode cX9_readsMode 144 = .ok (.invokevirtual 142, 3) := by decide +kernel
theorem dX9_readsMode_147 : decode cX9_readsMode 147 = .ok (.iconst 0, 1) := by decide +kernel
theorem dX9_readsMode_148 : decode cX9_readsMode 148 = .ok (.ireturn, 1) := by decide +kernel
theorem dX9_reads_0 : decode cX9_reads 0 = .ok (.aload_n 0, 1) := by decide +kernel
theorem dX9_reads_1 : decode cX9_reads 1 = .ok (.iconst 0, 1) := by decide +kernel
theorem dX9_reads_2 : decode cX9_reads 2 = .ok (.putfield 135, 3) := by decide +kernel
theorem dX9_reads_5 : decode cX9_reads 5 = .ok (.aload_n 0, 1) := by decide +kernel
theorem dX9_reads_6 : decode cX9_reads 6 = .ok (.invokevirtual 165, 3) := by decide +kernel
theorem dX9_reads_9 : decode cX9_reads 9 = .ok (.ifCond .eq 56, 3) := by decide +kernel
theorem dX9_reads_12 : decode cX9_reads 12 = .ok (.aload_n 0, 1) := by decide +kernel
theorem dX9_reads_13 : decode cX9_reads 13 = .ok (.invokevirtual 168, 3) := by decide +kernel
theorem dX9_reads_16 : decode cX9_reads 16 = .ok (.ifCond .eq 49, 3) := by decide +kernel
theorem dX9_reads_19 : decode cX9_reads 19 = .ok (.aload_n 0, 1) := by decide +kernel
theorem dX9_reads_20 : decode cX9_reads 20 = .ok (.invokevirtual 171, 3) := by decide +kernel
theorem dX9_reads_23 : decode cX9_reads 23 = .ok (.ifCond .eq 42, 3) := by decide +kernel
theorem dX9_reads_26 : decode cX9_reads 26 = .ok (.aload_n 0, 1) := by decide +kernel
theorem dX9_reads_27 : decode cX9_reads 27 = .ok (.invokevirtual 174, 3) := by decide +kernel
theorem dX9_reads_30 : decode cX9_reads 30 = .ok (.ifCond .eq 35, 3) := by decide +kernel
theorem dX9_reads_33 : decode cX9_reads 33 = .ok (.aload_n 0, 1) := by decide +kernel
theorem dX9_reads_34 : decode cX9_reads 34 = .ok (.invokevirtual 162, 3) := by decide +kernel
theorem dX9_reads_37 : decode cX9_reads 37 = .ok (.ifCond .ne 10, 3) := by decide +kernel
theorem dX9_reads_40 : decode cX9_reads 40 = .ok (.aload_n 0, 1) := by decide +kernel
theorem dX9_reads_41 : decode cX9_reads 41 = .ok (.invokevirtual 155, 3) := by decide +kernel
theorem dX9_reads_44 : decode cX9_reads 44 = .ok (.ifCond .eq 21, 3) := by decide +kernel
theorem dX9_reads_47 : decode cX9_reads 47 = .ok (.aload_n 0, 1) := by decide +kernel
theorem dX9_reads_48 : decode cX9_reads 48 = .ok (.invokevirtual 177, 3) := by decide +kernel
theorem dX9_reads_51 : decode cX9_reads 51 = .ok (.ifCond .eq 14, 3) := by decide +kernel
theorem dX9_reads_54 : decode cX9_reads 54 = .ok (.aload_n 0, 1) := by decide +kernel
theorem dX9_reads_55 : decode cX9_reads 55 = .ok (.invokevirtual 180, 3) := by decide +kernel
theorem dX9_reads_58 : decode cX9_reads 58 = .ok (.ifCond .eq 7, 3) := by decide +kernel
theorem dX9_reads_61 : decode cX9_reads 61 = .ok (.iconst 1, 1) := by decide +kernel
theorem dX9_reads_62 : decode cX9_reads 62 = .ok (.goto 4, 3) := by decide +kernel
theorem dX9_reads_65 : decode cX9_reads 65 = .ok (.iconst 0, 1) := by decide +kernel
theorem dX9_reads_66 : decode cX9_reads 66 = .ok (.istore_n 1, 1) := by decide +kernel
theorem dX9_reads_67 : decode cX9_reads 67 = .ok (.iload_n 1, 1) := by decide +kernel
theorem dX9_reads_68 : decode cX9_reads 68 = .ok (.ifCond .eq 7, 3) := by decide +kernel
theorem dX9_reads_71 : decode cX9_reads 71 = .ok (.iconst (-1), 1) := by decide +kernel
theorem dX9_reads_72 : decode cX9_reads 72 = .ok (.goto 7, 3) := by decide +kernel
theorem dX9_reads_75 : decode cX9_reads 75 = .ok (.aload_n 0, 1) := by decide +kernel
theorem dX9_reads_76 : decode cX9_reads 76 = .ok (.getfield 145, 3) := by decide +kernel
theorem dX9_reads_79 : decode cX9_reads 79 = .ok (.ireturn, 1) := by decide +kernel
theorem dX9_fault_0 : decode cX9_fault 0 = .ok (.aload_n 0, 1) := by decide +kernel
theorem dX9_fault_1 : decode cX9_fault 1 = .ok (.iconst 0, 1) := by decide +kernel
theorem dX9_fault_2 : decode cX9_fault 2 = .ok (.putfield 121, 3) := by decide +kernel
theorem dX9_fault_5 : decode cX9_fault 5 = .ok (.aload_n 0, 1) := by decide +kernel
theorem dX9_fault_6 : decode cX9_fault 6 = .ok (.invokevirtual 183, 3) := by decide +kernel
theorem dX9_fault_9 : decode cX9_fault 9 = .ok (.ireturn, 1) := by decide +kernel
theorem dX9_isPossible_0 : decode cX9_isPossible 0 = .ok (.aload_n 0, 1) := by decide +kernel
theorem dX9_isPossible_1 : decode cX9_isPossible 1 = .ok (.invokevirtual 183, 3) := by decide +kernel
theorem dX9_isPossible_4 : decode cX9_isPossible 4 = .ok (.iconst (-1), 1) := by decide +kernel
theorem dX9_isPossible_5 : decode cX9_isPossible 5 = .ok (.if_icmp .ne 52, 3) := by decide +kernel
theorem dX9_isPossible_8 : decode cX9_isPossible 8 = .ok (.aload_n 0, 1) := by decide +kernel
theorem dX9_isPossible_9 : decode cX9_isPossible 9 = .ok (.getfield 16, 3) := by decide +kernel
theorem dX9_isPossible_12 : decode cX9_isPossible 12 = .ok (.iconst 4, 1) := by decide +kernel
theorem dX9_isPossible_13 : decode cX9_isPossible 13 = .ok (.iaload, 1) := by decide +kernel
theorem dX9_isPossible_14 : decode cX9_isPossible 14 = .ok (.iconst 1, 1) := by decide +kernel
theorem dX9_isPossible_15 : decode cX9_isPossible 15 = .ok (.if_icmp .ne 38, 3) := by decide +kernel
theorem dX9_isPossible_18 : decode cX9_isPossible 18 = .ok (.aload_n 0, 1) := by decide +kernel
theorem dX9_isPossible_19 : decode cX9_isPossible 19 = .ok (.getfield 16, 3) := by decide +kernel
theorem dX9_isPossible_22 : decode cX9_isPossible 22 = .ok (.iconst 5, 1) := by decide +kernel
theorem dX9_isPossible_23 : decode cX9_isPossible 23 = .ok (.iaload, 1) := by decide +kernel
theorem dX9_isPossible_24 : decode cX9_isPossible 24 = .ok (.aload_n 0, 1) := by decide +kernel
theorem dX9_isPossible_25 : decode cX9_isPossible 25 = .ok (.getfield 16, 3) := by decide +kernel
theorem dX9_isPossible_28 : decode cX9_isPossible 28 = .ok (.bipush 6, 2) := by decide +kernel
theorem dX9_isPossible_30 : decode cX9_isPossible 30 = .ok (.iaload, 1) := by decide +kernel
theorem dX9_isPossible_31 : decode cX9_isPossible 31 = .ok (.irem, 1) := by decide +kernel
theorem dX9_isPossible_32 : decode cX9_isPossible 32 = .ok (.ifCond .ne 25, 3) := by decide +kernel
theorem dX9_isPossible_35 : decode cX9_isPossible 35 = .ok (.aload_n 0, 1) := by decide +kernel
theorem dX9_isPossible_36 : decode cX9_isPossible 36 = .ok (.getfield 16, 3) := by decide +kernel
theorem dX9_isPossible_39 : decode cX9_isPossible 39 = .ok (.iconst 5, 1) := by decide +kernel
theorem dX9_isPossible_40 : decode cX9_isPossible 40 = .ok (.iaload, 1) := by decide +kernel
theorem dX9_isPossible_41 : decode cX9_isPossible 41 = .ok (.iconst 4, 1) := by decide +kernel
theorem dX9_isPossible_42 : decode cX9_isPossible 42 = .ok (.aload_n 0, 1) := by decide +kernel
theorem dX9_isPossible_43 : decode cX9_isPossible 43 = .ok (.getfield 16, 3) := by decide +kernel
theorem dX9_isPossible_46 : decode cX9_isPossible 46 = .ok (.bipush 6, 2) := by decide +kernel
theorem dX9_isPossible_48 : decode cX9_isPossible 48 = .ok (.iaload, 1) := by decide +kernel
theorem dX9_isPossible_49 : decode cX9_isPossible 49 = .ok (.imul, 1) := by decide +kernel
theorem dX9_isPossible_50 : decode cX9_isPossible 50 = .ok (.if_icmp .gt 7, 3) := by decide +kernel
theorem dX9_isPossible_53 : decode cX9_isPossible 53 = .ok (.iconst 1, 1) := by decide +kernel
theorem dX9_isPossible_54 : decode cX9_isPossible 54 = .ok (.goto 4, 3) := by decide +kernel
theorem dX9_isPossible_57 : decode cX9_isPossible 57 = .ok (.iconst 0, 1) := by decide +kernel
theorem dX9_isPossible_58 : decode cX9_isPossible 58 = .ok (.ireturn, 1) := by decide +kernel
theorem dX9_isLikePlan_0 : decode cX9_isLikePlan 0 = .ok (.aload_n 0, 1) := by decide +kernel
theorem dX9_isLikePlan_1 : decode cX9_isLikePlan 1 = .ok (.getfield 187, 3) := by decide +kernel
theorem dX9_isLikePlan_4 : decode cX9_isLikePlan 4 = .ok (.ifCond .eq 86, 3) := by decide +kernel
theorem dX9_isLikePlan_7 : decode cX9_isLikePlan 7 = .ok (.aload_n 0, 1) := by decide +kernel
theorem dX9_isLikePlan_8 : decode cX9_isLikePlan 8 = .ok (.getfield 16, 3) := by decide +kernel
theorem dX9_isLikePlan_11 : decode cX9_isLikePlan 11 = .ok (.iconst 0, 1) := by decide +kernel
theorem dX9_isLikePlan_12 : decode cX9_isLikePlan 12 = .ok (.iaload, 1) := by decide +kernel
theorem dX9_isLikePlan_13 : decode cX9_isLikePlan 13 = .ok (.aload_n 0, 1) := by decide +kernel
theorem dX9_isLikePlan_14 : decode cX9_isLikePlan 14 = .ok (.getfield 13, 3) := by decide +kernel
theorem dX9_isLikePlan_17 : decode cX9_isLikePlan 17 = .ok (.iconst 0, 1) := by decide +kernel
theorem dX9_isLikePlan_18 : decode cX9_isLikePlan 18 = .ok (.iaload, 1) := by decide +kernel
theorem dX9_isLikePlan_19 : decode cX9_isLikePlan 19 = .ok (.if_icmp .ne 71, 3) := by decide +kernel
theorem dX9_isLikePlan_22 : decode cX9_isLikePlan 22 = .ok (.aload_n 0, 1) := by decide +kernel
theorem dX9_isLikePlan_23 : decode cX9_isLikePlan 23 = .ok (.getfield 16, 3) := by decide +kernel
theorem dX9_isLikePlan_26 : decode cX9_isLikePlan 26 = .ok (.iconst 4, 1) := by decide +kernel
theorem dX9_isLikePlan_27 : decode cX9_isLikePlan 27 = .ok (.iaload, 1) := by decide +kernel
theorem dX9_isLikePlan_28 : decode cX9_isLikePlan 28 = .ok (.aload_n 0, 1) := by decide +kernel
theorem dX9_isLikePlan_29 : decode cX9_isLikePlan 29 = .ok (.getfield 13, 3) := by decide +kernel
theorem dX9_isLikePlan_32 : decode cX9_isLikePlan 32 = .ok (.iconst 4, 1) := by decide +kernel
theorem dX9_isLikePlan_33 : decode cX9_isLikePlan 33 = .ok (.iaload, 1) := by decide +kernel
theorem dX9_isLikePlan_34 : decode cX9_isLikePlan 34 = .ok (.if_icmp .ne 56, 3) := by decide +kernel
theorem dX9_isLikePlan_37 : decode cX9_isLikePlan 37 = .ok (.aload_n 0, 1) := by decide +kernel
theorem dX9_isLikePlan_38 : decode cX9_isLikePlan 38 = .ok (.getfield 16, 3) := by decide +kernel
theorem dX9_isLikePlan_41 : decode cX9_isLikePlan 41 = .ok (.iconst 5, 1) := by decide +kernel
theorem dX9_isLikePlan_42 : decode cX9_isLikePlan 42 = .ok (.iaload, 1) := by decide +kernel
theorem dX9_isLikePlan_43 : decode cX9_isLikePlan 43 = .ok (.aload_n 0, 1) := by decide +kernel
theorem dX9_isLikePlan_44 : decode cX9_isLikePlan 44 = .ok (.getfield 13, 3) := by decide +kernel
theorem dX9_isLikePlan_47 : decode cX9_isLikePlan 47 = .ok (.iconst 5, 1) := by decide +kernel
theorem dX9_isLikePlan_48 : decode cX9_isLikePlan 48 = .ok (.iaload, 1) := by decide +kernel
theorem dX9_isLikePlan_49 : decode cX9_isLikePlan 49 = .ok (.if_icmp .ne 41, 3) := by decide +kernel
theorem dX9_isLikePlan_52 : decode cX9_isLikePlan 52 = .ok (.aload_n 0, 1) := by decide +kernel
theorem dX9_isLikePlan_53 : decode cX9_isLikePlan 53 = .ok (.getfield 16, 3) := by decide +kernel
theorem dX9_isLikePlan_56 : decode cX9_isLikePlan 56 = .ok (.bipush 6, 2) := by decide +kernel
theorem dX9_isLikePlan_58 : decode cX9_isLikePlan 58 = .ok (.iaload, 1) := by decide +kernel
theorem dX9_isLikePlan_59 : decode cX9_isLikePlan 59 = .ok (.aload_n 0, 1) := by decide +kernel
theorem dX9_isLikePlan_60 : decode cX9_isLikePlan 60 = .ok (.getfield 13, 3) := by decide +kernel
theorem dX9_isLikePlan_63 : decode cX9_isLikePlan 63 = .ok (.bipush 6, 2) := by decide +kernel
theorem dX9_isLikePlan_65 : decode cX9_isLikePlan 65 = .ok (.iaload, 1) := by decide +kernel
theorem dX9_isLikePlan_66 : decode cX9_isLikePlan 66 = .ok (.if_icmp .ne 24, 3) := by decide +kernel
theorem dX9_isLikePlan_69 : decode cX9_isLikePlan 69 = .ok (.aload_n 0, 1) := by decide +kernel
theorem dX9_isLikePlan_70 : decode cX9_isLikePlan 70 = .ok (.getfield 16, 3) := by decide +kernel
theorem dX9_isLikePlan_73 : decode cX9_isLikePlan 73 = .ok (.bipush 7, 2) := by decide +kernel
theorem dX9_isLikePlan_75 : decode cX9_isLikePlan 75 = .ok (.iaload, 1) := by decide +kernel
theorem dX9_isLikePlan_76 : decode cX9_isLikePlan 76 = .ok (.aload_n 0, 1) := by decide +kernel
theorem dX9_isLikePlan_77 : decode cX9_isLikePlan 77 = .ok (.getfield 13, 3) := by decide +kernel
theorem dX9_isLikePlan_80 : decode cX9_isLikePlan 80 = .ok (.bipush 7, 2) := by decide +kernel
theorem dX9_isLikePlan_82 : decode cX9_isLikePlan 82 = .ok (.iaload, 1) := by decide +kernel
theorem dX9_isLikePlan_83 : decode cX9_isLikePlan 83 = .ok (.if_icmp .gt 7, 3) := by decide +kernel
theorem dX9_isLikePlan_86 : decode cX9_isLikePlan 86 = .ok (.iconst 1, 1) := by decide +kernel
theorem dX9_isLikePlan_87 : decode cX9_isLikePlan 87 = .ok (.goto 4, 3) := by decide +kernel
theorem dX9_isLikePlan_90 : decode cX9_isLikePlan 90 = .ok (.iconst 0, 1) := by decide +kernel
theorem dX9_isLikePlan_91 : decode cX9_isLikePlan 91 = .ok (.ireturn, 1) := by decide +kernel
theorem dX9_plan_0 : decode cX9_plan 0 = .ok (.aload_n 0, 1) := by decide +kernel
theorem dX9_plan_1 : decode cX9_plan 1 = .ok (.invokevirtual 191, 3) := by decide +kernel
theorem dX9_plan_4 : decode cX9_plan 4 = .ok (.istore_n 2, 1) := by decide +kernel
theorem dX9_plan_5 : decode cX9_plan 5 = .ok (.aload_n 0, 1) := by decide +kernel
theorem dX9_plan_6 : decode cX9_plan 6 = .ok (.iload_n 2, 1) := by decide +kernel
theorem dX9_plan_7 : decode cX9_plan 7 = .ok (.ifCond .ne 7, 3) := by decide +kernel
theorem dX9_plan_10 : decode cX9_plan 10 = .ok (.iconst 1, 1) := by decide +kernel
theorem dX9_plan_11 : decode cX9_plan 11 = .ok (.goto 19, 3) := by decide +kernel
theorem dX9_plan_14 : decode cX9_plan 14 = .ok (.iload_n 1, 1) := by decide +kernel
theorem dX9_plan_15 : decode cX9_plan 15 = .ok (.ifCond .eq 14, 3) := by decide +kernel
theorem dX9_plan_18 : decode cX9_plan 18 = .ok (.aload_n 0, 1) := by decide +kernel
theorem dX9_plan_19 : decode cX9_plan 19 = .ok (.invokevirtual 194, 3) := by decide +kernel
theorem dX9_plan_22 : decode cX9_plan 22 = .ok (.ifCond .ne 7, 3) := by decide +kernel
theorem dX9_plan_25 : decode cX9_plan 25 = .ok (.iconst 2, 1) := by decide +kernel
theorem dX9_plan_26 : decode cX9_plan 26 = .ok (.goto 4, 3) := by decide +kernel
theorem dX9_plan_29 : decode cX9_plan 29 = .ok (.iconst 0, 1) := by decide +kernel
theorem dX9_plan_30 : decode cX9_plan 30 = .ok (.invokevirtual 131, 3) := by decide +kernel
theorem dX9_plan_33 : decode cX9_plan 33 = .ok (.ifCond .ne 5, 3) := by decide +kernel
theorem dX9_plan_36 : decode cX9_plan 36 = .ok (.iconst 0, 1) := by decide +kernel
theorem dX9_plan_37 : decode cX9_plan 37 = .ok (.ireturn, 1) := by decide +kernel
theorem dX9_plan_38 : decode cX9_plan 38 = .ok (.iconst 0, 1) := by decide +kernel
theorem dX9_plan_39 : decode cX9_plan 39 = .ok (.istore_n 3, 1) := by decide +kernel
theorem dX9_plan_40 : decode cX9_plan 40 = .ok (.iload_n 3, 1) := by decide +kernel
theorem dX9_plan_41 : decode cX9_plan 41 = .ok (.bipush 9, 2) := by decide +kernel
theorem dX9_plan_43 : decode cX9_plan 43 = .ok (.if_icmp .ge 21, 3) := by decide +kernel
theorem dX9_plan_46 : decode cX9_plan 46 = .ok (.aload_n 0, 1) := by decide +kernel
theorem dX9_plan_47 : decode cX9_plan 47 = .ok (.getfield 13, 3) := by decide +kernel
theorem dX9_plan_50 : decode cX9_plan 50 = .ok (.iload_n 3, 1) := by decide +kernel
theorem dX9_plan_51 : decode cX9_plan 51 = .ok (.aload_n 0, 1) := by decide +kernel
theorem dX9_plan_52 : decode cX9_plan 52 = .ok (.getfield 16, 3) := by decide +kernel
theorem dX9_plan_55 : decode cX9_plan 55 = .ok (.iload_n 3, 1) := by decide +kernel
theorem dX9_plan_56 : decode cX9_plan 56 = .ok (.iaload, 1) := by decide +kernel
theorem dX9_plan_57 : decode cX9_plan 57 = .ok (.iastore, 1) := by decide +kernel
theorem dX9_plan_58 : decode cX9_plan 58 = .ok (.iinc 3 1, 3) := by decide +kernel
theorem dX9_plan_61 : decode cX9_plan 61 = .ok (.goto (-21), 3) := by decide +kernel
theorem dX9_plan_64 : decode cX9_plan 64 = .ok (.aload_n 0, 1) := by decide +kernel
theorem dX9_plan_65 : decode cX9_plan 65 = .ok (.iconst 1, 1) := by decide +kernel
theorem dX9_plan_66 : decode cX9_plan 66 = .ok (.putfield 187, 3) := by decide +kernel
theorem dX9_plan_69 : decode cX9_plan 69 = .ok (.aload_n 0, 1) := by decide +kernel
theorem dX9_plan_70 : decode cX9_plan 70 = .ok (.iconst 0, 1) := by decide +kernel
theorem dX9_plan_71 : decode cX9_plan 71 = .ok (.putfield 128, 3) := by decide +kernel
theorem dX9_plan_74 : decode cX9_plan 74 = .ok (.iload_n 1, 1) := by decide +kernel
theorem dX9_plan_75 : decode cX9_plan 75 = .ok (.ifCond .ne 24, 3) := by decide +kernel
theorem dX9_plan_78 : decode cX9_plan 78 = .ok (.aload_n 0, 1) := by decide +kernel
theorem dX9_plan_79 : decode cX9_plan 79 = .ok (.iconst 5, 1) := by decide +kernel
theorem dX9_plan_80 : decode cX9_plan 80 = .ok (.invokevirtual 117, 3) := by decide +kernel
theorem dX9_plan_83 : decode cX9_plan 83 = .ok (.aload_n 0, 1) := by decide +kernel
theorem dX9_plan_84 : decode cX9_plan 84 = .ok (.bipush 6, 2) := by decide +kernel
theorem dX9_plan_86 : decode cX9_plan 86 = .ok (.invokevirtual 117, 3) := by decide +kernel
theorem dX9_plan_89 : decode cX9_plan 89 = .ok (.aload_n 0, 1) := by decide +kernel
theorem dX9_plan_90 : decode cX9_plan 90 = .ok (.iconst 0, 1) := by decide +kernel
theorem dX9_plan_91 : decode cX9_plan 91 = .ok (.putfield 197, 3) := by decide +kernel
theorem dX9_plan_94 : decode cX9_plan 94 = .ok (.aload_n 0, 1) := by decide +kernel
theorem dX9_plan_95 : decode cX9_plan 95 = .ok (.iconst 0, 1) := by decide +kernel
theorem dX9_plan_96 : decode cX9_plan 96 = .ok (.putfield 200, 3) := by decide +kernel
theorem dX9_plan_99 : decode cX9_plan 99 = .ok (.aload_n 0, 1) := by decide +kernel
theorem dX9_plan_100 : decode cX9_plan 100 = .ok (.getfield 74, 3) := by decide +kernel
theorem dX9_plan_103 : decode cX9_plan 103 = .ok (.bipush 6, 2) := by decide +kernel
theorem dX9_plan_105 : decode cX9_plan 105 = .ok (.iaload, 1) := by decide +kernel
theorem dX9_plan_106 : decode cX9_plan 106 = .ok (.ireturn, 1) := by decide +kernel
theorem dX9_event_0 : decode cX9_event 0 = .ok (.iload_n 1, 1) := by decide +kernel
theorem dX9_event_1 : decode cX9_event 1 = .ok (.invokestatic 203, 3) := by decide +kernel
theorem dX9_event_4 : decode cX9_event 4 = .ok (.ifCond .eq 14, 3) := by decide +kernel
theorem dX9_event_7 : decode cX9_event 7 = .ok (.iload_n 2, 1) := by decide +kernel
theorem dX9_event_8 : decode cX9_event 8 = .ok (.invokestatic 206, 3) := by decide +kernel
theorem dX9_event_11 : decode cX9_event 11 = .ok (.ifCond .eq 7, 3) := by decide +kernel
theorem dX9_event_14 : decode cX9_event 14 = .ok (.iconst 1, 1) := by decide +kernel
theorem dX9_event_15 : decode cX9_event 15 = .ok (.goto 4, 3) := by decide +kernel
theorem dX9_event_18 : decode cX9_event 18 = .ok (.iconst 0, 1) := by decide +kernel
theorem dX9_event_19 : decode cX9_event 19 = .ok (.istore 5, 2) := by decide +kernel
theorem dX9_event_21 : decode cX9_event 21 = .ok (.iload_n 3, 1) := by decide +kernel
theorem dX9_event_22 : decode cX9_event 22 = .ok (.iconst 0, 1) := by decide +kernel
theorem dX9_event_23 : decode cX9_event 23 = .ok (.sipush 999, 3) := by decide +kernel
theorem dX9_event_26 : decode cX9_event 26 = .ok (.invokestatic 124, 3) := by decide +kernel
theorem dX9_event_29 : decode cX9_event 29 = .ok (.ifCond .eq 19, 3) := by decide +kernel
theorem dX9_event_32 : decode cX9_event 32 = .ok (.iload 4, 2) := by decide +kernel
theorem dX9_event_34 : decode cX9_event 34 = .ok (.bipush (-99), 2) := by decide +kernel
theorem dX9_event_36 : decode cX9_event 36 = .ok (.bipush 99, 2) := by decide +kernel
theorem dX9_event_38 : decode cX9_event 38 = .ok (.invokestatic 124, 3) := by decide +kernel
theorem dX9_event_41 : decode cX9_event 41 = .ok (.ifCond .eq 7, 3) := by decide +kernel
theorem dX9_event_44 : decode cX9_event 44 = .ok (.iconst 1, 1) := by decide +kernel
theorem dX9_event_45 : decode cX9_event 45 = .ok (.goto 4, 3) := by decide +kernel
theorem dX9_event_48 : decode cX9_event 48 = .ok (.iconst 0, 1) := by decide +kernel
theorem dX9_event_49 : decode cX9_event 49 = .ok (.istore 6, 2) := by decide +kernel
theorem dX9_event_51 : decode cX9_event 51 = .ok (.aload_n 0, 1) := by decide +kernel
theorem dX9_event_52 : decode cX9_event 52 = .ok (.iload 5, 2) := by decide +kernel
theorem dX9_event_54 : decode cX9_event 54 = .ok (.ifCond .ne 7, 3) := by decide +kernel
theorem dX9_event_57 : decode cX9_event 57 = .ok (.iconst 1, 1) := by decide +kernel
theorem dX9_event_58 : decode cX9_event 58 = .ok (.goto 27, 3) := by decide +kernel
theorem dX9_event_61 : decode cX9_event 61 = .ok (.iload 6, 2) := by decide +kernel
theorem dX9_event_63 : decode cX9_event 63 = .ok (.ifCond .ne 7, 3) := by decide +kernel
theorem dX9_event_66 : decode cX9_event 66 = .ok (.iconst 2, 1) := by decide +kernel
theorem dX9_event_67 : decode cX9_event 67 = .ok (.goto 18, 3) := by decide +kernel
theorem dX9_event_70 : decode cX9_event 70 = .ok (.aload_n 0, 1) := by decide +kernel
theorem dX9_event_71 : decode cX9_event 71 = .ok (.getfield 209, 3) := by decide +kernel
theorem dX9_event_74 : decode cX9_event 74 = .ok (.sipush 300, 3) := by decide +kernel
theorem dX9_event_77 : decode cX9_event 77 = .ok (.if_icmp .ne 7, 3) := by decide +kernel
theorem dX9_event_80 : decode cX9_event 80 = .ok (.iconst 3, 1) := by decide +kernel
theorem dX9_event_81 : decode cX9_event 81 = .ok (.goto 4, 3) := by decide +kernel
theorem dX9_event_84 : decode cX9_event 84 = .ok (.iconst 0, 1) := by decide +kernel
theorem dX9_event_85 : decode cX9_event 85 = .ok (.invokevirtual 131, 3) := by decide +kernel
theorem dX9_event_88 : decode cX9_event 88 = .ok (.ifCond .ne 5, 3) := by decide +kernel
theorem dX9_event_91 : decode cX9_event 91 = .ok (.iconst 0, 1) := by decide +kernel
theorem dX9_event_92 : decode cX9_event 92 = .ok (.ireturn, 1) := by decide +kernel
theorem dX9_event_93 : decode cX9_event 93 = .ok (.sipush 300, 3) := by decide +kernel
theorem dX9_event_96 : decode cX9_event 96 = .ok (.iload_n 1, 1) := by decide +kernel
theorem dX9_event_97 : decode cX9_event 97 = .ok (.imul, 1) := by decide +kernel
theorem dX9_event_98 : decode cX9_event 98 = .ok (.aload_n 0, 1) := by decide +kernel
theorem dX9_event_99 : decode cX9_event 99 = .ok (.getfield 19, 3) := by decide +kernel
theorem dX9_event_102 : decode cX9_event 102 = .ok (.iload_n 1, 1) := by decide +kernel
theorem dX9_event_103 : decode cX9_event 103 = .ok (.iaload, 1) := by decide +kernel
theorem dX9_event_104 : decode cX9_event 104 = .ok (.iadd, 1) := by decide +kernel
theorem dX9_event_105 : decode cX9_event 105 = .ok (.istore 7, 2) := by decide +kernel
theorem dX9_event_107 : decode cX9_event 107 = .ok (.aload_n 0, 1) := by decide +kernel
theorem dX9_event_108 : decode cX9_event 108 = .ok (.getfield 22, 3) := by decide +kernel
theorem dX9_event_111 : decode cX9_event 111 = .ok (.iload 7, 2) := by decide +kernel
theorem dX9_event_113 : decode cX9_event 113 = .ok (.iload_n 2, 1) := by decide +kernel
theorem dX9_event_114 : decode cX9_event 114 = .ok (.iastore, 1) := by decide +kernel
theorem dX9_event_115 : decode cX9_event 115 = .ok (.aload_n 0, 1) := by decide +kernel
theorem dX9_event_116 : decode cX9_event 116 = .ok (.getfield 25, 3) := by decide +kernel
theorem dX9_event_119 : decode cX9_event 119 = .ok (.iload 7, 2) := by decide +kernel
theorem dX9_event_121 : decode cX9_event 121 = .ok (.iload_n 3, 1) := by decide +kernel
theorem dX9_event_122 : decode cX9_event 122 = .ok (.iastore, 1) := by decide +kernel
theorem dX9_event_123 : decode cX9_event 123 = .ok (.aload_n 0, 1) := by decide +kernel
theorem dX9_event_124 : decode cX9_event 124 = .ok (.getfield 28, 3) := by decide +kernel
theorem dX9_event_127 : decode cX9_event 127 = .ok (.iload 7, 2) := by decide +kernel
theorem dX9_event_129 : decode cX9_event 129 = .ok (.iload 4, 2) := by decide +kernel
theorem dX9_event_131 : decode cX9_event 131 = .ok (.iastore, 1) := by decide +kernel
theorem dX9_event_132 : decode cX9_event 132 = .ok (.aload_n 0, 1) := by decide +kernel
theorem dX9_event_133 : decode cX9_event 133 = .ok (.getfield 19, 3) := by decide +kernel
theorem dX9_event_136 : decode cX9_event 136 = .ok (.iload_n 1, 1) := by decide +kernel
theorem dX9_event_137 : decode cX9_event 137 = .ok (.dup2, 1) := by decide +kernel
theorem dX9_event_138 : decode cX9_event 138 = .ok (.iaload, 1) := by decide +kernel
theorem dX9_event_139 : decode cX9_event 139 = .ok (.iconst 1, 1) := by decide +kernel
theorem dX9_event_140 : decode cX9_event 140 = .ok (.iadd, 1) := by decide +kernel
theorem dX9_event_141 : decode cX9_event 141 = .ok (.iastore, 1) := by decide +kernel
theorem dX9_event_142 : decode cX9_event 142 = .ok (.aload_n 0, 1) := by decide +kernel
theorem dX9_event_143 : decode cX9_event 143 = .ok (.dup, 1) := by decide +kernel
theorem dX9_event_144 : decode cX9_event 144 = .ok (.getfield 209, 3) := by decide +kernel
theorem dX9_event_147 : decode cX9_event 147 = .ok (.iconst 1, 1) := by decide +kernel
theorem dX9_event_148 : decode cX9_event 148 = .ok (.iadd, 1) := by decide +kernel
theorem dX9_event_149 : decode cX9_event 149 = .ok (.putfield 209, 3) := by decide +kernel
theorem dX9_event_152 : decode cX9_event 152 = .ok (.aload_n 0, 1) := by decide +kernel
theorem dX9_event_153 : decode cX9_event 153 = .ok (.getfield 19, 3) := by decide +kernel
theorem dX9_event_156 : decode cX9_event 156 = .ok (.iload_n 1, 1) := by decide +kernel
theorem dX9_event_157 : decode cX9_event 157 = .ok (.iaload, 1) := by decide +kernel
theorem dX9_event_158 : decode cX9_event 158 = .ok (.ireturn, 1) := by decide +kernel
theorem dX9_bound_0 : decode cX9_bound 0 = .ok (.aload_n 0, 1) := by decide +kernel
theorem dX9_bound_1 : decode cX9_bound 1 = .ok (.iload_n 1, 1) := by decide +kernel
theorem dX9_bound_2 : decode cX9_bound 2 = .ok (.invokestatic 203, 3) := by decide +kernel
theorem dX9_bound_5 : decode cX9_bound 5 = .ok (.ifCond .ne 7, 3) := by decide +kernel
theorem dX9_bound_8 : decode cX9_bound 8 = .ok (.iconst 1, 1) := by decide +kernel
theorem dX9_bound_9 : decode cX9_bound 9 = .ok (.goto 18, 3) := by decide +kernel
theorem dX9_bound_12 : decode cX9_bound 12 = .ok (.iload_n 2, 1) := by decide +kernel
theorem dX9_bound_13 : decode cX9_bound 13 = .ok (.iconst 0, 1) := by decide +kernel
theorem dX9_bound_14 : decode cX9_bound 14 = .ok (.bipush 99, 2) := by decide +kernel
theorem dX9_bound_16 : decode cX9_bound 16 = .ok (.invokestatic 124, 3) := by decide +kernel
theorem dX9_bound_19 : decode cX9_bound 19 = .ok (.ifCond .eq 7, 3) := by decide +kernel
theorem dX9_bound_22 : decode cX9_bound 22 = .ok (.iconst 0, 1) := by decide +kernel
theorem dX9_bound_23 : decode cX9_bound 23 = .ok (.goto 4, 3) := by decide +kernel
theorem dX9_bound_26 : decode cX9_bound 26 = .ok (.iconst 2, 1) := by decide +kernel
theorem dX9_bound_27 : decode cX9_bound 27 = .ok (.invokevirtual 131, 3) := by decide +kernel
theorem dX9_bound_30 : decode cX9_bound 30 = .ok (.ifCond .ne 5, 3) := by decide +kernel
theorem dX9_bound_33 : decode cX9_bound 33 = .ok (.iconst 0, 1) := by decide +kernel
theorem dX9_bound_34 : decode cX9_bound 34 = .ok (.ireturn, 1) := by decide +kernel
theorem dX9_bound_35 : decode cX9_bound 35 = .ok (.aload_n 0, 1) := by decide +kernel
theorem dX9_bound_36 : decode cX9_bound 36 = .ok (.getfield 44, 3) := by decide +kernel
theorem dX9_bound_39 : decode cX9_bound 39 = .ok (.iload_n 1, 1) := by decide +kernel
theorem dX9_bound_40 : decode cX9_bound 40 = .ok (.iaload, 1) := by decide +kernel
theorem dX9_bound_41 : decode cX9_bound 41 = .ok (.istore_n 3, 1) := by decide +kernel
theorem dX9_bound_42 : decode cX9_bound 42 = .ok (.aload_n 0, 1) := by decide +kernel
theorem dX9_bound_43 : decode cX9_bound 43 = .ok (.getfield 44, 3) := by decide +kernel
theorem dX9_bound_46 : decode cX9_bound 46 = .ok (.iload_n 1, 1) := by decide +kernel
theorem dX9_bound_47 : decode cX9_bound 47 = .ok (.iload_n 2, 1) := by decide +kernel
theorem dX9_bound_48 : decode cX9_bound 48 = .ok (.iastore, 1) := by decide +kernel
theorem dX9_bound_49 : decode cX9_bound 49 = .ok (.iload_n 3, 1) := by decide +kernel
theorem dX9_bound_50 : decode cX9_bound 50 = .ok (.ireturn, 1) := by decide +kernel
theorem dX9_idle_0 : decode cX9_idle 0 = .ok (.aload_n 0, 1) := by decide +kernel
theorem dX9_idle_1 : decode cX9_idle 1 = .ok (.iload_n 1, 1) := by decide +kernel
theorem dX9_idle_2 : decode cX9_idle 2 = .ok (.invokestatic 203, 3) := by decide +kernel
theorem dX9_idle_5 : decode cX9_idle 5 = .ok (.ifCond .eq 7, 3) := by decide +kernel
theorem dX9_idle_8 : decode cX9_idle 8 = .ok (.iconst 0, 1) := by decide +kernel
theorem dX9_idle_9 : decode cX9_idle 9 = .ok (.goto 4, 3) := by decide +kernel
theorem dX9_idle_12 : decode cX9_idle 12 = .ok (.iconst 1, 1) := by decide +kernel
theorem dX9_idle_13 : decode cX9_idle 13 = .ok (.invokevirtual 131, 3) := by decide +kernel
theorem dX9_idle_16 : decode cX9_idle 16 = .ok (.ifCond .ne 5, 3) := by decide +kernel
theorem dX9_idle_19 : decode cX9_idle 19 = .ok (.iconst 0, 1) := by decide +kernel
theorem dX9_idle_20 : decode cX9_idle 20 = .ok (.ireturn, 1) := by decide +kernel
theorem dX9_idle_21 : decode cX9_idle 21 = .ok (.aload_n 0, 1) := by decide +kernel
theorem dX9_idle_22 : decode cX9_idle 22 = .ok (.getfield 47, 3) := by decide +kernel
theorem dX9_idle_25 : decode cX9_idle 25 = .ok (.iload_n 1, 1) := by decide +kernel
theorem dX9_idle_26 : decode cX9_idle 26 = .ok (.iload_n 2, 1) := by decide +kernel
theorem dX9_idle_27 : decode cX9_idle 27 = .ok (.bastore, 1) := by decide +kernel
theorem dX9_idle_28 : decode cX9_idle 28 = .ok (.aload_n 0, 1) := by decide +kernel
theorem dX9_idle_29 : decode cX9_idle 29 = .ok (.getfield 187, 3) := by decide +kernel
theorem dX9_idle_32 : decode cX9_idle 32 = .ok (.ifCond .eq 7, 3) := by decide +kernel
theorem dX9_idle_35 : decode cX9_idle 35 = .ok (.aload_n 0, 1) := by decide +kernel
theorem dX9_idle_36 : decode cX9_idle 36 = .ok (.invokevirtual 212, 3) := by decide +kernel
theorem dX9_idle_39 : decode cX9_idle 39 = .ok (.aload_n 0, 1) := by decide +kernel
theorem dX9_idle_40 : decode cX9_idle 40 = .ok (.getfield 65, 3) := by decide +kernel
theorem dX9_idle_43 : decode cX9_idle 43 = .ok (.bipush 6, 2) := by decide +kernel
theorem dX9_idle_45 : decode cX9_idle 45 = .ok (.iaload, 1) := by decide +kernel
theorem dX9_idle_46 : decode cX9_idle 46 = .ok (.ireturn, 1) := by decide +kernel
theorem dX9_table_0 : decode cX9_table 0 = .ok (.iload_n 2, 1) := by decide +kernel
theorem dX9_table_1 : decode cX9_table 1 = .ok (.iconst 0, 1) := by decide +kernel
theorem dX9_table_2 : decode cX9_table 2 = .ok (.sipush 999, 3) := by decide +kernel
theorem dX9_table_5 : decode cX9_table 5 = .ok (.invokestatic 124, 3) := by decide +kernel
theorem dX9_table_8 : decode cX9_table 8 = .ok (.ifCond .eq 18, 3) := by decide +kernel
theorem dX9_table_11 : decode cX9_table 11 = .ok (.iload_n 3, 1) := by decide +kernel
theorem dX9_table_12 : decode cX9_table 12 = .ok (.bipush (-99), 2) := by decide +kernel
theorem dX9_table_14 : decode cX9_table 14 = .ok (.bipush 99, 2) := by decide +kernel
theorem dX9_table_16 : decode cX9_table 16 = .ok (.invokestatic 124, 3) := by decide +kernel
theorem dX9_table_19 : decode cX9_table 19 = .ok (.ifCond .eq 7, 3) := by decide +kernel
theorem dX9_table_22 : decode cX9_table 22 = .ok (.iconst 1, 1) := by decide +kernel
theorem dX9_table_23 : decode cX9_table 23 = .ok (.goto 4, 3) := by decide +kernel
theorem dX9_table_26 : decode cX9_table 26 = .ok (.iconst 0, 1) := by decide +kernel
theorem dX9_table_27 : decode cX9_table 27 = .ok (.istore 4, 2) := by decide +kernel
theorem dX9_table_29 : decode cX9_table 29 = .ok (.aload_n 0, 1) := by decide +kernel
theorem dX9_table_30 : decode cX9_table 30 = .ok (.iload_n 1, 1) := by decide +kernel
theorem dX9_table_31 : decode cX9_table 31 = .ok (.invokestatic 206, 3) := by decide +kernel
theorem dX9_table_34 : decode cX9_table 34 = .ok (.ifCond .ne 7, 3) := by decide +kernel
theorem dX9_table_37 : decode cX9_table 37 = .ok (.iconst 1, 1) := by decide +kernel
theorem dX9_table_38 : decode cX9_table 38 = .ok (.goto 26, 3) := by decide +kernel
theorem dX9_table_41 : decode cX9_table 41 = .ok (.iload 4, 2) := by decide +kernel
theorem dX9_table_43 : decode cX9_table 43 = .ok (.ifCond .ne 7, 3) := by decide +kernel
theorem dX9_table_46 : decode cX9_table 46 = .ok (.iconst 2, 1) := by decide +kernel
theorem dX9_table_47 : decode cX9_table 47 = .ok (.goto 17, 3) := by decide +kernel
theorem dX9_table_50 : decode cX9_table 50 = .ok (.aload_n 0, 1) := by decide +kernel
theorem dX9_table_51 : decode cX9_table 51 = .ok (.getfield 215, 3) := by decide +kernel
theorem dX9_table_54 : decode cX9_table 54 = .ok (.bipush 60, 2) := by decide +kernel
theorem dX9_table_56 : decode cX9_table 56 = .ok (.if_icmp .ne 7, 3) := by decide +kernel
theorem dX9_table_59 : decode cX9_table 59 = .ok (.iconst 3, 1) := by decide +kernel
theorem dX9_table_60 : decode cX9_table 60 = .ok (.goto 4, 3) := by decide +kernel
theorem dX9_table_63 : decode cX9_table 63 = .ok (.iconst 0, 1) := by decide +kernel
theorem dX9_table_64 : decode cX9_table 64 = .ok (.invokevirtual 131, 3) := by decide +kernel
theorem dX9_table_67 : decode cX9_table 67 = .ok (.ifCond .ne 5, 3) := by decide +kernel
theorem dX9_table_70 : decode cX9_table 70 = .ok (.iconst 0, 1) := by decide +kernel
theorem dX9_table_71 : decode cX9_table 71 = .ok (.ireturn, 1) := by decide +kernel
theorem dX9_table_72 : decode cX9_table 72 = .ok (.aload_n 0, 1) := by decide +kernel
theorem dX9_table_73 : decode cX9_table 73 = .ok (.getfield 50, 3) := by decide +kernel
theorem dX9_table_76 : decode cX9_table 76 = .ok (.aload_n 0, 1) := by decide +kernel
theorem dX9_table_77 : decode cX9_table 77 = .ok (.getfield 215, 3) := by decide +kernel
theorem dX9_table_80 : decode cX9_table 80 = .ok (.iload_n 1, 1) := by decide +kernel
theorem dX9_table_81 : decode cX9_table 81 = .ok (.iastore, 1) := by decide +kernel
theorem dX9_table_82 : decode cX9_table 82 = .ok (.aload_n 0, 1) := by decide +kernel
theorem dX9_table_83 : decode cX9_table 83 = .ok (.getfield 53, 3) := by decide +kernel
theorem dX9_table_86 : decode cX9_table 86 = .ok (.aload_n 0, 1) := by decide +kernel
theorem dX9_table_87 : decode cX9_table 87 = .ok (.getfield 215, 3) := by decide +kernel
theorem dX9_table_90 : decode cX9_table 90 = .ok (.iload_n 2, 1) := by decide +kernel
theorem dX9_table_91 : decode cX9_table 91 = .ok (.iastore, 1) := by decide +kernel
theorem dX9_table_92 : decode cX9_table 92 = .ok (.aload_n 0, 1) := by decide +kernel
theorem dX9_table_93 : decode cX9_table 93 = .ok (.getfield 56, 3) := by decide +kernel
theorem dX9_table_96 : decode cX9_table 96 = .ok (.aload_n 0, 1) := by decide +kernel
theorem dX9_table_97 : decode cX9_table 97 = .ok (.getfield 215, 3) := by decide +kernel
theorem dX9_table_100 : decode cX9_table 100 = .ok (.iload_n 3, 1) := by decide +kernel
theorem dX9_table_101 : decode cX9_table 101 = .ok (.iastore, 1) := by decide +kernel
theorem dX9_table_102 : decode cX9_table 102 = .ok (.aload_n 0, 1) := by decide +kernel
theorem dX9_table_103 : decode cX9_table 103 = .ok (.dup, 1) := by decide +kernel
theorem dX9_table_104 : decode cX9_table 104 = .ok (.getfield 215, 3) := by decide +kernel
theorem dX9_table_107 : decode cX9_table 107 = .ok (.iconst 1, 1) := by decide +kernel
theorem dX9_table_108 : decode cX9_table 108 = .ok (.iadd, 1) := by decide +kernel
theorem dX9_table_109 : decode cX9_table 109 = .ok (.putfield 215, 3) := by decide +kernel
theorem dX9_table_112 : decode cX9_table 112 = .ok (.aload_n 0, 1) := by decide +kernel
theorem dX9_table_113 : decode cX9_table 113 = .ok (.getfield 215, 3) := by decide +kernel
theorem dX9_table_116 : decode cX9_table 116 = .ok (.ireturn, 1) := by decide +kernel
theorem dX9_tableOf_0 : decode cX9_tableOf 0 = .ok (.iconst (-1), 1) := by decide +kernel
theorem dX9_tableOf_1 : decode cX9_tableOf 1 = .ok (.istore_n 3, 1) := by decide +kernel
theorem dX9_tableOf_2 : decode cX9_tableOf 2 = .ok (.iconst 0, 1) := by decide +kernel
theorem dX9_tableOf_3 : decode cX9_tableOf 3 = .ok (.istore 4, 2) := by decide +kernel
theorem dX9_tableOf_5 : decode cX9_tableOf 5 = .ok (.iload 4, 2) := by decide +kernel
theorem dX9_tableOf_7 : decode cX9_tableOf 7 = .ok (.aload_n 0, 1) := by decide +kernel
theorem dX9_tableOf_8 : decode cX9_tableOf 8 = .ok (.getfield 215, 3) := by decide +kernel
theorem dX9_tableOf_11 : decode cX9_tableOf 11 = .ok (.if_icmp .ge 71, 3) := by decide +kernel
theorem dX9_tableOf_14 : decode cX9_tableOf 14 = .ok (.aload_n 0, 1) := by decide +kernel
theorem dX9_tableOf_15 : decode cX9_tableOf 15 = .ok (.getfield 50, 3) := by decide +kernel
theorem dX9_tableOf_18 : decode cX9_tableOf 18 = .ok (.iload 4, 2) := by decide +kernel
theorem dX9_tableOf_20 : decode cX9_tableOf 20 = .ok (.iaload, 1) := by decide +kernel
theorem dX9_tableOf_21 : decode cX9_tableOf 21 = .ok (.iload_n 1, 1) := by decide +kernel
theorem dX9_tableOf_22 : decode cX9_tableOf 22 = .ok (.if_icmp .ne 18, 3) := by decide +kernel
theorem dX9_tableOf_25 : decode cX9_tableOf 25 = .ok (.aload_n 0, 1) := by decide +kernel
theorem dX9_tableOf_26 : decode cX9_tableOf 26 = .ok (.getfield 53, 3) := by decide +kernel
theorem dX9_tableOf_29 : decode cX9_tableOf 29 = .ok (.iload 4, 2) := by decide +kernel
theorem dX9_tableOf_31 : decode cX9_tableOf 31 = .ok (.iaload, 1) := by decide +kernel
theorem dX9_tableOf_32 : decode cX9_tableOf 32 = .ok (.iload_n 2, 1) := by decide +kernel
theorem dX9_tableOf_33 : decode cX9_tableOf 33 = .ok (.if_icmp .gt 7, 3) := by decide +kernel
theorem dX9_tableOf_36 : decode cX9_tableOf 36 = .ok (.iconst 1, 1) := by decide +kernel
theorem dX9_tableOf_37 : decode cX9_tableOf 37 = .ok (.goto 4, 3) := by decide +kernel
theorem dX9_tableOf_40 : decode cX9_tableOf 40 = .ok (.iconst 0, 1) := by decide +kernel
theorem dX9_tableOf_41 : decode cX9_tableOf 41 = .ok (.istore 5, 2) := by decide +kernel
theorem dX9_tableOf_43 : decode cX9_tableOf 43 = .ok (.iload 5, 2) := by decide +kernel
theorem dX9_tableOf_45 : decode cX9_tableOf 45 = .ok (.ifCond .eq 29, 3) := by decide +kernel
theorem dX9_tableOf_48 : decode cX9_tableOf 48 = .ok (.iload_n 3, 1) := by decide +kernel
theorem dX9_tableOf_49 : decode cX9_tableOf 49 = .ok (.iconst (-1), 1) := by decide +kernel
theorem dX9_tableOf_50 : decode cX9_tableOf 50 = .ok (.if_icmp .eq 19, 3) := by decide +kernel
theorem dX9_tableOf_53 : decode cX9_tableOf 53 = .ok (.aload_n 0, 1) := by decide +kernel
theorem dX9_tableOf_54 : decode cX9_tableOf 54 = .ok (.getfield 53, 3) := by decide +kernel
theorem dX9_tableOf_57 : decode cX9_tableOf 57 = .ok (.iload 4, 2) := by decide +kernel
theorem dX9_tableOf_59 : decode cX9_tableOf 59 = .ok (.iaload, 1) := by decide +kernel
theorem dX9_tableOf_60 : decode cX9_tableOf 60 = .ok (.aload_n 0, 1) := by decide +kernel
theorem dX9_tableOf_61 : decode cX9_tableOf 61 = .ok (.getfield 53, 3) := by decide +kernel
theorem dX9_tableOf_64 : decode cX9_tableOf 64 = .ok (.iload_n 3, 1) := by decide +kernel
theorem dX9_tableOf_65 : decode cX9_tableOf 65 = .ok (.iaload, 1) := by decide +kernel
theorem dX9_tableOf_66 : decode cX9_tableOf 66 = .ok (.if_icmp .lt 8, 3) := by decide +kernel
theorem dX9_tableOf_69 : decode cX9_tableOf 69 = .ok (.iload 4, 2) := by decide +kernel
theorem dX9_tableOf_71 : decode cX9_tableOf 71 = .ok (.goto 4, 3) := by decide +kernel
theorem dX9_tableOf_74 : decode cX9_tableOf 74 = .ok (.iload_n 3, 1) := by decide +kernel
theorem dX9_tableOf_75 : decode cX9_tableOf 75 = .ok (.istore_n 3, 1) := by decide +kernel
theorem dX9_tableOf_76 : decode cX9_tableOf 76 = .ok (.iinc 4 1, 3) := by decide +kernel
theorem dX9_tableOf_79 : decode cX9_tableOf 79 = .ok (.goto (-74), 3) := by decide +kernel
theorem dX9_tableOf_82 : decode cX9_tableOf 82 = .ok (.iload_n 3, 1) := by decide +kernel
theorem dX9_tableOf_83 : decode cX9_tableOf 83 = .ok (.iconst (-1), 1) := by decide +kernel
theorem dX9_tableOf_84 : decode cX9_tableOf 84 = .ok (.if_icmp .ne 7, 3) := by decide +kernel
theorem dX9_tableOf_87 : decode cX9_tableOf 87 = .ok (.iconst 0, 1) := by decide +kernel
theorem dX9_tableOf_88 : decode cX9_tableOf 88 = .ok (.goto 9, 3) := by decide +kernel
theorem dX9_tableOf_91 : decode cX9_tableOf 91 = .ok (.aload_n 0, 1) := by decide +kernel
theorem dX9_tableOf_92 : decode cX9_tableOf 92 = .ok (.getfield 56, 3) := by decide +kernel
theorem dX9_tableOf_95 : decode cX9_tableOf 95 = .ok (.iload_n 3, 1) := by decide +kernel
theorem dX9_tableOf_96 : decode cX9_tableOf 96 = .ok (.iaload, 1) := by decide +kernel
theorem dX9_tableOf_97 : decode cX9_tableOf 97 = .ok (.ireturn, 1) := by decide +kernel
theorem dX9_placeOf_0 : decode cX9_placeOf 0 = .ok (.sipush 7200, 3) := by decide +kernel
theorem dX9_placeOf_3 : decode cX9_placeOf 3 = .ok (.iload_n 0, 1) := by decide +kernel
theorem dX9_placeOf_4 : decode cX9_placeOf 4 = .ok (.iadd, 1) := by decide +kernel
theorem dX9_placeOf_5 : decode cX9_placeOf 5 = .ok (.ireturn, 1) := by decide +kernel
theorem dX9_copiesWindow_0 : decode cX9_copiesWindow 0 = .ok (.aload_n 0, 1) := by decide +kernel
theorem dX9_copiesWindow_1 : decode cX9_copiesWindow 1 = .ok (.getfield 77, 3) := by decide +kernel
theorem dX9_copiesWindow_4 : decode cX9_copiesWindow 4 = .ok (.iload_n 2, 1) := by decide +kernel
theorem dX9_copiesWindow_5 : decode cX9_copiesWindow 5 = .ok (.aload_n 0, 1) := by decide +kernel
theorem dX9_copiesWindow_6 : decode cX9_copiesWindow 6 = .ok (.getfield 77, 3) := by decide +kernel
theorem dX9_copiesWindow_9 : decode cX9_copiesWindow 9 = .ok (.iload_n 1, 1) := by decide +kernel
theorem dX9_copiesWindow_10 : decode cX9_copiesWindow 10 = .ok (.iaload, 1) := by decide +kernel
theorem dX9_copiesWindow_11 : decode cX9_copiesWindow 11 = .ok (.iastore, 1) := by decide +kernel
theorem dX9_copiesWindow_12 : decode cX9_copiesWindow 12 = .ok (.aload_n 0, 1) := by decide +kernel
theorem dX9_copiesWindow_13 : decode cX9_copiesWindow 13 = .ok (.getfield 80, 3) := by decide +kernel
theorem dX9_copiesWindow_16 : decode cX9_copiesWindow 16 = .ok (.iload_n 2, 1) := by decide +kernel
theorem dX9_copiesWindow_17 : decode cX9_copiesWindow 17 = .ok (.aload_n 0, 1) := by decide +kernel
theorem dX9_copiesWindow_18 : decode cX9_copiesWindow 18 = .ok (.getfield 80, 3) := by decide +kernel
theorem dX9_copiesWindow_21 : decode cX9_copiesWindow 21 = .ok (.iload_n 1, 1) := by decide +kernel
theorem dX9_copiesWindow_22 : decode cX9_copiesWindow 22 = .ok (.iaload, 1) := by decide +kernel
theorem dX9_copiesWindow_23 : decode cX9_copiesWindow 23 = .ok (.iastore, 1) := by decide +kernel
theorem dX9_copiesWindow_24 : decode cX9_copiesWindow 24 = .ok (.aload_n 0, 1) := by decide +kernel
theorem dX9_copiesWindow_25 : decode cX9_copiesWindow 25 = .ok (.getfield 83, 3) := by decide +kernel
theorem dX9_copiesWindow_28 : decode cX9_copiesWindow 28 = .ok (.iload_n 2, 1) := by decide +kernel
theorem dX9_copiesWindow_29 : decode cX9_copiesWindow 29 = .ok (.aload_n 0, 1) := by decide +kernel
theorem dX9_copiesWindow_30 : decode cX9_copiesWindow 30 = .ok (.getfield 83, 3) := by decide +kernel
theorem dX9_copiesWindow_33 : decode cX9_copiesWindow 33 = .ok (.iload_n 1, 1) := by decide +kernel
theorem dX9_copiesWindow_34 : decode cX9_copiesWindow 34 = .ok (.iaload, 1) := by decide +kernel
theorem dX9_copiesWindow_35 : decode cX9_copiesWindow 35 = .ok (.iastore, 1) := by decide +kernel
theorem dX9_copiesWindow_36 : decode cX9_copiesWindow 36 = .ok (.aload_n 0, 1) := by decide +kernel
theorem dX9_copiesWindow_37 : decode cX9_copiesWindow 37 = .ok (.getfield 86, 3) := by decide +kernel
theorem dX9_copiesWindow_40 : decode cX9_copiesWindow 40 = .ok (.iload_n 2, 1) := by decide +kernel
theorem dX9_copiesWindow_41 : decode cX9_copiesWindow 41 = .ok (.aload_n 0, 1) := by decide +kernel
theorem dX9_copiesWindow_42 : decode cX9_copiesWindow 42 = .ok (.getfield 86, 3) := by decide +kernel
theorem dX9_copiesWindow_45 : decode cX9_copiesWindow 45 = .ok (.iload_n 1, 1) := by decide +kernel
theorem dX9_copiesWindow_46 : decode cX9_copiesWindow 46 = .ok (.iaload, 1) := by decide +kernel
theorem dX9_copiesWindow_47 : decode cX9_copiesWindow 47 = .ok (.iastore, 1) := by decide +kernel
theorem dX9_copiesWindow_48 : decode cX9_copiesWindow 48 = .ok (.aload_n 0, 1) := by decide +kernel
theorem dX9_copiesWindow_49 : decode cX9_copiesWindow 49 = .ok (.getfield 89, 3) := by decide +kernel
theorem dX9_copiesWindow_52 : decode cX9_copiesWindow 52 = .ok (.iload_n 2, 1) := by decide +kernel
theorem dX9_copiesWindow_53 : decode cX9_copiesWindow 53 = .ok (.aload_n 0, 1) := by decide +kernel
theorem dX9_copiesWindow_54 : decode cX9_copiesWindow 54 = .ok (.getfield 89, 3) := by decide +kernel
theorem dX9_copiesWindow_57 : decode cX9_copiesWindow 57 = .ok (.iload_n 1, 1) := by decide +kernel
theorem dX9_copiesWindow_58 : decode cX9_copiesWindow 58 = .ok (.baload, 1) := by decide +kernel
theorem dX9_copiesWindow_59 : decode cX9_copiesWindow 59 = .ok (.bastore, 1) := by decide +kernel
theorem dX9_copiesWindow_60 : decode cX9_copiesWindow 60 = .ok (.aload_n 0, 1) := by decide +kernel
theorem dX9_copiesWindow_61 : decode cX9_copiesWindow 61 = .ok (.getfield 92, 3) := by decide +kernel
theorem dX9_copiesWindow_64 : decode cX9_copiesWindow 64 = .ok (.iload_n 2, 1) := by decide +kernel
theorem dX9_copiesWindow_65 : decode cX9_copiesWindow 65 = .ok (.aload_n 0, 1) := by decide +kernel
theorem dX9_copiesWindow_66 : decode cX9_copiesWindow 66 = .ok (.getfield 92, 3) := by decide +kernel
theorem dX9_copiesWindow_69 : decode cX9_copiesWindow 69 = .ok (.iload_n 1, 1) := by decide +kernel
theorem dX9_copiesWindow_70 : decode cX9_copiesWindow 70 = .ok (.iaload, 1) := by decide +kernel
theorem dX9_copiesWindow_71 : decode cX9_copiesWindow 71 = .ok (.iastore, 1) := by decide +kernel
theorem dX9_copiesWindow_72 : decode cX9_copiesWindow 72 = .ok (.return_, 1) := by decide +kernel
theorem dX9_windowOf_0 : decode cX9_windowOf 0 = .ok (.iconst (-1), 1) := by decide +kernel
theorem dX9_windowOf_1 : decode cX9_windowOf 1 = .ok (.istore_n 3, 1) := by decide +kernel
theorem dX9_windowOf_2 : decode cX9_windowOf 2 = .ok (.iconst 0, 1) := by decide +kernel
theorem dX9_windowOf_3 : decode cX9_windowOf 3 = .ok (.invokestatic 218, 3) := by decide +kernel
theorem dX9_windowOf_6 : decode cX9_windowOf 6 = .ok (.istore 4, 2) := by decide +kernel
theorem dX9_windowOf_8 : decode cX9_windowOf 8 = .ok (.iload 4, 2) := by decide +kernel
theorem dX9_windowOf_10 : decode cX9_windowOf 10 = .ok (.aload_n 0, 1) := by decide +kernel
theorem dX9_windowOf_11 : decode cX9_windowOf 11 = .ok (.getfield 74, 3) := by decide +kernel
theorem dX9_windowOf_14 : decode cX9_windowOf 14 = .ok (.bipush 6, 2) := by decide +kernel
theorem dX9_windowOf_16 : decode cX9_windowOf 16 = .ok (.iaload, 1) := by decide +kernel
theorem dX9_windowOf_17 : decode cX9_windowOf 17 = .ok (.invokestatic 218, 3) := by decide +kernel
theorem dX9_windowOf_20 : decode cX9_windowOf 20 = .ok (.if_icmp .ge 38, 3) := by decide +kernel
theorem dX9_windowOf_23 : decode cX9_windowOf 23 = .ok (.aload_n 0, 1) := by decide +kernel
theorem dX9_windowOf_24 : decode cX9_windowOf 24 = .ok (.getfield 77, 3) := by decide +kernel
theorem dX9_windowOf_27 : decode cX9_windowOf 27 = .ok (.iload 4, 2) := by decide +kernel
theorem dX9_windowOf_29 : decode cX9_windowOf 29 = .ok (.iaload, 1) := by decide +kernel
theorem dX9_windowOf_30 : decode cX9_windowOf 30 = .ok (.iload_n 1, 1) := by decide +kernel
theorem dX9_windowOf_31 : decode cX9_windowOf 31 = .ok (.if_icmp .ne 19, 3) := by decide +kernel
theorem dX9_windowOf_34 : decode cX9_windowOf 34 = .ok (.aload_n 0, 1) := by decide +kernel
theorem dX9_windowOf_35 : decode cX9_windowOf 35 = .ok (.getfield 80, 3) := by decide +kernel
theorem dX9_windowOf_38 : decode cX9_windowOf 38 = .ok (.iload 4, 2) := by decide +kernel
theorem dX9_windowOf_40 : decode cX9_windowOf 40 = .ok (.iaload, 1) := by decide +kernel
theorem dX9_windowOf_41 : decode cX9_windowOf 41 = .ok (.iload_n 2, 1) := by decide +kernel
theorem dX9_windowOf_42 : decode cX9_windowOf 42 = .ok (.if_icmp .ne 8, 3) := by decide +kernel
theorem dX9_windowOf_45 : decode cX9_windowOf 45 = .ok (.iload 4, 2) := by decide +kernel
theorem dX9_windowOf_47 : decode cX9_windowOf 47 = .ok (.goto 4, 3) := by decide +kernel
theorem dX9_windowOf_50 : decode cX9_windowOf 50 = .ok (.iload_n 3, 1) := by decide +kernel
theorem dX9_windowOf_51 : decode cX9_windowOf 51 = .ok (.istore_n 3, 1) := by decide +kernel
theorem dX9_windowOf_52 : decode cX9_windowOf 52 = .ok (.iinc 4 1, 3) := by decide +kernel
theorem dX9_windowOf_55 : decode cX9_windowOf 55 = .ok (.goto (-47), 3) := by decide +kernel
theorem dX9_windowOf_58 : decode cX9_windowOf 58 = .ok (.iload_n 3, 1) := by decide +kernel
theorem dX9_windowOf_59 : decode cX9_windowOf 59 = .ok (.ireturn, 1) := by decide +kernel
theorem dX9_makes_0 : decode cX9_makes 0 = .ok (.aload_n 0, 1) := by decide +kernel
theorem dX9_makes_1 : decode cX9_makes 1 = .ok (.getfield 74, 3) := by decide +kernel
theorem dX9_makes_4 : decode cX9_makes 4 = .ok (.bipush 6, 2) := by decide +kernel
theorem dX9_makes_6 : decode cX9_makes 6 = .ok (.iaload, 1) := by decide +kernel
theorem dX9_makes_7 : decode cX9_makes 7 = .ok (.invokestatic 218, 3) := by decide +kernel
theorem dX9_makes_10 : decode cX9_makes 10 = .ok (.istore 4, 2) := by decide +kernel
theorem dX9_makes_12 : decode cX9_makes 12 = .ok (.iload 4, 2) := by decide +kernel
theorem dX9_makes_14 : decode cX9_makes 14 = .ok (.iconst 0, 1) := by decide +kernel
theorem dX9_makes_15 : decode cX9_makes 15 = .ok (.invokestatic 218, 3) := by decide +kernel
theorem dX9_makes_18 : decode cX9_makes 18 = .ok (.if_icmp .le 58, 3) := by decide +kernel
theorem dX9_makes_21 : decode cX9_makes 21 = .ok (.aload_n 0, 1) := by decide +kernel
theorem dX9_makes_22 : decode cX9_makes 22 = .ok (.getfield 77, 3) := by decide +kernel
theorem dX9_makes_25 : decode cX9_makes 25 = .ok (.iload 4, 2) := by decide +kernel
theorem dX9_makes_27 : decode cX9_makes 27 = .ok (.iconst 1, 1) := by decide +kernel
theorem dX9_makes_28 : decode cX9_makes 28 = .ok (.isub, 1) := by decide +kernel
theorem dX9_makes_29 : decode cX9_makes 29 = .ok (.iaload, 1) := by decide +kernel
theorem dX9_makes_30 : decode cX9_makes 30 = .ok (.iload_n 1, 1) := by decide +kernel
theorem dX9_makes_31 : decode cX9_makes 31 = .ok (.if_icmp .gt 29, 3) := by decide +kernel
theorem dX9_makes_34 : decode cX9_makes 34 = .ok (.aload_n 0, 1) := by decide +kernel
theorem dX9_makes_35 : decode cX9_makes 35 = .ok (.getfield 77, 3) := by decide +kernel
theorem dX9_makes_38 : decode cX9_makes 38 = .ok (.iload 4, 2) := by decide +kernel
theorem dX9_makes_40 : decode cX9_makes 40 = .ok (.iconst 1, 1) := by decide +kernel
theorem dX9_makes_41 : decode cX9_makes 41 = .ok (.isub, 1) := by decide +kernel
theorem dX9_makes_42 : decode cX9_makes 42 = .ok (.iaload, 1) := by decide +kernel
theorem dX9_makes_43 : decode cX9_makes 43 = .ok (.iload_n 1, 1) := by decide +kernel
theorem dX9_makes_44 : decode cX9_makes 44 = .ok (.if_icmp .ne 32, 3) := by decide +kernel
theorem dX9_makes_47 : decode cX9_makes 47 = .ok (.aload_n 0, 1) := by decide +kernel
theorem dX9_makes_48 : decode cX9_makes 48 = .ok (.getfield 80, 3) := by decide +kernel
theorem dX9_makes_51 : decode cX9_makes 51 = .ok (.iload 4, 2) := by decide +kernel
theorem dX9_makes_53 : decode cX9_makes 53 = .ok (.iconst 1, 1) := by decide +kernel
theorem dX9_makes_54 : decode cX9_makes 54 = .ok (.isub, 1) := by decide +kernel
theorem dX9_makes_55 : decode cX9_makes 55 = .ok (.iaload, 1) := by decide +kernel
theorem dX9_makes_56 : decode cX9_makes 56 = .ok (.iload_n 2, 1) := by decide +kernel
theorem dX9_makes_57 : decode cX9_makes 57 = .ok (.if_icmp .le 19, 3) := by decide +kernel
theorem dX9_makes_60 : decode cX9_makes 60 = .ok (.aload_n 0, 1) := by decide +kernel
theorem dX9_makes_61 : decode cX9_makes 61 = .ok (.iload 4, 2) := by decide +kernel
theorem dX9_makes_63 : decode cX9_makes 63 = .ok (.iconst 1, 1) := by decide +kernel
theorem dX9_makes_64 : decode cX9_makes 64 = .ok (.isub, 1) := by decide +kernel
theorem dX9_makes_65 : decode cX9_makes 65 = .ok (.iload 4, 2) := by decide +kernel
theorem dX9_makes_67 : decode cX9_makes 67 = .ok (.invokevirtual 221, 3) := by decide +kernel
theorem dX9_makes_70 : decode cX9_makes 70 = .ok (.iinc 4 (-1), 3) := by decide +kernel
theorem dX9_makes_73 : decode cX9_makes 73 = .ok (.goto (-61), 3) := by decide +kernel
theorem dX9_makes_76 : decode cX9_makes 76 = .ok (.aload_n 0, 1) := by decide +kernel
theorem dX9_makes_77 : decode cX9_makes 77 = .ok (.getfield 77, 3) := by decide +kernel
theorem dX9_makes_80 : decode cX9_makes 80 = .ok (.iload 4, 2) := by decide +kernel
theorem dX9_makes_82 : decode cX9_makes 82 = .ok (.iload_n 1, 1) := by decide +kernel
theorem dX9_makes_83 : decode cX9_makes 83 = .ok (.iastore, 1) := by decide +kernel
theorem dX9_makes_84 : decode cX9_makes 84 = .ok (.aload_n 0, 1) := by decide +kernel
theorem dX9_makes_85 : decode cX9_makes 85 = .ok (.getfield 80, 3) := by decide +kernel
theorem dX9_makes_88 : decode cX9_makes 88 = .ok (.iload 4, 2) := by decide +kernel
theorem dX9_makes_90 : decode cX9_makes 90 = .ok (.iload_n 2, 1) := by decide +kernel
theorem dX9_makes_91 : decode cX9_makes 91 = .ok (.iastore, 1) := by decide +kernel
theorem dX9_makes_92 : decode cX9_makes 92 = .ok (.aload_n 0, 1) := by decide +kernel
theorem dX9_makes_93 : decode cX9_makes 93 = .ok (.getfield 83, 3) := by decide +kernel
theorem dX9_makes_96 : decode cX9_makes 96 = .ok (.iload 4, 2) := by decide +kernel
theorem dX9_makes_98 : decode cX9_makes 98 = .ok (.iload_n 3, 1) := by decide +kernel
theorem dX9_makes_99 : decode cX9_makes 99 = .ok (.iastore, 1) := by decide +kernel
theorem dX9_makes_100 : decode cX9_makes 100 = .ok (.aload_n 0, 1) := by decide +kernel
theorem dX9_makes_101 : decode cX9_makes 101 = .ok (.getfield 86, 3) := by decide +kernel
theorem dX9_makes_104 : decode cX9_makes 104 = .ok (.iload 4, 2) := by decide +kernel
theorem dX9_makes_106 : decode cX9_makes 106 = .ok (.iconst 0, 1) := by decide +kernel
theorem dX9_makes_107 : decode cX9_makes 107 = .ok (.iastore, 1) := by decide +kernel
theorem dX9_makes_108 : decode cX9_makes 108 = .ok (.aload_n 0, 1) := by decide +kernel
theorem dX9_makes_109 : decode cX9_makes 109 = .ok (.getfield 89, 3) := by decide +kernel
theorem dX9_makes_112 : decode cX9_makes 112 = .ok (.iload 4, 2) := by decide +kernel
theorem dX9_makes_114 : decode cX9_makes 114 = .ok (.iconst 0, 1) := by decide +kernel
theorem dX9_makes_115 : decode cX9_makes 115 = .ok (.bastore, 1) := by decide +kernel
theorem dX9_makes_116 : decode cX9_makes 116 = .ok (.aload_n 0, 1) := by decide +kernel
theorem dX9_makes_117 : decode cX9_makes 117 = .ok (.getfield 92, 3) := by decide +kernel
theorem dX9_makes_120 : decode cX9_makes 120 = .ok (.iload 4, 2) := by decide +kernel
theorem dX9_makes_122 : decode cX9_makes 122 = .ok (.iconst 0, 1) := by decide +kernel
theorem dX9_makes_123 : decode cX9_makes 123 = .ok (.iastore, 1) := by decide +kernel
theorem dX9_makes_124 : decode cX9_makes 124 = .ok (.aload_n 0, 1) := by decide +kernel
theorem dX9_makes_125 : decode cX9_makes 125 = .ok (.getfield 74, 3) := by decide +kernel
theorem dX9_makes_128 : decode cX9_makes 128 = .ok (.bipush 6, 2) := by decide +kernel
theorem dX9_makes_130 : decode cX9_makes 130 = .ok (.dup2, 1) := by decide +kernel
theorem dX9_makes_131 : decode cX9_makes 131 = .ok (.iaload, 1) := by decide +kernel
theorem dX9_makes_132 : decode cX9_makes 132 = .ok (.iconst 1, 1) := by decide +kernel
theorem dX9_makes_133 : decode cX9_makes 133 = .ok (.iadd, 1) := by decide +kernel
theorem dX9_makes_134 : decode cX9_makes 134 = .ok (.iastore, 1) := by decide +kernel
theorem dX9_makes_135 : decode cX9_makes 135 = .ok (.iload 4, 2) := by decide +kernel
theorem dX9_makes_137 : decode cX9_makes 137 = .ok (.ireturn, 1) := by decide +kernel
theorem dX9_drops_0 : decode cX9_drops 0 = .ok (.iload_n 1, 1) := by decide +kernel
theorem dX9_drops_1 : decode cX9_drops 1 = .ok (.istore_n 2, 1) := by decide +kernel
theorem dX9_drops_2 : decode cX9_drops 2 = .ok (.iload_n 2, 1) := by decide +kernel
theorem dX9_drops_3 : decode cX9_drops 3 = .ok (.iconst 1, 1) := by decide +kernel
theorem dX9_drops_4 : decode cX9_drops 4 = .ok (.iadd, 1) := by decide +kernel
theorem dX9_drops_5 : decode cX9_drops 5 = .ok (.aload_n 0, 1) := by decide +kernel
theorem dX9_drops_6 : decode cX9_drops 6 = .ok (.getfield 74, 3) := by decide +kernel
theorem dX9_drops_9 : decode cX9_drops 9 = .ok (.bipush 6, 2) := by decide +kernel
theorem dX9_drops_11 : decode cX9_drops 11 = .ok (.iaload, 1) := by decide +kernel
theorem dX9_drops_12 : decode cX9_drops 12 = .ok (.invokestatic 218, 3) := by decide +kernel
theorem dX9_drops_15 : decode cX9_drops 15 = .ok (.if_icmp .ge 17, 3) := by decide +kernel
theorem dX9_drops_18 : decode cX9_drops 18 = .ok (.aload_n 0, 1) := by decide +kernel
theorem dX9_drops_19 : decode cX9_drops 19 = .ok (.iload_n 2, 1) := by decide +kernel
theorem dX9_drops_20 : decode cX9_drops 20 = .ok (.iconst 1, 1) := by decide +kernel
theorem dX9_drops_21 : decode cX9_drops 21 = .ok (.iadd, 1) := by decide +kernel
theorem dX9_drops_22 : decode cX9_drops 22 = .ok (.iload_n 2, 1) := by decide +kernel
theorem dX9_drops_23 : decode cX9_drops 23 = .ok (.invokevirtual 221, 3) := by decide +kernel
theorem dX9_drops_26 : decode cX9_drops 26 = .ok (.iinc 2 1, 3) := by decide +kernel
theorem dX9_drops_29 : decode cX9_drops 29 = .ok (.goto (-27), 3) := by decide +kernel
theorem dX9_drops_32 : decode cX9_drops 32 = .ok (.aload_n 0, 1) := by decide +kernel
theorem dX9_drops_33 : decode cX9_drops 33 = .ok (.getfield 74, 3) := by decide +kernel
theorem dX9_drops_36 : decode cX9_drops 36 = .ok (.bipush 6, 2) := by decide +kernel
theorem dX9_drops_38 : decode cX9_drops 38 = .ok (.dup2, 1) := by decide +kernel
theorem dX9_drops_39 : decode cX9_drops 39 = .ok (.iaload, 1) := by decide +kernel
theorem dX9_drops_40 : decode cX9_drops 40 = .ok (.iconst 1, 1) := by decide +kernel
theorem dX9_drops_41 : decode cX9_drops 41 = .ok (.isub, 1) := by decide +kernel
theorem dX9_drops_42 : decode cX9_drops 42 = .ok (.iastore, 1) := by decide +kernel
theorem dX9_drops_43 : decode cX9_drops 43 = .ok (.return_, 1) := by decide +kernel
theorem dX9_puts_0 : decode cX9_puts 0 = .ok (.aload_n 0, 1) := by decide +kernel
theorem dX9_puts_1 : decode cX9_puts 1 = .ok (.getfield 71, 3) := by decide +kernel
theorem dX9_puts_4 : decode cX9_puts 4 = .ok (.bipush 6, 2) := by decide +kernel
theorem dX9_puts_6 : decode cX9_puts 6 = .ok (.iaload, 1) := by decide +kernel
theorem dX9_puts_7 : decode cX9_puts 7 = .ok (.istore 4, 2) := by decide +kernel
theorem dX9_puts_9 : decode cX9_puts 9 = .ok (.aload_n 0, 1) := by decide +kernel
theorem dX9_puts_10 : decode cX9_puts 10 = .ok (.getfield 98, 3) := by decide +kernel
theorem dX9_puts_13 : decode cX9_puts 13 = .ok (.iload 4, 2) := by decide +kernel
theorem dX9_puts_15 : decode cX9_puts 15 = .ok (.aload_n 0, 1) := by decide +kernel
theorem dX9_puts_16 : decode cX9_puts 16 = .ok (.getfield 77, 3) := by decide +kernel
theorem dX9_puts_19 : decode cX9_puts 19 = .ok (.iload_n 1, 1) := by decide +kernel
theorem dX9_puts_20 : decode cX9_puts 20 = .ok (.iaload, 1) := by decide +kernel
theorem dX9_puts_21 : decode cX9_puts 21 = .ok (.iastore, 1) := by decide +kernel
theorem dX9_puts_22 : decode cX9_puts 22 = .ok (.aload_n 0, 1) := by decide +kernel
theorem dX9_puts_23 : decode cX9_puts 23 = .ok (.getfield 101, 3) := by decide +kernel
theorem dX9_puts_26 : decode cX9_puts 26 = .ok (.iload 4, 2) := by decide +kernel
theorem dX9_puts_28 : decode cX9_puts 28 = .ok (.aload_n 0, 1) := by decide +kernel
theorem dX9_puts_29 : decode cX9_puts 29 = .ok (.getfield 80, 3) := by decide +kernel
theorem dX9_puts_32 : decode cX9_puts 32 = .ok (.iload_n 1, 1) := by decide +kernel
theorem dX9_puts_33 : decode cX9_puts 33 = .ok (.iaload, 1) := by decide +kernel
theorem dX9_puts_34 : decode cX9_puts 34 = .ok (.iastore, 1) := by decide +kernel
theorem dX9_puts_35 : decode cX9_puts 35 = .ok (.aload_n 0, 1) := by decide +kernel
theorem dX9_puts_36 : decode cX9_puts 36 = .ok (.getfield 104, 3) := by decide +kernel
theorem dX9_puts_39 : decode cX9_puts 39 = .ok (.iload 4, 2) := by decide +kernel
theorem dX9_puts_41 : decode cX9_puts 41 = .ok (.aload_n 0, 1) := by decide +kernel
theorem dX9_puts_42 : decode cX9_puts 42 = .ok (.getfield 83, 3) := by decide +kernel
theorem dX9_puts_45 : decode cX9_puts 45 = .ok (.iload_n 1, 1) := by decide +kernel
theorem dX9_puts_46 : decode cX9_puts 46 = .ok (.iaload, 1) := by decide +kernel
theorem dX9_puts_47 : decode cX9_puts 47 = .ok (.iastore, 1) := by decide +kernel
theorem dX9_puts_48 : decode cX9_puts 48 = .ok (.aload_n 0, 1) := by decide +kernel
theorem dX9_puts_49 : decode cX9_puts 49 = .ok (.getfield 107, 3) := by decide +kernel
theorem dX9_puts_52 : decode cX9_puts 52 = .ok (.iload 4, 2) := by decide +kernel
theorem dX9_puts_54 : decode cX9_puts 54 = .ok (.iload_n 2, 1) := by decide +kernel
theorem dX9_puts_55 : decode cX9_puts 55 = .ok (.iastore, 1) := by decide +kernel
theorem dX9_puts_56 : decode cX9_puts 56 = .ok (.aload_n 0, 1) := by decide +kernel
theorem dX9_puts_57 : decode cX9_puts 57 = .ok (.getfield 110, 3) := by decide +kernel
theorem dX9_puts_60 : decode cX9_puts 60 = .ok (.iload 4, 2) := by decide +kernel
theorem dX9_puts_62 : decode cX9_puts 62 = .ok (.iload_n 3, 1) := by decide +kernel
theorem dX9_puts_63 : decode cX9_puts 63 = .ok (.iastore, 1) := by decide +kernel
theorem dX9_puts_64 : decode cX9_puts 64 = .ok (.aload_n 0, 1) := by decide +kernel
theorem dX9_puts_65 : decode cX9_puts 65 = .ok (.getfield 71, 3) := by decide +kernel
theorem dX9_puts_68 : decode cX9_puts 68 = .ok (.bipush 6, 2) := by decide +kernel
theorem dX9_puts_70 : decode cX9_puts 70 = .ok (.dup2, 1) := by decide +kernel
theorem dX9_puts_71 : decode cX9_puts 71 = .ok (.iaload, 1) := by decide +kernel
theorem dX9_puts_72 : decode cX9_puts 72 = .ok (.iconst 1, 1) := by decide +kernel
theorem dX9_puts_73 : decode cX9_puts 73 = .ok (.iadd, 1) := by decide +kernel
theorem dX9_puts_74 : decode cX9_puts 74 = .ok (.iastore, 1) := by decide +kernel
theorem dX9_puts_75 : decode cX9_puts 75 = .ok (.return_, 1) := by decide +kernel
theorem dX9_tells_0 : decode cX9_tells 0 = .ok (.aload_n 0, 1) := by decide +kernel
theorem dX9_tells_1 : decode cX9_tells 1 = .ok (.getfield 86, 3) := by decide +kernel
theorem dX9_tells_4 : decode cX9_tells 4 = .ok (.iload_n 1, 1) := by decide +kernel
theorem dX9_tells_5 : decode cX9_tells 5 = .ok (.iaload, 1) := by decide +kernel
theorem dX9_tells_6 : decode cX9_tells 6 = .ok (.istore_n 2, 1) := by decide +kernel
theorem dX9_tells_7 : decode cX9_tells 7 = .ok (.aload_n 0, 1) := by decide +kernel
theorem dX9_tells_8 : decode cX9_tells 8 = .ok (.getfield 13, 3) := by decide +kernel
theorem dX9_tells_11 : decode cX9_tells 11 = .ok (.bipush 8, 2) := by decide +kernel
theorem dX9_tells_13 : decode cX9_tells 13 = .ok (.iaload, 1) := by decide +kernel
theorem dX9_tells_14 : decode cX9_tells 14 = .ok (.ifCond .ne 13, 3) := by decide +kernel
theorem dX9_tells_17 : decode cX9_tells 17 = .ok (.aload_n 0, 1) := by decide +kernel
theorem dX9_tells_18 : decode cX9_tells 18 = .ok (.iload_n 1, 1) := by decide +kernel
theorem dX9_tells_19 : decode cX9_tells 19 = .ok (.iload_n 2, 1) := by decide +kernel
theorem dX9_tells_20 : decode cX9_tells 20 = .ok (.iconst 0, 1) := by decide +kernel
theorem dX9_tells_21 : decode cX9_tells 21 = .ok (.invokevirtual 225, 3) := by decide +kernel
theorem dX9_tells_24 : decode cX9_tells 24 = .ok (.goto 72, 3) := by decide +kernel
theorem dX9_tells_27 : decode cX9_tells 27 = .ok (.aload_n 0, 1) := by decide +kernel
theorem dX9_tells_28 : decode cX9_tells 28 = .ok (.getfield 13, 3) := by decide +kernel
theorem dX9_tells_31 : decode cX9_tells 31 = .ok (.bipush 8, 2) := by decide +kernel
theorem dX9_tells_33 : decode cX9_tells 33 = .ok (.iaload, 1) := by decide +kernel
theorem dX9_tells_34 : decode cX9_tells 34 = .ok (.iconst 1, 1) := by decide +kernel
theorem dX9_tells_35 : decode cX9_tells 35 = .ok (.if_icmp .ne 33, 3) := by decide +kernel
theorem dX9_tells_38 : decode cX9_tells 38 = .ok (.aload_n 0, 1) := by decide +kernel
theorem dX9_tells_39 : decode cX9_tells 39 = .ok (.iload_n 1, 1) := by decide +kernel
theorem dX9_tells_40 : decode cX9_tells 40 = .ok (.iload_n 2, 1) := by decide +kernel
theorem dX9_tells_41 : decode cX9_tells 41 = .ok (.aload_n 0, 1) := by decide +kernel
theorem dX9_tells_42 : decode cX9_tells 42 = .ok (.getfield 89, 3) := by decide +kernel
theorem dX9_tells_45 : decode cX9_tells 45 = .ok (.iload_n 1, 1) := by decide +kernel
theorem dX9_tells_46 : decode cX9_tells 46 = .ok (.baload, 1) := by decide +kernel
theorem dX9_tells_47 : decode cX9_tells 47 = .ok (.ifCond .eq 12, 3) := by decide +kernel
theorem dX9_tells_50 : decode cX9_tells 50 = .ok (.aload_n 0, 1) := by decide +kernel
theorem dX9_tells_51 : decode cX9_tells 51 = .ok (.getfield 92, 3) := by decide +kernel
theorem dX9_tells_54 : decode cX9_tells 54 = .ok (.iload_n 1, 1) := by decide +kernel
theorem dX9_tells_55 : decode cX9_tells 55 = .ok (.iaload, 1) := by decide +kernel
theorem dX9_tells_56 : decode cX9_tells 56 = .ok (.goto 4, 3) := by decide +kernel
theorem dX9_tells_59 : decode cX9_tells 59 = .ok (.iconst 0, 1) := by decide +kernel
theorem dX9_tells_60 : decode cX9_tells 60 = .ok (.isub, 1) := by decide +kernel
theorem dX9_tells_61 : decode cX9_tells 61 = .ok (.iconst 1, 1) := by decide +kernel
theorem dX9_tells_62 : decode cX9_tells 62 = .ok (.invokevirtual 225, 3) := by decide +kernel
theorem dX9_tells_65 : decode cX9_tells 65 = .ok (.goto 31, 3) := by decide +kernel
theorem dX9_tells_68 : decode cX9_tells 68 = .ok (.aload_n 0, 1) := by decide +kernel
theorem dX9_tells_69 : decode cX9_tells 69 = .ok (.getfield 89, 3) := by decide +kernel
theorem dX9_tells_72 : decode cX9_tells 72 = .ok (.iload_n 1, 1) := by decide +kernel
theorem dX9_tells_73 : decode cX9_tells 73 = .ok (.baload, 1) := by decide +kernel
theorem dX9_tells_74 : decode cX9_tells 74 = .ok (.ifCond .eq 15, 3) := by decide +kernel
theorem dX9_tells_77 : decode cX9_tells 77 = .ok (.aload_n 0, 1) := by decide +kernel
theorem dX9_tells_78 : decode cX9_tells 78 = .ok (.iload_n 1, 1) := by decide +kernel
theorem dX9_tells_79 : decode cX9_tells 79 = .ok (.aload_n 0, 1) := by decide +kernel
theorem dX9_tells_80 : decode cX9_tells 80 = .ok (.getfield 92, 3) := by decide +kernel
theorem dX9_tells_83 : decode cX9_tells 83 = .ok (.iload_n 1, 1) := by decide +kernel
theorem dX9_tells_84 : decode cX9_tells 84 = .ok (.iaload, 1) := by decide +kernel
theorem dX9_tells_85 : decode cX9_tells 85 = .ok (.iconst 2, 1) := by decide +kernel
theorem dX9_tells_86 : decode cX9_tells 86 = .ok (.invokevirtual 225, 3) := by decide +kernel
theorem dX9_tells_89 : decode cX9_tells 89 = .ok (.aload_n 0, 1) := by decide +kernel
theorem dX9_tells_90 : decode cX9_tells 90 = .ok (.iload_n 1, 1) := by decide +kernel
theorem dX9_tells_91 : decode cX9_tells 91 = .ok (.iload_n 2, 1) := by decide +kernel
theorem dX9_tells_92 : decode cX9_tells 92 = .ok (.iconst 1, 1) := by decide +kernel
theorem dX9_tells_93 : decode cX9_tells 93 = .ok (.invokevirtual 225, 3) := by decide +kernel
theorem dX9_tells_96 : decode cX9_tells 96 = .ok (.aload_n 0, 1) := by decide +kernel
theorem dX9_tells_97 : decode cX9_tells 97 = .ok (.getfield 89, 3) := by decide +kernel
theorem dX9_tells_100 : decode cX9_tells 100 = .ok (.iload_n 1, 1) := by decide +kernel
theorem dX9_tells_101 : decode cX9_tells 101 = .ok (.iconst 1, 1) := by decide +kernel
theorem dX9_tells_102 : decode cX9_tells 102 = .ok (.bastore, 1) := by decide +kernel
theorem dX9_tells_103 : decode cX9_tells 103 = .ok (.aload_n 0, 1) := by decide +kernel
theorem dX9_tells_104 : decode cX9_tells 104 = .ok (.getfield 92, 3) := by decide +kernel
theorem dX9_tells_107 : decode cX9_tells 107 = .ok (.iload_n 1, 1) := by decide +kernel
theorem dX9_tells_108 : decode cX9_tells 108 = .ok (.iload_n 2, 1) := by decide +kernel
theorem dX9_tells_109 : decode cX9_tells 109 = .ok (.iastore, 1) := by decide +kernel
theorem dX9_tells_110 : decode cX9_tells 110 = .ok (.return_, 1) := by decide +kernel
theorem dX9_isOver_0 : decode cX9_isOver 0 = .ok (.iload_n 1, 1) := by decide +kernel
theorem dX9_isOver_1 : decode cX9_isOver 1 = .ok (.aload_n 0, 1) := by decide +kernel
theorem dX9_isOver_2 : decode cX9_isOver 2 = .ok (.getfield 13, 3) := by decide +kernel
theorem dX9_isOver_5 : decode cX9_isOver 5 = .ok (.bipush 7, 2) := by decide +kernel
theorem dX9_isOver_7 : decode cX9_isOver 7 = .ok (.iaload, 1) := by decide +kernel
theorem dX9_isOver_8 : decode cX9_isOver 8 = .ok (.iadd, 1) := by decide +kernel
theorem dX9_isOver_9 : decode cX9_isOver 9 = .ok (.aload_n 0, 1) := by decide +kernel
theorem dX9_isOver_10 : decode cX9_isOver 10 = .ok (.getfield 65, 3) := by decide +kernel
theorem dX9_isOver_13 : decode cX9_isOver 13 = .ok (.bipush 6, 2) := by decide +kernel
theorem dX9_isOver_15 : decode cX9_isOver 15 = .ok (.iaload, 1) := by decide +kernel
theorem dX9_isOver_16 : decode cX9_isOver 16 = .ok (.if_icmp .gt 7, 3) := by decide +kernel
theorem dX9_isOver_19 : decode cX9_isOver 19 = .ok (.iconst 1, 1) := by decide +kernel
theorem dX9_isOver_20 : decode cX9_isOver 20 = .ok (.goto 4, 3) := by decide +kernel
theorem dX9_isOver_23 : decode cX9_isOver 23 = .ok (.iconst 0, 1) := by decide +kernel
theorem dX9_isOver_24 : decode cX9_isOver 24 = .ok (.ireturn, 1) := by decide +kernel
theorem dX9_reckoned_0 : decode cX9_reckoned 0 = .ok (.aload_n 0, 1) := by decide +kernel
theorem dX9_reckoned_1 : decode cX9_reckoned 1 = .ok (.getfield 13, 3) := by decide +kernel
theorem dX9_reckoned_4 : decode cX9_reckoned 4 = .ok (.iconst 0, 1) := by decide +kernel
theorem dX9_reckoned_5 : decode cX9_reckoned 5 = .ok (.iaload, 1) := by decide +kernel
theorem dX9_reckoned_6 : decode cX9_reckoned 6 = .ok (.iconst 2, 1) := by decide +kernel
theorem dX9_reckoned_7 : decode cX9_reckoned 7 = .ok (.if_icmp .ne 16, 3) := by decide +kernel
theorem dX9_reckoned_10 : decode cX9_reckoned 10 = .ok (.iload_n 1, 1) := by decide +kernel
theorem dX9_reckoned_11 : decode cX9_reckoned 11 = .ok (.iload_n 2, 1) := by decide +kernel
theorem dX9_reckoned_12 : decode cX9_reckoned 12 = .ok (.if_icmp .le 7, 3) := by decide +kernel
theorem dX9_reckoned_15 : decode cX9_reckoned 15 = .ok (.iload_n 1, 1) := by decide +kernel
theorem dX9_reckoned_16 : decode cX9_reckoned 16 = .ok (.goto 10, 3) := by decide +kernel
theorem dX9_reckoned_19 : decode cX9_reckoned 19 = .ok (.iload_n 2, 1) := by decide +kernel
theorem dX9_reckoned_20 : decode cX9_reckoned 20 = .ok (.goto 6, 3) := by decide +kernel
theorem dX9_reckoned_23 : decode cX9_reckoned 23 = .ok (.iload_n 1, 1) := by decide +kernel
theorem dX9_reckoned_24 : decode cX9_reckoned 24 = .ok (.iload_n 2, 1) := by decide +kernel
theorem dX9_reckoned_25 : decode cX9_reckoned 25 = .ok (.iadd, 1) := by decide +kernel
theorem dX9_reckoned_26 : decode cX9_reckoned 26 = .ok (.ireturn, 1) := by decide +kernel
theorem dX9_comesInto_0 : decode cX9_comesInto 0 = .ok (.aload_n 0, 1) := by decide +kernel
theorem dX9_comesInto_1 : decode cX9_comesInto 1 = .ok (.getfield 13, 3) := by decide +kernel
theorem dX9_comesInto_4 : decode cX9_comesInto 4 = .ok (.iconst 0, 1) := by decide +kernel
theorem dX9_comesInto_5 : decode cX9_comesInto 5 = .ok (.iaload, 1) := by decide +kernel
theorem dX9_comesInto_6 : decode cX9_comesInto 6 = .ok (.iconst 1, 1) := by decide +kernel
theorem dX9_comesInto_7 : decode cX9_comesInto 7 = .ok (.if_icmp .ne 7, 3) := by decide +kernel
theorem dX9_comesInto_10 : decode cX9_comesInto 10 = .ok (.iconst 1, 1) := by decide +kernel
theorem dX9_comesInto_11 : decode cX9_comesInto 11 = .ok (.goto 4, 3) := by decide +kernel
theorem dX9_comesInto_14 : decode cX9_comesInto 14 = .ok (.iload_n 3, 1) := by decide +kernel
theorem dX9_comesInto_15 : decode cX9_comesInto 15 = .ok (.istore 4, 2) := by decide +kernel
theorem dX9_comesInto_17 : decode cX9_comesInto 17 = .ok (.aload_n 0, 1) := by decide +kernel
theorem dX9_comesInto_18 : decode cX9_comesInto 18 = .ok (.getfield 86, 3) := by decide +kernel
theorem dX9_comesInto_21 : decode cX9_comesInto 21 = .ok (.iload_n 1, 1) := by decide +kernel
theorem dX9_comesInto_22 : decode cX9_comesInto 22 = .ok (.iload_n 2, 1) := by decide +kernel
theorem dX9_comesInto_23 : decode cX9_comesInto 23 = .ok (.ifCond .eq 8, 3) := by decide +kernel
theorem dX9_comesInto_26 : decode cX9_comesInto 26 = .ok (.iload 4, 2) := by decide +kernel
theorem dX9_comesInto_28 : decode cX9_comesInto 28 = .ok (.goto 15, 3) := by decide +kernel
theorem dX9_comesInto_31 : decode cX9_comesInto 31 = .ok (.aload_n 0, 1) := by decide +kernel
theorem dX9_comesInto_32 : decode cX9_comesInto 32 = .ok (.aload_n 0, 1) := by decide +kernel
theorem dX9_comesInto_33 : decode cX9_comesInto 33 = .ok (.getfield 86, 3) := by decide +kernel
theorem dX9_comesInto_36 : decode cX9_comesInto 36 = .ok (.iload_n 1, 1) := by decide +kernel
theorem dX9_comesInto_37 : decode cX9_comesInto 37 = .ok (.iaload, 1) := by decide +kernel
theorem dX9_comesInto_38 : decode cX9_comesInto 38 = .ok (.iload 4, 2) := by decide +kernel
theorem dX9_comesInto_40 : decode cX9_comesInto 40 = .ok (.invokevirtual 229, 3) := by decide +kernel
theorem dX9_comesInto_43 : decode cX9_comesInto 43 = .ok (.iastore, 1) := by decide +kernel
theorem dX9_comesInto_44 : decode cX9_comesInto 44 = .ok (.aload_n 0, 1) := by decide +kernel
theorem dX9_comesInto_45 : decode cX9_comesInto 45 = .ok (.getfield 89, 3) := by decide +kernel
theorem dX9_comesInto_48 : decode cX9_comesInto 48 = .ok (.iload_n 1, 1) := by decide +kernel
theorem dX9_comesInto_49 : decode cX9_comesInto 49 = .ok (.baload, 1) := by decide +kernel
theorem dX9_comesInto_50 : decode cX9_comesInto 50 = .ok (.ifCond .ne 19, 3) := by decide +kernel
theorem dX9_comesInto_53 : decode cX9_comesInto 53 = .ok (.aload_n 0, 1) := by decide +kernel
theorem dX9_comesInto_54 : decode cX9_comesInto 54 = .ok (.getfield 83, 3) := by decide +kernel
theorem dX9_comesInto_57 : decode cX9_comesInto 57 = .ok (.iload_n 1, 1) := by decide +kernel
theorem dX9_comesInto_58 : decode cX9_comesInto 58 = .ok (.iaload, 1) := by decide +kernel
theorem dX9_comesInto_59 : decode cX9_comesInto 59 = .ok (.aload_n 0, 1) := by decide +kernel
theorem dX9_comesInto_60 : decode cX9_comesInto 60 = .ok (.getfield 65, 3) := by decide +kernel
theorem dX9_comesInto_63 : decode cX9_comesInto 63 = .ok (.bipush 6, 2) := by decide +kernel
theorem dX9_comesInto_65 : decode cX9_comesInto 65 = .ok (.iaload, 1) := by decide +kernel
theorem dX9_comesInto_66 : decode cX9_comesInto 66 = .ok (.if_icmp .gt 8, 3) := by decide +kernel
theorem dX9_comesInto_69 : decode cX9_comesInto 69 = .ok (.aload_n 0, 1) := by decide +kernel
theorem dX9_comesInto_70 : decode cX9_comesInto 70 = .ok (.iload_n 1, 1) := by decide +kernel
theorem dX9_comesInto_71 : decode cX9_comesInto 71 = .ok (.invokevirtual 233, 3) := by decide +kernel
theorem dX9_comesInto_74 : decode cX9_comesInto 74 = .ok (.return_, 1) := by decide +kernel
theorem dX9_comesToFixed_0 : decode cX9_comesToFixed 0 = .ok (.iload_n 2, 1) := by decide +kernel
theorem dX9_comesToFixed_1 : decode cX9_comesToFixed 1 = .ok (.aload_n 0, 1) := by decide +kernel
theorem dX9_comesToFixed_2 : decode cX9_comesToFixed 2 = .ok (.getfield 13, 3) := by decide +kernel
theorem dX9_comesToFixed_5 : decode cX9_comesToFixed 5 = .ok (.iconst 5, 1) := by decide +kernel
theorem dX9_comesToFixed_6 : decode cX9_comesToFixed 6 = .ok (.iaload, 1) := by decide +kernel
theorem dX9_comesToFixed_7 : decode cX9_comesToFixed 7 = .ok (.iadd, 1) := by decide +kernel
theorem dX9_comesToFixed_8 : decode cX9_comesToFixed 8 = .ok (.istore 4, 2) := by decide +kernel
theorem dX9_comesToFixed_10 : decode cX9_comesToFixed 10 = .ok (.aload_n 0, 1) := by decide +kernel
theorem dX9_comesToFixed_11 : decode cX9_comesToFixed 11 = .ok (.iload 4, 2) := by decide +kernel
theorem dX9_comesToFixed_13 : decode cX9_comesToFixed 13 = .ok (.invokevirtual 236, 3) := by decide +kernel
theorem dX9_comesToFixed_16 : decode cX9_comesToFixed 16 = .ok (.ifCond .eq 15, 3) := by decide +kernel
theorem dX9_comesToFixed_19 : decode cX9_comesToFixed 19 = .ok (.aload_n 0, 1) := by decide +kernel
theorem dX9_comesToFixed_20 : decode cX9_comesToFixed 20 = .ok (.getfield 68, 3) := by decide +kernel
theorem dX9_comesToFixed_23 : decode cX9_comesToFixed 23 = .ok (.bipush 6, 2) := by decide +kernel
theorem dX9_comesToFixed_25 : decode cX9_comesToFixed 25 = .ok (.dup2, 1) := by decide +kernel
theorem dX9_comesToFixed_26 : decode cX9_comesToFixed 26 = .ok (.iaload, 1) := by decide +kernel
theorem dX9_comesToFixed_27 : decode cX9_comesToFixed 27 = .ok (.iconst 1, 1) := by decide +kernel
theorem dX9_comesToFixed_28 : decode cX9_comesToFixed 28 = .ok (.iadd, 1) := by decide +kernel
theorem dX9_comesToFixed_29 : decode cX9_comesToFixed 29 = .ok (.iastore, 1) := by decide +kernel
theorem dX9_comesToFixed_30 : decode cX9_comesToFixed 30 = .ok (.return_, 1) := by decide +kernel
theorem dX9_comesToFixed_31 : decode cX9_comesToFixed 31 = .ok (.aload_n 0, 1) := by decide +kernel
theorem dX9_comesToFixed_32 : decode cX9_comesToFixed 32 = .ok (.iload_n 1, 1) := by decide +kernel
theorem dX9_comesToFixed_33 : decode cX9_comesToFixed 33 = .ok (.iload_n 2, 1) := by decide +kernel
theorem dX9_comesToFixed_34 : decode cX9_comesToFixed 34 = .ok (.invokevirtual 239, 3) := by decide +kernel
theorem dX9_comesToFixed_37 : decode cX9_comesToFixed 37 = .ok (.istore 5, 2) := by decide +kernel
theorem dX9_comesToFixed_39 : decode cX9_comesToFixed 39 = .ok (.iload 5, 2) := by decide +kernel
theorem dX9_comesToFixed_41 : decode cX9_comesToFixed 41 = .ok (.iconst (-1), 1) := by decide +kernel
theorem dX9_comesToFixed_42 : decode cX9_comesToFixed 42 = .ok (.if_icmp .ne 7, 3) := by decide +kernel
theorem dX9_comesToFixed_45 : decode cX9_comesToFixed 45 = .ok (.iconst 1, 1) := by decide +kernel
theorem dX9_comesToFixed_46 : decode cX9_comesToFixed 46 = .ok (.goto 4, 3) := by decide +kernel
theorem dX9_comesToFixed_49 : decode cX9_comesToFixed 49 = .ok (.iconst 0, 1) := by decide +kernel
theorem dX9_comesToFixed_50 : decode cX9_comesToFixed 50 = .ok (.istore 6, 2) := by decide +kernel
theorem dX9_comesToFixed_52 : decode cX9_comesToFixed 52 = .ok (.aload_n 0, 1) := by decide +kernel
theorem dX9_comesToFixed_53 : decode cX9_comesToFixed 53 = .ok (.iload 6, 2) := by decide +kernel
theorem dX9_comesToFixed_55 : decode cX9_comesToFixed 55 = .ok (.ifCond .eq 14, 3) := by decide +kernel
theorem dX9_comesToFixed_58 : decode cX9_comesToFixed 58 = .ok (.aload_n 0, 1) := by decide +kernel
theorem dX9_comesToFixed_59 : decode cX9_comesToFixed 59 = .ok (.iload_n 1, 1) := by decide +kernel
theorem dX9_comesToFixed_60 : decode cX9_comesToFixed 60 = .ok (.iload_n 2, 1) := by decide +kernel
theorem dX9_comesToFixed_61 : decode cX9_comesToFixed 61 = .ok (.iload 4, 2) := by decide +kernel
theorem dX9_comesToFixed_63 : decode cX9_comesToFixed 63 = .ok (.invokevirtual 242, 3) := by decide +kernel
theorem dX9_comesToFixed_66 : decode cX9_comesToFixed 66 = .ok (.goto 5, 3) := by decide +kernel
theorem dX9_comesToFixed_69 : decode cX9_comesToFixed 69 = .ok (.iload 5, 2) := by decide +kernel
theorem dX9_comesToFixed_71 : decode cX9_comesToFixed 71 = .ok (.iload 6, 2) := by decide +kernel
theorem dX9_comesToFixed_73 : decode cX9_comesToFixed 73 = .ok (.iload_n 3, 1) := by decide +kernel
theorem dX9_comesToFixed_74 : decode cX9_comesToFixed 74 = .ok (.invokevirtual 246, 3) := by decide +kernel
theorem dX9_comesToFixed_77 : decode cX9_comesToFixed 77 = .ok (.return_, 1) := by decide +kernel
theorem dX9_overlaps_0 : decode cX9_overlaps 0 = .ok (.aload_n 0, 1) := by decide +kernel
theorem dX9_overlaps_1 : decode cX9_overlaps 1 = .ok (.getfield 77, 3) := by decide +kernel
theorem dX9_overlaps_4 : decode cX9_overlaps 4 = .ok (.iload_n 1, 1) := by decide +kernel
theorem dX9_overlaps_5 : decode cX9_overlaps 5 = .ok (.iaload, 1) := by decide +kernel
theorem dX9_overlaps_6 : decode cX9_overlaps 6 = .ok (.iload_n 2, 1) := by decide +kernel
theorem dX9_overlaps_7 : decode cX9_overlaps 7 = .ok (.if_icmp .ne 28, 3) := by decide +kernel
theorem dX9_overlaps_10 : decode cX9_overlaps 10 = .ok (.aload_n 0, 1) := by decide +kernel
theorem dX9_overlaps_11 : decode cX9_overlaps 11 = .ok (.getfield 80, 3) := by decide +kernel
theorem dX9_overlaps_14 : decode cX9_overlaps 14 = .ok (.iload_n 1, 1) := by decide +kernel
theorem dX9_overlaps_15 : decode cX9_overlaps 15 = .ok (.iaload, 1) := by decide +kernel
theorem dX9_overlaps_16 : decode cX9_overlaps 16 = .ok (.iload 4, 2) := by decide +kernel
theorem dX9_overlaps_18 : decode cX9_overlaps 18 = .ok (.if_icmp .ge 17, 3) := by decide +kernel
theorem dX9_overlaps_21 : decode cX9_overlaps 21 = .ok (.iload_n 3, 1) := by decide +kernel
theorem dX9_overlaps_22 : decode cX9_overlaps 22 = .ok (.aload_n 0, 1) := by decide +kernel
theorem dX9_overlaps_23 : decode cX9_overlaps 23 = .ok (.getfield 83, 3) := by decide +kernel
theorem dX9_overlaps_26 : decode cX9_overlaps 26 = .ok (.iload_n 1, 1) := by decide +kernel
theorem dX9_overlaps_27 : decode cX9_overlaps 27 = .ok (.iaload, 1) := by decide +kernel
theorem dX9_overlaps_28 : decode cX9_overlaps 28 = .ok (.if_icmp .ge 7, 3) := by decide +kernel
theorem dX9_overlaps_31 : decode cX9_overlaps 31 = .ok (.iconst 1, 1) := by decide +kernel
theorem dX9_overlaps_32 : decode cX9_overlaps 32 = .ok (.goto 4, 3) := by decide +kernel
theorem dX9_overlaps_35 : decode cX9_overlaps 35 = .ok (.iconst 0, 1) := by decide +kernel
theorem dX9_overlaps_36 : decode cX9_overlaps 36 = .ok (.ireturn, 1) := by decide +kernel
theorem dX9_comesToSession_0 : decode cX9_comesToSession 0 = .ok (.iload_n 2, 1) := by decide +kernel
theorem dX9_comesToSession_1 : decode cX9_comesToSession 1 = .ok (.istore 4, 2) := by decide +kernel
theorem dX9_comesToSession_3 : decode cX9_comesToSession 3 = .ok (.iload_n 2, 1) := by decide +kernel
theorem dX9_comesToSession_4 : decode cX9_comesToSession 4 = .ok (.aload_n 0, 1) := by decide +kernel
theorem dX9_comesToSession_5 : decode cX9_comesToSession 5 = .ok (.getfield 13, 3) := by decide +kernel
theorem dX9_comesToSession_8 : decode cX9_comesToSession 8 = .ok (.iconst 5, 1) := by decide +kernel
theorem dX9_comesToSession_9 : decode cX9_comesToSession 9 = .ok (.iaload, 1) := by decide +kernel
theorem dX9_comesToSession_10 : decode cX9_comesToSession 10 = .ok (.iadd, 1) := by decide +kernel
theorem dX9_comesToSession_11 : decode cX9_comesToSession 11 = .ok (.istore 5, 2) := by decide +kernel
theorem dX9_comesToSession_13 : decode cX9_comesToSession 13 = .ok (.iconst 0, 1) := by decide +kernel
theorem dX9_comesToSession_14 : decode cX9_comesToSession 14 = .ok (.istore 6, 2) := by decide +kernel
theorem dX9_comesToSession_16 : decode cX9_comesToSession 16 = .ok (.iconst 0, 1) := by decide +kernel
theorem dX9_comesToSession_17 : decode cX9_comesToSession 17 = .ok (.invokestatic 218, 3) := by decide +kernel
theorem dX9_comesToSession_20 : decode cX9_comesToSession 20 = .ok (.istore 7, 2) := by decide +kernel
theorem dX9_comesToSession_22 : decode cX9_comesToSession 22 = .ok (.iload 7, 2) := by decide +kernel
theorem dX9_comesToSession_24 : decode cX9_comesToSession 24 = .ok (.aload_n 0, 1) := by decide +kernel
theorem dX9_comesToSession_25 : decode cX9_comesToSession 25 = .ok (.getfield 74, 3) := by decide +kernel
theorem dX9_comesToSession_28 : decode cX9_comesToSession 28 = .ok (.bipush 6, 2) := by decide +kernel
theorem dX9_comesToSession_30 : decode cX9_comesToSession 30 = .ok (.iaload, 1) := by decide +kernel
theorem dX9_comesToSession_31 : decode cX9_comesToSession 31 = .ok (.invokestatic 218, 3) := by decide +kernel
theorem dX9_comesToSession_34 : decode cX9_comesToSession 34 = .ok (.if_icmp .ge 38, 3) := by decide +kernel
theorem dX9_comesToSession_37 : decode cX9_comesToSession 37 = .ok (.iload 6, 2) := by decide +kernel
theorem dX9_comesToSession_39 : decode cX9_comesToSession 39 = .ok (.aload_n 0, 1) := by decide +kernel
theorem dX9_comesToSession_40 : decode cX9_comesToSession 40 = .ok (.iload 7, 2) := by decide +kernel
theorem dX9_comesToSession_42 : decode cX9_comesToSession 42 = .ok (.iload_n 1, 1) := by decide +kernel
theorem dX9_comesToSession_43 : decode cX9_comesToSession 43 = .ok (.iload_n 2, 1) := by decide +kernel
theorem dX9_comesToSession_44 : decode cX9_comesToSession 44 = .ok (.iload_n 2, 1) := by decide +kernel
theorem dX9_comesToSession_45 : decode cX9_comesToSession 45 = .ok (.aload_n 0, 1) := by decide +kernel
theorem dX9_comesToSession_46 : decode cX9_comesToSession 46 = .ok (.getfield 13, 3) := by decide +kernel
theorem dX9_comesToSession_49 : decode cX9_comesToSession 49 = .ok (.iconst 5, 1) := by decide +kernel
theorem dX9_comesToSession_50 : decode cX9_comesToSession 50 = .ok (.iaload, 1) := by decide +kernel
theorem dX9_comesToSession_51 : decode cX9_comesToSession 51 = .ok (.iadd, 1) := by decide +kernel
theorem dX9_comesToSession_52 : decode cX9_comesToSession 52 = .ok (.invokevirtual 250, 3) := by decide +kernel
theorem dX9_comesToSession_55 : decode cX9_comesToSession 55 = .ok (.ifCond .eq 7, 3) := by decide +kernel
theorem dX9_comesToSession_58 : decode cX9_comesToSession 58 = .ok (.iconst 1, 1) := by decide +kernel
theorem dX9_comesToSession_59 : decode cX9_comesToSession 59 = .ok (.goto 4, 3) := by decide +kernel
theorem dX9_comesToSession_62 : decode cX9_comesToSession 62 = .ok (.iconst 0, 1) := by decide +kernel
theorem dX9_comesToSession_63 : decode cX9_comesToSession 63 = .ok (.iadd, 1) := by decide +kernel
theorem dX9_comesToSession_64 : decode cX9_comesToSession 64 = .ok (.istore 6, 2) := by decide +kernel
theorem dX9_comesToSession_66 : decode cX9_comesToSession 66 = .ok (.iinc 7 1, 3) := by decide +kernel
theorem dX9_comesToSession_69 : decode cX9_comesToSession 69 = .ok (.goto (-47), 3) := by decide +kernel
theorem dX9_comesToSession_72 : decode cX9_comesToSession 72 = .ok (.iload 6, 2) := by decide +kernel
theorem dX9_comesToSession_74 : decode cX9_comesToSession 74 = .ok (.ifCond .ne 24, 3) := by decide +kernel
theorem dX9_comesToSession_77 : decode cX9_comesToSession 77 = .ok (.aload_n 0, 1) := by decide +kernel
theorem dX9_comesToSession_78 : decode cX9_comesToSession 78 = .ok (.iload 5, 2) := by decide +kernel
theorem dX9_comesToSession_80 : decode cX9_comesToSession 80 = .ok (.invokevirtual 236, 3) := by decide +kernel
theorem dX9_comesToSession_83 : decode cX9_comesToSession 83 = .ok (.ifCond .eq 15, 3) := by decide +kernel
theorem dX9_comesToSession_86 : decode cX9_comesToSession 86 = .ok (.aload_n 0, 1) := by decide +kernel
theorem dX9_comesToSession_87 : decode cX9_comesToSession 87 = .ok (.getfield 68, 3) := by decide +kernel
theorem dX9_comesToSession_90 : decode cX9_comesToSession 90 = .ok (.bipush 6, 2) := by decide +kernel
theorem dX9_comesToSession_92 : decode cX9_comesToSession 92 = .ok (.dup2, 1) := by decide +kernel
theorem dX9_comesToSession_93 : decode cX9_comesToSession 93 = .ok (.iaload, 1) := by decide +kernel
theorem dX9_comesToSession_94 : decode cX9_comesToSession 94 = .ok (.iconst 1, 1) := by decide +kernel
theorem dX9_comesToSession_95 : decode cX9_comesToSession 95 = .ok (.iadd, 1) := by decide +kernel
theorem dX9_comesToSession_96 : decode cX9_comesToSession 96 = .ok (.iastore, 1) := by decide +kernel
theorem dX9_comesToSession_97 : decode cX9_comesToSession 97 = .ok (.return_, 1) := by decide +kernel
theorem dX9_comesToSession_98 : decode cX9_comesToSession 98 = .ok (.iconst 0, 1) := by decide +kernel
theorem dX9_comesToSession_99 : decode cX9_comesToSession 99 = .ok (.invokestatic 218, 3) := by decide +kernel
theorem dX9_comesToSession_102 : decode cX9_comesToSession 102 = .ok (.istore 7, 2) := by decide +kernel
theorem dX9_comesToSession_104 : decode cX9_comesToSession 104 = .ok (.iload 7, 2) := by decide +kernel
theorem dX9_comesToSession_106 : decode cX9_comesToSession 106 = .ok (.aload_n 0, 1) := by decide +kernel
theorem dX9_comesToSession_107 : decode cX9_comesToSession 107 = .ok (.getfield 74, 3) := by decide +kernel
theorem dX9_comesToSession_110 : decode cX9_comesToSession 110 = .ok (.bipush 6, 2) := by decide +kernel
theorem dX9_comesToSession_112 : decode cX9_comesToSession 112 = .ok (.iaload, 1) := by decide +kernel
theorem dX9_comesToSession_113 : decode cX9_comesToSession 113 = .ok (.invokestatic 218, 3) := by decide +kernel
theorem dX9_comesToSession_116 : decode cX9_comesToSession 116 = .ok (.if_icmp .ge 80, 3) := by decide +kernel
theorem dX9_comesToSession_119 : decode cX9_comesToSession 119 = .ok (.aload_n 0, 1) := by decide +kernel
theorem dX9_comesToSession_120 : decode cX9_comesToSession 120 = .ok (.iload 7, 2) := by decide +kernel
theorem dX9_comesToSession_122 : decode cX9_comesToSession 122 = .ok (.iload_n 1, 1) := by decide +kernel
theorem dX9_comesToSession_123 : decode cX9_comesToSession 123 = .ok (.iload_n 2, 1) := by decide +kernel
theorem dX9_comesToSession_124 : decode cX9_comesToSession 124 = .ok (.iload_n 2, 1) := by decide +kernel
theorem dX9_comesToSession_125 : decode cX9_comesToSession 125 = .ok (.aload_n 0, 1) := by decide +kernel
theorem dX9_comesToSession_126 : decode cX9_comesToSession 126 = .ok (.getfield 13, 3) := by decide +kernel
theorem dX9_comesToSession_129 : decode cX9_comesToSession 129 = .ok (.iconst 5, 1) := by decide +kernel
theorem dX9_comesToSession_130 : decode cX9_comesToSession 130 = .ok (.iaload, 1) := by decide +kernel
theorem dX9_comesToSession_131 : decode cX9_comesToSession 131 = .ok (.iadd, 1) := by decide +kernel
theorem dX9_comesToSession_132 : decode cX9_comesToSession 132 = .ok (.invokevirtual 250, 3) := by decide +kernel
theorem dX9_comesToSession_135 : decode cX9_comesToSession 135 = .ok (.ifCond .eq 55, 3) := by decide +kernel
theorem dX9_comesToSession_138 : decode cX9_comesToSession 138 = .ok (.aload_n 0, 1) := by decide +kernel
theorem dX9_comesToSession_139 : decode cX9_comesToSession 139 = .ok (.getfield 80, 3) := by decide +kernel
theorem dX9_comesToSession_142 : decode cX9_comesToSession 142 = .ok (.iload 7, 2) := by decide +kernel
theorem dX9_comesToSession_144 : decode cX9_comesToSession 144 = .ok (.iaload, 1) := by decide +kernel
theorem dX9_comesToSession_145 : decode cX9_comesToSession 145 = .ok (.iload 4, 2) := by decide +kernel
theorem dX9_comesToSession_147 : decode cX9_comesToSession 147 = .ok (.if_icmp .ge 13, 3) := by decide +kernel
theorem dX9_comesToSession_150 : decode cX9_comesToSession 150 = .ok (.aload_n 0, 1) := by decide +kernel
theorem dX9_comesToSession_151 : decode cX9_comesToSession 151 = .ok (.getfield 80, 3) := by decide +kernel
theorem dX9_comesToSession_154 : decode cX9_comesToSession 154 = .ok (.iload 7, 2) := by decide +kernel
theorem dX9_comesToSession_156 : decode cX9_comesToSession 156 = .ok (.iaload, 1) := by decide +kernel
theorem dX9_comesToSession_157 : decode cX9_comesToSession 157 = .ok (.goto 5, 3) := by decide +kernel
theorem dX9_comesToSession_160 : decode cX9_comesToSession 160 = .ok (.iload 4, 2) := by decide +kernel
theorem dX9_comesToSession_162 : decode cX9_comesToSession 162 = .ok (.istore 4, 2) := by decide +kernel
theorem dX9_comesToSession_164 : decode cX9_comesToSession 164 = .ok (.aload_n 0, 1) := by decide +kernel
theorem dX9_comesToSession_165 : decode cX9_comesToSession 165 = .ok (.getfield 83, 3) := by decide +kernel
theorem dX9_comesToSession_168 : decode cX9_comesToSession 168 = .ok (.iload 7, 2) := by decide +kernel
theorem dX9_comesToSession_170 : decode cX9_comesToSession 170 = .ok (.iaload, 1) := by decide +kernel
theorem dX9_comesToSession_171 : decode cX9_comesToSession 171 = .ok (.iload 5, 2) := by decide +kernel
theorem dX9_comesToSession_173 : decode cX9_comesToSession 173 = .ok (.if_icmp .le 13, 3) := by decide +kernel
theorem dX9_comesToSession_176 : decode cX9_comesToSession 176 = .ok (.aload_n 0, 1) := by decide +kernel
theorem dX9_comesToSession_177 : decode cX9_comesToSession 177 = .ok (.getfield 83, 3) := by decide +kernel
theorem dX9_comesToSession_180 : decode cX9_comesToSession 180 = .ok (.iload 7, 2) := by decide +kernel
theorem dX9_comesToSession_182 : decode cX9_comesToSession 182 = .ok (.iaload, 1) := by decide +kernel
theorem dX9_comesToSession_183 : decode cX9_comesToSession 183 = .ok (.goto 5, 3) := by decide +kernel
theorem dX9_comesToSession_186 : decode cX9_comesToSession 186 = .ok (.iload 5, 2) := by decide +kernel
theorem dX9_comesToSession_188 : decode cX9_comesToSession 188 = .ok (.istore 5, 2) := by decide +kernel
theorem dX9_comesToSession_190 : decode cX9_comesToSession 190 = .ok (.iinc 7 1, 3) := by decide +kernel
theorem dX9_comesToSession_193 : decode cX9_comesToSession 193 = .ok (.goto (-89), 3) := by decide +kernel
theorem dX9_comesToSession_196 : decode cX9_comesToSession 196 = .ok (.iload 6, 2) := by decide +kernel
theorem dX9_comesToSession_198 : decode cX9_comesToSession 198 = .ok (.iconst 1, 1) := by decide +kernel
theorem dX9_comesToSession_199 : decode cX9_comesToSession 199 = .ok (.if_icmp .ne 45, 3) := by decide +kernel
theorem dX9_comesToSession_202 : decode cX9_comesToSession 202 = .ok (.aload_n 0, 1) := by decide +kernel
theorem dX9_comesToSession_203 : decode cX9_comesToSession 203 = .ok (.iload_n 1, 1) := by decide +kernel
theorem dX9_comesToSession_204 : decode cX9_comesToSession 204 = .ok (.iload 4, 2) := by decide +kernel
theorem dX9_comesToSession_206 : decode cX9_comesToSession 206 = .ok (.invokevirtual 239, 3) := by decide +kernel
theorem dX9_comesToSession_209 : decode cX9_comesToSession 209 = .ok (.iconst (-1), 1) := by decide +kernel
theorem dX9_comesToSession_210 : decode cX9_comesToSession 210 = .ok (.if_icmp .eq 34, 3) := by decide +kernel
theorem dX9_comesToSession_213 : decode cX9_comesToSession 213 = .ok (.aload_n 0, 1) := by decide +kernel
theorem dX9_comesToSession_214 : decode cX9_comesToSession 214 = .ok (.getfield 83, 3) := by decide +kernel
theorem dX9_comesToSession_217 : decode cX9_comesToSession 217 = .ok (.aload_n 0, 1) := by decide +kernel
theorem dX9_comesToSession_218 : decode cX9_comesToSession 218 = .ok (.iload_n 1, 1) := by decide +kernel
theorem dX9_comesToSession_219 : decode cX9_comesToSession 219 = .ok (.iload 4, 2) := by decide +kernel
theorem dX9_comesToSession_221 : decode cX9_comesToSession 221 = .ok (.invokevirtual 239, 3) := by decide +kernel
theorem dX9_comesToSession_224 : decode cX9_comesToSession 224 = .ok (.iaload, 1) := by decide +kernel
theorem dX9_comesToSession_225 : decode cX9_comesToSession 225 = .ok (.iload 5, 2) := by decide +kernel
theorem dX9_comesToSession_227 : decode cX9_comesToSession 227 = .ok (.if_icmp .ne 17, 3) := by decide +kernel
theorem dX9_comesToSession_230 : decode cX9_comesToSession 230 = .ok (.aload_n 0, 1) := by decide +kernel
theorem dX9_comesToSession_231 : decode cX9_comesToSession 231 = .ok (.aload_n 0, 1) := by decide +kernel
theorem dX9_comesToSession_232 : decode cX9_comesToSession 232 = .ok (.iload_n 1, 1) := by decide +kernel
theorem dX9_comesToSession_233 : decode cX9_comesToSession 233 = .ok (.iload 4, 2) := by decide +kernel
theorem dX9_comesToSession_235 : decode cX9_comesToSession 235 = .ok (.invokevirtual 239, 3) := by decide +kernel
theorem dX9_comesToSession_238 : decode cX9_comesToSession 238 = .ok (.iconst 0, 1) := by decide +kernel
theorem dX9_comesToSession_239 : decode cX9_comesToSession 239 = .ok (.iload_n 3, 1) := by decide +kernel
theorem dX9_comesToSession_240 : decode cX9_comesToSession 240 = .ok (.invokevirtual 246, 3) := by decide +kernel
theorem dX9_comesToSession_243 : decode cX9_comesToSession 243 = .ok (.return_, 1) := by decide +kernel
theorem dX9_comesToSession_244 : decode cX9_comesToSession 244 = .ok (.iconst 0, 1) := by decide +kernel
theorem dX9_comesToSession_245 : decode cX9_comesToSession 245 = .ok (.istore 7, 2) := by decide +kernel
theorem dX9_comesToSession_247 : decode cX9_comesToSession 247 = .ok (.iconst 0, 1) := by decide +kernel
theorem dX9_comesToSession_248 : decode cX9_comesToSession 248 = .ok (.istore 8, 2) := by decide +kernel
theorem dX9_comesToSession_250 : decode cX9_comesToSession 250 = .ok (.iconst 0, 1) := by decide +kernel
theorem dX9_comesToSession_251 : decode cX9_comesToSession 251 = .ok (.invokestatic 218, 3) := by decide +kernel
theorem dX9_comesToSession_254 : decode cX9_comesToSession 254 = .ok (.istore 9, 2) := by decide +kernel
theorem dX9_comesToSession_256 : decode cX9_comesToSession 256 = .ok (.iload 9, 2) := by decide +kernel
theorem dX9_comesToSession_258 : decode cX9_comesToSession 258 = .ok (.aload_n 0, 1) := by decide +kernel
theorem dX9_comesToSession_259 : decode cX9_comesToSession 259 = .ok (.getfield 74, 3) := by decide +kernel
theorem dX9_comesToSession_262 : decode cX9_comesToSession 262 = .ok (.bipush 6, 2) := by decide +kernel
theorem dX9_comesToSession_264 : decode cX9_comesToSession 264 = .ok (.iaload, 1) := by decide +kernel
theorem dX9_comesToSession_265 : decode cX9_comesToSession 265 = .ok (.invokestatic 218, 3) := by decide +kernel
theorem dX9_comesToSession_268 : decode cX9_comesToSession 268 = .ok (.if_icmp .ge 94, 3) := by decide +kernel
theorem dX9_comesToSession_271 : decode cX9_comesToSession 271 = .ok (.aload_n 0, 1) := by decide +kernel
theorem dX9_comesToSession_272 : decode cX9_comesToSession 272 = .ok (.iload 9, 2) := by decide +kernel
theorem dX9_comesToSession_274 : decode cX9_comesToSession 274 = .ok (.iload_n 1, 1) := by decide +kernel
theorem dX9_comesToSession_275 : decode cX9_comesToSession 275 = .ok (.iload_n 2, 1) := by decide +kernel
theorem dX9_comesToSession_276 : decode cX9_comesToSession 276 = .ok (.iload_n 2, 1) := by decide +kernel
theorem dX9_comesToSession_277 : decode cX9_comesToSession 277 = .ok (.aload_n 0, 1) := by decide +kernel
theorem dX9_comesToSession_278 : decode cX9_comesToSession 278 = .ok (.getfield 13, 3) := by decide +kernel
theorem dX9_comesToSession_281 : decode cX9_comesToSession 281 = .ok (.iconst 5, 1) := by decide +kernel
theorem dX9_comesToSession_282 : decode cX9_comesToSession 282 = .ok (.iaload, 1) := by decide +kernel
theorem dX9_comesToSession_283 : decode cX9_comesToSession 283 = .ok (.iadd, 1) := by decide +kernel
theorem dX9_comesToSession_284 : decode cX9_comesToSession 284 = .ok (.invokevirtual 250, 3) := by decide +kernel
theorem dX9_comesToSession_287 : decode cX9_comesToSession 287 = .ok (.ifCond .eq 69, 3) := by decide +kernel
theorem dX9_comesToSession_290 : decode cX9_comesToSession 290 = .ok (.aload_n 0, 1) := by decide +kernel
theorem dX9_comesToSession_291 : decode cX9_comesToSession 291 = .ok (.getfield 89, 3) := by decide +kernel
theorem dX9_comesToSession_294 : decode cX9_comesToSession 294 = .ok (.iload 9, 2) := by decide +kernel
theorem dX9_comesToSession_296 : decode cX9_comesToSession 296 = .ok (.baload, 1) := by decide +kernel
theorem dX9_comesToSession_297 : decode cX9_comesToSession 297 = .ok (.ifCond .eq 17, 3) := by decide +kernel
theorem dX9_comesToSession_300 : decode cX9_comesToSession 300 = .ok (.aload_n 0, 1) := by decide +kernel
theorem dX9_comesToSession_301 : decode cX9_comesToSession 301 = .ok (.iload 9, 2) := by decide +kernel
theorem dX9_comesToSession_303 : decode cX9_comesToSession 303 = .ok (.aload_n 0, 1) := by decide +kernel
theorem dX9_comesToSession_304 : decode cX9_comesToSession 304 = .ok (.getfield 92, 3) := by decide +kernel
theorem dX9_comesToSession_307 : decode cX9_comesToSession 307 = .ok (.iload 9, 2) := by decide +kernel
theorem dX9_comesToSession_309 : decode cX9_comesToSession 309 = .ok (.iaload, 1) := by decide +kernel
theorem dX9_comesToSession_310 : decode cX9_comesToSession 310 = .ok (.iconst 2, 1) := by decide +kernel
theorem dX9_comesToSession_311 : decode cX9_comesToSession 311 = .ok (.invokevirtual 225, 3) := by decide +kernel
theorem dX9_comesToSession_314 : decode cX9_comesToSession 314 = .ok (.iload 8, 2) := by decide +kernel
theorem dX9_comesToSession_316 : decode cX9_comesToSession 316 = .ok (.ifCond .eq 19, 3) := by decide +kernel
theorem dX9_comesToSession_319 : decode cX9_comesToSession 319 = .ok (.aload_n 0, 1) := by decide +kernel
theorem dX9_comesToSession_320 : decode cX9_comesToSession 320 = .ok (.iload 7, 2) := by decide +kernel
theorem dX9_comesToSession_322 : decode cX9_comesToSession 322 = .ok (.aload_n 0, 1) := by decide +kernel
theorem dX9_comesToSession_323 : decode cX9_comesToSession 323 = .ok (.getfield 86, 3) := by decide +kernel
theorem dX9_comesToSession_326 : decode cX9_comesToSession 326 = .ok (.iload 9, 2) := by decide +kernel
theorem dX9_comesToSession_328 : decode cX9_comesToSession 328 = .ok (.iaload, 1) := by decide +kernel
theorem dX9_comesToSession_329 : decode cX9_comesToSession 329 = .ok (.invokevirtual 229, 3) := by decide +kernel
theorem dX9_comesToSession_332 : decode cX9_comesToSession 332 = .ok (.goto 10, 3) := by decide +kernel
theorem dX9_comesToSession_335 : decode cX9_comesToSession 335 = .ok (.aload_n 0, 1) := by decide +kernel
theorem dX9_comesToSession_336 : decode cX9_comesToSession 336 = .ok (.getfield 86, 3) := by decide +kernel
theorem dX9_comesToSession_339 : decode cX9_comesToSession 339 = .ok (.iload 9, 2) := by decide +kernel
theorem dX9_comesToSession_341 : decode cX9_comesToSession 341 = .ok (.iaload, 1) := by decide +kernel
theorem dX9_comesToSession_342 : decode cX9_comesToSession 342 = .ok (.istore 7, 2) := by decide +kernel
theorem dX9_comesToSession_344 : decode cX9_comesToSession 344 = .ok (.iconst 1, 1) := by decide +kernel
theorem dX9_comesToSession_345 : decode cX9_comesToSession 345 = .ok (.istore 8, 2) := by decide +kernel
theorem dX9_comesToSession_347 : decode cX9_comesToSession 347 = .ok (.aload_n 0, 1) := by decide +kernel
theorem dX9_comesToSession_348 : decode cX9_comesToSession 348 = .ok (.iload 9, 2) := by decide +kernel
theorem dX9_comesToSession_350 : decode cX9_comesToSession 350 = .ok (.invokevirtual 254, 3) := by decide +kernel
theorem dX9_comesToSession_353 : decode cX9_comesToSession 353 = .ok (.goto (-97), 3) := by decide +kernel
theorem dX9_comesToSession_356 : decode cX9_comesToSession 356 = .ok (.iinc 9 1, 3) := by decide +kernel
theorem dX9_comesToSession_359 : decode cX9_comesToSession 359 = .ok (.goto (-103), 3) := by decide +kernel
theorem dX9_comesToSession_362 : decode cX9_comesToSession 362 = .ok (.aload_n 0, 1) := by decide +kernel
theorem dX9_comesToSession_363 : decode cX9_comesToSession 363 = .ok (.iload_n 1, 1) := by decide +kernel
theorem dX9_comesToSession_364 : decode cX9_comesToSession 364 = .ok (.iload 4, 2) := by decide +kernel
theorem dX9_comesToSession_366 : decode cX9_comesToSession 366 = .ok (.iload 5, 2) := by decide +kernel
theorem dX9_comesToSession_368 : decode cX9_comesToSession 368 = .ok (.invokevirtual 242, 3) := by decide +kernel
theorem dX9_comesToSession_371 : decode cX9_comesToSession 371 = .ok (.istore 10, 2) := by decide +kernel
theorem dX9_comesToSession_373 : decode cX9_comesToSession 373 = .ok (.aload_n 0, 1) := by decide +kernel
theorem dX9_comesToSession_374 : decode cX9_comesToSession 374 = .ok (.getfield 86, 3) := by decide +kernel
theorem dX9_comesToSession_377 : decode cX9_comesToSession 377 = .ok (.iload 10, 2) := by decide +kernel
theorem dX9_comesToSession_379 : decode cX9_comesToSession 379 = .ok (.iload 7, 2) := by decide +kernel
theorem dX9_comesToSession_381 : decode cX9_comesToSession 381 = .ok (.iastore, 1) := by decide +kernel
theorem dX9_comesToSession_382 : decode cX9_comesToSession 382 = .ok (.aload_n 0, 1) := by decide +kernel
theorem dX9_comesToSession_383 : decode cX9_comesToSession 383 = .ok (.iload 10, 2) := by decide +kernel
theorem dX9_comesToSession_385 : decode cX9_comesToSession 385 = .ok (.iload 8, 2) := by decide +kernel
theorem dX9_comesToSession_387 : decode cX9_comesToSession 387 = .ok (.ifCond .ne 7, 3) := by decide +kernel
theorem dX9_comesToSession_390 : decode cX9_comesToSession 390 = .ok (.iconst 1, 1) := by decide +kernel
theorem dX9_comesToSession_391 : decode cX9_comesToSession 391 = .ok (.goto 4, 3) := by decide +kernel
theorem dX9_comesToSession_394 : decode cX9_comesToSession 394 = .ok (.iconst 0, 1) := by decide +kernel
theorem dX9_comesToSession_395 : decode cX9_comesToSession 395 = .ok (.iload_n 3, 1) := by decide +kernel
theorem dX9_comesToSession_396 : decode cX9_comesToSession 396 = .ok (.invokevirtual 246, 3) := by decide +kernel
theorem dX9_comesToSession_399 : decode cX9_comesToSession 399 = .ok (.return_, 1) := by decide +kernel
theorem dX9_counts_0 : decode cX9_counts 0 = .ok (.aload_n 0, 1) := by decide +kernel
theorem dX9_counts_1 : decode cX9_counts 1 = .ok (.getfield 13, 3) := by decide +kernel
theorem dX9_counts_4 : decode cX9_counts 4 = .ok (.iconst 1, 1) := by decide +kernel
theorem dX9_counts_5 : decode cX9_counts 5 = .ok (.iaload, 1) := by decide +kernel
theorem dX9_counts_6 : decode cX9_counts 6 = .ok (.ifCond .eq 59, 3) := by decide +kernel
theorem dX9_counts_9 : decode cX9_counts 9 = .ok (.aload_n 0, 1) := by decide +kernel
theorem dX9_counts_10 : decode cX9_counts 10 = .ok (.getfield 13, 3) := by decide +kernel
theorem dX9_counts_13 : decode cX9_counts 13 = .ok (.iconst 1, 1) := by decide +kernel
theorem dX9_counts_14 : decode cX9_counts 14 = .ok (.iaload, 1) := by decide +kernel
theorem dX9_counts_15 : decode cX9_counts 15 = .ok (.iconst 1, 1) := by decide +kernel
theorem dX9_counts_16 : decode cX9_counts 16 = .ok (.if_icmp .ne 16, 3) := by decide +kernel
theorem dX9_counts_19 : decode cX9_counts 19 = .ok (.iload_n 1, 1) := by decide +kernel
theorem dX9_counts_20 : decode cX9_counts 20 = .ok (.aload_n 0, 1) := by decide +kernel
theorem dX9_counts_21 : decode cX9_counts 21 = .ok (.getfield 13, 3) := by decide +kernel
theorem dX9_counts_24 : decode cX9_counts 24 = .ok (.iconst 2, 1) := by decide +kernel
theorem dX9_counts_25 : decode cX9_counts 25 = .ok (.iaload, 1) := by decide +kernel
theorem dX9_counts_26 : decode cX9_counts 26 = .ok (.if_icmp .ge 43, 3) := by decide +kernel
theorem dX9_counts_29 : decode cX9_counts 29 = .ok (.goto 36, 3) := by decide +kernel
theorem dX9_counts_32 : decode cX9_counts 32 = .ok (.aload_n 0, 1) := by decide +kernel
theorem dX9_counts_33 : decode cX9_counts 33 = .ok (.getfield 13, 3) := by decide +kernel
theorem dX9_counts_36 : decode cX9_counts 36 = .ok (.iconst 1, 1) := by decide +kernel
theorem dX9_counts_37 : decode cX9_counts 37 = .ok (.iaload, 1) := by decide +kernel
theorem dX9_counts_38 : decode cX9_counts 38 = .ok (.iconst 2, 1) := by decide +kernel
theorem dX9_counts_39 : decode cX9_counts 39 = .ok (.if_icmp .ne 16, 3) := by decide +kernel
theorem dX9_counts_42 : decode cX9_counts 42 = .ok (.iload_n 1, 1) := by decide +kernel
theorem dX9_counts_43 : decode cX9_counts 43 = .ok (.aload_n 0, 1) := by decide +kernel
theorem dX9_counts_44 : decode cX9_counts 44 = .ok (.getfield 13, 3) := by decide +kernel
theorem dX9_counts_47 : decode cX9_counts 47 = .ok (.iconst 2, 1) := by decide +kernel
theorem dX9_counts_48 : decode cX9_counts 48 = .ok (.iaload, 1) := by decide +kernel
theorem dX9_counts_49 : decode cX9_counts 49 = .ok (.if_icmp .ne 20, 3) := by decide +kernel
theorem dX9_counts_52 : decode cX9_counts 52 = .ok (.goto 13, 3) := by decide +kernel
theorem dX9_counts_55 : decode cX9_counts 55 = .ok (.iload_n 1, 1) := by decide +kernel
theorem dX9_counts_56 : decode cX9_counts 56 = .ok (.aload_n 0, 1) := by decide +kernel
theorem dX9_counts_57 : decode cX9_counts 57 = .ok (.getfield 13, 3) := by decide +kernel
theorem dX9_counts_60 : decode cX9_counts 60 = .ok (.iconst 2, 1) := by decide +kernel
theorem dX9_counts_61 : decode cX9_counts 61 = .ok (.iaload, 1) := by decide +kernel
theorem dX9_counts_62 : decode cX9_counts 62 = .ok (.if_icmp .le 7, 3) := by decide +kernel
theorem dX9_counts_65 : decode cX9_counts 65 = .ok (.iconst 1, 1) := by decide +kernel
theorem dX9_counts_66 : decode cX9_counts 66 = .ok (.goto 4, 3) := by decide +kernel
theorem dX9_counts_69 : decode cX9_counts 69 = .ok (.iconst 0, 1) := by decide +kernel
theorem dX9_counts_70 : decode cX9_counts 70 = .ok (.ireturn, 1) := by decide +kernel
theorem dX9_comes_0 : decode cX9_comes 0 = .ok (.aload_n 0, 1) := by decide +kernel
theorem dX9_comes_1 : decode cX9_comes 1 = .ok (.getfield 13, 3) := by decide +kernel
theorem dX9_comes_4 : decode cX9_comes 4 = .ok (.iconst 4, 1) := by decide +kernel
theorem dX9_comes_5 : decode cX9_comes 5 = .ok (.iaload, 1) := by decide +kernel
theorem dX9_comes_6 : decode cX9_comes 6 = .ok (.iconst 2, 1) := by decide +kernel
theorem dX9_comes_7 : decode cX9_comes 7 = .ok (.if_icmp .ne 13, 3) := by decide +kernel
theorem dX9_comes_10 : decode cX9_comes 10 = .ok (.aload_n 0, 1) := by decide +kernel
theorem dX9_comes_11 : decode cX9_comes 11 = .ok (.iload_n 1, 1) := by decide +kernel
theorem dX9_comes_12 : decode cX9_comes 12 = .ok (.iload_n 2, 1) := by decide +kernel
theorem dX9_comes_13 : decode cX9_comes 13 = .ok (.iload_n 3, 1) := by decide +kernel
theorem dX9_comes_14 : decode cX9_comes 14 = .ok (.invokevirtual 257, 3) := by decide +kernel
theorem dX9_comes_17 : decode cX9_comes 17 = .ok (.goto 81, 3) := by decide +kernel
theorem dX9_comes_20 : decode cX9_comes 20 = .ok (.aload_n 0, 1) := by decide +kernel
theorem dX9_comes_21 : decode cX9_comes 21 = .ok (.getfield 13, 3) := by decide +kernel
theorem dX9_comes_24 : decode cX9_comes 24 = .ok (.iconst 4, 1) := by decide +kernel
theorem dX9_comes_25 : decode cX9_comes 25 = .ok (.iaload, 1) := by decide +kernel
theorem dX9_comes_26 : decode cX9_comes 26 = .ok (.ifCond .ne 27, 3) := by decide +kernel
theorem dX9_comes_29 : decode cX9_comes 29 = .ok (.aload_n 0, 1) := by decide +kernel
theorem dX9_comes_30 : decode cX9_comes 30 = .ok (.iload_n 1, 1) := by decide +kernel
theorem dX9_comes_31 : decode cX9_comes 31 = .ok (.iload_n 2, 1) := by decide +kernel
theorem dX9_comes_32 : decode cX9_comes 32 = .ok (.aload_n 0, 1) := by decide +kernel
theorem dX9_comes_33 : decode cX9_comes 33 = .ok (.getfield 13, 3) := by decide +kernel
theorem dX9_comes_36 : decode cX9_comes 36 = .ok (.iconst 5, 1) := by decide +kernel
theorem dX9_comes_37 : decode cX9_comes 37 = .ok (.iaload, 1) := by decide +kernel
theorem dX9_comes_38 : decode cX9_comes 38 = .ok (.idiv, 1) := by decide +kernel
theorem dX9_comes_39 : decode cX9_comes 39 = .ok (.aload_n 0, 1) := by decide +kernel
theorem dX9_comes_40 : decode cX9_comes 40 = .ok (.getfield 13, 3) := by decide +kernel
theorem dX9_comes_43 : decode cX9_comes 43 = .ok (.iconst 5, 1) := by decide +kernel
theorem dX9_comes_44 : decode cX9_comes 44 = .ok (.iaload, 1) := by decide +kernel
theorem dX9_comes_45 : decode cX9_comes 45 = .ok (.imul, 1) := by decide +kernel
theorem dX9_comes_46 : decode cX9_comes 46 = .ok (.iload_n 3, 1) := by decide +kernel
theorem dX9_comes_47 : decode cX9_comes 47 = .ok (.invokevirtual 260, 3) := by decide +kernel
theorem dX9_comes_50 : decode cX9_comes 50 = .ok (.goto 48, 3) := by decide +kernel
theorem dX9_comes_53 : decode cX9_comes 53 = .ok (.iconst 0, 1) := by decide +kernel
theorem dX9_comes_54 : decode cX9_comes 54 = .ok (.istore 4, 2) := by decide +kernel
theorem dX9_comes_56 : decode cX9_comes 56 = .ok (.iload 4, 2) := by decide +kernel
theorem dX9_comes_58 : decode cX9_comes 58 = .ok (.iload_n 2, 1) := by decide +kernel
theorem dX9_comes_59 : decode cX9_comes 59 = .ok (.if_icmp .gt 39, 3) := by decide +kernel
theorem dX9_comes_62 : decode cX9_comes 62 = .ok (.iload_n 2, 1) := by decide +kernel
theorem dX9_comes_63 : decode cX9_comes 63 = .ok (.iload 4, 2) := by decide +kernel
theorem dX9_comes_65 : decode cX9_comes 65 = .ok (.aload_n 0, 1) := by decide +kernel
theorem dX9_comes_66 : decode cX9_comes 66 = .ok (.getfield 13, 3) := by decide +kernel
theorem dX9_comes_69 : decode cX9_comes 69 = .ok (.iconst 5, 1) := by decide +kernel
theorem dX9_comes_70 : decode cX9_comes 70 = .ok (.iaload, 1) := by decide +kernel
theorem dX9_comes_71 : decode cX9_comes 71 = .ok (.iadd, 1) := by decide +kernel
theorem dX9_comes_72 : decode cX9_comes 72 = .ok (.if_icmp .ge 11, 3) := by decide +kernel
theorem dX9_comes_75 : decode cX9_comes 75 = .ok (.aload_n 0, 1) := by decide +kernel
theorem dX9_comes_76 : decode cX9_comes 76 = .ok (.iload_n 1, 1) := by decide +kernel
theorem dX9_comes_77 : decode cX9_comes 77 = .ok (.iload 4, 2) := by decide +kernel
theorem dX9_comes_79 : decode cX9_comes 79 = .ok (.iload_n 3, 1) := by decide +kernel
theorem dX9_comes_80 : decode cX9_comes 80 = .ok (.invokevirtual 260, 3) := by decide +kernel
theorem dX9_comes_83 : decode cX9_comes 83 = .ok (.iload 4, 2) := by decide +kernel
theorem dX9_comes_85 : decode cX9_comes 85 = .ok (.aload_n 0, 1) := by decide +kernel
theorem dX9_comes_86 : decode cX9_comes 86 = .ok (.getfield 13, 3) := by decide +kernel
theorem dX9_comes_89 : decode cX9_comes 89 = .ok (.bipush 6, 2) := by decide +kernel
theorem dX9_comes_91 : decode cX9_comes 91 = .ok (.iaload, 1) := by decide +kernel
theorem dX9_comes_92 : decode cX9_comes 92 = .ok (.iadd, 1) := by decide +kernel
theorem dX9_comes_93 : decode cX9_comes 93 = .ok (.istore 4, 2) := by decide +kernel
theorem dX9_comes_95 : decode cX9_comes 95 = .ok (.goto (-39), 3) := by decide +kernel
theorem dX9_comes_98 : decode cX9_comes 98 = .ok (.return_, 1) := by decide +kernel
theorem dX9_nextToTell_0 : decode cX9_nextToTell 0 = .ok (.iconst (-1), 1) := by decide +kernel
theorem dX9_nextToTell_1 : decode cX9_nextToTell 1 = .ok (.istore_n 1, 1) := by decide +kernel
theorem dX9_nextToTell_2 : decode cX9_nextToTell 2 = .ok (.iconst 0, 1) := by decide +kernel
theorem dX9_nextToTell_3 : decode cX9_nextToTell 3 = .ok (.invokestatic 218, 3) := by decide +kernel
theorem dX9_nextToTell_6 : decode cX9_nextToTell 6 = .ok (.istore_n 2, 1) := by decide +kernel
theorem dX9_nextToTell_7 : decode cX9_nextToTell 7 = .ok (.iload_n 2, 1) := by decide +kernel
theorem dX9_nextToTell_8 : decode cX9_nextToTell 8 = .ok (.aload_n 0, 1) := by decide +kernel
theorem dX9_nextToTell_9 : decode cX9_nextToTell 9 = .ok (.getfield 74, 3) := by decide +kernel
theorem dX9_nextToTell_12 : decode cX9_nextToTell 12 = .ok (.bipush 6, 2) := by decide +kernel
theorem dX9_nextToTell_14 : decode cX9_nextToTell 14 = .ok (.iaload, 1) := by decide +kernel
theorem dX9_nextToTell_15 : decode cX9_nextToTell 15 = .ok (.invokestatic 218, 3) := by decide +kernel
theorem dX9_nextToTell_18 : decode cX9_nextToTell 18 = .ok (.if_icmp .ge 142, 3) := by decide +kernel
theorem dX9_nextToTell_21 : decode cX9_nextToTell 21 = .ok (.aload_n 0, 1) := by decide +kernel
theorem dX9_nextToTell_22 : decode cX9_nextToTell 22 = .ok (.getfield 89, 3) := by decide +kernel
theorem dX9_nextToTell_25 : decode cX9_nextToTell 25 = .ok (.iload_n 2, 1) := by decide +kernel
theorem dX9_nextToTell_26 : decode cX9_nextToTell 26 = .ok (.baload, 1) := by decide +kernel
theorem dX9_nextToTell_27 : decode cX9_nextToTell 27 = .ok (.ifCond .ne 23, 3) := by decide +kernel
theorem dX9_nextToTell_30 : decode cX9_nextToTell 30 = .ok (.aload_n 0, 1) := by decide +kernel
theorem dX9_nextToTell_31 : decode cX9_nextToTell 31 = .ok (.getfield 83, 3) := by decide +kernel
theorem dX9_nextToTell_34 : decode cX9_nextToTell 34 = .ok (.iload_n 2, 1) := by decide +kernel
theorem dX9_nextToTell_35 : decode cX9_nextToTell 35 = .ok (.iaload, 1) := by decide +kernel
theorem dX9_nextToTell_36 : decode cX9_nextToTell 36 = .ok (.aload_n 0, 1) := by decide +kernel
theorem dX9_nextToTell_37 : decode cX9_nextToTell 37 = .ok (.getfield 65, 3) := by decide +kernel
theorem dX9_nextToTell_40 : decode cX9_nextToTell 40 = .ok (.bipush 6, 2) := by decide +kernel
theorem dX9_nextToTell_42 : decode cX9_nextToTell 42 = .ok (.iaload, 1) := by decide +kernel
theorem dX9_nextToTell_43 : decode cX9_nextToTell 43 = .ok (.if_icmp .gt 7, 3) := by decide +kernel
theorem dX9_nextToTell_46 : decode cX9_nextToTell 46 = .ok (.iconst 1, 1) := by decide +kernel
theorem dX9_nextToTell_47 : decode cX9_nextToTell 47 = .ok (.goto 4, 3) := by decide +kernel
theorem dX9_nextToTell_50 : decode cX9_nextToTell 50 = .ok (.iconst 0, 1) := by decide +kernel
theorem dX9_nextToTell_51 : decode cX9_nextToTell 51 = .ok (.istore_n 3, 1) := by decide +kernel
theorem dX9_nextToTell_52 : decode cX9_nextToTell 52 = .ok (.iload_n 1, 1) := by decide +kernel
theorem dX9_nextToTell_53 : decode cX9_nextToTell 53 = .ok (.iconst (-1), 1) := by decide +kernel
theorem dX9_nextToTell_54 : decode cX9_nextToTell 54 = .ok (.if_icmp .eq 78, 3) := by decide +kernel
theorem dX9_nextToTell_57 : decode cX9_nextToTell 57 = .ok (.aload_n 0, 1) := by decide +kernel
theorem dX9_nextToTell_58 : decode cX9_nextToTell 58 = .ok (.getfield 83, 3) := by decide +kernel
theorem dX9_nextToTell_61 : decode cX9_nextToTell 61 = .ok (.iload_n 2, 1) := by decide +kernel
theorem dX9_nextToTell_62 : decode cX9_nextToTell 62 = .ok (.iaload, 1) := by decide +kernel
theorem dX9_nextToTell_63 : decode cX9_nextToTell 63 = .ok (.aload_n 0, 1) := by decide +kernel
theorem dX9_nextToTell_64 : decode cX9_nextToTell 64 = .ok (.getfield 83, 3) := by decide +kernel
theorem dX9_nextToTell_67 : decode cX9_nextToTell 67 = .ok (.iload_n 1, 1) := by decide +kernel
theorem dX9_nextToTell_68 : decode cX9_nextToTell 68 = .ok (.iaload, 1) := by decide +kernel
theorem dX9_nextToTell_69 : decode cX9_nextToTell 69 = .ok (.if_icmp .lt 63, 3) := by decide +kernel
theorem dX9_nextToTell_72 : decode cX9_nextToTell 72 = .ok (.aload_n 0, 1) := by decide +kernel
theorem dX9_nextToTell_73 : decode cX9_nextToTell 73 = .ok (.getfield 83, 3) := by decide +kernel
theorem dX9_nextToTell_76 : decode cX9_nextToTell 76 = .ok (.iload_n 2, 1) := by decide +kernel
theorem dX9_nextToTell_77 : decode cX9_nextToTell 77 = .ok (.iaload, 1) := by decide +kernel
theorem dX9_nextToTell_78 : decode cX9_nextToTell 78 = .ok (.aload_n 0, 1) := by decide +kernel
theorem dX9_nextToTell_79 : decode cX9_nextToTell 79 = .ok (.getfield 83, 3) := by decide +kernel
theorem dX9_nextToTell_82 : decode cX9_nextToTell 82 = .ok (.iload_n 1, 1) := by decide +kernel
theorem dX9_nextToTell_83 : decode cX9_nextToTell 83 = .ok (.iaload, 1) := by decide +kernel
theorem dX9_nextToTell_84 : decode cX9_nextToTell 84 = .ok (.if_icmp .ne 52, 3) := by decide +kernel
theorem dX9_nextToTell_87 : decode cX9_nextToTell 87 = .ok (.aload_n 0, 1) := by decide +kernel
theorem dX9_nextToTell_88 : decode cX9_nextToTell 88 = .ok (.getfield 80, 3) := by decide +kernel
theorem dX9_nextToTell_91 : decode cX9_nextToTell 91 = .ok (.iload_n 2, 1) := by decide +kernel
theorem dX9_nextToTell_92 : decode cX9_nextToTell 92 = .ok (.iaload, 1) := by decide +kernel
theorem dX9_nextToTell_93 : decode cX9_nextToTell 93 = .ok (.aload_n 0, 1) := by decide +kernel
theorem dX9_nextToTell_94 : decode cX9_nextToTell 94 = .ok (.getfield 80, 3) := by decide +kernel
theorem dX9_nextToTell_97 : decode cX9_nextToTell 97 = .ok (.iload_n 1, 1) := by decide +kernel
theorem dX9_nextToTell_98 : decode cX9_nextToTell 98 = .ok (.iaload, 1) := by decide +kernel
theorem dX9_nextToTell_99 : decode cX9_nextToTell 99 = .ok (.if_icmp .lt 33, 3) := by decide +kernel
theorem dX9_nextToTell_102 : decode cX9_nextToTell 102 = .ok (.aload_n 0, 1) := by decide +kernel
theorem dX9_nextToTell_103 : decode cX9_nextToTell 103 = .ok (.getfield 80, 3) := by decide +kernel
theorem dX9_nextToTell_106 : decode cX9_nextToTell 106 = .ok (.iload_n 2, 1) := by decide +kernel
theorem dX9_nextToTell_107 : decode cX9_nextToTell 107 = .ok (.iaload, 1) := by decide +kernel
theorem dX9_nextToTell_108 : decode cX9_nextToTell 108 = .ok (.aload_n 0, 1) := by decide +kernel
theorem dX9_nextToTell_109 : decode cX9_nextToTell 109 = .ok (.getfield 80, 3) := by decide +kernel
theorem dX9_nextToTell_112 : decode cX9_nextToTell 112 = .ok (.iload_n 1, 1) := by decide +kernel
theorem dX9_nextToTell_113 : decode cX9_nextToTell 113 = .ok (.iaload, 1) := by decide +kernel
theorem dX9_nextToTell_114 : decode cX9_nextToTell 114 = .ok (.if_icmp .ne 22, 3) := by decide +kernel
theorem dX9_nextToTell_117 : decode cX9_nextToTell 117 = .ok (.aload_n 0, 1) := by decide +kernel
theorem dX9_nextToTell_118 : decode cX9_nextToTell 118 = .ok (.getfield 77, 3) := by decide +kernel
theorem dX9_nextToTell_121 : decode cX9_nextToTell 121 = .ok (.iload_n 2, 1) := by decide +kernel
theorem dX9_nextToTell_122 : decode cX9_nextToTell 122 = .ok (.iaload, 1) := by decide +kernel
theorem dX9_nextToTell_123 : decode cX9_nextToTell 123 = .ok (.aload_n 0, 1) := by decide +kernel
theorem dX9_nextToTell_124 : decode cX9_nextToTell 124 = .ok (.getfield 77, 3) := by decide +kernel
theorem dX9_nextToTell_127 : decode cX9_nextToTell 127 = .ok (.iload_n 1, 1) := by decide +kernel
theorem dX9_nextToTell_128 : decode cX9_nextToTell 128 = .ok (.iaload, 1) := by decide +kernel
theorem dX9_nextToTell_129 : decode cX9_nextToTell 129 = .ok (.if_icmp .ge 7, 3) := by decide +kernel
theorem dX9_nextToTell_132 : decode cX9_nextToTell 132 = .ok (.iconst 1, 1) := by decide +kernel
theorem dX9_nextToTell_133 : decode cX9_nextToTell 133 = .ok (.goto 4, 3) := by decide +kernel
theorem dX9_nextToTell_136 : decode cX9_nextToTell 136 = .ok (.iconst 0, 1) := by decide +kernel
theorem dX9_nextToTell_137 : decode cX9_nextToTell 137 = .ok (.istore 4, 2) := by decide +kernel
theorem dX9_nextToTell_139 : decode cX9_nextToTell 139 = .ok (.iload_n 3, 1) := by decide +kernel
theorem dX9_nextToTell_140 : decode cX9_nextToTell 140 = .ok (.ifCond .eq 12, 3) := by decide +kernel
theorem dX9_nextToTell_143 : decode cX9_nextToTell 143 = .ok (.iload 4, 2) := by decide +kernel
theorem dX9_nextToTell_145 : decode cX9_nextToTell 145 = .ok (.ifCond .eq 7, 3) := by decide +kernel
theorem dX9_nextToTell_148 : decode cX9_nextToTell 148 = .ok (.iload_n 2, 1) := by decide +kernel
theorem dX9_nextToTell_149 : decode cX9_nextToTell 149 = .ok (.goto 4, 3) := by decide +kernel
theorem dX9_nextToTell_152 : decode cX9_nextToTell 152 = .ok (.iload_n 1, 1) := by decide +kernel
theorem dX9_nextToTell_153 : decode cX9_nextToTell 153 = .ok (.istore_n 1, 1) := by decide +kernel
theorem dX9_nextToTell_154 : decode cX9_nextToTell 154 = .ok (.iinc 2 1, 3) := by decide +kernel
theorem dX9_nextToTell_157 : decode cX9_nextToTell 157 = .ok (.goto (-150), 3) := by decide +kernel
theorem dX9_nextToTell_160 : decode cX9_nextToTell 160 = .ok (.iload_n 1, 1) := by decide +kernel
theorem dX9_nextToTell_161 : decode cX9_nextToTell 161 = .ok (.ireturn, 1) := by decide +kernel
theorem dX9_finds_0 : decode cX9_finds 0 = .ok (.iconst 0, 1) := by decide +kernel
theorem dX9_finds_1 : decode cX9_finds 1 = .ok (.istore_n 1, 1) := by decide +kernel
theorem dX9_finds_2 : decode cX9_finds 2 = .ok (.sipush 999, 3) := by decide +kernel
theorem dX9_finds_5 : decode cX9_finds 5 = .ok (.istore_n 2, 1) := by decide +kernel
theorem dX9_finds_6 : decode cX9_finds 6 = .ok (.iconst 0, 1) := by decide +kernel
theorem dX9_finds_7 : decode cX9_finds 7 = .ok (.istore_n 3, 1) := by decide +kernel
theorem dX9_finds_8 : decode cX9_finds 8 = .ok (.iload_n 3, 1) := by decide +kernel
theorem dX9_finds_9 : decode cX9_finds 9 = .ok (.iconst 3, 1) := by decide +kernel
theorem dX9_finds_10 : decode cX9_finds 10 = .ok (.if_icmp .ge 68, 3) := by decide +kernel
theorem dX9_finds_13 : decode cX9_finds 13 = .ok (.aload_n 0, 1) := by decide +kernel
theorem dX9_finds_14 : decode cX9_finds 14 = .ok (.getfield 47, 3) := by decide +kernel
theorem dX9_finds_17 : decode cX9_finds 17 = .ok (.iload_n 3, 1) := by decide +kernel
theorem dX9_finds_18 : decode cX9_finds 18 = .ok (.baload, 1) := by decide +kernel
theorem dX9_finds_19 : decode cX9_finds 19 = .ok (.ifCond .ne 53, 3) := by decide +kernel
theorem dX9_finds_22 : decode cX9_finds 22 = .ok (.aload_n 0, 1) := by decide +kernel
theorem dX9_finds_23 : decode cX9_finds 23 = .ok (.getfield 59, 3) := by decide +kernel
theorem dX9_finds_26 : decode cX9_finds 26 = .ok (.bipush 18, 2) := by decide +kernel
theorem dX9_finds_28 : decode cX9_finds 28 = .ok (.iload_n 3, 1) := by decide +kernel
theorem dX9_finds_29 : decode cX9_finds 29 = .ok (.iadd, 1) := by decide +kernel
theorem dX9_finds_30 : decode cX9_finds 30 = .ok (.iaload, 1) := by decide +kernel
theorem dX9_finds_31 : decode cX9_finds 31 = .ok (.ifCond .ne 4, 3) := by decide +kernel
theorem dX9_finds_34 : decode cX9_finds 34 = .ok (.return_, 1) := by decide +kernel
theorem dX9_finds_35 : decode cX9_finds 35 = .ok (.aload_n 0, 1) := by decide +kernel
theorem dX9_finds_36 : decode cX9_finds 36 = .ok (.getfield 62, 3) := by decide +kernel
theorem dX9_finds_39 : decode cX9_finds 39 = .ok (.bipush 18, 2) := by decide +kernel
theorem dX9_finds_41 : decode cX9_finds 41 = .ok (.iload_n 3, 1) := by decide +kernel
theorem dX9_finds_42 : decode cX9_finds 42 = .ok (.iadd, 1) := by decide +kernel
theorem dX9_finds_43 : decode cX9_finds 43 = .ok (.iaload, 1) := by decide +kernel
theorem dX9_finds_44 : decode cX9_finds 44 = .ok (.aload_n 0, 1) := by decide +kernel
theorem dX9_finds_45 : decode cX9_finds 45 = .ok (.getfield 44, 3) := by decide +kernel
theorem dX9_finds_48 : decode cX9_finds 48 = .ok (.iload_n 3, 1) := by decide +kernel
theorem dX9_finds_49 : decode cX9_finds 49 = .ok (.iaload, 1) := by decide +kernel
theorem dX9_finds_50 : decode cX9_finds 50 = .ok (.isub, 1) := by decide +kernel
theorem dX9_finds_51 : decode cX9_finds 51 = .ok (.istore 4, 2) := by decide +kernel
theorem dX9_finds_53 : decode cX9_finds 53 = .ok (.iload 4, 2) := by decide +kernel
theorem dX9_finds_55 : decode cX9_finds 55 = .ok (.iload_n 2, 1) := by decide +kernel
theorem dX9_finds_56 : decode cX9_finds 56 = .ok (.if_icmp .lt 7, 3) := by decide +kernel
theorem dX9_finds_59 : decode cX9_finds 59 = .ok (.iload_n 1, 1) := by decide +kernel
theorem dX9_finds_60 : decode cX9_finds 60 = .ok (.ifCond .ne 8, 3) := by decide +kernel
theorem dX9_finds_63 : decode cX9_finds 63 = .ok (.iload 4, 2) := by decide +kernel
theorem dX9_finds_65 : decode cX9_finds 65 = .ok (.goto 4, 3) := by decide +kernel
theorem dX9_finds_68 : decode cX9_finds 68 = .ok (.iload_n 2, 1) := by decide +kernel
theorem dX9_finds_69 : decode cX9_finds 69 = .ok (.istore_n 2, 1) := by decide +kernel
theorem dX9_finds_70 : decode cX9_finds 70 = .ok (.iconst 1, 1) := by decide +kernel
theorem dX9_finds_71 : decode cX9_finds 71 = .ok (.istore_n 1, 1) := by decide +kernel
theorem dX9_finds_72 : decode cX9_finds 72 = .ok (.iinc 3 1, 3) := by decide +kernel
theorem dX9_finds_75 : decode cX9_finds 75 = .ok (.goto (-67), 3) := by decide +kernel
theorem dX9_finds_78 : decode cX9_finds 78 = .ok (.iload_n 1, 1) := by decide +kernel
theorem dX9_finds_79 : decode cX9_finds 79 = .ok (.ifCond .eq 14, 3) := by decide +kernel
theorem dX9_finds_82 : decode cX9_finds 82 = .ok (.iload_n 2, 1) := by decide +kernel
theorem dX9_finds_83 : decode cX9_finds 83 = .ok (.aload_n 0, 1) := by decide +kernel
theorem dX9_finds_84 : decode cX9_finds 84 = .ok (.getfield 65, 3) := by decide +kernel
theorem dX9_finds_87 : decode cX9_finds 87 = .ok (.bipush 6, 2) := by decide +kernel
theorem dX9_finds_89 : decode cX9_finds 89 = .ok (.iaload, 1) := by decide +kernel
theorem dX9_finds_90 : decode cX9_finds 90 = .ok (.if_icmp .gt 4, 3) := by decide +kernel
theorem dX9_finds_93 : decode cX9_finds 93 = .ok (.return_, 1) := by decide +kernel
theorem dX9_finds_94 : decode cX9_finds 94 = .ok (.aload_n 0, 1) := by decide +kernel
theorem dX9_finds_95 : decode cX9_finds 95 = .ok (.getfield 65, 3) := by decide +kernel
theorem dX9_finds_98 : decode cX9_finds 98 = .ok (.bipush 6, 2) := by decide +kernel
theorem dX9_finds_100 : decode cX9_finds 100 = .ok (.iload_n 2, 1) := by decide +kernel
theorem dX9_finds_101 : decode cX9_finds 101 = .ok (.iastore, 1) := by decide +kernel
theorem dX9_finds_102 : decode cX9_finds 102 = .ok (.aload_n 0, 1) := by decide +kernel
theorem dX9_finds_103 : decode cX9_finds 103 = .ok (.invokevirtual 263, 3) := by decide +kernel
theorem dX9_finds_106 : decode cX9_finds 106 = .ok (.istore_n 3, 1) := by decide +kernel
theorem dX9_finds_107 : decode cX9_finds 107 = .ok (.iload_n 3, 1) := by decide +kernel
theorem dX9_finds_108 : decode cX9_finds 108 = .ok (.iconst (-1), 1) := by decide +kernel
theorem dX9_finds_109 : decode cX9_finds 109 = .ok (.if_icmp .eq 16, 3) := by decide +kernel
theorem dX9_finds_112 : decode cX9_finds 112 = .ok (.aload_n 0, 1) := by decide +kernel
theorem dX9_finds_113 : decode cX9_finds 113 = .ok (.iload_n 3, 1) := by decide +kernel
theorem dX9_finds_114 : decode cX9_finds 114 = .ok (.invokevirtual 233, 3) := by decide +kernel
theorem dX9_finds_117 : decode cX9_finds 117 = .ok (.aload_n 0, 1) := by decide +kernel
theorem dX9_finds_118 : decode cX9_finds 118 = .ok (.invokevirtual 263, 3) := by decide +kernel
theorem dX9_finds_121 : decode cX9_finds 121 = .ok (.istore_n 3, 1) := by decide +kernel
theorem dX9_finds_122 : decode cX9_finds 122 = .ok (.goto (-15), 3) := by decide +kernel
theorem dX9_finds_125 : decode cX9_finds 125 = .ok (.aload_n 0, 1) := by decide +kernel
theorem dX9_finds_126 : decode cX9_finds 126 = .ok (.getfield 74, 3) := by decide +kernel
theorem dX9_finds_129 : decode cX9_finds 129 = .ok (.bipush 6, 2) := by decide +kernel
theorem dX9_finds_131 : decode cX9_finds 131 = .ok (.iaload, 1) := by decide +kernel
theorem dX9_finds_132 : decode cX9_finds 132 = .ok (.invokestatic 218, 3) := by decide +kernel
theorem dX9_finds_135 : decode cX9_finds 135 = .ok (.iconst 1, 1) := by decide +kernel
theorem dX9_finds_136 : decode cX9_finds 136 = .ok (.isub, 1) := by decide +kernel
theorem dX9_finds_137 : decode cX9_finds 137 = .ok (.istore 4, 2) := by decide +kernel
theorem dX9_finds_139 : decode cX9_finds 139 = .ok (.iload 4, 2) := by decide +kernel
theorem dX9_finds_141 : decode cX9_finds 141 = .ok (.iconst 0, 1) := by decide +kernel
theorem dX9_finds_142 : decode cX9_finds 142 = .ok (.invokestatic 218, 3) := by decide +kernel
theorem dX9_finds_145 : decode cX9_finds 145 = .ok (.if_icmp .lt 29, 3) := by decide +kernel
theorem dX9_finds_148 : decode cX9_finds 148 = .ok (.aload_n 0, 1) := by decide +kernel
theorem dX9_finds_149 : decode cX9_finds 149 = .ok (.aload_n 0, 1) := by decide +kernel
theorem dX9_finds_150 : decode cX9_finds 150 = .ok (.getfield 83, 3) := by decide +kernel
theorem dX9_finds_153 : decode cX9_finds 153 = .ok (.iload 4, 2) := by decide +kernel
theorem dX9_finds_155 : decode cX9_finds 155 = .ok (.iaload, 1) := by decide +kernel
theorem dX9_finds_156 : decode cX9_finds 156 = .ok (.invokevirtual 236, 3) := by decide +kernel
theorem dX9_finds_159 : decode cX9_finds 159 = .ok (.ifCond .eq 9, 3) := by decide +kernel
theorem dX9_finds_162 : decode cX9_finds 162 = .ok (.aload_n 0, 1) := by decide +kernel
theorem dX9_finds_163 : decode cX9_finds 163 = .ok (.iload 4, 2) := by decide +kernel
theorem dX9_finds_165 : decode cX9_finds 165 = .ok (.invokevirtual 254, 3) := by decide +kernel
theorem dX9_finds_168 : decode cX9_finds 168 = .ok (.iinc 4 (-1), 3) := by decide +kernel
theorem dX9_finds_171 : decode cX9_finds 171 = .ok (.goto (-32), 3) := by decide +kernel
theorem dX9_finds_174 : decode cX9_finds 174 = .ok (.return_, 1) := by decide +kernel
theorem dX9_open_0 : decode cX9_open 0 = .ok (.aload_n 0, 1) := by decide +kernel
theorem dX9_open_1 : decode cX9_open 1 = .ok (.getfield 71, 3) := by decide +kernel
theorem dX9_open_4 : decode cX9_open 4 = .ok (.bipush 6, 2) := by decide +kernel
theorem dX9_open_6 : decode cX9_open 6 = .ok (.iaload, 1) := by decide +kernel
theorem dX9_open_7 : decode cX9_open 7 = .ok (.aload_n 0, 1) := by decide +kernel
theorem dX9_open_8 : decode cX9_open 8 = .ok (.getfield 197, 3) := by decide +kernel
theorem dX9_open_11 : decode cX9_open 11 = .ok (.ifCond .le 17, 3) := by decide +kernel
theorem dX9_open_14 : decode cX9_open 14 = .ok (.aload_n 0, 1) := by decide +kernel
theorem dX9_open_15 : decode cX9_open 15 = .ok (.getfield 71, 3) := by decide +kernel
theorem dX9_open_18 : decode cX9_open 18 = .ok (.aload_n 0, 1) := by decide +kernel
theorem dX9_open_19 : decode cX9_open 19 = .ok (.getfield 197, 3) := by decide +kernel
theorem dX9_open_22 : decode cX9_open 22 = .ok (.iconst 1, 1) := by decide +kernel
theorem dX9_open_23 : decode cX9_open 23 = .ok (.isub, 1) := by decide +kernel
theorem dX9_open_24 : decode cX9_open 24 = .ok (.iaload, 1) := by decide +kernel
theorem dX9_open_25 : decode cX9_open 25 = .ok (.goto 9, 3) := by decide +kernel
theorem dX9_open_28 : decode cX9_open 28 = .ok (.aload_n 0, 1) := by decide +kernel
theorem dX9_open_29 : decode cX9_open 29 = .ok (.getfield 71, 3) := by decide +kernel
theorem dX9_open_32 : decode cX9_open 32 = .ok (.iconst 5, 1) := by decide +kernel
theorem dX9_open_33 : decode cX9_open 33 = .ok (.iaload, 1) := by decide +kernel
theorem dX9_open_34 : decode cX9_open 34 = .ok (.isub, 1) := by decide +kernel
theorem dX9_open_35 : decode cX9_open 35 = .ok (.ireturn, 1) := by decide +kernel
theorem dX9_step_0 : decode cX9_step 0 = .ok (.iload_n 1, 1) := by decide +kernel
theorem dX9_step_1 : decode cX9_step 1 = .ok (.invokestatic 203, 3) := by decide +kernel
theorem dX9_step_4 : decode cX9_step 4 = .ok (.istore_n 2, 1) := by decide +kernel
theorem dX9_step_5 : decode cX9_step 5 = .ok (.iload_n 2, 1) := by decide +kernel
theorem dX9_step_6 : decode cX9_step 6 = .ok (.ifCond .eq 15, 3) := by decide +kernel
theorem dX9_step_9 : decode cX9_step 9 = .ok (.aload_n 0, 1) := by decide +kernel
theorem dX9_step_10 : decode cX9_step 10 = .ok (.getfield 59, 3) := by decide +kernel
theorem dX9_step_13 : decode cX9_step 13 = .ok (.bipush 18, 2) := by decide +kernel
theorem dX9_step_15 : decode cX9_step 15 = .ok (.iload_n 1, 1) := by decide +kernel
theorem dX9_step_16 : decode cX9_step 16 = .ok (.iadd, 1) := by decide +kernel
theorem dX9_step_17 : decode cX9_step 17 = .ok (.iaload, 1) := by decide +kernel
theorem dX9_step_18 : decode cX9_step 18 = .ok (.goto 4, 3) := by decide +kernel
theorem dX9_step_21 : decode cX9_step 21 = .ok (.iconst 0, 1) := by decide +kernel
theorem dX9_step_22 : decode cX9_step 22 = .ok (.istore_n 3, 1) := by decide +kernel
theorem dX9_step_23 : decode cX9_step 23 = .ok (.aload_n 0, 1) := by decide +kernel
theorem dX9_step_24 : decode cX9_step 24 = .ok (.iload_n 2, 1) := by decide +kernel
theorem dX9_step_25 : decode cX9_step 25 = .ok (.ifCond .ne 7, 3) := by decide +kernel
theorem dX9_step_28 : decode cX9_step 28 = .ok (.iconst 1, 1) := by decide +kernel
theorem dX9_step_29 : decode cX9_step 29 = .ok (.goto 38, 3) := by decide +kernel
theorem dX9_step_32 : decode cX9_step 32 = .ok (.aload_n 0, 1) := by decide +kernel
theorem dX9_step_33 : decode cX9_step 33 = .ok (.getfield 187, 3) := by decide +kernel
theorem dX9_step_36 : decode cX9_step 36 = .ok (.ifCond .eq 12, 3) := by decide +kernel
theorem dX9_step_39 : decode cX9_step 39 = .ok (.aload_n 0, 1) := by decide +kernel
theorem dX9_step_40 : decode cX9_step 40 = .ok (.invokevirtual 266, 3) := by decide +kernel
theorem dX9_step_43 : decode cX9_step 43 = .ok (.bipush 30, 2) := by decide +kernel
theorem dX9_step_45 : decode cX9_step 45 = .ok (.if_icmp .lt 7, 3) := by decide +kernel
theorem dX9_step_48 : decode cX9_step 48 = .ok (.iconst 2, 1) := by decide +kernel
theorem dX9_step_49 : decode cX9_step 49 = .ok (.goto 18, 3) := by decide +kernel
theorem dX9_step_52 : decode cX9_step 52 = .ok (.iload_n 3, 1) := by decide +kernel
theorem dX9_step_53 : decode cX9_step 53 = .ok (.aload_n 0, 1) := by decide +kernel
theorem dX9_step_54 : decode cX9_step 54 = .ok (.getfield 19, 3) := by decide +kernel
theorem dX9_step_57 : decode cX9_step 57 = .ok (.iload_n 1, 1) := by decide +kernel
theorem dX9_step_58 : decode cX9_step 58 = .ok (.iaload, 1) := by decide +kernel
theorem dX9_step_59 : decode cX9_step 59 = .ok (.if_icmp .ne 7, 3) := by decide +kernel
theorem dX9_step_62 : decode cX9_step 62 = .ok (.iconst 3, 1) := by decide +kernel
theorem dX9_step_63 : decode cX9_step 63 = .ok (.goto 4, 3) := by decide +kernel
theorem dX9_step_66 : decode cX9_step 66 = .ok (.iconst 0, 1) := by decide +kernel
theorem dX9_step_67 : decode cX9_step 67 = .ok (.invokevirtual 131, 3) := by decide +kernel
theorem dX9_step_70 : decode cX9_step 70 = .ok (.ifCond .ne 5, 3) := by decide +kernel
theorem dX9_step_73 : decode cX9_step 73 = .ok (.iconst 0, 1) := by decide +kernel
theorem dX9_step_74 : decode cX9_step 74 = .ok (.ireturn, 1) := by decide +kernel
theorem dX9_step_75 : decode cX9_step 75 = .ok (.aload_n 0, 1) := by decide +kernel
theorem dX9_step_76 : decode cX9_step 76 = .ok (.getfield 71, 3) := by decide +kernel
theorem dX9_step_79 : decode cX9_step 79 = .ok (.bipush 6, 2) := by decide +kernel
theorem dX9_step_81 : decode cX9_step 81 = .ok (.iaload, 1) := by decide +kernel
theorem dX9_step_82 : decode cX9_step 82 = .ok (.istore 4, 2) := by decide +kernel
theorem dX9_step_84 : decode cX9_step 84 = .ok (.sipush 300, 3) := by decide +kernel
theorem dX9_step_87 : decode cX9_step 87 = .ok (.iload_n 1, 1) := by decide +kernel
theorem dX9_step_88 : decode cX9_step 88 = .ok (.imul, 1) := by decide +kernel
theorem dX9_step_89 : decode cX9_step 89 = .ok (.iload_n 3, 1) := by decide +kernel
theorem dX9_step_90 : decode cX9_step 90 = .ok (.iadd, 1) := by decide +kernel
theorem dX9_step_91 : decode cX9_step 91 = .ok (.istore 5, 2) := by decide +kernel
theorem dX9_step_93 : decode cX9_step 93 = .ok (.aload_n 0, 1) := by decide +kernel
theorem dX9_step_94 : decode cX9_step 94 = .ok (.getfield 25, 3) := by decide +kernel
theorem dX9_step_97 : decode cX9_step 97 = .ok (.iload 5, 2) := by decide +kernel
theorem dX9_step_99 : decode cX9_step 99 = .ok (.iaload, 1) := by decide +kernel
theorem dX9_step_100 : decode cX9_step 100 = .ok (.istore 6, 2) := by decide +kernel
theorem dX9_step_102 : decode cX9_step 102 = .ok (.aload_n 0, 1) := by decide +kernel
theorem dX9_step_103 : decode cX9_step 103 = .ok (.getfield 59, 3) := by decide +kernel
theorem dX9_step_106 : decode cX9_step 106 = .ok (.bipush 18, 2) := by decide +kernel
theorem dX9_step_108 : decode cX9_step 108 = .ok (.iload_n 1, 1) := by decide +kernel
theorem dX9_step_109 : decode cX9_step 109 = .ok (.iadd, 1) := by decide +kernel
theorem dX9_step_110 : decode cX9_step 110 = .ok (.dup2, 1) := by decide +kernel
theorem dX9_step_111 : decode cX9_step 111 = .ok (.iaload, 1) := by decide +kernel
theorem dX9_step_112 : decode cX9_step 112 = .ok (.iconst 1, 1) := by decide +kernel
theorem dX9_step_113 : decode cX9_step 113 = .ok (.iadd, 1) := by decide +kernel
theorem dX9_step_114 : decode cX9_step 114 = .ok (.iastore, 1) := by decide +kernel
theorem dX9_step_115 : decode cX9_step 115 = .ok (.aload_n 0, 1) := by decide +kernel
theorem dX9_step_116 : decode cX9_step 116 = .ok (.getfield 31, 3) := by decide +kernel
theorem dX9_step_119 : decode cX9_step 119 = .ok (.iload 5, 2) := by decide +kernel
theorem dX9_step_121 : decode cX9_step 121 = .ok (.aload_n 0, 1) := by decide +kernel
theorem dX9_step_122 : decode cX9_step 122 = .ok (.aload_n 0, 1) := by decide +kernel
theorem dX9_step_123 : decode cX9_step 123 = .ok (.getfield 28, 3) := by decide +kernel
theorem dX9_step_126 : decode cX9_step 126 = .ok (.iload 5, 2) := by decide +kernel
theorem dX9_step_128 : decode cX9_step 128 = .ok (.iaload, 1) := by decide +kernel
theorem dX9_step_129 : decode cX9_step 129 = .ok (.invokevirtual 269, 3) := by decide +kernel
theorem dX9_step_132 : decode cX9_step 132 = .ok (.bastore, 1) := by decide +kernel
theorem dX9_step_133 : decode cX9_step 133 = .ok (.aload_n 0, 1) := by decide +kernel
theorem dX9_step_134 : decode cX9_step 134 = .ok (.getfield 35, 3) := by decide +kernel
theorem dX9_step_137 : decode cX9_step 137 = .ok (.iload 5, 2) := by decide +kernel
theorem dX9_step_139 : decode cX9_step 139 = .ok (.aload_n 0, 1) := by decide +kernel
theorem dX9_step_140 : decode cX9_step 140 = .ok (.getfield 28, 3) := by decide +kernel
theorem dX9_step_143 : decode cX9_step 143 = .ok (.iload 5, 2) := by decide +kernel
theorem dX9_step_145 : decode cX9_step 145 = .ok (.iaload, 1) := by decide +kernel
theorem dX9_step_146 : decode cX9_step 146 = .ok (.aload_n 0, 1) := by decide +kernel
theorem dX9_step_147 : decode cX9_step 147 = .ok (.getfield 13, 3) := by decide +kernel
theorem dX9_step_150 : decode cX9_step 150 = .ok (.iconst 3, 1) := by decide +kernel
theorem dX9_step_151 : decode cX9_step 151 = .ok (.iaload, 1) := by decide +kernel
theorem dX9_step_152 : decode cX9_step 152 = .ok (.iconst 1, 1) := by decide +kernel
theorem dX9_step_153 : decode cX9_step 153 = .ok (.if_icmp .ne 19, 3) := by decide +kernel
theorem dX9_step_156 : decode cX9_step 156 = .ok (.aload_n 0, 1) := by decide +kernel
theorem dX9_step_157 : decode cX9_step 157 = .ok (.aload_n 0, 1) := by decide +kernel
theorem dX9_step_158 : decode cX9_step 158 = .ok (.getfield 22, 3) := by decide +kernel
theorem dX9_step_161 : decode cX9_step 161 = .ok (.iload 5, 2) := by decide +kernel
theorem dX9_step_163 : decode cX9_step 163 = .ok (.iaload, 1) := by decide +kernel
theorem dX9_step_164 : decode cX9_step 164 = .ok (.iload 6, 2) := by decide +kernel
theorem dX9_step_166 : decode cX9_step 166 = .ok (.invokevirtual 272, 3) := by decide +kernel
theorem dX9_step_169 : decode cX9_step 169 = .ok (.goto 4, 3) := by decide +kernel
theorem dX9_step_172 : decode cX9_step 172 = .ok (.iconst 0, 1) := by decide +kernel
theorem dX9_step_173 : decode cX9_step 173 = .ok (.iadd, 1) := by decide +kernel
theorem dX9_step_174 : decode cX9_step 174 = .ok (.iastore, 1) := by decide +kernel
theorem dX9_step_175 : decode cX9_step 175 = .ok (.aload_n 0, 1) := by decide +kernel
theorem dX9_step_176 : decode cX9_step 176 = .ok (.getfield 38, 3) := by decide +kernel
theorem dX9_step_179 : decode cX9_step 179 = .ok (.iload 5, 2) := by decide +kernel
theorem dX9_step_181 : decode cX9_step 181 = .ok (.aload_n 0, 1) := by decide +kernel
theorem dX9_step_182 : decode cX9_step 182 = .ok (.getfield 65, 3) := by decide +kernel
theorem dX9_step_185 : decode cX9_step 185 = .ok (.bipush 6, 2) := by decide +kernel
theorem dX9_step_187 : decode cX9_step 187 = .ok (.iaload, 1) := by decide +kernel
theorem dX9_step_188 : decode cX9_step 188 = .ok (.iastore, 1) := by decide +kernel
theorem dX9_step_189 : decode cX9_step 189 = .ok (.aload_n 0, 1) := by decide +kernel
theorem dX9_step_190 : decode cX9_step 190 = .ok (.getfield 41, 3) := by decide +kernel
theorem dX9_step_193 : decode cX9_step 193 = .ok (.iload 5, 2) := by decide +kernel
theorem dX9_step_195 : decode cX9_step 195 = .ok (.aload_n 0, 1) := by decide +kernel
theorem dX9_step_196 : decode cX9_step 196 = .ok (.getfield 13, 3) := by decide +kernel
theorem dX9_step_199 : decode cX9_step 199 = .ok (.bipush 7, 2) := by decide +kernel
theorem dX9_step_201 : decode cX9_step 201 = .ok (.iaload, 1) := by decide +kernel
theorem dX9_step_202 : decode cX9_step 202 = .ok (.iastore, 1) := by decide +kernel
theorem dX9_step_203 : decode cX9_step 203 = .ok (.aload_n 0, 1) := by decide +kernel
theorem dX9_step_204 : decode cX9_step 204 = .ok (.getfield 31, 3) := by decide +kernel
theorem dX9_step_207 : decode cX9_step 207 = .ok (.iload 5, 2) := by decide +kernel
theorem dX9_step_209 : decode cX9_step 209 = .ok (.baload, 1) := by decide +kernel
theorem dX9_step_210 : decode cX9_step 210 = .ok (.ifCond .eq 23, 3) := by decide +kernel
theorem dX9_step_213 : decode cX9_step 213 = .ok (.aload_n 0, 1) := by decide +kernel
theorem dX9_step_214 : decode cX9_step 214 = .ok (.aload_n 0, 1) := by decide +kernel
theorem dX9_step_215 : decode cX9_step 215 = .ok (.getfield 22, 3) := by decide +kernel
theorem dX9_step_218 : decode cX9_step 218 = .ok (.iload 5, 2) := by decide +kernel
theorem dX9_step_220 : decode cX9_step 220 = .ok (.iaload, 1) := by decide +kernel
theorem dX9_step_221 : decode cX9_step 221 = .ok (.iload 6, 2) := by decide +kernel
theorem dX9_step_223 : decode cX9_step 223 = .ok (.aload_n 0, 1) := by decide +kernel
theorem dX9_step_224 : decode cX9_step 224 = .ok (.getfield 35, 3) := by decide +kernel
theorem dX9_step_227 : decode cX9_step 227 = .ok (.iload 5, 2) := by decide +kernel
theorem dX9_step_229 : decode cX9_step 229 = .ok (.iaload, 1) := by decide +kernel
theorem dX9_step_230 : decode cX9_step 230 = .ok (.invokevirtual 275, 3) := by decide +kernel
theorem dX9_step_233 : decode cX9_step 233 = .ok (.bipush 18, 2) := by decide +kernel
theorem dX9_step_235 : decode cX9_step 235 = .ok (.iload_n 1, 1) := by decide +kernel
theorem dX9_step_236 : decode cX9_step 236 = .ok (.iadd, 1) := by decide +kernel
theorem dX9_step_237 : decode cX9_step 237 = .ok (.istore 7, 2) := by decide +kernel
theorem dX9_step_239 : decode cX9_step 239 = .ok (.aload_n 0, 1) := by decide +kernel
theorem dX9_step_240 : decode cX9_step 240 = .ok (.getfield 62, 3) := by decide +kernel
theorem dX9_step_243 : decode cX9_step 243 = .ok (.iload 7, 2) := by decide +kernel
theorem dX9_step_245 : decode cX9_step 245 = .ok (.iload 6, 2) := by decide +kernel
theorem dX9_step_247 : decode cX9_step 247 = .ok (.aload_n 0, 1) := by decide +kernel
theorem dX9_step_248 : decode cX9_step 248 = .ok (.getfield 62, 3) := by decide +kernel
theorem dX9_step_251 : decode cX9_step 251 = .ok (.iload 7, 2) := by decide +kernel
theorem dX9_step_253 : decode cX9_step 253 = .ok (.iaload, 1) := by decide +kernel
theorem dX9_step_254 : decode cX9_step 254 = .ok (.if_icmp .le 8, 3) := by decide +kernel
theorem dX9_step_257 : decode cX9_step 257 = .ok (.iload 6, 2) := by decide +kernel
theorem dX9_step_259 : decode cX9_step 259 = .ok (.goto 10, 3) := by decide +kernel
theorem dX9_step_262 : decode cX9_step 262 = .ok (.aload_n 0, 1) := by decide +kernel
theorem dX9_step_263 : decode cX9_step 263 = .ok (.getfield 62, 3) := by decide +kernel
theorem dX9_step_266 : decode cX9_step 266 = .ok (.iload 7, 2) := by decide +kernel
theorem dX9_step_268 : decode cX9_step 268 = .ok (.iaload, 1) := by decide +kernel
theorem dX9_step_269 : decode cX9_step 269 = .ok (.iastore, 1) := by decide +kernel
theorem dX9_step_270 : decode cX9_step 270 = .ok (.aload_n 0, 1) := by decide +kernel
theorem dX9_step_271 : decode cX9_step 271 = .ok (.invokevirtual 212, 3) := by decide +kernel
theorem dX9_step_274 : decode cX9_step 274 = .ok (.aload_n 0, 1) := by decide +kernel
theorem dX9_step_275 : decode cX9_step 275 = .ok (.getfield 71, 3) := by decide +kernel
theorem dX9_step_278 : decode cX9_step 278 = .ok (.bipush 6, 2) := by decide +kernel
theorem dX9_step_280 : decode cX9_step 280 = .ok (.iaload, 1) := by decide +kernel
theorem dX9_step_281 : decode cX9_step 281 = .ok (.iload 4, 2) := by decide +kernel
theorem dX9_step_283 : decode cX9_step 283 = .ok (.isub, 1) := by decide +kernel
theorem dX9_step_284 : decode cX9_step 284 = .ok (.ireturn, 1) := by decide +kernel
theorem dX9_watermark_0 : decode cX9_watermark 0 = .ok (.aload_n 0, 1) := by decide +kernel
theorem dX9_watermark_1 : decode cX9_watermark 1 = .ok (.iconst 0, 1) := by decide +kernel
theorem dX9_watermark_2 : decode cX9_watermark 2 = .ok (.putfield 121, 3) := by decide +kernel
theorem dX9_watermark_5 : decode cX9_watermark 5 = .ok (.aload_n 0, 1) := by decide +kernel
theorem dX9_watermark_6 : decode cX9_watermark 6 = .ok (.getfield 65, 3) := by decide +kernel
theorem dX9_watermark_9 : decode cX9_watermark 9 = .ok (.bipush 6, 2) := by decide +kernel
theorem dX9_watermark_11 : decode cX9_watermark 11 = .ok (.iaload, 1) := by decide +kernel
theorem dX9_watermark_12 : decode cX9_watermark 12 = .ok (.ireturn, 1) := by decide +kernel
theorem dX9_read_0 : decode cX9_read 0 = .ok (.aload_n 0, 1) := by decide +kernel
theorem dX9_read_1 : decode cX9_read 1 = .ok (.iload_n 1, 1) := by decide +kernel
theorem dX9_read_2 : decode cX9_read 2 = .ok (.invokestatic 203, 3) := by decide +kernel
theorem dX9_read_5 : decode cX9_read 5 = .ok (.ifCond .eq 7, 3) := by decide +kernel
theorem dX9_read_8 : decode cX9_read 8 = .ok (.iconst 0, 1) := by decide +kernel
theorem dX9_read_9 : decode cX9_read 9 = .ok (.goto 4, 3) := by decide +kernel
theorem dX9_read_12 : decode cX9_read 12 = .ok (.iconst 1, 1) := by decide +kernel
theorem dX9_read_13 : decode cX9_read 13 = .ok (.invokevirtual 131, 3) := by decide +kernel
theorem dX9_read_16 : decode cX9_read 16 = .ok (.ifCond .eq 15, 3) := by decide +kernel
theorem dX9_read_19 : decode cX9_read 19 = .ok (.aload_n 0, 1) := by decide +kernel
theorem dX9_read_20 : decode cX9_read 20 = .ok (.getfield 59, 3) := by decide +kernel
theorem dX9_read_23 : decode cX9_read 23 = .ok (.bipush 18, 2) := by decide +kernel
theorem dX9_read_25 : decode cX9_read 25 = .ok (.iload_n 1, 1) := by decide +kernel
theorem dX9_read_26 : decode cX9_read 26 = .ok (.iadd, 1) := by decide +kernel
theorem dX9_read_27 : decode cX9_read 27 = .ok (.iaload, 1) := by decide +kernel
theorem dX9_read_28 : decode cX9_read 28 = .ok (.goto 4, 3) := by decide +kernel
theorem dX9_read_31 : decode cX9_read 31 = .ok (.iconst 0, 1) := by decide +kernel
theorem dX9_read_32 : decode cX9_read 32 = .ok (.ireturn, 1) := by decide +kernel
theorem dX9_tooLate_0 : decode cX9_tooLate 0 = .ok (.aload_n 0, 1) := by decide +kernel
theorem dX9_tooLate_1 : decode cX9_tooLate 1 = .ok (.iconst 0, 1) := by decide +kernel
theorem dX9_tooLate_2 : decode cX9_tooLate 2 = .ok (.putfield 121, 3) := by decide +kernel
theorem dX9_tooLate_5 : decode cX9_tooLate 5 = .ok (.aload_n 0, 1) := by decide +kernel
theorem dX9_tooLate_6 : decode cX9_tooLate 6 = .ok (.getfield 68, 3) := by decide +kernel
theorem dX9_tooLate_9 : decode cX9_tooLate 9 = .ok (.bipush 6, 2) := by decide +kernel
theorem dX9_tooLate_11 : decode cX9_tooLate 11 = .ok (.iaload, 1) := by decide +kernel
theorem dX9_tooLate_12 : decode cX9_tooLate 12 = .ok (.ireturn, 1) := by decide +kernel
theorem dX9_windows_0 : decode cX9_windows 0 = .ok (.aload_n 0, 1) := by decide +kernel
theorem dX9_windows_1 : decode cX9_windows 1 = .ok (.iconst 0, 1) := by decide +kernel
theorem dX9_windows_2 : decode cX9_windows 2 = .ok (.putfield 121, 3) := by decide +kernel
theorem dX9_windows_5 : decode cX9_windows 5 = .ok (.aload_n 0, 1) := by decide +kernel
theorem dX9_windows_6 : decode cX9_windows 6 = .ok (.getfield 74, 3) := by decide +kernel
theorem dX9_windows_9 : decode cX9_windows 9 = .ok (.bipush 6, 2) := by decide +kernel
theorem dX9_windows_11 : decode cX9_windows 11 = .ok (.iaload, 1) := by decide +kernel
theorem dX9_windows_12 : decode cX9_windows 12 = .ok (.ireturn, 1) := by decide +kernel
theorem dX9_window_0 : decode cX9_window 0 = .ok (.aload_n 0, 1) := by decide +kernel
theorem dX9_window_1 : decode cX9_window 1 = .ok (.iload_n 1, 1) := by decide +kernel
theorem dX9_window_2 : decode cX9_window 2 = .ok (.iconst 0, 1) := by decide +kernel
theorem dX9_window_3 : decode cX9_window 3 = .ok (.aload_n 0, 1) := by decide +kernel
theorem dX9_window_4 : decode cX9_window 4 = .ok (.getfield 74, 3) := by decide +kernel
theorem dX9_window_7 : decode cX9_window 7 = .ok (.bipush 6, 2) := by decide +kernel
theorem dX9_window_9 : decode cX9_window 9 = .ok (.iaload, 1) := by decide +kernel
theorem dX9_window_10 : decode cX9_window 10 = .ok (.iconst 1, 1) := by decide +kernel
theorem dX9_window_11 : decode cX9_window 11 = .ok (.isub, 1) := by decide +kernel
theorem dX9_window_12 : decode cX9_window 12 = .ok (.invokestatic 124, 3) := by decide +kernel
theorem dX9_window_15 : decode cX9_window 15 = .ok (.ifCond .ne 7, 3) := by decide +kernel
theorem dX9_window_18 : decode cX9_window 18 = .ok (.iconst 1, 1) := by decide +kernel
theorem dX9_window_19 : decode cX9_window 19 = .ok (.goto 17, 3) := by decide +kernel
theorem dX9_window_22 : decode cX9_window 22 = .ok (.iload_n 2, 1) := by decide +kernel
theorem dX9_window_23 : decode cX9_window 23 = .ok (.iconst 0, 1) := by decide +kernel
theorem dX9_window_24 : decode cX9_window 24 = .ok (.iconst 4, 1) := by decide +kernel
theorem dX9_window_25 : decode cX9_window 25 = .ok (.invokestatic 124, 3) := by decide +kernel
theorem dX9_window_28 : decode cX9_window 28 = .ok (.ifCond .eq 7, 3) := by decide +kernel
theorem dX9_window_31 : decode cX9_window 31 = .ok (.iconst 0, 1) := by decide +kernel
theorem dX9_window_32 : decode cX9_window 32 = .ok (.goto 4, 3) := by decide +kernel
theorem dX9_window_35 : decode cX9_window 35 = .ok (.iconst 2, 1) := by decide +kernel
theorem dX9_window_36 : decode cX9_window 36 = .ok (.invokevirtual 131, 3) := by decide +kernel
theorem dX9_window_39 : decode cX9_window 39 = .ok (.ifCond .ne 5, 3) := by decide +kernel
theorem dX9_window_42 : decode cX9_window 42 = .ok (.iconst 0, 1) := by decide +kernel
theorem dX9_window_43 : decode cX9_window 43 = .ok (.ireturn, 1) := by decide +kernel
theorem dX9_window_44 : decode cX9_window 44 = .ok (.iload_n 1, 1) := by decide +kernel
theorem dX9_window_45 : decode cX9_window 45 = .ok (.invokestatic 218, 3) := by decide +kernel
theorem dX9_window_48 : decode cX9_window 48 = .ok (.istore_n 3, 1) := by decide +kernel
theorem dX9_window_49 : decode cX9_window 49 = .ok (.iload_n 2, 1) := by decide +kernel
theorem dX9_window_50 : decode cX9_window 50 = .ok (.ifCond .ne 12, 3) := by decide +kernel
theorem dX9_window_53 : decode cX9_window 53 = .ok (.aload_n 0, 1) := by decide +kernel
theorem dX9_window_54 : decode cX9_window 54 = .ok (.getfield 77, 3) := by decide +kernel
theorem dX9_window_57 : decode cX9_window 57 = .ok (.iload_n 3, 1) := by decide +kernel
theorem dX9_window_58 : decode cX9_window 58 = .ok (.iaload, 1) := by decide +kernel
theorem dX9_window_59 : decode cX9_window 59 = .ok (.goto 59, 3) := by decide +kernel
theorem dX9_window_62 : decode cX9_window 62 = .ok (.iload_n 2, 1) := by decide +kernel
theorem dX9_window_63 : decode cX9_window 63 = .ok (.iconst 1, 1) := by decide +kernel
theorem dX9_window_64 : decode cX9_window 64 = .ok (.if_icmp .ne 12, 3) := by decide +kernel
theorem dX9_window_67 : decode cX9_window 67 = .ok (.aload_n 0, 1) := by decide +kernel
theorem dX9_window_68 : decode cX9_window 68 = .ok (.getfield 80, 3) := by decide +kernel
theorem dX9_window_71 : decode cX9_window 71 = .ok (.iload_n 3, 1) := by decide +kernel
theorem dX9_window_72 : decode cX9_window 72 = .ok (.iaload, 1) := by decide +kernel
theorem dX9_window_73 : decode cX9_window 73 = .ok (.goto 45, 3) := by decide +kernel
theorem dX9_window_76 : decode cX9_window 76 = .ok (.iload_n 2, 1) := by decide +kernel
theorem dX9_window_77 : decode cX9_window 77 = .ok (.iconst 2, 1) := by decide +kernel
theorem dX9_window_78 : decode cX9_window 78 = .ok (.if_icmp .ne 12, 3) := by decide +kernel
theorem dX9_window_81 : decode cX9_window 81 = .ok (.aload_n 0, 1) := by decide +kernel
theorem dX9_window_82 : decode cX9_window 82 = .ok (.getfield 83, 3) := by decide +kernel
theorem dX9_window_85 : decode cX9_window 85 = .ok (.iload_n 3, 1) := by decide +kernel
theorem dX9_window_86 : decode cX9_window 86 = .ok (.iaload, 1) := by decide +kernel
theorem dX9_window_87 : decode cX9_window 87 = .ok (.goto 31, 3) := by decide +kernel
theorem dX9_window_90 : decode cX9_window 90 = .ok (.iload_n 2, 1) := by decide +kernel
theorem dX9_window_91 : decode cX9_window 91 = .ok (.iconst 3, 1) := by decide +kernel
theorem dX9_window_92 : decode cX9_window 92 = .ok (.if_icmp .ne 12, 3) := by decide +kernel
theorem dX9_window_95 : decode cX9_window 95 = .ok (.aload_n 0, 1) := by decide +kernel
theorem dX9_window_96 : decode cX9_window 96 = .ok (.getfield 86, 3) := by decide +kernel
theorem dX9_window_99 : decode cX9_window 99 = .ok (.iload_n 3, 1) := by decide +kernel
theorem dX9_window_100 : decode cX9_window 100 = .ok (.iaload, 1) := by decide +kernel
theorem dX9_window_101 : decode cX9_window 101 = .ok (.goto 17, 3) := by decide +kernel
theorem dX9_window_104 : decode cX9_window 104 = .ok (.aload_n 0, 1) := by decide +kernel
theorem dX9_window_105 : decode cX9_window 105 = .ok (.getfield 89, 3) := by decide +kernel
theorem dX9_window_108 : decode cX9_window 108 = .ok (.iload_n 3, 1) := by decide +kernel
theorem dX9_window_109 : decode cX9_window 109 = .ok (.baload, 1) := by decide +kernel
theorem dX9_window_110 : decode cX9_window 110 = .ok (.ifCond .eq 7, 3) := by decide +kernel
theorem dX9_window_113 : decode cX9_window 113 = .ok (.iconst 1, 1) := by decide +kernel
theorem dX9_window_114 : decode cX9_window 114 = .ok (.goto 4, 3) := by decide +kernel
theorem dX9_window_117 : decode cX9_window 117 = .ok (.iconst 0, 1) := by decide +kernel
theorem dX9_window_118 : decode cX9_window 118 = .ok (.ireturn, 1) := by decide +kernel
theorem dX9_results_0 : decode cX9_results 0 = .ok (.aload_n 0, 1) := by decide +kernel
theorem dX9_results_1 : decode cX9_results 1 = .ok (.iconst 0, 1) := by decide +kernel
theorem dX9_results_2 : decode cX9_results 2 = .ok (.putfield 121, 3) := by decide +kernel
theorem dX9_results_5 : decode cX9_results 5 = .ok (.aload_n 0, 1) := by decide +kernel
theorem dX9_results_6 : decode cX9_results 6 = .ok (.getfield 71, 3) := by decide +kernel
theorem dX9_results_9 : decode cX9_results 9 = .ok (.bipush 6, 2) := by decide +kernel
theorem dX9_results_11 : decode cX9_results 11 = .ok (.iaload, 1) := by decide +kernel
theorem dX9_results_12 : decode cX9_results 12 = .ok (.ireturn, 1) := by decide +kernel
theorem dX9_committed_0 : decode cX9_committed 0 = .ok (.aload_n 0, 1) := by decide +kernel
theorem dX9_committed_1 : decode cX9_committed 1 = .ok (.iconst 0, 1) := by decide +kernel
theorem dX9_committed_2 : decode cX9_committed 2 = .ok (.putfield 121, 3) := by decide +kernel
theorem dX9_committed_5 : decode cX9_committed 5 = .ok (.aload_n 0, 1) := by decide +kernel
theorem dX9_committed_6 : decode cX9_committed 6 = .ok (.getfield 71, 3) := by decide +kernel
theorem dX9_committed_9 : decode cX9_committed 9 = .ok (.iconst 5, 1) := by decide +kernel
theorem dX9_committed_10 : decode cX9_committed 10 = .ok (.iaload, 1) := by decide +kernel
theorem dX9_committed_11 : decode cX9_committed 11 = .ok (.ireturn, 1) := by decide +kernel
theorem dX9_result_0 : decode cX9_result 0 = .ok (.aload_n 0, 1) := by decide +kernel
theorem dX9_result_1 : decode cX9_result 1 = .ok (.iload_n 1, 1) := by decide +kernel
theorem dX9_result_2 : decode cX9_result 2 = .ok (.iconst 0, 1) := by decide +kernel
theorem dX9_result_3 : decode cX9_result 3 = .ok (.aload_n 0, 1) := by decide +kernel
theorem dX9_result_4 : decode cX9_result 4 = .ok (.getfield 71, 3) := by decide +kernel
theorem dX9_result_7 : decode cX9_result 7 = .ok (.bipush 6, 2) := by decide +kernel
theorem dX9_result_9 : decode cX9_result 9 = .ok (.iaload, 1) := by decide +kernel
theorem dX9_result_10 : decode cX9_result 10 = .ok (.iconst 1, 1) := by decide +kernel
theorem dX9_result_11 : decode cX9_result 11 = .ok (.isub, 1) := by decide +kernel
theorem dX9_result_12 : decode cX9_result 12 = .ok (.invokestatic 124, 3) := by decide +kernel
theorem dX9_result_15 : decode cX9_result 15 = .ok (.ifCond .ne 7, 3) := by decide +kernel
theorem dX9_result_18 : decode cX9_result 18 = .ok (.iconst 1, 1) := by decide +kernel
theorem dX9_result_19 : decode cX9_result 19 = .ok (.goto 17, 3) := by decide +kernel
theorem dX9_result_22 : decode cX9_result 22 = .ok (.iload_n 2, 1) := by decide +kernel
theorem dX9_result_23 : decode cX9_result 23 = .ok (.iconst 0, 1) := by decide +kernel
theorem dX9_result_24 : decode cX9_result 24 = .ok (.iconst 4, 1) := by decide +kernel
theorem dX9_result_25 : decode cX9_result 25 = .ok (.invokestatic 124, 3) := by decide +kernel
theorem dX9_result_28 : decode cX9_result 28 = .ok (.ifCond .eq 7, 3) := by decide +kernel
theorem dX9_result_31 : decode cX9_result 31 = .ok (.iconst 0, 1) := by decide +kernel
theorem dX9_result_32 : decode cX9_result 32 = .ok (.goto 4, 3) := by decide +kernel
theorem dX9_result_35 : decode cX9_result 35 = .ok (.iconst 2, 1) := by decide +kernel
theorem dX9_result_36 : decode cX9_result 36 = .ok (.invokevirtual 131, 3) := by decide +kernel
theorem dX9_result_39 : decode cX9_result 39 = .ok (.ifCond .ne 5, 3) := by decide +kernel
theorem dX9_result_42 : decode cX9_result 42 = .ok (.iconst 0, 1) := by decide +kernel
theorem dX9_result_43 : decode cX9_result 43 = .ok (.ireturn, 1) := by decide +kernel
theorem dX9_result_44 : decode cX9_result 44 = .ok (.iload_n 2, 1) := by decide +kernel
theorem dX9_result_45 : decode cX9_result 45 = .ok (.ifCond .ne 12, 3) := by decide +kernel
theorem dX9_result_48 : decode cX9_result 48 = .ok (.aload_n 0, 1) := by decide +kernel
theorem dX9_result_49 : decode cX9_result 49 = .ok (.getfield 98, 3) := by decide +kernel
theorem dX9_result_52 : decode cX9_result 52 = .ok (.iload_n 1, 1) := by decide +kernel
theorem dX9_result_53 : decode cX9_result 53 = .ok (.iaload, 1) := by decide +kernel
theorem dX9_result_54 : decode cX9_result 54 = .ok (.goto 51, 3) := by decide +kernel
theorem dX9_result_57 : decode cX9_result 57 = .ok (.iload_n 2, 1) := by decide +kernel
theorem dX9_result_58 : decode cX9_result 58 = .ok (.iconst 1, 1) := by decide +kernel
theorem dX9_result_59 : decode cX9_result 59 = .ok (.if_icmp .ne 12, 3) := by decide +kernel
theorem dX9_result_62 : decode cX9_result 62 = .ok (.aload_n 0, 1) := by decide +kernel
theorem dX9_result_63 : decode cX9_result 63 = .ok (.getfield 101, 3) := by decide +kernel
theorem dX9_result_66 : decode cX9_result 66 = .ok (.iload_n 1, 1) := by decide +kernel
theorem dX9_result_67 : decode cX9_result 67 = .ok (.iaload, 1) := by decide +kernel
theorem dX9_result_68 : decode cX9_result 68 = .ok (.goto 37, 3) := by decide +kernel
theorem dX9_result_71 : decode cX9_result 71 = .ok (.iload_n 2, 1) := by decide +kernel
theorem dX9_result_72 : decode cX9_result 72 = .ok (.iconst 2, 1) := by decide +kernel
theorem dX9_result_73 : decode cX9_result 73 = .ok (.if_icmp .ne 12, 3) := by decide +kernel
theorem dX9_result_76 : decode cX9_result 76 = .ok (.aload_n 0, 1) := by decide +kernel
theorem dX9_result_77 : decode cX9_result 77 = .ok (.getfield 104, 3) := by decide +kernel
theorem dX9_result_80 : decode cX9_result 80 = .ok (.iload_n 1, 1) := by decide +kernel
theorem dX9_result_81 : decode cX9_result 81 = .ok (.iaload, 1) := by decide +kernel
theorem dX9_result_82 : decode cX9_result 82 = .ok (.goto 23, 3) := by decide +kernel
theorem dX9_result_85 : decode cX9_result 85 = .ok (.iload_n 2, 1) := by decide +kernel
theorem dX9_result_86 : decode cX9_result 86 = .ok (.iconst 3, 1) := by decide +kernel
theorem dX9_result_87 : decode cX9_result 87 = .ok (.if_icmp .ne 12, 3) := by decide +kernel
theorem dX9_result_90 : decode cX9_result 90 = .ok (.aload_n 0, 1) := by decide +kernel
theorem dX9_result_91 : decode cX9_result 91 = .ok (.getfield 107, 3) := by decide +kernel
theorem dX9_result_94 : decode cX9_result 94 = .ok (.iload_n 1, 1) := by decide +kernel
theorem dX9_result_95 : decode cX9_result 95 = .ok (.iaload, 1) := by decide +kernel
theorem dX9_result_96 : decode cX9_result 96 = .ok (.goto 9, 3) := by decide +kernel
theorem dX9_result_99 : decode cX9_result 99 = .ok (.aload_n 0, 1) := by decide +kernel
theorem dX9_result_100 : decode cX9_result 100 = .ok (.getfield 110, 3) := by decide +kernel
theorem dX9_result_103 : decode cX9_result 103 = .ok (.iload_n 1, 1) := by decide +kernel
theorem dX9_result_104 : decode cX9_result 104 = .ok (.iaload, 1) := by decide +kernel
theorem dX9_result_105 : decode cX9_result 105 = .ok (.ireturn, 1) := by decide +kernel
theorem dX9_total_0 : decode cX9_total 0 = .ok (.aload_n 0, 1) := by decide +kernel
theorem dX9_total_1 : decode cX9_total 1 = .ok (.iload_n 1, 1) := by decide +kernel
theorem dX9_total_2 : decode cX9_total 2 = .ok (.invokestatic 206, 3) := by decide +kernel
theorem dX9_total_5 : decode cX9_total 5 = .ok (.ifCond .eq 7, 3) := by decide +kernel
theorem dX9_total_8 : decode cX9_total 8 = .ok (.iconst 0, 1) := by decide +kernel
theorem dX9_total_9 : decode cX9_total 9 = .ok (.goto 4, 3) := by decide +kernel
theorem dX9_total_12 : decode cX9_total 12 = .ok (.iconst 1, 1) := by decide +kernel
theorem dX9_total_13 : decode cX9_total 13 = .ok (.invokevirtual 131, 3) := by decide +kernel
theorem dX9_total_16 : decode cX9_total 16 = .ok (.ifCond .ne 5, 3) := by decide +kernel
theorem dX9_total_19 : decode cX9_total 19 = .ok (.iconst 0, 1) := by decide +kernel
theorem dX9_total_20 : decode cX9_total 20 = .ok (.ireturn, 1) := by decide +kernel
theorem dX9_total_21 : decode cX9_total 21 = .ok (.iconst 0, 1) := by decide +kernel
theorem dX9_total_22 : decode cX9_total 22 = .ok (.istore_n 3, 1) := by decide +kernel
theorem dX9_total_23 : decode cX9_total 23 = .ok (.iconst 0, 1) := by decide +kernel
theorem dX9_total_24 : decode cX9_total 24 = .ok (.istore 4, 2) := by decide +kernel
theorem dX9_total_26 : decode cX9_total 26 = .ok (.iload 4, 2) := by decide +kernel
theorem dX9_total_28 : decode cX9_total 28 = .ok (.aload_n 0, 1) := by decide +kernel
theorem dX9_total_29 : decode cX9_total 29 = .ok (.getfield 71, 3) := by decide +kernel
theorem dX9_total_32 : decode cX9_total 32 = .ok (.bipush 6, 2) := by decide +kernel
theorem dX9_total_34 : decode cX9_total 34 = .ok (.iaload, 1) := by decide +kernel
theorem dX9_total_35 : decode cX9_total 35 = .ok (.if_icmp .ge 84, 3) := by decide +kernel
theorem dX9_total_38 : decode cX9_total 38 = .ok (.aload_n 0, 1) := by decide +kernel
theorem dX9_total_39 : decode cX9_total 39 = .ok (.getfield 98, 3) := by decide +kernel
theorem dX9_total_42 : decode cX9_total 42 = .ok (.iload 4, 2) := by decide +kernel
theorem dX9_total_44 : decode cX9_total 44 = .ok (.iaload, 1) := by decide +kernel
theorem dX9_total_45 : decode cX9_total 45 = .ok (.iload_n 1, 1) := by decide +kernel
theorem dX9_total_46 : decode cX9_total 46 = .ok (.if_icmp .ne 67, 3) := by decide +kernel
theorem dX9_total_49 : decode cX9_total 49 = .ok (.aload_n 0, 1) := by decide +kernel
theorem dX9_total_50 : decode cX9_total 50 = .ok (.getfield 101, 3) := by decide +kernel
theorem dX9_total_53 : decode cX9_total 53 = .ok (.iload 4, 2) := by decide +kernel
theorem dX9_total_55 : decode cX9_total 55 = .ok (.iaload, 1) := by decide +kernel
theorem dX9_total_56 : decode cX9_total 56 = .ok (.iload_n 2, 1) := by decide +kernel
theorem dX9_total_57 : decode cX9_total 57 = .ok (.if_icmp .ne 56, 3) := by decide +kernel
theorem dX9_total_60 : decode cX9_total 60 = .ok (.aload_n 0, 1) := by decide +kernel
theorem dX9_total_61 : decode cX9_total 61 = .ok (.getfield 110, 3) := by decide +kernel
theorem dX9_total_64 : decode cX9_total 64 = .ok (.iload 4, 2) := by decide +kernel
theorem dX9_total_66 : decode cX9_total 66 = .ok (.iaload, 1) := by decide +kernel
theorem dX9_total_67 : decode cX9_total 67 = .ok (.ifCond .ne 13, 3) := by decide +kernel
theorem dX9_total_70 : decode cX9_total 70 = .ok (.aload_n 0, 1) := by decide +kernel
theorem dX9_total_71 : decode cX9_total 71 = .ok (.getfield 107, 3) := by decide +kernel
theorem dX9_total_74 : decode cX9_total 74 = .ok (.iload 4, 2) := by decide +kernel
theorem dX9_total_76 : decode cX9_total 76 = .ok (.iaload, 1) := by decide +kernel
theorem dX9_total_77 : decode cX9_total 77 = .ok (.goto 35, 3) := by decide +kernel
theorem dX9_total_80 : decode cX9_total 80 = .ok (.aload_n 0, 1) := by decide +kernel
theorem dX9_total_81 : decode cX9_total 81 = .ok (.getfield 110, 3) := by decide +kernel
theorem dX9_total_84 : decode cX9_total 84 = .ok (.iload 4, 2) := by decide +kernel
theorem dX9_total_86 : decode cX9_total 86 = .ok (.iaload, 1) := by decide +kernel
theorem dX9_total_87 : decode cX9_total 87 = .ok (.iconst 1, 1) := by decide +kernel
theorem dX9_total_88 : decode cX9_total 88 = .ok (.if_icmp .ne 15, 3) := by decide +kernel
theorem dX9_total_91 : decode cX9_total 91 = .ok (.iload_n 3, 1) := by decide +kernel
theorem dX9_total_92 : decode cX9_total 92 = .ok (.aload_n 0, 1) := by decide +kernel
theorem dX9_total_93 : decode cX9_total 93 = .ok (.getfield 107, 3) := by decide +kernel
theorem dX9_total_96 : decode cX9_total 96 = .ok (.iload 4, 2) := by decide +kernel
theorem dX9_total_98 : decode cX9_total 98 = .ok (.iaload, 1) := by decide +kernel
theorem dX9_total_99 : decode cX9_total 99 = .ok (.iadd, 1) := by decide +kernel
theorem dX9_total_100 : decode cX9_total 100 = .ok (.goto 12, 3) := by decide +kernel
theorem dX9_total_103 : decode cX9_total 103 = .ok (.iload_n 3, 1) := by decide +kernel
theorem dX9_total_104 : decode cX9_total 104 = .ok (.aload_n 0, 1) := by decide +kernel
theorem dX9_total_105 : decode cX9_total 105 = .ok (.getfield 107, 3) := by decide +kernel
theorem dX9_total_108 : decode cX9_total 108 = .ok (.iload 4, 2) := by decide +kernel
theorem dX9_total_110 : decode cX9_total 110 = .ok (.iaload, 1) := by decide +kernel
theorem dX9_total_111 : decode cX9_total 111 = .ok (.isub, 1) := by decide +kernel
theorem dX9_total_112 : decode cX9_total 112 = .ok (.istore_n 3, 1) := by decide +kernel
theorem dX9_total_113 : decode cX9_total 113 = .ok (.iinc 4 1, 3) := by decide +kernel
theorem dX9_total_116 : decode cX9_total 116 = .ok (.goto (-90), 3) := by decide +kernel
theorem dX9_total_119 : decode cX9_total 119 = .ok (.iload_n 3, 1) := by decide +kernel
theorem dX9_total_120 : decode cX9_total 120 = .ok (.ireturn, 1) := by decide +kernel
theorem dX9_totalAnew_0 : decode cX9_totalAnew 0 = .ok (.aload_n 0, 1) := by decide +kernel
theorem dX9_totalAnew_1 : decode cX9_totalAnew 1 = .ok (.iload_n 1, 1) := by decide +kernel
theorem dX9_totalAnew_2 : decode cX9_totalAnew 2 = .ok (.invokestatic 206, 3) := by decide +kernel
theorem dX9_totalAnew_5 : decode cX9_totalAnew 5 = .ok (.ifCond .ne 7, 3) := by decide +kernel
theorem dX9_totalAnew_8 : decode cX9_totalAnew 8 = .ok (.iconst 1, 1) := by decide +kernel
theorem dX9_totalAnew_9 : decode cX9_totalAnew 9 = .ok (.goto 25, 3) := by decide +kernel
theorem dX9_totalAnew_12 : decode cX9_totalAnew 12 = .ok (.aload_n 0, 1) := by decide +kernel
theorem dX9_totalAnew_13 : decode cX9_totalAnew 13 = .ok (.getfield 187, 3) := by decide +kernel
theorem dX9_totalAnew_16 : decode cX9_totalAnew 16 = .ok (.ifCond .eq 13, 3) := by decide +kernel
theorem dX9_totalAnew_19 : decode cX9_totalAnew 19 = .ok (.aload_n 0, 1) := by decide +kernel
theorem dX9_totalAnew_20 : decode cX9_totalAnew 20 = .ok (.getfield 13, 3) := by decide +kernel
theorem dX9_totalAnew_23 : decode cX9_totalAnew 23 = .ok (.iconst 4, 1) := by decide +kernel
theorem dX9_totalAnew_24 : decode cX9_totalAnew 24 = .ok (.iaload, 1) := by decide +kernel
theorem dX9_totalAnew_25 : decode cX9_totalAnew 25 = .ok (.iconst 2, 1) := by decide +kernel
theorem dX9_totalAnew_26 : decode cX9_totalAnew 26 = .ok (.if_icmp .ne 7, 3) := by decide +kernel
theorem dX9_totalAnew_29 : decode cX9_totalAnew 29 = .ok (.iconst 2, 1) := by decide +kernel
theorem dX9_totalAnew_30 : decode cX9_totalAnew 30 = .ok (.goto 4, 3) := by decide +kernel
theorem dX9_totalAnew_33 : decode cX9_totalAnew 33 = .ok (.iconst 0, 1) := by decide +kernel
theorem dX9_totalAnew_34 : decode cX9_totalAnew 34 = .ok (.invokevirtual 131, 3) := by decide +kernel
theorem dX9_totalAnew_37 : decode cX9_totalAnew 37 = .ok (.ifCond .ne 5, 3) := by decide +kernel
theorem dX9_totalAnew_40 : decode cX9_totalAnew 40 = .ok (.iconst 0, 1) := by decide +kernel
theorem dX9_totalAnew_41 : decode cX9_totalAnew 41 = .ok (.ireturn, 1) := by decide +kernel
theorem dX9_totalAnew_42 : decode cX9_totalAnew 42 = .ok (.aload_n 0, 1) := by decide +kernel
theorem dX9_totalAnew_43 : decode cX9_totalAnew 43 = .ok (.getfield 13, 3) := by decide +kernel
theorem dX9_totalAnew_46 : decode cX9_totalAnew 46 = .ok (.iconst 4, 1) := by decide +kernel
theorem dX9_totalAnew_47 : decode cX9_totalAnew 47 = .ok (.iaload, 1) := by decide +kernel
theorem dX9_totalAnew_48 : decode cX9_totalAnew 48 = .ok (.ifCond .ne 12, 3) := by decide +kernel
theorem dX9_totalAnew_51 : decode cX9_totalAnew 51 = .ok (.aload_n 0, 1) := by decide +kernel
theorem dX9_totalAnew_52 : decode cX9_totalAnew 52 = .ok (.getfield 13, 3) := by decide +kernel
theorem dX9_totalAnew_55 : decode cX9_totalAnew 55 = .ok (.iconst 5, 1) := by decide +kernel
theorem dX9_totalAnew_56 : decode cX9_totalAnew 56 = .ok (.iaload, 1) := by decide +kernel
theorem dX9_totalAnew_57 : decode cX9_totalAnew 57 = .ok (.goto 10, 3) := by decide +kernel
theorem dX9_totalAnew_60 : decode cX9_totalAnew 60 = .ok (.aload_n 0, 1) := by decide +kernel
theorem dX9_totalAnew_61 : decode cX9_totalAnew 61 = .ok (.getfield 13, 3) := by decide +kernel
theorem dX9_totalAnew_64 : decode cX9_totalAnew 64 = .ok (.bipush 6, 2) := by decide +kernel
theorem dX9_totalAnew_66 : decode cX9_totalAnew 66 = .ok (.iaload, 1) := by decide +kernel
theorem dX9_totalAnew_67 : decode cX9_totalAnew 67 = .ok (.istore_n 3, 1) := by decide +kernel
theorem dX9_totalAnew_68 : decode cX9_totalAnew 68 = .ok (.iload_n 2, 1) := by decide +kernel
theorem dX9_totalAnew_69 : decode cX9_totalAnew 69 = .ok (.ifCond .lt 34, 3) := by decide +kernel
theorem dX9_totalAnew_72 : decode cX9_totalAnew 72 = .ok (.iload_n 2, 1) := by decide +kernel
theorem dX9_totalAnew_73 : decode cX9_totalAnew 73 = .ok (.sipush 999, 3) := by decide +kernel
theorem dX9_totalAnew_76 : decode cX9_totalAnew 76 = .ok (.if_icmp .gt 27, 3) := by decide +kernel
theorem dX9_totalAnew_79 : decode cX9_totalAnew 79 = .ok (.iload_n 2, 1) := by decide +kernel
theorem dX9_totalAnew_80 : decode cX9_totalAnew 80 = .ok (.iload_n 3, 1) := by decide +kernel
theorem dX9_totalAnew_81 : decode cX9_totalAnew 81 = .ok (.irem, 1) := by decide +kernel
theorem dX9_totalAnew_82 : decode cX9_totalAnew 82 = .ok (.ifCond .ne 21, 3) := by decide +kernel
theorem dX9_totalAnew_85 : decode cX9_totalAnew 85 = .ok (.iload_n 2, 1) := by decide +kernel
theorem dX9_totalAnew_86 : decode cX9_totalAnew 86 = .ok (.aload_n 0, 1) := by decide +kernel
theorem dX9_totalAnew_87 : decode cX9_totalAnew 87 = .ok (.getfield 13, 3) := by decide +kernel
theorem dX9_totalAnew_90 : decode cX9_totalAnew 90 = .ok (.iconst 5, 1) := by decide +kernel
theorem dX9_totalAnew_91 : decode cX9_totalAnew 91 = .ok (.iaload, 1) := by decide +kernel
theorem dX9_totalAnew_92 : decode cX9_totalAnew 92 = .ok (.iadd, 1) := by decide +kernel
theorem dX9_totalAnew_93 : decode cX9_totalAnew 93 = .ok (.aload_n 0, 1) := by decide +kernel
theorem dX9_totalAnew_94 : decode cX9_totalAnew 94 = .ok (.getfield 65, 3) := by decide +kernel
theorem dX9_totalAnew_97 : decode cX9_totalAnew 97 = .ok (.bipush 6, 2) := by decide +kernel
theorem dX9_totalAnew_99 : decode cX9_totalAnew 99 = .ok (.iaload, 1) := by decide +kernel
theorem dX9_totalAnew_100 : decode cX9_totalAnew 100 = .ok (.if_icmp .le 5, 3) := by decide +kernel
theorem dX9_totalAnew_103 : decode cX9_totalAnew 103 = .ok (.iconst 0, 1) := by decide +kernel
theorem dX9_totalAnew_104 : decode cX9_totalAnew 104 = .ok (.ireturn, 1) := by decide +kernel
theorem dX9_totalAnew_105 : decode cX9_totalAnew 105 = .ok (.iconst 0, 1) := by decide +kernel
theorem dX9_totalAnew_106 : decode cX9_totalAnew 106 = .ok (.istore 4, 2) := by decide +kernel
theorem dX9_totalAnew_108 : decode cX9_totalAnew 108 = .ok (.iconst 0, 1) := by decide +kernel
theorem dX9_totalAnew_109 : decode cX9_totalAnew 109 = .ok (.istore 5, 2) := by decide +kernel
theorem dX9_totalAnew_111 : decode cX9_totalAnew 111 = .ok (.iconst 0, 1) := by decide +kernel
theorem dX9_totalAnew_112 : decode cX9_totalAnew 112 = .ok (.istore 6, 2) := by decide +kernel
theorem dX9_totalAnew_114 : decode cX9_totalAnew 114 = .ok (.iload 6, 2) := by decide +kernel
theorem dX9_totalAnew_116 : decode cX9_totalAnew 116 = .ok (.iconst 3, 1) := by decide +kernel
theorem dX9_totalAnew_117 : decode cX9_totalAnew 117 = .ok (.if_icmp .ge 193, 3) := by decide +kernel
theorem dX9_totalAnew_120 : decode cX9_totalAnew 120 = .ok (.sipush 300, 3) := by decide +kernel
theorem dX9_totalAnew_123 : decode cX9_totalAnew 123 = .ok (.iload 6, 2) := by decide +kernel
theorem dX9_totalAnew_125 : decode cX9_totalAnew 125 = .ok (.imul, 1) := by decide +kernel
theorem dX9_totalAnew_126 : decode cX9_totalAnew 126 = .ok (.istore 7, 2) := by decide +kernel
theorem dX9_totalAnew_128 : decode cX9_totalAnew 128 = .ok (.iload 7, 2) := by decide +kernel
theorem dX9_totalAnew_130 : decode cX9_totalAnew 130 = .ok (.sipush 300, 3) := by decide +kernel
theorem dX9_totalAnew_133 : decode cX9_totalAnew 133 = .ok (.iload 6, 2) := by decide +kernel
theorem dX9_totalAnew_135 : decode cX9_totalAnew 135 = .ok (.imul, 1) := by decide +kernel
theorem dX9_totalAnew_136 : decode cX9_totalAnew 136 = .ok (.aload_n 0, 1) := by decide +kernel
theorem dX9_totalAnew_137 : decode cX9_totalAnew 137 = .ok (.getfield 59, 3) := by decide +kernel
theorem dX9_totalAnew_140 : decode cX9_totalAnew 140 = .ok (.bipush 18, 2) := by decide +kernel
theorem dX9_totalAnew_142 : decode cX9_totalAnew 142 = .ok (.iload 6, 2) := by decide +kernel
theorem dX9_totalAnew_144 : decode cX9_totalAnew 144 = .ok (.iadd, 1) := by decide +kernel
theorem dX9_totalAnew_145 : decode cX9_totalAnew 145 = .ok (.iaload, 1) := by decide +kernel
theorem dX9_totalAnew_146 : decode cX9_totalAnew 146 = .ok (.iadd, 1) := by decide +kernel
theorem dX9_totalAnew_147 : decode cX9_totalAnew 147 = .ok (.if_icmp .ge 157, 3) := by decide +kernel
theorem dX9_totalAnew_150 : decode cX9_totalAnew 150 = .ok (.aload_n 0, 1) := by decide +kernel
theorem dX9_totalAnew_151 : decode cX9_totalAnew 151 = .ok (.getfield 31, 3) := by decide +kernel
theorem dX9_totalAnew_154 : decode cX9_totalAnew 154 = .ok (.iload 7, 2) := by decide +kernel
theorem dX9_totalAnew_156 : decode cX9_totalAnew 156 = .ok (.baload, 1) := by decide +kernel
theorem dX9_totalAnew_157 : decode cX9_totalAnew 157 = .ok (.ifCond .eq 68, 3) := by decide +kernel
theorem dX9_totalAnew_160 : decode cX9_totalAnew 160 = .ok (.aload_n 0, 1) := by decide +kernel
theorem dX9_totalAnew_161 : decode cX9_totalAnew 161 = .ok (.getfield 22, 3) := by decide +kernel
theorem dX9_totalAnew_164 : decode cX9_totalAnew 164 = .ok (.iload 7, 2) := by decide +kernel
theorem dX9_totalAnew_166 : decode cX9_totalAnew 166 = .ok (.iaload, 1) := by decide +kernel
theorem dX9_totalAnew_167 : decode cX9_totalAnew 167 = .ok (.iload_n 1, 1) := by decide +kernel
theorem dX9_totalAnew_168 : decode cX9_totalAnew 168 = .ok (.if_icmp .ne 57, 3) := by decide +kernel
theorem dX9_totalAnew_171 : decode cX9_totalAnew 171 = .ok (.aload_n 0, 1) := by decide +kernel
theorem dX9_totalAnew_172 : decode cX9_totalAnew 172 = .ok (.getfield 25, 3) := by decide +kernel
theorem dX9_totalAnew_175 : decode cX9_totalAnew 175 = .ok (.iload 7, 2) := by decide +kernel
theorem dX9_totalAnew_177 : decode cX9_totalAnew 177 = .ok (.iaload, 1) := by decide +kernel
theorem dX9_totalAnew_178 : decode cX9_totalAnew 178 = .ok (.iload_n 2, 1) := by decide +kernel
theorem dX9_totalAnew_179 : decode cX9_totalAnew 179 = .ok (.iload_n 2, 1) := by decide +kernel
theorem dX9_totalAnew_180 : decode cX9_totalAnew 180 = .ok (.aload_n 0, 1) := by decide +kernel
theorem dX9_totalAnew_181 : decode cX9_totalAnew 181 = .ok (.getfield 13, 3) := by decide +kernel
theorem dX9_totalAnew_184 : decode cX9_totalAnew 184 = .ok (.iconst 5, 1) := by decide +kernel
theorem dX9_totalAnew_185 : decode cX9_totalAnew 185 = .ok (.iaload, 1) := by decide +kernel
theorem dX9_totalAnew_186 : decode cX9_totalAnew 186 = .ok (.iadd, 1) := by decide +kernel
theorem dX9_totalAnew_187 : decode cX9_totalAnew 187 = .ok (.iconst 1, 1) := by decide +kernel
theorem dX9_totalAnew_188 : decode cX9_totalAnew 188 = .ok (.isub, 1) := by decide +kernel
theorem dX9_totalAnew_189 : decode cX9_totalAnew 189 = .ok (.invokestatic 124, 3) := by decide +kernel
theorem dX9_totalAnew_192 : decode cX9_totalAnew 192 = .ok (.ifCond .eq 33, 3) := by decide +kernel
theorem dX9_totalAnew_195 : decode cX9_totalAnew 195 = .ok (.iload_n 2, 1) := by decide +kernel
theorem dX9_totalAnew_196 : decode cX9_totalAnew 196 = .ok (.aload_n 0, 1) := by decide +kernel
theorem dX9_totalAnew_197 : decode cX9_totalAnew 197 = .ok (.getfield 13, 3) := by decide +kernel
theorem dX9_totalAnew_200 : decode cX9_totalAnew 200 = .ok (.iconst 5, 1) := by decide +kernel
theorem dX9_totalAnew_201 : decode cX9_totalAnew 201 = .ok (.iaload, 1) := by decide +kernel
theorem dX9_totalAnew_202 : decode cX9_totalAnew 202 = .ok (.iadd, 1) := by decide +kernel
theorem dX9_totalAnew_203 : decode cX9_totalAnew 203 = .ok (.aload_n 0, 1) := by decide +kernel
theorem dX9_totalAnew_204 : decode cX9_totalAnew 204 = .ok (.getfield 41, 3) := by decide +kernel
theorem dX9_totalAnew_207 : decode cX9_totalAnew 207 = .ok (.iload 7, 2) := by decide +kernel
theorem dX9_totalAnew_209 : decode cX9_totalAnew 209 = .ok (.iaload, 1) := by decide +kernel
theorem dX9_totalAnew_210 : decode cX9_totalAnew 210 = .ok (.iadd, 1) := by decide +kernel
theorem dX9_totalAnew_211 : decode cX9_totalAnew 211 = .ok (.aload_n 0, 1) := by decide +kernel
theorem dX9_totalAnew_212 : decode cX9_totalAnew 212 = .ok (.getfield 38, 3) := by decide +kernel
theorem dX9_totalAnew_215 : decode cX9_totalAnew 215 = .ok (.iload 7, 2) := by decide +kernel
theorem dX9_totalAnew_217 : decode cX9_totalAnew 217 = .ok (.iaload, 1) := by decide +kernel
theorem dX9_totalAnew_218 : decode cX9_totalAnew 218 = .ok (.if_icmp .le 7, 3) := by decide +kernel
theorem dX9_totalAnew_221 : decode cX9_totalAnew 221 = .ok (.iconst 1, 1) := by decide +kernel
theorem dX9_totalAnew_222 : decode cX9_totalAnew 222 = .ok (.goto 4, 3) := by decide +kernel
theorem dX9_totalAnew_225 : decode cX9_totalAnew 225 = .ok (.iconst 0, 1) := by decide +kernel
theorem dX9_totalAnew_226 : decode cX9_totalAnew 226 = .ok (.istore 8, 2) := by decide +kernel
theorem dX9_totalAnew_228 : decode cX9_totalAnew 228 = .ok (.aload_n 0, 1) := by decide +kernel
theorem dX9_totalAnew_229 : decode cX9_totalAnew 229 = .ok (.getfield 13, 3) := by decide +kernel
theorem dX9_totalAnew_232 : decode cX9_totalAnew 232 = .ok (.iconst 0, 1) := by decide +kernel
theorem dX9_totalAnew_233 : decode cX9_totalAnew 233 = .ok (.iaload, 1) := by decide +kernel
theorem dX9_totalAnew_234 : decode cX9_totalAnew 234 = .ok (.iconst 1, 1) := by decide +kernel
theorem dX9_totalAnew_235 : decode cX9_totalAnew 235 = .ok (.if_icmp .ne 7, 3) := by decide +kernel
theorem dX9_totalAnew_238 : decode cX9_totalAnew 238 = .ok (.iconst 1, 1) := by decide +kernel
theorem dX9_totalAnew_239 : decode cX9_totalAnew 239 = .ok (.goto 10, 3) := by decide +kernel
theorem dX9_totalAnew_242 : decode cX9_totalAnew 242 = .ok (.aload_n 0, 1) := by decide +kernel
theorem dX9_totalAnew_243 : decode cX9_totalAnew 243 = .ok (.getfield 35, 3) := by decide +kernel
theorem dX9_totalAnew_246 : decode cX9_totalAnew 246 = .ok (.iload 7, 2) := by decide +kernel
theorem dX9_totalAnew_248 : decode cX9_totalAnew 248 = .ok (.iaload, 1) := by decide +kernel
theorem dX9_totalAnew_249 : decode cX9_totalAnew 249 = .ok (.istore 9, 2) := by decide +kernel
theorem dX9_totalAnew_251 : decode cX9_totalAnew 251 = .ok (.iload 8, 2) := by decide +kernel
theorem dX9_totalAnew_253 : decode cX9_totalAnew 253 = .ok (.ifCond .ne 8, 3) := by decide +kernel
theorem dX9_totalAnew_256 : decode cX9_totalAnew 256 = .ok (.iload 4, 2) := by decide +kernel
theorem dX9_totalAnew_258 : decode cX9_totalAnew 258 = .ok (.goto 21, 3) := by decide +kernel
theorem dX9_totalAnew_261 : decode cX9_totalAnew 261 = .ok (.iload 5, 2) := by decide +kernel
theorem dX9_totalAnew_263 : decode cX9_totalAnew 263 = .ok (.ifCond .eq 14, 3) := by decide +kernel
theorem dX9_totalAnew_266 : decode cX9_totalAnew 266 = .ok (.aload_n 0, 1) := by decide +kernel
theorem dX9_totalAnew_267 : decode cX9_totalAnew 267 = .ok (.iload 4, 2) := by decide +kernel
theorem dX9_totalAnew_269 : decode cX9_totalAnew 269 = .ok (.iload 9, 2) := by decide +kernel
theorem dX9_totalAnew_271 : decode cX9_totalAnew 271 = .ok (.invokevirtual 229, 3) := by decide +kernel
theorem dX9_totalAnew_274 : decode cX9_totalAnew 274 = .ok (.goto 5, 3) := by decide +kernel
theorem dX9_totalAnew_277 : decode cX9_totalAnew 277 = .ok (.iload 9, 2) := by decide +kernel
theorem dX9_totalAnew_279 : decode cX9_totalAnew 279 = .ok (.istore 4, 2) := by decide +kernel
theorem dX9_totalAnew_281 : decode cX9_totalAnew 281 = .ok (.iload 5, 2) := by decide +kernel
theorem dX9_totalAnew_283 : decode cX9_totalAnew 283 = .ok (.ifCond .ne 8, 3) := by decide +kernel
theorem dX9_totalAnew_286 : decode cX9_totalAnew 286 = .ok (.iload 8, 2) := by decide +kernel
theorem dX9_totalAnew_288 : decode cX9_totalAnew 288 = .ok (.ifCond .eq 7, 3) := by decide +kernel
theorem dX9_totalAnew_291 : decode cX9_totalAnew 291 = .ok (.iconst 1, 1) := by decide +kernel
theorem dX9_totalAnew_292 : decode cX9_totalAnew 292 = .ok (.goto 4, 3) := by decide +kernel
theorem dX9_totalAnew_295 : decode cX9_totalAnew 295 = .ok (.iconst 0, 1) := by decide +kernel
theorem dX9_totalAnew_296 : decode cX9_totalAnew 296 = .ok (.istore 5, 2) := by decide +kernel
theorem dX9_totalAnew_298 : decode cX9_totalAnew 298 = .ok (.iinc 7 1, 3) := by decide +kernel
theorem dX9_totalAnew_301 : decode cX9_totalAnew 301 = .ok (.goto (-173), 3) := by decide +kernel
theorem dX9_totalAnew_304 : decode cX9_totalAnew 304 = .ok (.iinc 6 1, 3) := by decide +kernel
theorem dX9_totalAnew_307 : decode cX9_totalAnew 307 = .ok (.goto (-193), 3) := by decide +kernel
theorem dX9_totalAnew_310 : decode cX9_totalAnew 310 = .ok (.iload 4, 2) := by decide +kernel
theorem dX9_totalAnew_312 : decode cX9_totalAnew 312 = .ok (.ireturn, 1) := by decide +kernel
theorem dX9_copies_0 : decode cX9_copies 0 = .ok (.iconst 0, 1) := by decide +kernel
theorem dX9_copies_1 : decode cX9_copies 1 = .ok (.istore_n 3, 1) := by decide +kernel
theorem dX9_copies_2 : decode cX9_copies 2 = .ok (.iload_n 3, 1) := by decide +kernel
theorem dX9_copies_3 : decode cX9_copies 3 = .ok (.iconst 3, 1) := by decide +kernel
theorem dX9_copies_4 : decode cX9_copies 4 = .ok (.if_icmp .ge 49, 3) := by decide +kernel
theorem dX9_copies_7 : decode cX9_copies 7 = .ok (.aload_n 0, 1) := by decide +kernel
theorem dX9_copies_8 : decode cX9_copies 8 = .ok (.getfield 59, 3) := by decide +kernel
theorem dX9_copies_11 : decode cX9_copies 11 = .ok (.iconst 3, 1) := by decide +kernel
theorem dX9_copies_12 : decode cX9_copies 12 = .ok (.iload_n 2, 1) := by decide +kernel
theorem dX9_copies_13 : decode cX9_copies 13 = .ok (.imul, 1) := by decide +kernel
theorem dX9_copies_14 : decode cX9_copies 14 = .ok (.iload_n 3, 1) := by decide +kernel
theorem dX9_copies_15 : decode cX9_copies 15 = .ok (.iadd, 1) := by decide +kernel
theorem dX9_copies_16 : decode cX9_copies 16 = .ok (.aload_n 0, 1) := by decide +kernel
theorem dX9_copies_17 : decode cX9_copies 17 = .ok (.getfield 59, 3) := by decide +kernel
theorem dX9_copies_20 : decode cX9_copies 20 = .ok (.iconst 3, 1) := by decide +kernel
theorem dX9_copies_21 : decode cX9_copies 21 = .ok (.iload_n 1, 1) := by decide +kernel
theorem dX9_copies_22 : decode cX9_copies 22 = .ok (.imul, 1) := by decide +kernel
theorem dX9_copies_23 : decode cX9_copies 23 = .ok (.iload_n 3, 1) := by decide +kernel
theorem dX9_copies_24 : decode cX9_copies 24 = .ok (.iadd, 1) := by decide +kernel
theorem dX9_copies_25 : decode cX9_copies 25 = .ok (.iaload, 1) := by decide +kernel
theorem dX9_copies_26 : decode cX9_copies 26 = .ok (.iastore, 1) := by decide +kernel
theorem dX9_copies_27 : decode cX9_copies 27 = .ok (.aload_n 0, 1) := by decide +kernel
theorem dX9_copies_28 : decode cX9_copies 28 = .ok (.getfield 62, 3) := by decide +kernel
theorem dX9_copies_31 : decode cX9_copies 31 = .ok (.iconst 3, 1) := by decide +kernel
theorem dX9_copies_32 : decode cX9_copies 32 = .ok (.iload_n 2, 1) := by decide +kernel
theorem dX9_copies_33 : decode cX9_copies 33 = .ok (.imul, 1) := by decide +kernel
theorem dX9_copies_34 : decode cX9_copies 34 = .ok (.iload_n 3, 1) := by decide +kernel
theorem dX9_copies_35 : decode cX9_copies 35 = .ok (.iadd, 1) := by decide +kernel
theorem dX9_copies_36 : decode cX9_copies 36 = .ok (.aload_n 0, 1) := by decide +kernel
theorem dX9_copies_37 : decode cX9_copies 37 = .ok (.getfield 62, 3) := by decide +kernel
theorem dX9_copies_40 : decode cX9_copies 40 = .ok (.iconst 3, 1) := by decide +kernel
theorem dX9_copies_41 : decode cX9_copies 41 = .ok (.iload_n 1, 1) := by decide +kernel
theorem dX9_copies_42 : decode cX9_copies 42 = .ok (.imul, 1) := by decide +kernel
theorem dX9_copies_43 : decode cX9_copies 43 = .ok (.iload_n 3, 1) := by decide +kernel
theorem dX9_copies_44 : decode cX9_copies 44 = .ok (.iadd, 1) := by decide +kernel
theorem dX9_copies_45 : decode cX9_copies 45 = .ok (.iaload, 1) := by decide +kernel
theorem dX9_copies_46 : decode cX9_copies 46 = .ok (.iastore, 1) := by decide +kernel
theorem dX9_copies_47 : decode cX9_copies 47 = .ok (.iinc 3 1, 3) := by decide +kernel
theorem dX9_copies_50 : decode cX9_copies 50 = .ok (.goto (-48), 3) := by decide +kernel
theorem dX9_copies_53 : decode cX9_copies 53 = .ok (.aload_n 0, 1) := by decide +kernel
theorem dX9_copies_54 : decode cX9_copies 54 = .ok (.getfield 65, 3) := by decide +kernel
theorem dX9_copies_57 : decode cX9_copies 57 = .ok (.iload_n 2, 1) := by decide +kernel
theorem dX9_copies_58 : decode cX9_copies 58 = .ok (.aload_n 0, 1) := by decide +kernel
theorem dX9_copies_59 : decode cX9_copies 59 = .ok (.getfield 65, 3) := by decide +kernel
theorem dX9_copies_62 : decode cX9_copies 62 = .ok (.iload_n 1, 1) := by decide +kernel
theorem dX9_copies_63 : decode cX9_copies 63 = .ok (.iaload, 1) := by decide +kernel
theorem dX9_copies_64 : decode cX9_copies 64 = .ok (.iastore, 1) := by decide +kernel
theorem dX9_copies_65 : decode cX9_copies 65 = .ok (.aload_n 0, 1) := by decide +kernel
theorem dX9_copies_66 : decode cX9_copies 66 = .ok (.getfield 68, 3) := by decide +kernel
theorem dX9_copies_69 : decode cX9_copies 69 = .ok (.iload_n 2, 1) := by decide +kernel
theorem dX9_copies_70 : decode cX9_copies 70 = .ok (.aload_n 0, 1) := by decide +kernel
theorem dX9_copies_71 : decode cX9_copies 71 = .ok (.getfield 68, 3) := by decide +kernel
theorem dX9_copies_74 : decode cX9_copies 74 = .ok (.iload_n 1, 1) := by decide +kernel
theorem dX9_copies_75 : decode cX9_copies 75 = .ok (.iaload, 1) := by decide +kernel
theorem dX9_copies_76 : decode cX9_copies 76 = .ok (.iastore, 1) := by decide +kernel
theorem dX9_copies_77 : decode cX9_copies 77 = .ok (.aload_n 0, 1) := by decide +kernel
theorem dX9_copies_78 : decode cX9_copies 78 = .ok (.getfield 71, 3) := by decide +kernel
theorem dX9_copies_81 : decode cX9_copies 81 = .ok (.iload_n 2, 1) := by decide +kernel
theorem dX9_copies_82 : decode cX9_copies 82 = .ok (.aload_n 0, 1) := by decide +kernel
theorem dX9_copies_83 : decode cX9_copies 83 = .ok (.getfield 71, 3) := by decide +kernel
theorem dX9_copies_86 : decode cX9_copies 86 = .ok (.iload_n 1, 1) := by decide +kernel
theorem dX9_copies_87 : decode cX9_copies 87 = .ok (.iaload, 1) := by decide +kernel
theorem dX9_copies_88 : decode cX9_copies 88 = .ok (.iastore, 1) := by decide +kernel
theorem dX9_copies_89 : decode cX9_copies 89 = .ok (.aload_n 0, 1) := by decide +kernel
theorem dX9_copies_90 : decode cX9_copies 90 = .ok (.getfield 74, 3) := by decide +kernel
theorem dX9_copies_93 : decode cX9_copies 93 = .ok (.iload_n 2, 1) := by decide +kernel
theorem dX9_copies_94 : decode cX9_copies 94 = .ok (.aload_n 0, 1) := by decide +kernel
theorem dX9_copies_95 : decode cX9_copies 95 = .ok (.getfield 74, 3) := by decide +kernel
theorem dX9_copies_98 : decode cX9_copies 98 = .ok (.iload_n 1, 1) := by decide +kernel
theorem dX9_copies_99 : decode cX9_copies 99 = .ok (.iaload, 1) := by decide +kernel
theorem dX9_copies_100 : decode cX9_copies 100 = .ok (.iastore, 1) := by decide +kernel
theorem dX9_copies_101 : decode cX9_copies 101 = .ok (.iconst 0, 1) := by decide +kernel
theorem dX9_copies_102 : decode cX9_copies 102 = .ok (.istore_n 3, 1) := by decide +kernel
theorem dX9_copies_103 : decode cX9_copies 103 = .ok (.iload_n 3, 1) := by decide +kernel
theorem dX9_copies_104 : decode cX9_copies 104 = .ok (.aload_n 0, 1) := by decide +kernel
theorem dX9_copies_105 : decode cX9_copies 105 = .ok (.getfield 74, 3) := by decide +kernel
theorem dX9_copies_108 : decode cX9_copies 108 = .ok (.iload_n 1, 1) := by decide +kernel
theorem dX9_copies_109 : decode cX9_copies 109 = .ok (.iaload, 1) := by decide +kernel
theorem dX9_copies_110 : decode cX9_copies 110 = .ok (.if_icmp .ge 27, 3) := by decide +kernel
theorem dX9_copies_113 : decode cX9_copies 113 = .ok (.aload_n 0, 1) := by decide +kernel
theorem dX9_copies_114 : decode cX9_copies 114 = .ok (.sipush 1200, 3) := by decide +kernel
theorem dX9_copies_117 : decode cX9_copies 117 = .ok (.iload_n 1, 1) := by decide +kernel
theorem dX9_copies_118 : decode cX9_copies 118 = .ok (.imul, 1) := by decide +kernel
theorem dX9_copies_119 : decode cX9_copies 119 = .ok (.iload_n 3, 1) := by decide +kernel
theorem dX9_copies_120 : decode cX9_copies 120 = .ok (.iadd, 1) := by decide +kernel
theorem dX9_copies_121 : decode cX9_copies 121 = .ok (.sipush 1200, 3) := by decide +kernel
theorem dX9_copies_124 : decode cX9_copies 124 = .ok (.iload_n 2, 1) := by decide +kernel
theorem dX9_copies_125 : decode cX9_copies 125 = .ok (.imul, 1) := by decide +kernel
theorem dX9_copies_126 : decode cX9_copies 126 = .ok (.iload_n 3, 1) := by decide +kernel
theorem dX9_copies_127 : decode cX9_copies 127 = .ok (.iadd, 1) := by decide +kernel
theorem dX9_copies_128 : decode cX9_copies 128 = .ok (.invokevirtual 221, 3) := by decide +kernel
theorem dX9_copies_131 : decode cX9_copies 131 = .ok (.iinc 3 1, 3) := by decide +kernel
theorem dX9_copies_134 : decode cX9_copies 134 = .ok (.goto (-31), 3) := by decide +kernel
theorem dX9_copies_137 : decode cX9_copies 137 = .ok (.return_, 1) := by decide +kernel
theorem dX9_barrier_0 : decode cX9_barrier 0 = .ok (.aload_n 0, 1) := by decide +kernel
theorem dX9_barrier_1 : decode cX9_barrier 1 = .ok (.aload_n 0, 1) := by decide +kernel
theorem dX9_barrier_2 : decode cX9_barrier 2 = .ok (.getfield 187, 3) := by decide +kernel
theorem dX9_barrier_5 : decode cX9_barrier 5 = .ok (.ifCond .eq 11, 3) := by decide +kernel
theorem dX9_barrier_8 : decode cX9_barrier 8 = .ok (.aload_n 0, 1) := by decide +kernel
theorem dX9_barrier_9 : decode cX9_barrier 9 = .ok (.getfield 197, 3) := by decide +kernel
theorem dX9_barrier_12 : decode cX9_barrier 12 = .ok (.iconst 5, 1) := by decide +kernel
theorem dX9_barrier_13 : decode cX9_barrier 13 = .ok (.if_icmp .ne 7, 3) := by decide +kernel
theorem dX9_barrier_16 : decode cX9_barrier 16 = .ok (.iconst 1, 1) := by decide +kernel
theorem dX9_barrier_17 : decode cX9_barrier 17 = .ok (.goto 4, 3) := by decide +kernel
theorem dX9_barrier_20 : decode cX9_barrier 20 = .ok (.iconst 0, 1) := by decide +kernel
theorem dX9_barrier_21 : decode cX9_barrier 21 = .ok (.invokevirtual 131, 3) := by decide +kernel
theorem dX9_barrier_24 : decode cX9_barrier 24 = .ok (.ifCond .ne 5, 3) := by decide +kernel
theorem dX9_barrier_27 : decode cX9_barrier 27 = .ok (.iconst 0, 1) := by decide +kernel
theorem dX9_barrier_28 : decode cX9_barrier 28 = .ok (.ireturn, 1) := by decide +kernel
theorem dX9_barrier_29 : decode cX9_barrier 29 = .ok (.aload_n 0, 1) := by decide +kernel
theorem dX9_barrier_30 : decode cX9_barrier 30 = .ok (.bipush 6, 2) := by decide +kernel
theorem dX9_barrier_32 : decode cX9_barrier 32 = .ok (.aload_n 0, 1) := by decide +kernel
theorem dX9_barrier_33 : decode cX9_barrier 33 = .ok (.getfield 197, 3) := by decide +kernel
theorem dX9_barrier_36 : decode cX9_barrier 36 = .ok (.invokevirtual 278, 3) := by decide +kernel
theorem dX9_barrier_39 : decode cX9_barrier 39 = .ok (.aload_n 0, 1) := by decide +kernel
theorem dX9_barrier_40 : decode cX9_barrier 40 = .ok (.getfield 95, 3) := by decide +kernel
theorem dX9_barrier_43 : decode cX9_barrier 43 = .ok (.aload_n 0, 1) := by decide +kernel
theorem dX9_barrier_44 : decode cX9_barrier 44 = .ok (.getfield 197, 3) := by decide +kernel
theorem dX9_barrier_47 : decode cX9_barrier 47 = .ok (.aload_n 0, 1) := by decide +kernel
theorem dX9_barrier_48 : decode cX9_barrier 48 = .ok (.getfield 200, 3) := by decide +kernel
theorem dX9_barrier_51 : decode cX9_barrier 51 = .ok (.iastore, 1) := by decide +kernel
theorem dX9_barrier_52 : decode cX9_barrier 52 = .ok (.aload_n 0, 1) := by decide +kernel
theorem dX9_barrier_53 : decode cX9_barrier 53 = .ok (.dup, 1) := by decide +kernel
theorem dX9_barrier_54 : decode cX9_barrier 54 = .ok (.getfield 197, 3) := by decide +kernel
theorem dX9_barrier_57 : decode cX9_barrier 57 = .ok (.iconst 1, 1) := by decide +kernel
theorem dX9_barrier_58 : decode cX9_barrier 58 = .ok (.iadd, 1) := by decide +kernel
theorem dX9_barrier_59 : decode cX9_barrier 59 = .ok (.putfield 197, 3) := by decide +kernel
theorem dX9_barrier_62 : decode cX9_barrier 62 = .ok (.aload_n 0, 1) := by decide +kernel
theorem dX9_barrier_63 : decode cX9_barrier 63 = .ok (.dup, 1) := by decide +kernel
theorem dX9_barrier_64 : decode cX9_barrier 64 = .ok (.getfield 200, 3) := by decide +kernel
theorem dX9_barrier_67 : decode cX9_barrier 67 = .ok (.iconst 1, 1) := by decide +kernel
theorem dX9_barrier_68 : decode cX9_barrier 68 = .ok (.iadd, 1) := by decide +kernel
theorem dX9_barrier_69 : decode cX9_barrier 69 = .ok (.putfield 200, 3) := by decide +kernel
theorem dX9_barrier_72 : decode cX9_barrier 72 = .ok (.aload_n 0, 1) := by decide +kernel
theorem dX9_barrier_73 : decode cX9_barrier 73 = .ok (.getfield 200, 3) := by decide +kernel
theorem dX9_barrier_76 : decode cX9_barrier 76 = .ok (.iconst 1, 1) := by decide +kernel
theorem dX9_barrier_77 : decode cX9_barrier 77 = .ok (.isub, 1) := by decide +kernel
theorem dX9_barrier_78 : decode cX9_barrier 78 = .ok (.ireturn, 1) := by decide +kernel
theorem dX9_complete_0 : decode cX9_complete 0 = .ok (.iconst (-1), 1) := by decide +kernel
theorem dX9_complete_1 : decode cX9_complete 1 = .ok (.istore_n 2, 1) := by decide +kernel
theorem dX9_complete_2 : decode cX9_complete 2 = .ok (.iconst 0, 1) := by decide +kernel
theorem dX9_complete_3 : decode cX9_complete 3 = .ok (.istore_n 3, 1) := by decide +kernel
theorem dX9_complete_4 : decode cX9_complete 4 = .ok (.iload_n 3, 1) := by decide +kernel
theorem dX9_complete_5 : decode cX9_complete 5 = .ok (.aload_n 0, 1) := by decide +kernel
theorem dX9_complete_6 : decode cX9_complete 6 = .ok (.getfield 197, 3) := by decide +kernel
theorem dX9_complete_9 : decode cX9_complete 9 = .ok (.if_icmp .ge 25, 3) := by decide +kernel
theorem dX9_complete_12 : decode cX9_complete 12 = .ok (.aload_n 0, 1) := by decide +kernel
theorem dX9_complete_13 : decode cX9_complete 13 = .ok (.getfield 95, 3) := by decide +kernel
theorem dX9_complete_16 : decode cX9_complete 16 = .ok (.iload_n 3, 1) := by decide +kernel
theorem dX9_complete_17 : decode cX9_complete 17 = .ok (.iaload, 1) := by decide +kernel
theorem dX9_complete_18 : decode cX9_complete 18 = .ok (.iload_n 1, 1) := by decide +kernel
theorem dX9_complete_19 : decode cX9_complete 19 = .ok (.if_icmp .ne 7, 3) := by decide +kernel
theorem dX9_complete_22 : decode cX9_complete 22 = .ok (.iload_n 3, 1) := by decide +kernel
theorem dX9_complete_23 : decode cX9_complete 23 = .ok (.goto 4, 3) := by decide +kernel
theorem dX9_complete_26 : decode cX9_complete 26 = .ok (.iload_n 2, 1) := by decide +kernel
theorem dX9_complete_27 : decode cX9_complete 27 = .ok (.istore_n 2, 1) := by decide +kernel
theorem dX9_complete_28 : decode cX9_complete 28 = .ok (.iinc 3 1, 3) := by decide +kernel
theorem dX9_complete_31 : decode cX9_complete 31 = .ok (.goto (-27), 3) := by decide +kernel
theorem dX9_complete_34 : decode cX9_complete 34 = .ok (.aload_n 0, 1) := by decide +kernel
theorem dX9_complete_35 : decode cX9_complete 35 = .ok (.iload_n 2, 1) := by decide +kernel
theorem dX9_complete_36 : decode cX9_complete 36 = .ok (.iconst (-1), 1) := by decide +kernel
theorem dX9_complete_37 : decode cX9_complete 37 = .ok (.if_icmp .ne 7, 3) := by decide +kernel
theorem dX9_complete_40 : decode cX9_complete 40 = .ok (.iconst 1, 1) := by decide +kernel
theorem dX9_complete_41 : decode cX9_complete 41 = .ok (.goto 4, 3) := by decide +kernel
theorem dX9_complete_44 : decode cX9_complete 44 = .ok (.iconst 0, 1) := by decide +kernel
theorem dX9_complete_45 : decode cX9_complete 45 = .ok (.invokevirtual 131, 3) := by decide +kernel
theorem dX9_complete_48 : decode cX9_complete 48 = .ok (.ifCond .ne 5, 3) := by decide +kernel
theorem dX9_complete_51 : decode cX9_complete 51 = .ok (.iconst 0, 1) := by decide +kernel
theorem dX9_complete_52 : decode cX9_complete 52 = .ok (.ireturn, 1) := by decide +kernel
theorem dX9_complete_53 : decode cX9_complete 53 = .ok (.aload_n 0, 1) := by decide +kernel
theorem dX9_complete_54 : decode cX9_complete 54 = .ok (.getfield 71, 3) := by decide +kernel
theorem dX9_complete_57 : decode cX9_complete 57 = .ok (.iconst 5, 1) := by decide +kernel
theorem dX9_complete_58 : decode cX9_complete 58 = .ok (.iaload, 1) := by decide +kernel
theorem dX9_complete_59 : decode cX9_complete 59 = .ok (.istore_n 3, 1) := by decide +kernel
theorem dX9_complete_60 : decode cX9_complete 60 = .ok (.aload_n 0, 1) := by decide +kernel
theorem dX9_complete_61 : decode cX9_complete 61 = .ok (.iload_n 2, 1) := by decide +kernel
theorem dX9_complete_62 : decode cX9_complete 62 = .ok (.iconst 5, 1) := by decide +kernel
theorem dX9_complete_63 : decode cX9_complete 63 = .ok (.invokevirtual 278, 3) := by decide +kernel
theorem dX9_complete_66 : decode cX9_complete 66 = .ok (.iload_n 2, 1) := by decide +kernel
theorem dX9_complete_67 : decode cX9_complete 67 = .ok (.iconst 1, 1) := by decide +kernel
theorem dX9_complete_68 : decode cX9_complete 68 = .ok (.iadd, 1) := by decide +kernel
theorem dX9_complete_69 : decode cX9_complete 69 = .ok (.istore 4, 2) := by decide +kernel
theorem dX9_complete_71 : decode cX9_complete 71 = .ok (.iload 4, 2) := by decide +kernel
theorem dX9_complete_73 : decode cX9_complete 73 = .ok (.aload_n 0, 1) := by decide +kernel
theorem dX9_complete_74 : decode cX9_complete 74 = .ok (.getfield 197, 3) := by decide +kernel
theorem dX9_complete_77 : decode cX9_complete 77 = .ok (.if_icmp .ge 39, 3) := by decide +kernel
theorem dX9_complete_80 : decode cX9_complete 80 = .ok (.aload_n 0, 1) := by decide +kernel
theorem dX9_complete_81 : decode cX9_complete 81 = .ok (.iload 4, 2) := by decide +kernel
theorem dX9_complete_83 : decode cX9_complete 83 = .ok (.iload 4, 2) := by decide +kernel
theorem dX9_complete_85 : decode cX9_complete 85 = .ok (.iload_n 2, 1) := by decide +kernel
theorem dX9_complete_86 : decode cX9_complete 86 = .ok (.isub, 1) := by decide +kernel
theorem dX9_complete_87 : decode cX9_complete 87 = .ok (.iconst 1, 1) := by decide +kernel
theorem dX9_complete_88 : decode cX9_complete 88 = .ok (.isub, 1) := by decide +kernel
theorem dX9_complete_89 : decode cX9_complete 89 = .ok (.invokevirtual 278, 3) := by decide +kernel
theorem dX9_complete_92 : decode cX9_complete 92 = .ok (.aload_n 0, 1) := by decide +kernel
theorem dX9_complete_93 : decode cX9_complete 93 = .ok (.getfield 95, 3) := by decide +kernel
theorem dX9_complete_96 : decode cX9_complete 96 = .ok (.iload 4, 2) := by decide +kernel
theorem dX9_complete_98 : decode cX9_complete 98 = .ok (.iload_n 2, 1) := by decide +kernel
theorem dX9_complete_99 : decode cX9_complete 99 = .ok (.isub, 1) := by decide +kernel
theorem dX9_complete_100 : decode cX9_complete 100 = .ok (.iconst 1, 1) := by decide +kernel
theorem dX9_complete_101 : decode cX9_complete 101 = .ok (.isub, 1) := by decide +kernel
theorem dX9_complete_102 : decode cX9_complete 102 = .ok (.aload_n 0, 1) := by decide +kernel
theorem dX9_complete_103 : decode cX9_complete 103 = .ok (.getfield 95, 3) := by decide +kernel
theorem dX9_complete_106 : decode cX9_complete 106 = .ok (.iload 4, 2) := by decide +kernel
theorem dX9_complete_108 : decode cX9_complete 108 = .ok (.iaload, 1) := by decide +kernel
theorem dX9_complete_109 : decode cX9_complete 109 = .ok (.iastore, 1) := by decide +kernel
theorem dX9_complete_110 : decode cX9_complete 110 = .ok (.iinc 4 1, 3) := by decide +kernel
theorem dX9_complete_113 : decode cX9_complete 113 = .ok (.goto (-42), 3) := by decide +kernel
theorem dX9_complete_116 : decode cX9_complete 116 = .ok (.aload_n 0, 1) := by decide +kernel
theorem dX9_complete_117 : decode cX9_complete 117 = .ok (.dup, 1) := by decide +kernel
theorem dX9_complete_118 : decode cX9_complete 118 = .ok (.getfield 197, 3) := by decide +kernel
theorem dX9_complete_121 : decode cX9_complete 121 = .ok (.iload_n 2, 1) := by decide +kernel
theorem dX9_complete_122 : decode cX9_complete 122 = .ok (.iconst 1, 1) := by decide +kernel
theorem dX9_complete_123 : decode cX9_complete 123 = .ok (.iadd, 1) := by decide +kernel
theorem dX9_complete_124 : decode cX9_complete 124 = .ok (.isub, 1) := by decide +kernel
theorem dX9_complete_125 : decode cX9_complete 125 = .ok (.putfield 197, 3) := by decide +kernel
theorem dX9_complete_128 : decode cX9_complete 128 = .ok (.aload_n 0, 1) := by decide +kernel
theorem dX9_complete_129 : decode cX9_complete 129 = .ok (.getfield 71, 3) := by decide +kernel
theorem dX9_complete_132 : decode cX9_complete 132 = .ok (.iconst 5, 1) := by decide +kernel
theorem dX9_complete_133 : decode cX9_complete 133 = .ok (.iaload, 1) := by decide +kernel
theorem dX9_complete_134 : decode cX9_complete 134 = .ok (.iload_n 3, 1) := by decide +kernel
theorem dX9_complete_135 : decode cX9_complete 135 = .ok (.isub, 1) := by decide +kernel
theorem dX9_complete_136 : decode cX9_complete 136 = .ok (.ireturn, 1) := by decide +kernel
theorem dX9_doubtful_0 : decode cX9_doubtful 0 = .ok (.aload_n 0, 1) := by decide +kernel
theorem dX9_doubtful_1 : decode cX9_doubtful 1 = .ok (.iconst 0, 1) := by decide +kernel
theorem dX9_doubtful_2 : decode cX9_doubtful 2 = .ok (.putfield 121, 3) := by decide +kernel
theorem dX9_doubtful_5 : decode cX9_doubtful 5 = .ok (.aload_n 0, 1) := by decide +kernel
theorem dX9_doubtful_6 : decode cX9_doubtful 6 = .ok (.getfield 197, 3) := by decide +kernel
theorem dX9_doubtful_9 : decode cX9_doubtful 9 = .ok (.ireturn, 1) := by decide +kernel
theorem dX9_crash_0 : decode cX9_crash 0 = .ok (.aload_n 0, 1) := by decide +kernel
theorem dX9_crash_1 : decode cX9_crash 1 = .ok (.aload_n 0, 1) := by decide +kernel
theorem dX9_crash_2 : decode cX9_crash 2 = .ok (.getfield 187, 3) := by decide +kernel
theorem dX9_crash_5 : decode cX9_crash 5 = .ok (.ifCond .eq 7, 3) := by decide +kernel
theorem dX9_crash_8 : decode cX9_crash 8 = .ok (.iconst 0, 1) := by decide +kernel
theorem dX9_crash_9 : decode cX9_crash 9 = .ok (.goto 4, 3) := by decide +kernel
theorem dX9_crash_12 : decode cX9_crash 12 = .ok (.iconst 1, 1) := by decide +kernel
theorem dX9_crash_13 : decode cX9_crash 13 = .ok (.invokevirtual 131, 3) := by decide +kernel
theorem dX9_crash_16 : decode cX9_crash 16 = .ok (.ifCond .ne 5, 3) := by decide +kernel
theorem dX9_crash_19 : decode cX9_crash 19 = .ok (.iconst 0, 1) := by decide +kernel
theorem dX9_crash_20 : decode cX9_crash 20 = .ok (.ireturn, 1) := by decide +kernel
theorem dX9_crash_21 : decode cX9_crash 21 = .ok (.aload_n 0, 1) := by decide +kernel
theorem dX9_crash_22 : decode cX9_crash 22 = .ok (.getfield 71, 3) := by decide +kernel
theorem dX9_crash_25 : decode cX9_crash 25 = .ok (.bipush 6, 2) := by decide +kernel
theorem dX9_crash_27 : decode cX9_crash 27 = .ok (.iaload, 1) := by decide +kernel
theorem dX9_crash_28 : decode cX9_crash 28 = .ok (.istore_n 1, 1) := by decide +kernel
theorem dX9_crash_29 : decode cX9_crash 29 = .ok (.aload_n 0, 1) := by decide +kernel
theorem dX9_crash_30 : decode cX9_crash 30 = .ok (.iconst 5, 1) := by decide +kernel
theorem dX9_crash_31 : decode cX9_crash 31 = .ok (.bipush 6, 2) := by decide +kernel
theorem dX9_crash_33 : decode cX9_crash 33 = .ok (.invokevirtual 278, 3) := by decide +kernel
theorem dX9_crash_36 : decode cX9_crash 36 = .ok (.aload_n 0, 1) := by decide +kernel
theorem dX9_crash_37 : decode cX9_crash 37 = .ok (.iconst 0, 1) := by decide +kernel
theorem dX9_crash_38 : decode cX9_crash 38 = .ok (.putfield 197, 3) := by decide +kernel
theorem dX9_crash_41 : decode cX9_crash 41 = .ok (.iload_n 1, 1) := by decide +kernel
theorem dX9_crash_42 : decode cX9_crash 42 = .ok (.aload_n 0, 1) := by decide +kernel
theorem dX9_crash_43 : decode cX9_crash 43 = .ok (.getfield 71, 3) := by decide +kernel
theorem dX9_crash_46 : decode cX9_crash 46 = .ok (.bipush 6, 2) := by decide +kernel
theorem dX9_crash_48 : decode cX9_crash 48 = .ok (.iaload, 1) := by decide +kernel
theorem dX9_crash_49 : decode cX9_crash 49 = .ok (.isub, 1) := by decide +kernel
theorem dX9_crash_50 : decode cX9_crash 50 = .ok (.ireturn, 1) := by decide +kernel
theorem dX9_workerOf_0 : decode cX9_workerOf 0 = .ok (.iload_n 1, 1) := by decide +kernel
theorem dX9_workerOf_1 : decode cX9_workerOf 1 = .ok (.iload_n 2, 1) := by decide +kernel
theorem dX9_workerOf_2 : decode cX9_workerOf 2 = .ok (.imul, 1) := by decide +kernel
theorem dX9_workerOf_3 : decode cX9_workerOf 3 = .ok (.bipush 8, 2) := by decide +kernel
theorem dX9_workerOf_5 : decode cX9_workerOf 5 = .ok (.idiv, 1) := by decide +kernel
theorem dX9_workerOf_6 : decode cX9_workerOf 6 = .ok (.ireturn, 1) := by decide +kernel
theorem dX9_workers_0 : decode cX9_workers 0 = .ok (.aload_n 0, 1) := by decide +kernel
theorem dX9_workers_1 : decode cX9_workers 1 = .ok (.iload_n 1, 1) := by decide +kernel
theorem dX9_workers_2 : decode cX9_workers 2 = .ok (.iconst 1, 1) := by decide +kernel
theorem dX9_workers_3 : decode cX9_workers 3 = .ok (.iconst 4, 1) := by decide +kernel
theorem dX9_workers_4 : decode cX9_workers 4 = .ok (.invokestatic 124, 3) := by decide +kernel
theorem dX9_workers_7 : decode cX9_workers 7 = .ok (.ifCond .eq 7, 3) := by decide +kernel
theorem dX9_workers_10 : decode cX9_workers 10 = .ok (.iconst 0, 1) := by decide +kernel
theorem dX9_workers_11 : decode cX9_workers 11 = .ok (.goto 4, 3) := by decide +kernel
theorem dX9_workers_14 : decode cX9_workers 14 = .ok (.iconst 1, 1) := by decide +kernel
theorem dX9_workers_15 : decode cX9_workers 15 = .ok (.invokevirtual 131, 3) := by decide +kernel
theorem dX9_workers_18 : decode cX9_workers 18 = .ok (.ifCond .ne 5, 3) := by decide +kernel
theorem dX9_workers_21 : decode cX9_workers 21 = .ok (.iconst 0, 1) := by decide +kernel
theorem dX9_workers_22 : decode cX9_workers 22 = .ok (.ireturn, 1) := by decide +kernel
theorem dX9_workers_23 : decode cX9_workers 23 = .ok (.iconst 0, 1) := by decide +kernel
theorem dX9_workers_24 : decode cX9_workers 24 = .ok (.istore_n 2, 1) := by decide +kernel
theorem dX9_workers_25 : decode cX9_workers 25 = .ok (.iconst 0, 1) := by decide +kernel
theorem dX9_workers_26 : decode cX9_workers 26 = .ok (.invokestatic 218, 3) := by decide +kernel
theorem dX9_workers_29 : decode cX9_workers 29 = .ok (.istore_n 3, 1) := by decide +kernel
theorem dX9_workers_30 : decode cX9_workers 30 = .ok (.iload_n 3, 1) := by decide +kernel
theorem dX9_workers_31 : decode cX9_workers 31 = .ok (.aload_n 0, 1) := by decide +kernel
theorem dX9_workers_32 : decode cX9_workers 32 = .ok (.getfield 74, 3) := by decide +kernel
theorem dX9_workers_35 : decode cX9_workers 35 = .ok (.bipush 6, 2) := by decide +kernel
theorem dX9_workers_37 : decode cX9_workers 37 = .ok (.iaload, 1) := by decide +kernel
theorem dX9_workers_38 : decode cX9_workers 38 = .ok (.invokestatic 218, 3) := by decide +kernel
theorem dX9_workers_41 : decode cX9_workers 41 = .ok (.if_icmp .ge 45, 3) := by decide +kernel
theorem dX9_workers_44 : decode cX9_workers 44 = .ok (.iload_n 2, 1) := by decide +kernel
theorem dX9_workers_45 : decode cX9_workers 45 = .ok (.aload_n 0, 1) := by decide +kernel
theorem dX9_workers_46 : decode cX9_workers 46 = .ok (.aload_n 0, 1) := by decide +kernel
theorem dX9_workers_47 : decode cX9_workers 47 = .ok (.getfield 77, 3) := by decide +kernel
theorem dX9_workers_50 : decode cX9_workers 50 = .ok (.iload_n 3, 1) := by decide +kernel
theorem dX9_workers_51 : decode cX9_workers 51 = .ok (.iaload, 1) := by decide +kernel
theorem dX9_workers_52 : decode cX9_workers 52 = .ok (.iload_n 1, 1) := by decide +kernel
theorem dX9_workers_53 : decode cX9_workers 53 = .ok (.invokevirtual 281, 3) := by decide +kernel
theorem dX9_workers_56 : decode cX9_workers 56 = .ok (.aload_n 0, 1) := by decide +kernel
theorem dX9_workers_57 : decode cX9_workers 57 = .ok (.aload_n 0, 1) := by decide +kernel
theorem dX9_workers_58 : decode cX9_workers 58 = .ok (.getfield 77, 3) := by decide +kernel
theorem dX9_workers_61 : decode cX9_workers 61 = .ok (.iload_n 3, 1) := by decide +kernel
theorem dX9_workers_62 : decode cX9_workers 62 = .ok (.iaload, 1) := by decide +kernel
theorem dX9_workers_63 : decode cX9_workers 63 = .ok (.aload_n 0, 1) := by decide +kernel
theorem dX9_workers_64 : decode cX9_workers 64 = .ok (.getfield 113, 3) := by decide +kernel
theorem dX9_workers_67 : decode cX9_workers 67 = .ok (.invokevirtual 281, 3) := by decide +kernel
theorem dX9_workers_70 : decode cX9_workers 70 = .ok (.if_icmp .ne 7, 3) := by decide +kernel
theorem dX9_workers_73 : decode cX9_workers 73 = .ok (.iconst 0, 1) := by decide +kernel
theorem dX9_workers_74 : decode cX9_workers 74 = .ok (.goto 4, 3) := by decide +kernel
theorem dX9_workers_77 : decode cX9_workers 77 = .ok (.iconst 1, 1) := by decide +kernel
theorem dX9_workers_78 : decode cX9_workers 78 = .ok (.iadd, 1) := by decide +kernel
theorem dX9_workers_79 : decode cX9_workers 79 = .ok (.istore_n 2, 1) := by decide +kernel
theorem dX9_workers_80 : decode cX9_workers 80 = .ok (.iinc 3 1, 3) := by decide +kernel
theorem dX9_workers_83 : decode cX9_workers 83 = .ok (.goto (-53), 3) := by decide +kernel
theorem dX9_workers_86 : decode cX9_workers 86 = .ok (.aload_n 0, 1) := by decide +kernel
theorem dX9_workers_87 : decode cX9_workers 87 = .ok (.iload_n 1, 1) := by decide +kernel
theorem dX9_workers_88 : decode cX9_workers 88 = .ok (.putfield 113, 3) := by decide +kernel
theorem dX9_workers_91 : decode cX9_workers 91 = .ok (.iload_n 2, 1) := by decide +kernel
theorem dX9_workers_92 : decode cX9_workers 92 = .ok (.ireturn, 1) := by decide +kernel
theorem dX9_load_0 : decode cX9_load 0 = .ok (.aload_n 0, 1) := by decide +kernel
theorem dX9_load_1 : decode cX9_load 1 = .ok (.iload_n 1, 1) := by decide +kernel
theorem dX9_load_2 : decode cX9_load 2 = .ok (.iconst 0, 1) := by decide +kernel
theorem dX9_load_3 : decode cX9_load 3 = .ok (.aload_n 0, 1) := by decide +kernel
theorem dX9_load_4 : decode cX9_load 4 = .ok (.getfield 113, 3) := by decide +kernel
theorem dX9_load_7 : decode cX9_load 7 = .ok (.iconst 1, 1) := by decide +kernel
theorem dX9_load_8 : decode cX9_load 8 = .ok (.isub, 1) := by decide +kernel
theorem dX9_load_9 : decode cX9_load 9 = .ok (.invokestatic 124, 3) := by decide +kernel
theorem dX9_load_12 : decode cX9_load 12 = .ok (.ifCond .eq 7, 3) := by decide +kernel
theorem dX9_load_15 : decode cX9_load 15 = .ok (.iconst 0, 1) := by decide +kernel
theorem dX9_load_16 : decode cX9_load 16 = .ok (.goto 4, 3) := by decide +kernel
theorem dX9_load_19 : decode cX9_load 19 = .ok (.iconst 1, 1) := by decide +kernel
theorem dX9_load_20 : decode cX9_load 20 = .ok (.invokevirtual 131, 3) := by decide +kernel
theorem dX9_load_23 : decode cX9_load 23 = .ok (.ifCond .ne 5, 3) := by decide +kernel
theorem dX9_load_26 : decode cX9_load 26 = .ok (.iconst 0, 1) := by decide +kernel
theorem dX9_load_27 : decode cX9_load 27 = .ok (.ireturn, 1) := by decide +kernel
theorem dX9_load_28 : decode cX9_load 28 = .ok (.iconst 0, 1) := by decide +kernel
theorem dX9_load_29 : decode cX9_load 29 = .ok (.istore_n 2, 1) := by decide +kernel
theorem dX9_load_30 : decode cX9_load 30 = .ok (.iconst 0, 1) := by decide +kernel
theorem dX9_load_31 : decode cX9_load 31 = .ok (.invokestatic 218, 3) := by decide +kernel
theorem dX9_load_34 : decode cX9_load 34 = .ok (.istore_n 3, 1) := by decide +kernel
theorem dX9_load_35 : decode cX9_load 35 = .ok (.iload_n 3, 1) := by decide +kernel
theorem dX9_load_36 : decode cX9_load 36 = .ok (.aload_n 0, 1) := by decide +kernel
theorem dX9_load_37 : decode cX9_load 37 = .ok (.getfield 74, 3) := by decide +kernel
theorem dX9_load_40 : decode cX9_load 40 = .ok (.bipush 6, 2) := by decide +kernel
theorem dX9_load_42 : decode cX9_load 42 = .ok (.iaload, 1) := by decide +kernel
theorem dX9_load_43 : decode cX9_load 43 = .ok (.invokestatic 218, 3) := by decide +kernel
theorem dX9_load_46 : decode cX9_load 46 = .ok (.if_icmp .ge 35, 3) := by decide +kernel
theorem dX9_load_49 : decode cX9_load 49 = .ok (.iload_n 2, 1) := by decide +kernel
theorem dX9_load_50 : decode cX9_load 50 = .ok (.aload_n 0, 1) := by decide +kernel
theorem dX9_load_51 : decode cX9_load 51 = .ok (.aload_n 0, 1) := by decide +kernel
theorem dX9_load_52 : decode cX9_load 52 = .ok (.getfield 77, 3) := by decide +kernel
theorem dX9_load_55 : decode cX9_load 55 = .ok (.iload_n 3, 1) := by decide +kernel
theorem dX9_load_56 : decode cX9_load 56 = .ok (.iaload, 1) := by decide +kernel
theorem dX9_load_57 : decode cX9_load 57 = .ok (.aload_n 0, 1) := by decide +kernel
theorem dX9_load_58 : decode cX9_load 58 = .ok (.getfield 113, 3) := by decide +kernel
theorem dX9_load_61 : decode cX9_load 61 = .ok (.invokevirtual 281, 3) := by decide +kernel
theorem dX9_load_64 : decode cX9_load 64 = .ok (.iload_n 1, 1) := by decide +kernel
theorem dX9_load_65 : decode cX9_load 65 = .ok (.if_icmp .ne 7, 3) := by decide +kernel
theorem dX9_load_68 : decode cX9_load 68 = .ok (.iconst 1, 1) := by decide +kernel
theorem dX9_load_69 : decode cX9_load 69 = .ok (.goto 4, 3) := by decide +kernel
theorem dX9_load_72 : decode cX9_load 72 = .ok (.iconst 0, 1) := by decide +kernel
theorem dX9_load_73 : decode cX9_load 73 = .ok (.iadd, 1) := by decide +kernel
theorem dX9_load_74 : decode cX9_load 74 = .ok (.istore_n 2, 1) := by decide +kernel
theorem dX9_load_75 : decode cX9_load 75 = .ok (.iinc 3 1, 3) := by decide +kernel
theorem dX9_load_78 : decode cX9_load 78 = .ok (.goto (-43), 3) := by decide +kernel
theorem dX9_load_81 : decode cX9_load 81 = .ok (.iload_n 2, 1) := by decide +kernel
theorem dX9_load_82 : decode cX9_load 82 = .ok (.ireturn, 1) := by decide +kernel
