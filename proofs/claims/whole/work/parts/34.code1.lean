/-! the law's own instructions, part 1 (by program out of javap's listing) -/
theorem dW_0 : decode code 0 = .ok (.new 8, 3) := by decide +kernel
theorem dW_3 : decode code 3 = .ok (.dup, 1) := by decide +kernel
theorem dW_4 : decode code 4 = .ok (.invokespecial 71, 3) := by decide +kernel
theorem dW_7 : decode code 7 = .ok (.astore_n 1, 1) := by decide +kernel
theorem dW_8 : decode code 8 = .ok (.new 72, 3) := by decide +kernel
theorem dW_11 : decode code 11 = .ok (.dup, 1) := by decide +kernel
theorem dW_12 : decode code 12 = .ok (.invokespecial 74, 3) := by decide +kernel
theorem dW_15 : decode code 15 = .ok (.astore_n 2, 1) := by decide +kernel
theorem dW_16 : decode code 16 = .ok (.iconst 1, 1) := by decide +kernel
theorem dW_17 : decode code 17 = .ok (.newarray .long, 2) := by decide +kernel
theorem dW_19 : decode code 19 = .ok (.astore_n 3, 1) := by decide +kernel
theorem dW_20 : decode code 20 = .ok (.iconst 0, 1) := by decide +kernel
theorem dW_21 : decode code 21 = .ok (.istore 4, 2) := by decide +kernel
theorem dW_23 : decode code 23 = .ok (.iload 4, 2) := by decide +kernel
theorem dW_25 : decode code 25 = .ok (.aload_n 0, 1) := by decide +kernel
theorem dW_26 : decode code 26 = .ok (.arraylength, 1) := by decide +kernel
theorem dW_27 : decode code 27 = .ok (.iconst 4, 1) := by decide +kernel
theorem dW_28 : decode code 28 = .ok (.isub, 1) := by decide +kernel
theorem dW_29 : decode code 29 = .ok (.if_icmp .gt 1181, 3) := by decide +kernel
theorem dW_32 : decode code 32 = .ok (.aload_n 0, 1) := by decide +kernel
theorem dW_33 : decode code 33 = .ok (.iload 4, 2) := by decide +kernel
theorem dW_35 : decode code 35 = .ok (.iaload, 1) := by decide +kernel
theorem dW_36 : decode code 36 = .ok (.bipush 31, 2) := by decide +kernel
theorem dW_38 : decode code 38 = .ok (.iand, 1) := by decide +kernel
theorem dW_39 : decode code 39 = .ok (.tableswitch 1165 0 18 #[89, 177, 265, 352, 408, 464, 520, 607, 670, 726, 739, 794, 850, 894, 938, 1006, 1061, 1129, 1152], 89) := by decide +kernel
theorem dW_128 : decode code 128 = .ok (.aload_n 1, 1) := by decide +kernel
theorem dW_129 : decode code 129 = .ok (.aload_n 0, 1) := by decide +kernel
theorem dW_130 : decode code 130 = .ok (.iload 4, 2) := by decide +kernel
theorem dW_132 : decode code 132 = .ok (.iconst 1, 1) := by decide +kernel
theorem dW_133 : decode code 133 = .ok (.iadd, 1) := by decide +kernel
theorem dW_134 : decode code 134 = .ok (.iaload, 1) := by decide +kernel
theorem dW_135 : decode code 135 = .ok (.i2l, 1) := by decide +kernel
theorem dW_136 : decode code 136 = .ok (.bipush 32, 2) := by decide +kernel
theorem dW_138 : decode code 138 = .ok (.lshl, 1) := by decide +kernel
theorem dW_139 : decode code 139 = .ok (.aload_n 0, 1) := by decide +kernel
theorem dW_140 : decode code 140 = .ok (.iload 4, 2) := by decide +kernel
theorem dW_142 : decode code 142 = .ok (.iconst 2, 1) := by decide +kernel
theorem dW_143 : decode code 143 = .ok (.iadd, 1) := by decide +kernel
theorem dW_144 : decode code 144 = .ok (.iaload, 1) := by decide +kernel
theorem dW_145 : decode code 145 = .ok (.i2l, 1) := by decide +kernel
theorem dW_146 : decode code 146 = .ok (.ldc2_w 75, 3) := by decide +kernel
theorem dW_149 : decode code 149 = .ok (.land, 1) := by decide +kernel
theorem dW_150 : decode code 150 = .ok (.lor, 1) := by decide +kernel
theorem dW_151 : decode code 151 = .ok (.aload_n 3, 1) := by decide +kernel
theorem dW_152 : decode code 152 = .ok (.invokestatic 77, 3) := by decide +kernel
theorem dW_155 : decode code 155 = .ok (.istore 5, 2) := by decide +kernel
theorem dW_157 : decode code 157 = .ok (.aload_n 2, 1) := by decide +kernel
theorem dW_158 : decode code 158 = .ok (.aload_n 0, 1) := by decide +kernel
theorem dW_159 : decode code 159 = .ok (.iload 4, 2) := by decide +kernel
theorem dW_161 : decode code 161 = .ok (.iconst 1, 1) := by decide +kernel
theorem dW_162 : decode code 162 = .ok (.iadd, 1) := by decide +kernel
theorem dW_163 : decode code 163 = .ok (.iaload, 1) := by decide +kernel
theorem dW_164 : decode code 164 = .ok (.i2l, 1) := by decide +kernel
theorem dW_165 : decode code 165 = .ok (.bipush 32, 2) := by decide +kernel
theorem dW_167 : decode code 167 = .ok (.lshl, 1) := by decide +kernel
theorem dW_168 : decode code 168 = .ok (.aload_n 0, 1) := by decide +kernel
theorem dW_169 : decode code 169 = .ok (.iload 4, 2) := by decide +kernel
theorem dW_171 : decode code 171 = .ok (.iconst 2, 1) := by decide +kernel
theorem dW_172 : decode code 172 = .ok (.iadd, 1) := by decide +kernel
theorem dW_173 : decode code 173 = .ok (.iaload, 1) := by decide +kernel
theorem dW_174 : decode code 174 = .ok (.i2l, 1) := by decide +kernel
theorem dW_175 : decode code 175 = .ok (.ldc2_w 75, 3) := by decide +kernel
theorem dW_178 : decode code 178 = .ok (.land, 1) := by decide +kernel
theorem dW_179 : decode code 179 = .ok (.lor, 1) := by decide +kernel
theorem dW_180 : decode code 180 = .ok (.invokevirtual 82, 3) := by decide +kernel
theorem dW_183 : decode code 183 = .ok (.istore 6, 2) := by decide +kernel
theorem dW_185 : decode code 185 = .ok (.aload_n 2, 1) := by decide +kernel
theorem dW_186 : decode code 186 = .ok (.invokevirtual 83, 3) := by decide +kernel
theorem dW_189 : decode code 189 = .ok (.iload 5, 2) := by decide +kernel
theorem dW_191 : decode code 191 = .ok (.if_icmp .eq 5, 3) := by decide +kernel
theorem dW_194 : decode code 194 = .ok (.iconst 0, 1) := by decide +kernel
theorem dW_195 : decode code 195 = .ok (.ireturn, 1) := by decide +kernel
theorem dW_196 : decode code 196 = .ok (.iload 5, 2) := by decide +kernel
theorem dW_198 : decode code 198 = .ok (.ifCond .ne 15, 3) := by decide +kernel
theorem dW_201 : decode code 201 = .ok (.aload_n 3, 1) := by decide +kernel
theorem dW_202 : decode code 202 = .ok (.iconst 0, 1) := by decide +kernel
theorem dW_203 : decode code 203 = .ok (.laload, 1) := by decide +kernel
theorem dW_204 : decode code 204 = .ok (.iload 6, 2) := by decide +kernel
theorem dW_206 : decode code 206 = .ok (.i2l, 1) := by decide +kernel
theorem dW_207 : decode code 207 = .ok (.lcmp, 1) := by decide +kernel
theorem dW_208 : decode code 208 = .ok (.ifCond .eq 5, 3) := by decide +kernel
theorem dW_211 : decode code 211 = .ok (.iconst 0, 1) := by decide +kernel
theorem dW_212 : decode code 212 = .ok (.ireturn, 1) := by decide +kernel
theorem dW_213 : decode code 213 = .ok (.goto 991, 3) := by decide +kernel
theorem dW_216 : decode code 216 = .ok (.aload_n 1, 1) := by decide +kernel
theorem dW_217 : decode code 217 = .ok (.aload_n 0, 1) := by decide +kernel
theorem dW_218 : decode code 218 = .ok (.iload 4, 2) := by decide +kernel
theorem dW_220 : decode code 220 = .ok (.iconst 1, 1) := by decide +kernel
theorem dW_221 : decode code 221 = .ok (.iadd, 1) := by decide +kernel
theorem dW_222 : decode code 222 = .ok (.iaload, 1) := by decide +kernel
theorem dW_223 : decode code 223 = .ok (.i2l, 1) := by decide +kernel
theorem dW_224 : decode code 224 = .ok (.bipush 32, 2) := by decide +kernel
theorem dW_226 : decode code 226 = .ok (.lshl, 1) := by decide +kernel
theorem dW_227 : decode code 227 = .ok (.aload_n 0, 1) := by decide +kernel
theorem dW_228 : decode code 228 = .ok (.iload 4, 2) := by decide +kernel
theorem dW_230 : decode code 230 = .ok (.iconst 2, 1) := by decide +kernel
theorem dW_231 : decode code 231 = .ok (.iadd, 1) := by decide +kernel
theorem dW_232 : decode code 232 = .ok (.iaload, 1) := by decide +kernel
theorem dW_233 : decode code 233 = .ok (.i2l, 1) := by decide +kernel
theorem dW_234 : decode code 234 = .ok (.ldc2_w 75, 3) := by decide +kernel
theorem dW_237 : decode code 237 = .ok (.land, 1) := by decide +kernel
theorem dW_238 : decode code 238 = .ok (.lor, 1) := by decide +kernel
theorem dW_239 : decode code 239 = .ok (.aload_n 3, 1) := by decide +kernel
theorem dW_240 : decode code 240 = .ok (.invokestatic 86, 3) := by decide +kernel
theorem dW_243 : decode code 243 = .ok (.istore 5, 2) := by decide +kernel
theorem dW_245 : decode code 245 = .ok (.aload_n 2, 1) := by decide +kernel
theorem dW_246 : decode code 246 = .ok (.aload_n 0, 1) := by decide +kernel
theorem dW_247 : decode code 247 = .ok (.iload 4, 2) := by decide +kernel
theorem dW_249 : decode code 249 = .ok (.iconst 1, 1) := by decide +kernel
theorem dW_250 : decode code 250 = .ok (.iadd, 1) := by decide +kernel
theorem dW_251 : decode code 251 = .ok (.iaload, 1) := by decide +kernel
theorem dW_252 : decode code 252 = .ok (.i2l, 1) := by decide +kernel
theorem dW_253 : decode code 253 = .ok (.bipush 32, 2) := by decide +kernel
theorem dW_255 : decode code 255 = .ok (.lshl, 1) := by decide +kernel
theorem dW_256 : decode code 256 = .ok (.aload_n 0, 1) := by decide +kernel
theorem dW_257 : decode code 257 = .ok (.iload 4, 2) := by decide +kernel
theorem dW_259 : decode code 259 = .ok (.iconst 2, 1) := by decide +kernel
theorem dW_260 : decode code 260 = .ok (.iadd, 1) := by decide +kernel
theorem dW_261 : decode code 261 = .ok (.iaload, 1) := by decide +kernel
theorem dW_262 : decode code 262 = .ok (.i2l, 1) := by decide +kernel
