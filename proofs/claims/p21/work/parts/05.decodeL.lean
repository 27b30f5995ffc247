theorem dL8_0 : (decode cL_law 0 = .ok (.new 7, 3)) ∧ (decode cL_law 3 = .ok (.dup, 1)) ∧ (decode cL_law 4 = .ok (.invokespecial 9, 3)) ∧ (decode cL_law 7 = .ok (.astore_n 1, 1)) ∧ (decode cL_law 8 = .ok (.new 10, 3)) ∧ (decode cL_law 11 = .ok (.dup, 1)) ∧ (decode cL_law 12 = .ok (.invokespecial 12, 3)) ∧ (decode cL_law 15 = .ok (.astore_n 2, 1)) := by decide +kernel
theorem dL_law_0 : decode cL_law 0 = .ok (.new 7, 3) := dL8_0.1
theorem dL_law_3 : decode cL_law 3 = .ok (.dup, 1) := dL8_0.2.1
theorem dL_law_4 : decode cL_law 4 = .ok (.invokespecial 9, 3) := dL8_0.2.2.1
theorem dL_law_7 : decode cL_law 7 = .ok (.astore_n 1, 1) := dL8_0.2.2.2.1
theorem dL_law_8 : decode cL_law 8 = .ok (.new 10, 3) := dL8_0.2.2.2.2.1
theorem dL_law_11 : decode cL_law 11 = .ok (.dup, 1) := dL8_0.2.2.2.2.2.1
theorem dL_law_12 : decode cL_law 12 = .ok (.invokespecial 12, 3) := dL8_0.2.2.2.2.2.2.1
theorem dL_law_15 : decode cL_law 15 = .ok (.astore_n 2, 1) := dL8_0.2.2.2.2.2.2.2
theorem dL8_1 : (decode cL_law 16 = .ok (.iconst 0, 1)) ∧ (decode cL_law 17 = .ok (.istore_n 3, 1)) ∧ (decode cL_law 18 = .ok (.iload_n 3, 1)) ∧ (decode cL_law 19 = .ok (.aload_n 0, 1)) ∧ (decode cL_law 20 = .ok (.arraylength, 1)) ∧ (decode cL_law 21 = .ok (.bipush 6, 2)) ∧ (decode cL_law 23 = .ok (.isub, 1)) ∧ (decode cL_law 24 = .ok (.if_icmp .gt 1138, 3)) := by decide +kernel
theorem dL_law_16 : decode cL_law 16 = .ok (.iconst 0, 1) := dL8_1.1
theorem dL_law_17 : decode cL_law 17 = .ok (.istore_n 3, 1) := dL8_1.2.1
theorem dL_law_18 : decode cL_law 18 = .ok (.iload_n 3, 1) := dL8_1.2.2.1
theorem dL_law_19 : decode cL_law 19 = .ok (.aload_n 0, 1) := dL8_1.2.2.2.1
theorem dL_law_20 : decode cL_law 20 = .ok (.arraylength, 1) := dL8_1.2.2.2.2.1
theorem dL_law_21 : decode cL_law 21 = .ok (.bipush 6, 2) := dL8_1.2.2.2.2.2.1
theorem dL_law_23 : decode cL_law 23 = .ok (.isub, 1) := dL8_1.2.2.2.2.2.2.1
theorem dL_law_24 : decode cL_law 24 = .ok (.if_icmp .gt 1138, 3) := dL8_1.2.2.2.2.2.2.2
theorem dL8_2 : (decode cL_law 27 = .ok (.aload_n 0, 1)) ∧ (decode cL_law 28 = .ok (.iload_n 3, 1)) ∧ (decode cL_law 29 = .ok (.iaload, 1)) ∧ (decode cL_law 30 = .ok (.bipush 31, 2)) ∧ (decode cL_law 32 = .ok (.iand, 1)) ∧ (decode cL_law 33 = .ok (.tableswitch 1123 0 30 #[139, 192, 225, 258, 291, 324, 357, 400, 433, 466, 499, 512, 575, 598, 631, 654, 677, 700, 723, 746, 780, 823, 846, 889, 932, 995, 1018, 1041, 1074, 1087, 1100], 139)) ∧ (decode cL_law 172 = .ok (.aload_n 1, 1)) ∧ (decode cL_law 173 = .ok (.aload_n 0, 1)) := by decide +kernel
theorem dL_law_27 : decode cL_law 27 = .ok (.aload_n 0, 1) := dL8_2.1
theorem dL_law_28 : decode cL_law 28 = .ok (.iload_n 3, 1) := dL8_2.2.1
theorem dL_law_29 : decode cL_law 29 = .ok (.iaload, 1) := dL8_2.2.2.1
theorem dL_law_30 : decode cL_law 30 = .ok (.bipush 31, 2) := dL8_2.2.2.2.1
theorem dL_law_32 : decode cL_law 32 = .ok (.iand, 1) := dL8_2.2.2.2.2.1
theorem dL_law_33 : decode cL_law 33 = .ok (.tableswitch 1123 0 30 #[139, 192, 225, 258, 291, 324, 357, 400, 433, 466, 499, 512, 575, 598, 631, 654, 677, 700, 723, 746, 780, 823, 846, 889, 932, 995, 1018, 1041, 1074, 1087, 1100], 139) := dL8_2.2.2.2.2.2.1
theorem dL_law_172 : decode cL_law 172 = .ok (.aload_n 1, 1) := dL8_2.2.2.2.2.2.2.1
theorem dL_law_173 : decode cL_law 173 = .ok (.aload_n 0, 1) := dL8_2.2.2.2.2.2.2.2
theorem dL8_3 : (decode cL_law 174 = .ok (.iload_n 3, 1)) ∧ (decode cL_law 175 = .ok (.iconst 1, 1)) ∧ (decode cL_law 176 = .ok (.iadd, 1)) ∧ (decode cL_law 177 = .ok (.iaload, 1)) ∧ (decode cL_law 178 = .ok (.aload_n 0, 1)) ∧ (decode cL_law 179 = .ok (.iload_n 3, 1)) ∧ (decode cL_law 180 = .ok (.iconst 2, 1)) ∧ (decode cL_law 181 = .ok (.iadd, 1)) := by decide +kernel
theorem dL_law_174 : decode cL_law 174 = .ok (.iload_n 3, 1) := dL8_3.1
theorem dL_law_175 : decode cL_law 175 = .ok (.iconst 1, 1) := dL8_3.2.1
theorem dL_law_176 : decode cL_law 176 = .ok (.iadd, 1) := dL8_3.2.2.1
theorem dL_law_177 : decode cL_law 177 = .ok (.iaload, 1) := dL8_3.2.2.2.1
theorem dL_law_178 : decode cL_law 178 = .ok (.aload_n 0, 1) := dL8_3.2.2.2.2.1
theorem dL_law_179 : decode cL_law 179 = .ok (.iload_n 3, 1) := dL8_3.2.2.2.2.2.1
theorem dL_law_180 : decode cL_law 180 = .ok (.iconst 2, 1) := dL8_3.2.2.2.2.2.2.1
theorem dL_law_181 : decode cL_law 181 = .ok (.iadd, 1) := dL8_3.2.2.2.2.2.2.2
theorem dL8_4 : (decode cL_law 182 = .ok (.iaload, 1)) ∧ (decode cL_law 183 = .ok (.aload_n 0, 1)) ∧ (decode cL_law 184 = .ok (.iload_n 3, 1)) ∧ (decode cL_law 185 = .ok (.iconst 3, 1)) ∧ (decode cL_law 186 = .ok (.iadd, 1)) ∧ (decode cL_law 187 = .ok (.iaload, 1)) ∧ (decode cL_law 188 = .ok (.aload_n 0, 1)) ∧ (decode cL_law 189 = .ok (.iload_n 3, 1)) := by decide +kernel
theorem dL_law_182 : decode cL_law 182 = .ok (.iaload, 1) := dL8_4.1
theorem dL_law_183 : decode cL_law 183 = .ok (.aload_n 0, 1) := dL8_4.2.1
theorem dL_law_184 : decode cL_law 184 = .ok (.iload_n 3, 1) := dL8_4.2.2.1
theorem dL_law_185 : decode cL_law 185 = .ok (.iconst 3, 1) := dL8_4.2.2.2.1
theorem dL_law_186 : decode cL_law 186 = .ok (.iadd, 1) := dL8_4.2.2.2.2.1
theorem dL_law_187 : decode cL_law 187 = .ok (.iaload, 1) := dL8_4.2.2.2.2.2.1
theorem dL_law_188 : decode cL_law 188 = .ok (.aload_n 0, 1) := dL8_4.2.2.2.2.2.2.1
theorem dL_law_189 : decode cL_law 189 = .ok (.iload_n 3, 1) := dL8_4.2.2.2.2.2.2.2
theorem dL8_5 : (decode cL_law 190 = .ok (.iconst 4, 1)) ∧ (decode cL_law 191 = .ok (.iadd, 1)) ∧ (decode cL_law 192 = .ok (.iaload, 1)) ∧ (decode cL_law 193 = .ok (.invokevirtual 13, 3)) ∧ (decode cL_law 196 = .ok (.pop, 1)) ∧ (decode cL_law 197 = .ok (.aload_n 2, 1)) ∧ (decode cL_law 198 = .ok (.aload_n 0, 1)) ∧ (decode cL_law 199 = .ok (.iload_n 3, 1)) := by decide +kernel
theorem dL_law_190 : decode cL_law 190 = .ok (.iconst 4, 1) := dL8_5.1
theorem dL_law_191 : decode cL_law 191 = .ok (.iadd, 1) := dL8_5.2.1
theorem dL_law_192 : decode cL_law 192 = .ok (.iaload, 1) := dL8_5.2.2.1
theorem dL_law_193 : decode cL_law 193 = .ok (.invokevirtual 13, 3) := dL8_5.2.2.2.1
theorem dL_law_196 : decode cL_law 196 = .ok (.pop, 1) := dL8_5.2.2.2.2.1
theorem dL_law_197 : decode cL_law 197 = .ok (.aload_n 2, 1) := dL8_5.2.2.2.2.2.1
theorem dL_law_198 : decode cL_law 198 = .ok (.aload_n 0, 1) := dL8_5.2.2.2.2.2.2.1
theorem dL_law_199 : decode cL_law 199 = .ok (.iload_n 3, 1) := dL8_5.2.2.2.2.2.2.2
theorem dL8_6 : (decode cL_law 200 = .ok (.iconst 1, 1)) ∧ (decode cL_law 201 = .ok (.iadd, 1)) ∧ (decode cL_law 202 = .ok (.iaload, 1)) ∧ (decode cL_law 203 = .ok (.aload_n 0, 1)) ∧ (decode cL_law 204 = .ok (.iload_n 3, 1)) ∧ (decode cL_law 205 = .ok (.iconst 2, 1)) ∧ (decode cL_law 206 = .ok (.iadd, 1)) ∧ (decode cL_law 207 = .ok (.iaload, 1)) := by decide +kernel
theorem dL_law_200 : decode cL_law 200 = .ok (.iconst 1, 1) := dL8_6.1
theorem dL_law_201 : decode cL_law 201 = .ok (.iadd, 1) := dL8_6.2.1
theorem dL_law_202 : decode cL_law 202 = .ok (.iaload, 1) := dL8_6.2.2.1
theorem dL_law_203 : decode cL_law 203 = .ok (.aload_n 0, 1) := dL8_6.2.2.2.1
theorem dL_law_204 : decode cL_law 204 = .ok (.iload_n 3, 1) := dL8_6.2.2.2.2.1
theorem dL_law_205 : decode cL_law 205 = .ok (.iconst 2, 1) := dL8_6.2.2.2.2.2.1
theorem dL_law_206 : decode cL_law 206 = .ok (.iadd, 1) := dL8_6.2.2.2.2.2.2.1
theorem dL_law_207 : decode cL_law 207 = .ok (.iaload, 1) := dL8_6.2.2.2.2.2.2.2
theorem dL8_7 : (decode cL_law 208 = .ok (.aload_n 0, 1)) ∧ (decode cL_law 209 = .ok (.iload_n 3, 1)) ∧ (decode cL_law 210 = .ok (.iconst 3, 1)) ∧ (decode cL_law 211 = .ok (.iadd, 1)) ∧ (decode cL_law 212 = .ok (.iaload, 1)) ∧ (decode cL_law 213 = .ok (.aload_n 0, 1)) ∧ (decode cL_law 214 = .ok (.iload_n 3, 1)) ∧ (decode cL_law 215 = .ok (.iconst 4, 1)) := by decide +kernel
theorem dL_law_208 : decode cL_law 208 = .ok (.aload_n 0, 1) := dL8_7.1
theorem dL_law_209 : decode cL_law 209 = .ok (.iload_n 3, 1) := dL8_7.2.1
theorem dL_law_210 : decode cL_law 210 = .ok (.iconst 3, 1) := dL8_7.2.2.1
theorem dL_law_211 : decode cL_law 211 = .ok (.iadd, 1) := dL8_7.2.2.2.1
theorem dL_law_212 : decode cL_law 212 = .ok (.iaload, 1) := dL8_7.2.2.2.2.1
theorem dL_law_213 : decode cL_law 213 = .ok (.aload_n 0, 1) := dL8_7.2.2.2.2.2.1
theorem dL_law_214 : decode cL_law 214 = .ok (.iload_n 3, 1) := dL8_7.2.2.2.2.2.2.1
theorem dL_law_215 : decode cL_law 215 = .ok (.iconst 4, 1) := dL8_7.2.2.2.2.2.2.2
theorem dL8_8 : (decode cL_law 216 = .ok (.iadd, 1)) ∧ (decode cL_law 217 = .ok (.iaload, 1)) ∧ (decode cL_law 218 = .ok (.invokevirtual 17, 3)) ∧ (decode cL_law 221 = .ok (.pop, 1)) ∧ (decode cL_law 222 = .ok (.goto 934, 3)) ∧ (decode cL_law 225 = .ok (.aload_n 1, 1)) ∧ (decode cL_law 226 = .ok (.aload_n 0, 1)) ∧ (decode cL_law 227 = .ok (.iload_n 3, 1)) := by decide +kernel
theorem dL_law_216 : decode cL_law 216 = .ok (.iadd, 1) := dL8_8.1
theorem dL_law_217 : decode cL_law 217 = .ok (.iaload, 1) := dL8_8.2.1
theorem dL_law_218 : decode cL_law 218 = .ok (.invokevirtual 17, 3) := dL8_8.2.2.1
theorem dL_law_221 : decode cL_law 221 = .ok (.pop, 1) := dL8_8.2.2.2.1
theorem dL_law_222 : decode cL_law 222 = .ok (.goto 934, 3) := dL8_8.2.2.2.2.1
theorem dL_law_225 : decode cL_law 225 = .ok (.aload_n 1, 1) := dL8_8.2.2.2.2.2.1
theorem dL_law_226 : decode cL_law 226 = .ok (.aload_n 0, 1) := dL8_8.2.2.2.2.2.2.1
theorem dL_law_227 : decode cL_law 227 = .ok (.iload_n 3, 1) := dL8_8.2.2.2.2.2.2.2
theorem dL8_9 : (decode cL_law 228 = .ok (.iconst 1, 1)) ∧ (decode cL_law 229 = .ok (.iadd, 1)) ∧ (decode cL_law 230 = .ok (.iaload, 1)) ∧ (decode cL_law 231 = .ok (.aload_n 0, 1)) ∧ (decode cL_law 232 = .ok (.iload_n 3, 1)) ∧ (decode cL_law 233 = .ok (.iconst 2, 1)) ∧ (decode cL_law 234 = .ok (.iadd, 1)) ∧ (decode cL_law 235 = .ok (.iaload, 1)) := by decide +kernel
theorem dL_law_228 : decode cL_law 228 = .ok (.iconst 1, 1) := dL8_9.1
theorem dL_law_229 : decode cL_law 229 = .ok (.iadd, 1) := dL8_9.2.1
theorem dL_law_230 : decode cL_law 230 = .ok (.iaload, 1) := dL8_9.2.2.1
theorem dL_law_231 : decode cL_law 231 = .ok (.aload_n 0, 1) := dL8_9.2.2.2.1
theorem dL_law_232 : decode cL_law 232 = .ok (.iload_n 3, 1) := dL8_9.2.2.2.2.1
theorem dL_law_233 : decode cL_law 233 = .ok (.iconst 2, 1) := dL8_9.2.2.2.2.2.1
theorem dL_law_234 : decode cL_law 234 = .ok (.iadd, 1) := dL8_9.2.2.2.2.2.2.1
theorem dL_law_235 : decode cL_law 235 = .ok (.iaload, 1) := dL8_9.2.2.2.2.2.2.2
theorem dL8_10 : (decode cL_law 236 = .ok (.invokevirtual 18, 3)) ∧ (decode cL_law 239 = .ok (.pop, 1)) ∧ (decode cL_law 240 = .ok (.aload_n 2, 1)) ∧ (decode cL_law 241 = .ok (.aload_n 0, 1)) ∧ (decode cL_law 242 = .ok (.iload_n 3, 1)) ∧ (decode cL_law 243 = .ok (.iconst 1, 1)) ∧ (decode cL_law 244 = .ok (.iadd, 1)) ∧ (decode cL_law 245 = .ok (.iaload, 1)) := by decide +kernel
theorem dL_law_236 : decode cL_law 236 = .ok (.invokevirtual 18, 3) := dL8_10.1
theorem dL_law_239 : decode cL_law 239 = .ok (.pop, 1) := dL8_10.2.1
theorem dL_law_240 : decode cL_law 240 = .ok (.aload_n 2, 1) := dL8_10.2.2.1
theorem dL_law_241 : decode cL_law 241 = .ok (.aload_n 0, 1) := dL8_10.2.2.2.1
theorem dL_law_242 : decode cL_law 242 = .ok (.iload_n 3, 1) := dL8_10.2.2.2.2.1
theorem dL_law_243 : decode cL_law 243 = .ok (.iconst 1, 1) := dL8_10.2.2.2.2.2.1
theorem dL_law_244 : decode cL_law 244 = .ok (.iadd, 1) := dL8_10.2.2.2.2.2.2.1
theorem dL_law_245 : decode cL_law 245 = .ok (.iaload, 1) := dL8_10.2.2.2.2.2.2.2
theorem dL8_11 : (decode cL_law 246 = .ok (.aload_n 0, 1)) ∧ (decode cL_law 247 = .ok (.iload_n 3, 1)) ∧ (decode cL_law 248 = .ok (.iconst 2, 1)) ∧ (decode cL_law 249 = .ok (.iadd, 1)) ∧ (decode cL_law 250 = .ok (.iaload, 1)) ∧ (decode cL_law 251 = .ok (.invokevirtual 22, 3)) ∧ (decode cL_law 254 = .ok (.pop, 1)) ∧ (decode cL_law 255 = .ok (.goto 901, 3)) := by decide +kernel
theorem dL_law_246 : decode cL_law 246 = .ok (.aload_n 0, 1) := dL8_11.1
theorem dL_law_247 : decode cL_law 247 = .ok (.iload_n 3, 1) := dL8_11.2.1
theorem dL_law_248 : decode cL_law 248 = .ok (.iconst 2, 1) := dL8_11.2.2.1
theorem dL_law_249 : decode cL_law 249 = .ok (.iadd, 1) := dL8_11.2.2.2.1
theorem dL_law_250 : decode cL_law 250 = .ok (.iaload, 1) := dL8_11.2.2.2.2.1
theorem dL_law_251 : decode cL_law 251 = .ok (.invokevirtual 22, 3) := dL8_11.2.2.2.2.2.1
theorem dL_law_254 : decode cL_law 254 = .ok (.pop, 1) := dL8_11.2.2.2.2.2.2.1
theorem dL_law_255 : decode cL_law 255 = .ok (.goto 901, 3) := dL8_11.2.2.2.2.2.2.2
theorem dL8_12 : (decode cL_law 258 = .ok (.aload_n 1, 1)) ∧ (decode cL_law 259 = .ok (.aload_n 0, 1)) ∧ (decode cL_law 260 = .ok (.iload_n 3, 1)) ∧ (decode cL_law 261 = .ok (.iconst 1, 1)) ∧ (decode cL_law 262 = .ok (.iadd, 1)) ∧ (decode cL_law 263 = .ok (.iaload, 1)) ∧ (decode cL_law 264 = .ok (.aload_n 0, 1)) ∧ (decode cL_law 265 = .ok (.iload_n 3, 1)) := by decide +kernel
theorem dL_law_258 : decode cL_law 258 = .ok (.aload_n 1, 1) := dL8_12.1
theorem dL_law_259 : decode cL_law 259 = .ok (.aload_n 0, 1) := dL8_12.2.1
theorem dL_law_260 : decode cL_law 260 = .ok (.iload_n 3, 1) := dL8_12.2.2.1
theorem dL_law_261 : decode cL_law 261 = .ok (.iconst 1, 1) := dL8_12.2.2.2.1
theorem dL_law_262 : decode cL_law 262 = .ok (.iadd, 1) := dL8_12.2.2.2.2.1
theorem dL_law_263 : decode cL_law 263 = .ok (.iaload, 1) := dL8_12.2.2.2.2.2.1
theorem dL_law_264 : decode cL_law 264 = .ok (.aload_n 0, 1) := dL8_12.2.2.2.2.2.2.1
theorem dL_law_265 : decode cL_law 265 = .ok (.iload_n 3, 1) := dL8_12.2.2.2.2.2.2.2
theorem dL8_13 : (decode cL_law 266 = .ok (.iconst 2, 1)) ∧ (decode cL_law 267 = .ok (.iadd, 1)) ∧ (decode cL_law 268 = .ok (.iaload, 1)) ∧ (decode cL_law 269 = .ok (.invokevirtual 23, 3)) ∧ (decode cL_law 272 = .ok (.pop, 1)) ∧ (decode cL_law 273 = .ok (.aload_n 2, 1)) ∧ (decode cL_law 274 = .ok (.aload_n 0, 1)) ∧ (decode cL_law 275 = .ok (.iload_n 3, 1)) := by decide +kernel
theorem dL_law_266 : decode cL_law 266 = .ok (.iconst 2, 1) := dL8_13.1
theorem dL_law_267 : decode cL_law 267 = .ok (.iadd, 1) := dL8_13.2.1
theorem dL_law_268 : decode cL_law 268 = .ok (.iaload, 1) := dL8_13.2.2.1
theorem dL_law_269 : decode cL_law 269 = .ok (.invokevirtual 23, 3) := dL8_13.2.2.2.1
theorem dL_law_272 : decode cL_law 272 = .ok (.pop, 1) := dL8_13.2.2.2.2.1
theorem dL_law_273 : decode cL_law 273 = .ok (.aload_n 2, 1) := dL8_13.2.2.2.2.2.1
theorem dL_law_274 : decode cL_law 274 = .ok (.aload_n 0, 1) := dL8_13.2.2.2.2.2.2.1
theorem dL_law_275 : decode cL_law 275 = .ok (.iload_n 3, 1) := dL8_13.2.2.2.2.2.2.2
theorem dL8_14 : (decode cL_law 276 = .ok (.iconst 1, 1)) ∧ (decode cL_law 277 = .ok (.iadd, 1)) ∧ (decode cL_law 278 = .ok (.iaload, 1)) ∧ (decode cL_law 279 = .ok (.aload_n 0, 1)) ∧ (decode cL_law 280 = .ok (.iload_n 3, 1)) ∧ (decode cL_law 281 = .ok (.iconst 2, 1)) ∧ (decode cL_law 282 = .ok (.iadd, 1)) ∧ (decode cL_law 283 = .ok (.iaload, 1)) := by decide +kernel
theorem dL_law_276 : decode cL_law 276 = .ok (.iconst 1, 1) := dL8_14.1
theorem dL_law_277 : decode cL_law 277 = .ok (.iadd, 1) := dL8_14.2.1
theorem dL_law_278 : decode cL_law 278 = .ok (.iaload, 1) := dL8_14.2.2.1
theorem dL_law_279 : decode cL_law 279 = .ok (.aload_n 0, 1) := dL8_14.2.2.2.1
theorem dL_law_280 : decode cL_law 280 = .ok (.iload_n 3, 1) := dL8_14.2.2.2.2.1
theorem dL_law_281 : decode cL_law 281 = .ok (.iconst 2, 1) := dL8_14.2.2.2.2.2.1
theorem dL_law_282 : decode cL_law 282 = .ok (.iadd, 1) := dL8_14.2.2.2.2.2.2.1
theorem dL_law_283 : decode cL_law 283 = .ok (.iaload, 1) := dL8_14.2.2.2.2.2.2.2
theorem dL8_15 : (decode cL_law 284 = .ok (.invokevirtual 26, 3)) ∧ (decode cL_law 287 = .ok (.pop, 1)) ∧ (decode cL_law 288 = .ok (.goto 868, 3)) ∧ (decode cL_law 291 = .ok (.aload_n 1, 1)) ∧ (decode cL_law 292 = .ok (.aload_n 0, 1)) ∧ (decode cL_law 293 = .ok (.iload_n 3, 1)) ∧ (decode cL_law 294 = .ok (.iconst 1, 1)) ∧ (decode cL_law 295 = .ok (.iadd, 1)) := by decide +kernel
theorem dL_law_284 : decode cL_law 284 = .ok (.invokevirtual 26, 3) := dL8_15.1
theorem dL_law_287 : decode cL_law 287 = .ok (.pop, 1) := dL8_15.2.1
theorem dL_law_288 : decode cL_law 288 = .ok (.goto 868, 3) := dL8_15.2.2.1
theorem dL_law_291 : decode cL_law 291 = .ok (.aload_n 1, 1) := dL8_15.2.2.2.1
theorem dL_law_292 : decode cL_law 292 = .ok (.aload_n 0, 1) := dL8_15.2.2.2.2.1
theorem dL_law_293 : decode cL_law 293 = .ok (.iload_n 3, 1) := dL8_15.2.2.2.2.2.1
theorem dL_law_294 : decode cL_law 294 = .ok (.iconst 1, 1) := dL8_15.2.2.2.2.2.2.1
theorem dL_law_295 : decode cL_law 295 = .ok (.iadd, 1) := dL8_15.2.2.2.2.2.2.2
theorem dL8_16 : (decode cL_law 296 = .ok (.iaload, 1)) ∧ (decode cL_law 297 = .ok (.aload_n 0, 1)) ∧ (decode cL_law 298 = .ok (.iload_n 3, 1)) ∧ (decode cL_law 299 = .ok (.iconst 2, 1)) ∧ (decode cL_law 300 = .ok (.iadd, 1)) ∧ (decode cL_law 301 = .ok (.iaload, 1)) ∧ (decode cL_law 302 = .ok (.invokevirtual 27, 3)) ∧ (decode cL_law 305 = .ok (.pop, 1)) := by decide +kernel
theorem dL_law_296 : decode cL_law 296 = .ok (.iaload, 1) := dL8_16.1
theorem dL_law_297 : decode cL_law 297 = .ok (.aload_n 0, 1) := dL8_16.2.1
theorem dL_law_298 : decode cL_law 298 = .ok (.iload_n 3, 1) := dL8_16.2.2.1
theorem dL_law_299 : decode cL_law 299 = .ok (.iconst 2, 1) := dL8_16.2.2.2.1
theorem dL_law_300 : decode cL_law 300 = .ok (.iadd, 1) := dL8_16.2.2.2.2.1
theorem dL_law_301 : decode cL_law 301 = .ok (.iaload, 1) := dL8_16.2.2.2.2.2.1
theorem dL_law_302 : decode cL_law 302 = .ok (.invokevirtual 27, 3) := dL8_16.2.2.2.2.2.2.1
theorem dL_law_305 : decode cL_law 305 = .ok (.pop, 1) := dL8_16.2.2.2.2.2.2.2
theorem dL8_17 : (decode cL_law 306 = .ok (.aload_n 2, 1)) ∧ (decode cL_law 307 = .ok (.aload_n 0, 1)) ∧ (decode cL_law 308 = .ok (.iload_n 3, 1)) ∧ (decode cL_law 309 = .ok (.iconst 1, 1)) ∧ (decode cL_law 310 = .ok (.iadd, 1)) ∧ (decode cL_law 311 = .ok (.iaload, 1)) ∧ (decode cL_law 312 = .ok (.aload_n 0, 1)) ∧ (decode cL_law 313 = .ok (.iload_n 3, 1)) := by decide +kernel
theorem dL_law_306 : decode cL_law 306 = .ok (.aload_n 2, 1) := dL8_17.1
theorem dL_law_307 : decode cL_law 307 = .ok (.aload_n 0, 1) := dL8_17.2.1
theorem dL_law_308 : decode cL_law 308 = .ok (.iload_n 3, 1) := dL8_17.2.2.1
theorem dL_law_309 : decode cL_law 309 = .ok (.iconst 1, 1) := dL8_17.2.2.2.1
theorem dL_law_310 : decode cL_law 310 = .ok (.iadd, 1) := dL8_17.2.2.2.2.1
theorem dL_law_311 : decode cL_law 311 = .ok (.iaload, 1) := dL8_17.2.2.2.2.2.1
theorem dL_law_312 : decode cL_law 312 = .ok (.aload_n 0, 1) := dL8_17.2.2.2.2.2.2.1
theorem dL_law_313 : decode cL_law 313 = .ok (.iload_n 3, 1) := dL8_17.2.2.2.2.2.2.2
theorem dL8_18 : (decode cL_law 314 = .ok (.iconst 2, 1)) ∧ (decode cL_law 315 = .ok (.iadd, 1)) ∧ (decode cL_law 316 = .ok (.iaload, 1)) ∧ (decode cL_law 317 = .ok (.invokevirtual 30, 3)) ∧ (decode cL_law 320 = .ok (.pop, 1)) ∧ (decode cL_law 321 = .ok (.goto 835, 3)) ∧ (decode cL_law 324 = .ok (.aload_n 1, 1)) ∧ (decode cL_law 325 = .ok (.aload_n 0, 1)) := by decide +kernel
theorem dL_law_314 : decode cL_law 314 = .ok (.iconst 2, 1) := dL8_18.1
theorem dL_law_315 : decode cL_law 315 = .ok (.iadd, 1) := dL8_18.2.1
theorem dL_law_316 : decode cL_law 316 = .ok (.iaload, 1) := dL8_18.2.2.1
theorem dL_law_317 : decode cL_law 317 = .ok (.invokevirtual 30, 3) := dL8_18.2.2.2.1
theorem dL_law_320 : decode cL_law 320 = .ok (.pop, 1) := dL8_18.2.2.2.2.1
theorem dL_law_321 : decode cL_law 321 = .ok (.goto 835, 3) := dL8_18.2.2.2.2.2.1
theorem dL_law_324 : decode cL_law 324 = .ok (.aload_n 1, 1) := dL8_18.2.2.2.2.2.2.1
theorem dL_law_325 : decode cL_law 325 = .ok (.aload_n 0, 1) := dL8_18.2.2.2.2.2.2.2
theorem dL8_19 : (decode cL_law 326 = .ok (.iload_n 3, 1)) ∧ (decode cL_law 327 = .ok (.iconst 1, 1)) ∧ (decode cL_law 328 = .ok (.iadd, 1)) ∧ (decode cL_law 329 = .ok (.iaload, 1)) ∧ (decode cL_law 330 = .ok (.aload_n 0, 1)) ∧ (decode cL_law 331 = .ok (.iload_n 3, 1)) ∧ (decode cL_law 332 = .ok (.iconst 2, 1)) ∧ (decode cL_law 333 = .ok (.iadd, 1)) := by decide +kernel
theorem dL_law_326 : decode cL_law 326 = .ok (.iload_n 3, 1) := dL8_19.1
theorem dL_law_327 : decode cL_law 327 = .ok (.iconst 1, 1) := dL8_19.2.1
theorem dL_law_328 : decode cL_law 328 = .ok (.iadd, 1) := dL8_19.2.2.1
theorem dL_law_329 : decode cL_law 329 = .ok (.iaload, 1) := dL8_19.2.2.2.1
theorem dL_law_330 : decode cL_law 330 = .ok (.aload_n 0, 1) := dL8_19.2.2.2.2.1
theorem dL_law_331 : decode cL_law 331 = .ok (.iload_n 3, 1) := dL8_19.2.2.2.2.2.1
theorem dL_law_332 : decode cL_law 332 = .ok (.iconst 2, 1) := dL8_19.2.2.2.2.2.2.1
theorem dL_law_333 : decode cL_law 333 = .ok (.iadd, 1) := dL8_19.2.2.2.2.2.2.2
theorem dL8_20 : (decode cL_law 334 = .ok (.iaload, 1)) ∧ (decode cL_law 335 = .ok (.invokevirtual 31, 3)) ∧ (decode cL_law 338 = .ok (.pop, 1)) ∧ (decode cL_law 339 = .ok (.aload_n 2, 1)) ∧ (decode cL_law 340 = .ok (.aload_n 0, 1)) ∧ (decode cL_law 341 = .ok (.iload_n 3, 1)) ∧ (decode cL_law 342 = .ok (.iconst 1, 1)) ∧ (decode cL_law 343 = .ok (.iadd, 1)) := by decide +kernel
theorem dL_law_334 : decode cL_law 334 = .ok (.iaload, 1) := dL8_20.1
theorem dL_law_335 : decode cL_law 335 = .ok (.invokevirtual 31, 3) := dL8_20.2.1
theorem dL_law_338 : decode cL_law 338 = .ok (.pop, 1) := dL8_20.2.2.1
theorem dL_law_339 : decode cL_law 339 = .ok (.aload_n 2, 1) := dL8_20.2.2.2.1
theorem dL_law_340 : decode cL_law 340 = .ok (.aload_n 0, 1) := dL8_20.2.2.2.2.1
theorem dL_law_341 : decode cL_law 341 = .ok (.iload_n 3, 1) := dL8_20.2.2.2.2.2.1
theorem dL_law_342 : decode cL_law 342 = .ok (.iconst 1, 1) := dL8_20.2.2.2.2.2.2.1
theorem dL_law_343 : decode cL_law 343 = .ok (.iadd, 1) := dL8_20.2.2.2.2.2.2.2
theorem dL8_21 : (decode cL_law 344 = .ok (.iaload, 1)) ∧ (decode cL_law 345 = .ok (.aload_n 0, 1)) ∧ (decode cL_law 346 = .ok (.iload_n 3, 1)) ∧ (decode cL_law 347 = .ok (.iconst 2, 1)) ∧ (decode cL_law 348 = .ok (.iadd, 1)) ∧ (decode cL_law 349 = .ok (.iaload, 1)) ∧ (decode cL_law 350 = .ok (.invokevirtual 34, 3)) ∧ (decode cL_law 353 = .ok (.pop, 1)) := by decide +kernel
theorem dL_law_344 : decode cL_law 344 = .ok (.iaload, 1) := dL8_21.1
theorem dL_law_345 : decode cL_law 345 = .ok (.aload_n 0, 1) := dL8_21.2.1
theorem dL_law_346 : decode cL_law 346 = .ok (.iload_n 3, 1) := dL8_21.2.2.1
theorem dL_law_347 : decode cL_law 347 = .ok (.iconst 2, 1) := dL8_21.2.2.2.1
theorem dL_law_348 : decode cL_law 348 = .ok (.iadd, 1) := dL8_21.2.2.2.2.1
theorem dL_law_349 : decode cL_law 349 = .ok (.iaload, 1) := dL8_21.2.2.2.2.2.1
theorem dL_law_350 : decode cL_law 350 = .ok (.invokevirtual 34, 3) := dL8_21.2.2.2.2.2.2.1
theorem dL_law_353 : decode cL_law 353 = .ok (.pop, 1) := dL8_21.2.2.2.2.2.2.2
theorem dL8_22 : (decode cL_law 354 = .ok (.goto 802, 3)) ∧ (decode cL_law 357 = .ok (.aload_n 1, 1)) ∧ (decode cL_law 358 = .ok (.aload_n 0, 1)) ∧ (decode cL_law 359 = .ok (.iload_n 3, 1)) ∧ (decode cL_law 360 = .ok (.iconst 1, 1)) ∧ (decode cL_law 361 = .ok (.iadd, 1)) ∧ (decode cL_law 362 = .ok (.iaload, 1)) ∧ (decode cL_law 363 = .ok (.aload_n 0, 1)) := by decide +kernel
theorem dL_law_354 : decode cL_law 354 = .ok (.goto 802, 3) := dL8_22.1
theorem dL_law_357 : decode cL_law 357 = .ok (.aload_n 1, 1) := dL8_22.2.1
theorem dL_law_358 : decode cL_law 358 = .ok (.aload_n 0, 1) := dL8_22.2.2.1
theorem dL_law_359 : decode cL_law 359 = .ok (.iload_n 3, 1) := dL8_22.2.2.2.1
theorem dL_law_360 : decode cL_law 360 = .ok (.iconst 1, 1) := dL8_22.2.2.2.2.1
theorem dL_law_361 : decode cL_law 361 = .ok (.iadd, 1) := dL8_22.2.2.2.2.2.1
theorem dL_law_362 : decode cL_law 362 = .ok (.iaload, 1) := dL8_22.2.2.2.2.2.2.1
theorem dL_law_363 : decode cL_law 363 = .ok (.aload_n 0, 1) := dL8_22.2.2.2.2.2.2.2
theorem dL8_23 : (decode cL_law 364 = .ok (.iload_n 3, 1)) ∧ (decode cL_law 365 = .ok (.iconst 2, 1)) ∧ (decode cL_law 366 = .ok (.iadd, 1)) ∧ (decode cL_law 367 = .ok (.iaload, 1)) ∧ (decode cL_law 368 = .ok (.invokevirtual 35, 3)) ∧ (decode cL_law 371 = .ok (.pop, 1)) ∧ (decode cL_law 372 = .ok (.aload_n 2, 1)) ∧ (decode cL_law 373 = .ok (.aload_n 0, 1)) := by decide +kernel
theorem dL_law_364 : decode cL_law 364 = .ok (.iload_n 3, 1) := dL8_23.1
theorem dL_law_365 : decode cL_law 365 = .ok (.iconst 2, 1) := dL8_23.2.1
theorem dL_law_366 : decode cL_law 366 = .ok (.iadd, 1) := dL8_23.2.2.1
theorem dL_law_367 : decode cL_law 367 = .ok (.iaload, 1) := dL8_23.2.2.2.1
theorem dL_law_368 : decode cL_law 368 = .ok (.invokevirtual 35, 3) := dL8_23.2.2.2.2.1
theorem dL_law_371 : decode cL_law 371 = .ok (.pop, 1) := dL8_23.2.2.2.2.2.1
theorem dL_law_372 : decode cL_law 372 = .ok (.aload_n 2, 1) := dL8_23.2.2.2.2.2.2.1
theorem dL_law_373 : decode cL_law 373 = .ok (.aload_n 0, 1) := dL8_23.2.2.2.2.2.2.2
theorem dL8_24 : (decode cL_law 374 = .ok (.iload_n 3, 1)) ∧ (decode cL_law 375 = .ok (.iconst 1, 1)) ∧ (decode cL_law 376 = .ok (.iadd, 1)) ∧ (decode cL_law 377 = .ok (.iaload, 1)) ∧ (decode cL_law 378 = .ok (.aload_n 0, 1)) ∧ (decode cL_law 379 = .ok (.iload_n 3, 1)) ∧ (decode cL_law 380 = .ok (.iconst 2, 1)) ∧ (decode cL_law 381 = .ok (.iadd, 1)) := by decide +kernel
theorem dL_law_374 : decode cL_law 374 = .ok (.iload_n 3, 1) := dL8_24.1
theorem dL_law_375 : decode cL_law 375 = .ok (.iconst 1, 1) := dL8_24.2.1
theorem dL_law_376 : decode cL_law 376 = .ok (.iadd, 1) := dL8_24.2.2.1
theorem dL_law_377 : decode cL_law 377 = .ok (.iaload, 1) := dL8_24.2.2.2.1
theorem dL_law_378 : decode cL_law 378 = .ok (.aload_n 0, 1) := dL8_24.2.2.2.2.1
theorem dL_law_379 : decode cL_law 379 = .ok (.iload_n 3, 1) := dL8_24.2.2.2.2.2.1
theorem dL_law_380 : decode cL_law 380 = .ok (.iconst 2, 1) := dL8_24.2.2.2.2.2.2.1
theorem dL_law_381 : decode cL_law 381 = .ok (.iadd, 1) := dL8_24.2.2.2.2.2.2.2
theorem dL8_25 : (decode cL_law 382 = .ok (.iaload, 1)) ∧ (decode cL_law 383 = .ok (.invokevirtual 38, 3)) ∧ (decode cL_law 386 = .ok (.pop, 1)) ∧ (decode cL_law 387 = .ok (.goto 769, 3)) ∧ (decode cL_law 390 = .ok (.aload_n 1, 1)) ∧ (decode cL_law 391 = .ok (.aload_n 0, 1)) ∧ (decode cL_law 392 = .ok (.iload_n 3, 1)) ∧ (decode cL_law 393 = .ok (.iconst 1, 1)) := by decide +kernel
theorem dL_law_382 : decode cL_law 382 = .ok (.iaload, 1) := dL8_25.1
theorem dL_law_383 : decode cL_law 383 = .ok (.invokevirtual 38, 3) := dL8_25.2.1
theorem dL_law_386 : decode cL_law 386 = .ok (.pop, 1) := dL8_25.2.2.1
theorem dL_law_387 : decode cL_law 387 = .ok (.goto 769, 3) := dL8_25.2.2.2.1
theorem dL_law_390 : decode cL_law 390 = .ok (.aload_n 1, 1) := dL8_25.2.2.2.2.1
theorem dL_law_391 : decode cL_law 391 = .ok (.aload_n 0, 1) := dL8_25.2.2.2.2.2.1
theorem dL_law_392 : decode cL_law 392 = .ok (.iload_n 3, 1) := dL8_25.2.2.2.2.2.2.1
theorem dL_law_393 : decode cL_law 393 = .ok (.iconst 1, 1) := dL8_25.2.2.2.2.2.2.2
theorem dL8_26 : (decode cL_law 394 = .ok (.iadd, 1)) ∧ (decode cL_law 395 = .ok (.iaload, 1)) ∧ (decode cL_law 396 = .ok (.aload_n 0, 1)) ∧ (decode cL_law 397 = .ok (.iload_n 3, 1)) ∧ (decode cL_law 398 = .ok (.iconst 2, 1)) ∧ (decode cL_law 399 = .ok (.iadd, 1)) ∧ (decode cL_law 400 = .ok (.iaload, 1)) ∧ (decode cL_law 401 = .ok (.aload_n 0, 1)) := by decide +kernel
theorem dL_law_394 : decode cL_law 394 = .ok (.iadd, 1) := dL8_26.1
theorem dL_law_395 : decode cL_law 395 = .ok (.iaload, 1) := dL8_26.2.1
theorem dL_law_396 : decode cL_law 396 = .ok (.aload_n 0, 1) := dL8_26.2.2.1
theorem dL_law_397 : decode cL_law 397 = .ok (.iload_n 3, 1) := dL8_26.2.2.2.1
theorem dL_law_398 : decode cL_law 398 = .ok (.iconst 2, 1) := dL8_26.2.2.2.2.1
theorem dL_law_399 : decode cL_law 399 = .ok (.iadd, 1) := dL8_26.2.2.2.2.2.1
theorem dL_law_400 : decode cL_law 400 = .ok (.iaload, 1) := dL8_26.2.2.2.2.2.2.1
theorem dL_law_401 : decode cL_law 401 = .ok (.aload_n 0, 1) := dL8_26.2.2.2.2.2.2.2
theorem dL8_27 : (decode cL_law 402 = .ok (.iload_n 3, 1)) ∧ (decode cL_law 403 = .ok (.iconst 3, 1)) ∧ (decode cL_law 404 = .ok (.iadd, 1)) ∧ (decode cL_law 405 = .ok (.iaload, 1)) ∧ (decode cL_law 406 = .ok (.invokevirtual 39, 3)) ∧ (decode cL_law 409 = .ok (.pop, 1)) ∧ (decode cL_law 410 = .ok (.aload_n 2, 1)) ∧ (decode cL_law 411 = .ok (.aload_n 0, 1)) := by decide +kernel
theorem dL_law_402 : decode cL_law 402 = .ok (.iload_n 3, 1) := dL8_27.1
theorem dL_law_403 : decode cL_law 403 = .ok (.iconst 3, 1) := dL8_27.2.1
theorem dL_law_404 : decode cL_law 404 = .ok (.iadd, 1) := dL8_27.2.2.1
theorem dL_law_405 : decode cL_law 405 = .ok (.iaload, 1) := dL8_27.2.2.2.1
theorem dL_law_406 : decode cL_law 406 = .ok (.invokevirtual 39, 3) := dL8_27.2.2.2.2.1
theorem dL_law_409 : decode cL_law 409 = .ok (.pop, 1) := dL8_27.2.2.2.2.2.1
theorem dL_law_410 : decode cL_law 410 = .ok (.aload_n 2, 1) := dL8_27.2.2.2.2.2.2.1
theorem dL_law_411 : decode cL_law 411 = .ok (.aload_n 0, 1) := dL8_27.2.2.2.2.2.2.2
theorem dL8_28 : (decode cL_law 412 = .ok (.iload_n 3, 1)) ∧ (decode cL_law 413 = .ok (.iconst 1, 1)) ∧ (decode cL_law 414 = .ok (.iadd, 1)) ∧ (decode cL_law 415 = .ok (.iaload, 1)) ∧ (decode cL_law 416 = .ok (.aload_n 0, 1)) ∧ (decode cL_law 417 = .ok (.iload_n 3, 1)) ∧ (decode cL_law 418 = .ok (.iconst 2, 1)) ∧ (decode cL_law 419 = .ok (.iadd, 1)) := by decide +kernel
theorem dL_law_412 : decode cL_law 412 = .ok (.iload_n 3, 1) := dL8_28.1
theorem dL_law_413 : decode cL_law 413 = .ok (.iconst 1, 1) := dL8_28.2.1
theorem dL_law_414 : decode cL_law 414 = .ok (.iadd, 1) := dL8_28.2.2.1
theorem dL_law_415 : decode cL_law 415 = .ok (.iaload, 1) := dL8_28.2.2.2.1
theorem dL_law_416 : decode cL_law 416 = .ok (.aload_n 0, 1) := dL8_28.2.2.2.2.1
theorem dL_law_417 : decode cL_law 417 = .ok (.iload_n 3, 1) := dL8_28.2.2.2.2.2.1
theorem dL_law_418 : decode cL_law 418 = .ok (.iconst 2, 1) := dL8_28.2.2.2.2.2.2.1
theorem dL_law_419 : decode cL_law 419 = .ok (.iadd, 1) := dL8_28.2.2.2.2.2.2.2
theorem dL8_29 : (decode cL_law 420 = .ok (.iaload, 1)) ∧ (decode cL_law 421 = .ok (.aload_n 0, 1)) ∧ (decode cL_law 422 = .ok (.iload_n 3, 1)) ∧ (decode cL_law 423 = .ok (.iconst 3, 1)) ∧ (decode cL_law 424 = .ok (.iadd, 1)) ∧ (decode cL_law 425 = .ok (.iaload, 1)) ∧ (decode cL_law 426 = .ok (.invokevirtual 43, 3)) ∧ (decode cL_law 429 = .ok (.pop, 1)) := by decide +kernel
theorem dL_law_420 : decode cL_law 420 = .ok (.iaload, 1) := dL8_29.1
theorem dL_law_421 : decode cL_law 421 = .ok (.aload_n 0, 1) := dL8_29.2.1
theorem dL_law_422 : decode cL_law 422 = .ok (.iload_n 3, 1) := dL8_29.2.2.1
theorem dL_law_423 : decode cL_law 423 = .ok (.iconst 3, 1) := dL8_29.2.2.2.1
theorem dL_law_424 : decode cL_law 424 = .ok (.iadd, 1) := dL8_29.2.2.2.2.1
theorem dL_law_425 : decode cL_law 425 = .ok (.iaload, 1) := dL8_29.2.2.2.2.2.1
theorem dL_law_426 : decode cL_law 426 = .ok (.invokevirtual 43, 3) := dL8_29.2.2.2.2.2.2.1
theorem dL_law_429 : decode cL_law 429 = .ok (.pop, 1) := dL8_29.2.2.2.2.2.2.2
theorem dL8_30 : (decode cL_law 430 = .ok (.goto 726, 3)) ∧ (decode cL_law 433 = .ok (.aload_n 1, 1)) ∧ (decode cL_law 434 = .ok (.aload_n 0, 1)) ∧ (decode cL_law 435 = .ok (.iload_n 3, 1)) ∧ (decode cL_law 436 = .ok (.iconst 1, 1)) ∧ (decode cL_law 437 = .ok (.iadd, 1)) ∧ (decode cL_law 438 = .ok (.iaload, 1)) ∧ (decode cL_law 439 = .ok (.aload_n 0, 1)) := by decide +kernel
theorem dL_law_430 : decode cL_law 430 = .ok (.goto 726, 3) := dL8_30.1
theorem dL_law_433 : decode cL_law 433 = .ok (.aload_n 1, 1) := dL8_30.2.1
theorem dL_law_434 : decode cL_law 434 = .ok (.aload_n 0, 1) := dL8_30.2.2.1
theorem dL_law_435 : decode cL_law 435 = .ok (.iload_n 3, 1) := dL8_30.2.2.2.1
theorem dL_law_436 : decode cL_law 436 = .ok (.iconst 1, 1) := dL8_30.2.2.2.2.1
theorem dL_law_437 : decode cL_law 437 = .ok (.iadd, 1) := dL8_30.2.2.2.2.2.1
theorem dL_law_438 : decode cL_law 438 = .ok (.iaload, 1) := dL8_30.2.2.2.2.2.2.1
theorem dL_law_439 : decode cL_law 439 = .ok (.aload_n 0, 1) := dL8_30.2.2.2.2.2.2.2
theorem dL8_31 : (decode cL_law 440 = .ok (.iload_n 3, 1)) ∧ (decode cL_law 441 = .ok (.iconst 2, 1)) ∧ (decode cL_law 442 = .ok (.iadd, 1)) ∧ (decode cL_law 443 = .ok (.iaload, 1)) ∧ (decode cL_law 444 = .ok (.invokevirtual 44, 3)) ∧ (decode cL_law 447 = .ok (.pop, 1)) ∧ (decode cL_law 448 = .ok (.aload_n 2, 1)) ∧ (decode cL_law 449 = .ok (.aload_n 0, 1)) := by decide +kernel
theorem dL_law_440 : decode cL_law 440 = .ok (.iload_n 3, 1) := dL8_31.1
theorem dL_law_441 : decode cL_law 441 = .ok (.iconst 2, 1) := dL8_31.2.1
theorem dL_law_442 : decode cL_law 442 = .ok (.iadd, 1) := dL8_31.2.2.1
theorem dL_law_443 : decode cL_law 443 = .ok (.iaload, 1) := dL8_31.2.2.2.1
theorem dL_law_444 : decode cL_law 444 = .ok (.invokevirtual 44, 3) := dL8_31.2.2.2.2.1
theorem dL_law_447 : decode cL_law 447 = .ok (.pop, 1) := dL8_31.2.2.2.2.2.1
theorem dL_law_448 : decode cL_law 448 = .ok (.aload_n 2, 1) := dL8_31.2.2.2.2.2.2.1
theorem dL_law_449 : decode cL_law 449 = .ok (.aload_n 0, 1) := dL8_31.2.2.2.2.2.2.2
theorem dL8_32 : (decode cL_law 450 = .ok (.iload_n 3, 1)) ∧ (decode cL_law 451 = .ok (.iconst 1, 1)) ∧ (decode cL_law 452 = .ok (.iadd, 1)) ∧ (decode cL_law 453 = .ok (.iaload, 1)) ∧ (decode cL_law 454 = .ok (.aload_n 0, 1)) ∧ (decode cL_law 455 = .ok (.iload_n 3, 1)) ∧ (decode cL_law 456 = .ok (.iconst 2, 1)) ∧ (decode cL_law 457 = .ok (.iadd, 1)) := by decide +kernel
theorem dL_law_450 : decode cL_law 450 = .ok (.iload_n 3, 1) := dL8_32.1
theorem dL_law_451 : decode cL_law 451 = .ok (.iconst 1, 1) := dL8_32.2.1
theorem dL_law_452 : decode cL_law 452 = .ok (.iadd, 1) := dL8_32.2.2.1
theorem dL_law_453 : decode cL_law 453 = .ok (.iaload, 1) := dL8_32.2.2.2.1
theorem dL_law_454 : decode cL_law 454 = .ok (.aload_n 0, 1) := dL8_32.2.2.2.2.1
theorem dL_law_455 : decode cL_law 455 = .ok (.iload_n 3, 1) := dL8_32.2.2.2.2.2.1
theorem dL_law_456 : decode cL_law 456 = .ok (.iconst 2, 1) := dL8_32.2.2.2.2.2.2.1
theorem dL_law_457 : decode cL_law 457 = .ok (.iadd, 1) := dL8_32.2.2.2.2.2.2.2
theorem dL8_33 : (decode cL_law 458 = .ok (.iaload, 1)) ∧ (decode cL_law 459 = .ok (.invokevirtual 47, 3)) ∧ (decode cL_law 462 = .ok (.pop, 1)) ∧ (decode cL_law 463 = .ok (.goto 693, 3)) ∧ (decode cL_law 466 = .ok (.aload_n 1, 1)) ∧ (decode cL_law 467 = .ok (.aload_n 0, 1)) ∧ (decode cL_law 468 = .ok (.iload_n 3, 1)) ∧ (decode cL_law 469 = .ok (.iconst 1, 1)) := by decide +kernel
theorem dL_law_458 : decode cL_law 458 = .ok (.iaload, 1) := dL8_33.1
theorem dL_law_459 : decode cL_law 459 = .ok (.invokevirtual 47, 3) := dL8_33.2.1
theorem dL_law_462 : decode cL_law 462 = .ok (.pop, 1) := dL8_33.2.2.1
theorem dL_law_463 : decode cL_law 463 = .ok (.goto 693, 3) := dL8_33.2.2.2.1
theorem dL_law_466 : decode cL_law 466 = .ok (.aload_n 1, 1) := dL8_33.2.2.2.2.1
theorem dL_law_467 : decode cL_law 467 = .ok (.aload_n 0, 1) := dL8_33.2.2.2.2.2.1
theorem dL_law_468 : decode cL_law 468 = .ok (.iload_n 3, 1) := dL8_33.2.2.2.2.2.2.1
theorem dL_law_469 : decode cL_law 469 = .ok (.iconst 1, 1) := dL8_33.2.2.2.2.2.2.2
theorem dL8_34 : (decode cL_law 470 = .ok (.iadd, 1)) ∧ (decode cL_law 471 = .ok (.iaload, 1)) ∧ (decode cL_law 472 = .ok (.aload_n 0, 1)) ∧ (decode cL_law 473 = .ok (.iload_n 3, 1)) ∧ (decode cL_law 474 = .ok (.iconst 2, 1)) ∧ (decode cL_law 475 = .ok (.iadd, 1)) ∧ (decode cL_law 476 = .ok (.iaload, 1)) ∧ (decode cL_law 477 = .ok (.invokevirtual 48, 3)) := by decide +kernel
theorem dL_law_470 : decode cL_law 470 = .ok (.iadd, 1) := dL8_34.1
theorem dL_law_471 : decode cL_law 471 = .ok (.iaload, 1) := dL8_34.2.1
theorem dL_law_472 : decode cL_law 472 = .ok (.aload_n 0, 1) := dL8_34.2.2.1
theorem dL_law_473 : decode cL_law 473 = .ok (.iload_n 3, 1) := dL8_34.2.2.2.1
theorem dL_law_474 : decode cL_law 474 = .ok (.iconst 2, 1) := dL8_34.2.2.2.2.1
theorem dL_law_475 : decode cL_law 475 = .ok (.iadd, 1) := dL8_34.2.2.2.2.2.1
theorem dL_law_476 : decode cL_law 476 = .ok (.iaload, 1) := dL8_34.2.2.2.2.2.2.1
theorem dL_law_477 : decode cL_law 477 = .ok (.invokevirtual 48, 3) := dL8_34.2.2.2.2.2.2.2
theorem dL8_35 : (decode cL_law 480 = .ok (.pop, 1)) ∧ (decode cL_law 481 = .ok (.aload_n 2, 1)) ∧ (decode cL_law 482 = .ok (.aload_n 0, 1)) ∧ (decode cL_law 483 = .ok (.iload_n 3, 1)) ∧ (decode cL_law 484 = .ok (.iconst 1, 1)) ∧ (decode cL_law 485 = .ok (.iadd, 1)) ∧ (decode cL_law 486 = .ok (.iaload, 1)) ∧ (decode cL_law 487 = .ok (.aload_n 0, 1)) := by decide +kernel
theorem dL_law_480 : decode cL_law 480 = .ok (.pop, 1) := dL8_35.1
theorem dL_law_481 : decode cL_law 481 = .ok (.aload_n 2, 1) := dL8_35.2.1
theorem dL_law_482 : decode cL_law 482 = .ok (.aload_n 0, 1) := dL8_35.2.2.1
theorem dL_law_483 : decode cL_law 483 = .ok (.iload_n 3, 1) := dL8_35.2.2.2.1
theorem dL_law_484 : decode cL_law 484 = .ok (.iconst 1, 1) := dL8_35.2.2.2.2.1
theorem dL_law_485 : decode cL_law 485 = .ok (.iadd, 1) := dL8_35.2.2.2.2.2.1
theorem dL_law_486 : decode cL_law 486 = .ok (.iaload, 1) := dL8_35.2.2.2.2.2.2.1
theorem dL_law_487 : decode cL_law 487 = .ok (.aload_n 0, 1) := dL8_35.2.2.2.2.2.2.2
theorem dL8_36 : (decode cL_law 488 = .ok (.iload_n 3, 1)) ∧ (decode cL_law 489 = .ok (.iconst 2, 1)) ∧ (decode cL_law 490 = .ok (.iadd, 1)) ∧ (decode cL_law 491 = .ok (.iaload, 1)) ∧ (decode cL_law 492 = .ok (.invokevirtual 51, 3)) ∧ (decode cL_law 495 = .ok (.pop, 1)) ∧ (decode cL_law 496 = .ok (.goto 660, 3)) ∧ (decode cL_law 499 = .ok (.aload_n 1, 1)) := by decide +kernel
theorem dL_law_488 : decode cL_law 488 = .ok (.iload_n 3, 1) := dL8_36.1
theorem dL_law_489 : decode cL_law 489 = .ok (.iconst 2, 1) := dL8_36.2.1
theorem dL_law_490 : decode cL_law 490 = .ok (.iadd, 1) := dL8_36.2.2.1
theorem dL_law_491 : decode cL_law 491 = .ok (.iaload, 1) := dL8_36.2.2.2.1
theorem dL_law_492 : decode cL_law 492 = .ok (.invokevirtual 51, 3) := dL8_36.2.2.2.2.1
theorem dL_law_495 : decode cL_law 495 = .ok (.pop, 1) := dL8_36.2.2.2.2.2.1
theorem dL_law_496 : decode cL_law 496 = .ok (.goto 660, 3) := dL8_36.2.2.2.2.2.2.1
theorem dL_law_499 : decode cL_law 499 = .ok (.aload_n 1, 1) := dL8_36.2.2.2.2.2.2.2
theorem dL8_37 : (decode cL_law 500 = .ok (.aload_n 0, 1)) ∧ (decode cL_law 501 = .ok (.iload_n 3, 1)) ∧ (decode cL_law 502 = .ok (.iconst 1, 1)) ∧ (decode cL_law 503 = .ok (.iadd, 1)) ∧ (decode cL_law 504 = .ok (.iaload, 1)) ∧ (decode cL_law 505 = .ok (.aload_n 0, 1)) ∧ (decode cL_law 506 = .ok (.iload_n 3, 1)) ∧ (decode cL_law 507 = .ok (.iconst 2, 1)) := by decide +kernel
theorem dL_law_500 : decode cL_law 500 = .ok (.aload_n 0, 1) := dL8_37.1
theorem dL_law_501 : decode cL_law 501 = .ok (.iload_n 3, 1) := dL8_37.2.1
theorem dL_law_502 : decode cL_law 502 = .ok (.iconst 1, 1) := dL8_37.2.2.1
theorem dL_law_503 : decode cL_law 503 = .ok (.iadd, 1) := dL8_37.2.2.2.1
theorem dL_law_504 : decode cL_law 504 = .ok (.iaload, 1) := dL8_37.2.2.2.2.1
theorem dL_law_505 : decode cL_law 505 = .ok (.aload_n 0, 1) := dL8_37.2.2.2.2.2.1
theorem dL_law_506 : decode cL_law 506 = .ok (.iload_n 3, 1) := dL8_37.2.2.2.2.2.2.1
theorem dL_law_507 : decode cL_law 507 = .ok (.iconst 2, 1) := dL8_37.2.2.2.2.2.2.2
theorem dL8_38 : (decode cL_law 508 = .ok (.iadd, 1)) ∧ (decode cL_law 509 = .ok (.iaload, 1)) ∧ (decode cL_law 510 = .ok (.invokevirtual 52, 3)) ∧ (decode cL_law 513 = .ok (.pop, 1)) ∧ (decode cL_law 514 = .ok (.aload_n 2, 1)) ∧ (decode cL_law 515 = .ok (.aload_n 0, 1)) ∧ (decode cL_law 516 = .ok (.iload_n 3, 1)) ∧ (decode cL_law 517 = .ok (.iconst 1, 1)) := by decide +kernel
theorem dL_law_508 : decode cL_law 508 = .ok (.iadd, 1) := dL8_38.1
theorem dL_law_509 : decode cL_law 509 = .ok (.iaload, 1) := dL8_38.2.1
theorem dL_law_510 : decode cL_law 510 = .ok (.invokevirtual 52, 3) := dL8_38.2.2.1
theorem dL_law_513 : decode cL_law 513 = .ok (.pop, 1) := dL8_38.2.2.2.1
theorem dL_law_514 : decode cL_law 514 = .ok (.aload_n 2, 1) := dL8_38.2.2.2.2.1
theorem dL_law_515 : decode cL_law 515 = .ok (.aload_n 0, 1) := dL8_38.2.2.2.2.2.1
theorem dL_law_516 : decode cL_law 516 = .ok (.iload_n 3, 1) := dL8_38.2.2.2.2.2.2.1
theorem dL_law_517 : decode cL_law 517 = .ok (.iconst 1, 1) := dL8_38.2.2.2.2.2.2.2
theorem dL8_39 : (decode cL_law 518 = .ok (.iadd, 1)) ∧ (decode cL_law 519 = .ok (.iaload, 1)) ∧ (decode cL_law 520 = .ok (.aload_n 0, 1)) ∧ (decode cL_law 521 = .ok (.iload_n 3, 1)) ∧ (decode cL_law 522 = .ok (.iconst 2, 1)) ∧ (decode cL_law 523 = .ok (.iadd, 1)) ∧ (decode cL_law 524 = .ok (.iaload, 1)) ∧ (decode cL_law 525 = .ok (.invokevirtual 55, 3)) := by decide +kernel
theorem dL_law_518 : decode cL_law 518 = .ok (.iadd, 1) := dL8_39.1
theorem dL_law_519 : decode cL_law 519 = .ok (.iaload, 1) := dL8_39.2.1
theorem dL_law_520 : decode cL_law 520 = .ok (.aload_n 0, 1) := dL8_39.2.2.1
theorem dL_law_521 : decode cL_law 521 = .ok (.iload_n 3, 1) := dL8_39.2.2.2.1
theorem dL_law_522 : decode cL_law 522 = .ok (.iconst 2, 1) := dL8_39.2.2.2.2.1
theorem dL_law_523 : decode cL_law 523 = .ok (.iadd, 1) := dL8_39.2.2.2.2.2.1
theorem dL_law_524 : decode cL_law 524 = .ok (.iaload, 1) := dL8_39.2.2.2.2.2.2.1
theorem dL_law_525 : decode cL_law 525 = .ok (.invokevirtual 55, 3) := dL8_39.2.2.2.2.2.2.2
theorem dL8_40 : (decode cL_law 528 = .ok (.pop, 1)) ∧ (decode cL_law 529 = .ok (.goto 627, 3)) ∧ (decode cL_law 532 = .ok (.aload_n 1, 1)) ∧ (decode cL_law 533 = .ok (.invokevirtual 56, 3)) ∧ (decode cL_law 536 = .ok (.pop, 1)) ∧ (decode cL_law 537 = .ok (.aload_n 2, 1)) ∧ (decode cL_law 538 = .ok (.invokevirtual 60, 3)) ∧ (decode cL_law 541 = .ok (.pop, 1)) := by decide +kernel
theorem dL_law_528 : decode cL_law 528 = .ok (.pop, 1) := dL8_40.1
theorem dL_law_529 : decode cL_law 529 = .ok (.goto 627, 3) := dL8_40.2.1
theorem dL_law_532 : decode cL_law 532 = .ok (.aload_n 1, 1) := dL8_40.2.2.1
theorem dL_law_533 : decode cL_law 533 = .ok (.invokevirtual 56, 3) := dL8_40.2.2.2.1
theorem dL_law_536 : decode cL_law 536 = .ok (.pop, 1) := dL8_40.2.2.2.2.1
theorem dL_law_537 : decode cL_law 537 = .ok (.aload_n 2, 1) := dL8_40.2.2.2.2.2.1
theorem dL_law_538 : decode cL_law 538 = .ok (.invokevirtual 60, 3) := dL8_40.2.2.2.2.2.2.1
theorem dL_law_541 : decode cL_law 541 = .ok (.pop, 1) := dL8_40.2.2.2.2.2.2.2
theorem dL8_41 : (decode cL_law 542 = .ok (.goto 614, 3)) ∧ (decode cL_law 545 = .ok (.aload_n 1, 1)) ∧ (decode cL_law 546 = .ok (.aload_n 0, 1)) ∧ (decode cL_law 547 = .ok (.iload_n 3, 1)) ∧ (decode cL_law 548 = .ok (.iconst 1, 1)) ∧ (decode cL_law 549 = .ok (.iadd, 1)) ∧ (decode cL_law 550 = .ok (.iaload, 1)) ∧ (decode cL_law 551 = .ok (.aload_n 0, 1)) := by decide +kernel
theorem dL_law_542 : decode cL_law 542 = .ok (.goto 614, 3) := dL8_41.1
theorem dL_law_545 : decode cL_law 545 = .ok (.aload_n 1, 1) := dL8_41.2.1
theorem dL_law_546 : decode cL_law 546 = .ok (.aload_n 0, 1) := dL8_41.2.2.1
theorem dL_law_547 : decode cL_law 547 = .ok (.iload_n 3, 1) := dL8_41.2.2.2.1
theorem dL_law_548 : decode cL_law 548 = .ok (.iconst 1, 1) := dL8_41.2.2.2.2.1
theorem dL_law_549 : decode cL_law 549 = .ok (.iadd, 1) := dL8_41.2.2.2.2.2.1
theorem dL_law_550 : decode cL_law 550 = .ok (.iaload, 1) := dL8_41.2.2.2.2.2.2.1
theorem dL_law_551 : decode cL_law 551 = .ok (.aload_n 0, 1) := dL8_41.2.2.2.2.2.2.2
theorem dL8_42 : (decode cL_law 552 = .ok (.iload_n 3, 1)) ∧ (decode cL_law 553 = .ok (.iconst 2, 1)) ∧ (decode cL_law 554 = .ok (.iadd, 1)) ∧ (decode cL_law 555 = .ok (.iaload, 1)) ∧ (decode cL_law 556 = .ok (.aload_n 0, 1)) ∧ (decode cL_law 557 = .ok (.iload_n 3, 1)) ∧ (decode cL_law 558 = .ok (.iconst 3, 1)) ∧ (decode cL_law 559 = .ok (.iadd, 1)) := by decide +kernel
theorem dL_law_552 : decode cL_law 552 = .ok (.iload_n 3, 1) := dL8_42.1
theorem dL_law_553 : decode cL_law 553 = .ok (.iconst 2, 1) := dL8_42.2.1
theorem dL_law_554 : decode cL_law 554 = .ok (.iadd, 1) := dL8_42.2.2.1
theorem dL_law_555 : decode cL_law 555 = .ok (.iaload, 1) := dL8_42.2.2.2.1
theorem dL_law_556 : decode cL_law 556 = .ok (.aload_n 0, 1) := dL8_42.2.2.2.2.1
theorem dL_law_557 : decode cL_law 557 = .ok (.iload_n 3, 1) := dL8_42.2.2.2.2.2.1
theorem dL_law_558 : decode cL_law 558 = .ok (.iconst 3, 1) := dL8_42.2.2.2.2.2.2.1
theorem dL_law_559 : decode cL_law 559 = .ok (.iadd, 1) := dL8_42.2.2.2.2.2.2.2
theorem dL8_43 : (decode cL_law 560 = .ok (.iaload, 1)) ∧ (decode cL_law 561 = .ok (.aload_n 0, 1)) ∧ (decode cL_law 562 = .ok (.iload_n 3, 1)) ∧ (decode cL_law 563 = .ok (.iconst 4, 1)) ∧ (decode cL_law 564 = .ok (.iadd, 1)) ∧ (decode cL_law 565 = .ok (.iaload, 1)) ∧ (decode cL_law 566 = .ok (.aload_n 0, 1)) ∧ (decode cL_law 567 = .ok (.iload_n 3, 1)) := by decide +kernel
theorem dL_law_560 : decode cL_law 560 = .ok (.iaload, 1) := dL8_43.1
theorem dL_law_561 : decode cL_law 561 = .ok (.aload_n 0, 1) := dL8_43.2.1
theorem dL_law_562 : decode cL_law 562 = .ok (.iload_n 3, 1) := dL8_43.2.2.1
theorem dL_law_563 : decode cL_law 563 = .ok (.iconst 4, 1) := dL8_43.2.2.2.1
theorem dL_law_564 : decode cL_law 564 = .ok (.iadd, 1) := dL8_43.2.2.2.2.1
theorem dL_law_565 : decode cL_law 565 = .ok (.iaload, 1) := dL8_43.2.2.2.2.2.1
theorem dL_law_566 : decode cL_law 566 = .ok (.aload_n 0, 1) := dL8_43.2.2.2.2.2.2.1
theorem dL_law_567 : decode cL_law 567 = .ok (.iload_n 3, 1) := dL8_43.2.2.2.2.2.2.2
theorem dL8_44 : (decode cL_law 568 = .ok (.iconst 5, 1)) ∧ (decode cL_law 569 = .ok (.iadd, 1)) ∧ (decode cL_law 570 = .ok (.iaload, 1)) ∧ (decode cL_law 571 = .ok (.invokevirtual 61, 3)) ∧ (decode cL_law 574 = .ok (.pop, 1)) ∧ (decode cL_law 575 = .ok (.aload_n 2, 1)) ∧ (decode cL_law 576 = .ok (.aload_n 0, 1)) ∧ (decode cL_law 577 = .ok (.iload_n 3, 1)) := by decide +kernel
theorem dL_law_568 : decode cL_law 568 = .ok (.iconst 5, 1) := dL8_44.1
theorem dL_law_569 : decode cL_law 569 = .ok (.iadd, 1) := dL8_44.2.1
theorem dL_law_570 : decode cL_law 570 = .ok (.iaload, 1) := dL8_44.2.2.1
theorem dL_law_571 : decode cL_law 571 = .ok (.invokevirtual 61, 3) := dL8_44.2.2.2.1
theorem dL_law_574 : decode cL_law 574 = .ok (.pop, 1) := dL8_44.2.2.2.2.1
theorem dL_law_575 : decode cL_law 575 = .ok (.aload_n 2, 1) := dL8_44.2.2.2.2.2.1
theorem dL_law_576 : decode cL_law 576 = .ok (.aload_n 0, 1) := dL8_44.2.2.2.2.2.2.1
theorem dL_law_577 : decode cL_law 577 = .ok (.iload_n 3, 1) := dL8_44.2.2.2.2.2.2.2
theorem dL8_45 : (decode cL_law 578 = .ok (.iconst 1, 1)) ∧ (decode cL_law 579 = .ok (.iadd, 1)) ∧ (decode cL_law 580 = .ok (.iaload, 1)) ∧ (decode cL_law 581 = .ok (.aload_n 0, 1)) ∧ (decode cL_law 582 = .ok (.iload_n 3, 1)) ∧ (decode cL_law 583 = .ok (.iconst 2, 1)) ∧ (decode cL_law 584 = .ok (.iadd, 1)) ∧ (decode cL_law 585 = .ok (.iaload, 1)) := by decide +kernel
theorem dL_law_578 : decode cL_law 578 = .ok (.iconst 1, 1) := dL8_45.1
theorem dL_law_579 : decode cL_law 579 = .ok (.iadd, 1) := dL8_45.2.1
theorem dL_law_580 : decode cL_law 580 = .ok (.iaload, 1) := dL8_45.2.2.1
theorem dL_law_581 : decode cL_law 581 = .ok (.aload_n 0, 1) := dL8_45.2.2.2.1
theorem dL_law_582 : decode cL_law 582 = .ok (.iload_n 3, 1) := dL8_45.2.2.2.2.1
theorem dL_law_583 : decode cL_law 583 = .ok (.iconst 2, 1) := dL8_45.2.2.2.2.2.1
theorem dL_law_584 : decode cL_law 584 = .ok (.iadd, 1) := dL8_45.2.2.2.2.2.2.1
theorem dL_law_585 : decode cL_law 585 = .ok (.iaload, 1) := dL8_45.2.2.2.2.2.2.2
theorem dL8_46 : (decode cL_law 586 = .ok (.aload_n 0, 1)) ∧ (decode cL_law 587 = .ok (.iload_n 3, 1)) ∧ (decode cL_law 588 = .ok (.iconst 3, 1)) ∧ (decode cL_law 589 = .ok (.iadd, 1)) ∧ (decode cL_law 590 = .ok (.iaload, 1)) ∧ (decode cL_law 591 = .ok (.aload_n 0, 1)) ∧ (decode cL_law 592 = .ok (.iload_n 3, 1)) ∧ (decode cL_law 593 = .ok (.iconst 4, 1)) := by decide +kernel
theorem dL_law_586 : decode cL_law 586 = .ok (.aload_n 0, 1) := dL8_46.1
theorem dL_law_587 : decode cL_law 587 = .ok (.iload_n 3, 1) := dL8_46.2.1
theorem dL_law_588 : decode cL_law 588 = .ok (.iconst 3, 1) := dL8_46.2.2.1
theorem dL_law_589 : decode cL_law 589 = .ok (.iadd, 1) := dL8_46.2.2.2.1
theorem dL_law_590 : decode cL_law 590 = .ok (.iaload, 1) := dL8_46.2.2.2.2.1
theorem dL_law_591 : decode cL_law 591 = .ok (.aload_n 0, 1) := dL8_46.2.2.2.2.2.1
theorem dL_law_592 : decode cL_law 592 = .ok (.iload_n 3, 1) := dL8_46.2.2.2.2.2.2.1
theorem dL_law_593 : decode cL_law 593 = .ok (.iconst 4, 1) := dL8_46.2.2.2.2.2.2.2
theorem dL8_47 : (decode cL_law 594 = .ok (.iadd, 1)) ∧ (decode cL_law 595 = .ok (.iaload, 1)) ∧ (decode cL_law 596 = .ok (.aload_n 0, 1)) ∧ (decode cL_law 597 = .ok (.iload_n 3, 1)) ∧ (decode cL_law 598 = .ok (.iconst 5, 1)) ∧ (decode cL_law 599 = .ok (.iadd, 1)) ∧ (decode cL_law 600 = .ok (.iaload, 1)) ∧ (decode cL_law 601 = .ok (.invokevirtual 65, 3)) := by decide +kernel
theorem dL_law_594 : decode cL_law 594 = .ok (.iadd, 1) := dL8_47.1
theorem dL_law_595 : decode cL_law 595 = .ok (.iaload, 1) := dL8_47.2.1
theorem dL_law_596 : decode cL_law 596 = .ok (.aload_n 0, 1) := dL8_47.2.2.1
theorem dL_law_597 : decode cL_law 597 = .ok (.iload_n 3, 1) := dL8_47.2.2.2.1
theorem dL_law_598 : decode cL_law 598 = .ok (.iconst 5, 1) := dL8_47.2.2.2.2.1
theorem dL_law_599 : decode cL_law 599 = .ok (.iadd, 1) := dL8_47.2.2.2.2.2.1
theorem dL_law_600 : decode cL_law 600 = .ok (.iaload, 1) := dL8_47.2.2.2.2.2.2.1
theorem dL_law_601 : decode cL_law 601 = .ok (.invokevirtual 65, 3) := dL8_47.2.2.2.2.2.2.2
theorem dL8_48 : (decode cL_law 604 = .ok (.pop, 1)) ∧ (decode cL_law 605 = .ok (.goto 551, 3)) ∧ (decode cL_law 608 = .ok (.aload_n 1, 1)) ∧ (decode cL_law 609 = .ok (.aload_n 0, 1)) ∧ (decode cL_law 610 = .ok (.iload_n 3, 1)) ∧ (decode cL_law 611 = .ok (.iconst 1, 1)) ∧ (decode cL_law 612 = .ok (.iadd, 1)) ∧ (decode cL_law 613 = .ok (.iaload, 1)) := by decide +kernel
theorem dL_law_604 : decode cL_law 604 = .ok (.pop, 1) := dL8_48.1
theorem dL_law_605 : decode cL_law 605 = .ok (.goto 551, 3) := dL8_48.2.1
theorem dL_law_608 : decode cL_law 608 = .ok (.aload_n 1, 1) := dL8_48.2.2.1
theorem dL_law_609 : decode cL_law 609 = .ok (.aload_n 0, 1) := dL8_48.2.2.2.1
theorem dL_law_610 : decode cL_law 610 = .ok (.iload_n 3, 1) := dL8_48.2.2.2.2.1
theorem dL_law_611 : decode cL_law 611 = .ok (.iconst 1, 1) := dL8_48.2.2.2.2.2.1
theorem dL_law_612 : decode cL_law 612 = .ok (.iadd, 1) := dL8_48.2.2.2.2.2.2.1
theorem dL_law_613 : decode cL_law 613 = .ok (.iaload, 1) := dL8_48.2.2.2.2.2.2.2
theorem dL8_49 : (decode cL_law 614 = .ok (.invokevirtual 66, 3)) ∧ (decode cL_law 617 = .ok (.pop, 1)) ∧ (decode cL_law 618 = .ok (.aload_n 2, 1)) ∧ (decode cL_law 619 = .ok (.aload_n 0, 1)) ∧ (decode cL_law 620 = .ok (.iload_n 3, 1)) ∧ (decode cL_law 621 = .ok (.iconst 1, 1)) ∧ (decode cL_law 622 = .ok (.iadd, 1)) ∧ (decode cL_law 623 = .ok (.iaload, 1)) := by decide +kernel
theorem dL_law_614 : decode cL_law 614 = .ok (.invokevirtual 66, 3) := dL8_49.1
theorem dL_law_617 : decode cL_law 617 = .ok (.pop, 1) := dL8_49.2.1
theorem dL_law_618 : decode cL_law 618 = .ok (.aload_n 2, 1) := dL8_49.2.2.1
theorem dL_law_619 : decode cL_law 619 = .ok (.aload_n 0, 1) := dL8_49.2.2.2.1
theorem dL_law_620 : decode cL_law 620 = .ok (.iload_n 3, 1) := dL8_49.2.2.2.2.1
theorem dL_law_621 : decode cL_law 621 = .ok (.iconst 1, 1) := dL8_49.2.2.2.2.2.1
theorem dL_law_622 : decode cL_law 622 = .ok (.iadd, 1) := dL8_49.2.2.2.2.2.2.1
theorem dL_law_623 : decode cL_law 623 = .ok (.iaload, 1) := dL8_49.2.2.2.2.2.2.2
theorem dL8_50 : (decode cL_law 624 = .ok (.invokevirtual 70, 3)) ∧ (decode cL_law 627 = .ok (.pop, 1)) ∧ (decode cL_law 628 = .ok (.goto 528, 3)) ∧ (decode cL_law 631 = .ok (.aload_n 1, 1)) ∧ (decode cL_law 632 = .ok (.aload_n 0, 1)) ∧ (decode cL_law 633 = .ok (.iload_n 3, 1)) ∧ (decode cL_law 634 = .ok (.iconst 1, 1)) ∧ (decode cL_law 635 = .ok (.iadd, 1)) := by decide +kernel
theorem dL_law_624 : decode cL_law 624 = .ok (.invokevirtual 70, 3) := dL8_50.1
theorem dL_law_627 : decode cL_law 627 = .ok (.pop, 1) := dL8_50.2.1
theorem dL_law_628 : decode cL_law 628 = .ok (.goto 528, 3) := dL8_50.2.2.1
theorem dL_law_631 : decode cL_law 631 = .ok (.aload_n 1, 1) := dL8_50.2.2.2.1
theorem dL_law_632 : decode cL_law 632 = .ok (.aload_n 0, 1) := dL8_50.2.2.2.2.1
theorem dL_law_633 : decode cL_law 633 = .ok (.iload_n 3, 1) := dL8_50.2.2.2.2.2.1
theorem dL_law_634 : decode cL_law 634 = .ok (.iconst 1, 1) := dL8_50.2.2.2.2.2.2.1
theorem dL_law_635 : decode cL_law 635 = .ok (.iadd, 1) := dL8_50.2.2.2.2.2.2.2
theorem dL8_51 : (decode cL_law 636 = .ok (.iaload, 1)) ∧ (decode cL_law 637 = .ok (.aload_n 0, 1)) ∧ (decode cL_law 638 = .ok (.iload_n 3, 1)) ∧ (decode cL_law 639 = .ok (.iconst 2, 1)) ∧ (decode cL_law 640 = .ok (.iadd, 1)) ∧ (decode cL_law 641 = .ok (.iaload, 1)) ∧ (decode cL_law 642 = .ok (.invokevirtual 71, 3)) ∧ (decode cL_law 645 = .ok (.pop, 1)) := by decide +kernel
theorem dL_law_636 : decode cL_law 636 = .ok (.iaload, 1) := dL8_51.1
theorem dL_law_637 : decode cL_law 637 = .ok (.aload_n 0, 1) := dL8_51.2.1
theorem dL_law_638 : decode cL_law 638 = .ok (.iload_n 3, 1) := dL8_51.2.2.1
theorem dL_law_639 : decode cL_law 639 = .ok (.iconst 2, 1) := dL8_51.2.2.2.1
theorem dL_law_640 : decode cL_law 640 = .ok (.iadd, 1) := dL8_51.2.2.2.2.1
theorem dL_law_641 : decode cL_law 641 = .ok (.iaload, 1) := dL8_51.2.2.2.2.2.1
theorem dL_law_642 : decode cL_law 642 = .ok (.invokevirtual 71, 3) := dL8_51.2.2.2.2.2.2.1
theorem dL_law_645 : decode cL_law 645 = .ok (.pop, 1) := dL8_51.2.2.2.2.2.2.2
theorem dL8_52 : (decode cL_law 646 = .ok (.aload_n 2, 1)) ∧ (decode cL_law 647 = .ok (.aload_n 0, 1)) ∧ (decode cL_law 648 = .ok (.iload_n 3, 1)) ∧ (decode cL_law 649 = .ok (.iconst 1, 1)) ∧ (decode cL_law 650 = .ok (.iadd, 1)) ∧ (decode cL_law 651 = .ok (.iaload, 1)) ∧ (decode cL_law 652 = .ok (.aload_n 0, 1)) ∧ (decode cL_law 653 = .ok (.iload_n 3, 1)) := by decide +kernel
theorem dL_law_646 : decode cL_law 646 = .ok (.aload_n 2, 1) := dL8_52.1
theorem dL_law_647 : decode cL_law 647 = .ok (.aload_n 0, 1) := dL8_52.2.1
theorem dL_law_648 : decode cL_law 648 = .ok (.iload_n 3, 1) := dL8_52.2.2.1
theorem dL_law_649 : decode cL_law 649 = .ok (.iconst 1, 1) := dL8_52.2.2.2.1
theorem dL_law_650 : decode cL_law 650 = .ok (.iadd, 1) := dL8_52.2.2.2.2.1
theorem dL_law_651 : decode cL_law 651 = .ok (.iaload, 1) := dL8_52.2.2.2.2.2.1
theorem dL_law_652 : decode cL_law 652 = .ok (.aload_n 0, 1) := dL8_52.2.2.2.2.2.2.1
theorem dL_law_653 : decode cL_law 653 = .ok (.iload_n 3, 1) := dL8_52.2.2.2.2.2.2.2
theorem dL8_53 : (decode cL_law 654 = .ok (.iconst 2, 1)) ∧ (decode cL_law 655 = .ok (.iadd, 1)) ∧ (decode cL_law 656 = .ok (.iaload, 1)) ∧ (decode cL_law 657 = .ok (.invokevirtual 74, 3)) ∧ (decode cL_law 660 = .ok (.pop, 1)) ∧ (decode cL_law 661 = .ok (.goto 495, 3)) ∧ (decode cL_law 664 = .ok (.aload_n 1, 1)) ∧ (decode cL_law 665 = .ok (.aload_n 0, 1)) := by decide +kernel
theorem dL_law_654 : decode cL_law 654 = .ok (.iconst 2, 1) := dL8_53.1
theorem dL_law_655 : decode cL_law 655 = .ok (.iadd, 1) := dL8_53.2.1
theorem dL_law_656 : decode cL_law 656 = .ok (.iaload, 1) := dL8_53.2.2.1
theorem dL_law_657 : decode cL_law 657 = .ok (.invokevirtual 74, 3) := dL8_53.2.2.2.1
theorem dL_law_660 : decode cL_law 660 = .ok (.pop, 1) := dL8_53.2.2.2.2.1
theorem dL_law_661 : decode cL_law 661 = .ok (.goto 495, 3) := dL8_53.2.2.2.2.2.1
theorem dL_law_664 : decode cL_law 664 = .ok (.aload_n 1, 1) := dL8_53.2.2.2.2.2.2.1
theorem dL_law_665 : decode cL_law 665 = .ok (.aload_n 0, 1) := dL8_53.2.2.2.2.2.2.2
theorem dL8_54 : (decode cL_law 666 = .ok (.iload_n 3, 1)) ∧ (decode cL_law 667 = .ok (.iconst 1, 1)) ∧ (decode cL_law 668 = .ok (.iadd, 1)) ∧ (decode cL_law 669 = .ok (.iaload, 1)) ∧ (decode cL_law 670 = .ok (.invokevirtual 75, 3)) ∧ (decode cL_law 673 = .ok (.pop2, 1)) ∧ (decode cL_law 674 = .ok (.aload_n 2, 1)) ∧ (decode cL_law 675 = .ok (.aload_n 0, 1)) := by decide +kernel
theorem dL_law_666 : decode cL_law 666 = .ok (.iload_n 3, 1) := dL8_54.1
theorem dL_law_667 : decode cL_law 667 = .ok (.iconst 1, 1) := dL8_54.2.1
theorem dL_law_668 : decode cL_law 668 = .ok (.iadd, 1) := dL8_54.2.2.1
theorem dL_law_669 : decode cL_law 669 = .ok (.iaload, 1) := dL8_54.2.2.2.1
theorem dL_law_670 : decode cL_law 670 = .ok (.invokevirtual 75, 3) := dL8_54.2.2.2.2.1
theorem dL_law_673 : decode cL_law 673 = .ok (.pop2, 1) := dL8_54.2.2.2.2.2.1
theorem dL_law_674 : decode cL_law 674 = .ok (.aload_n 2, 1) := dL8_54.2.2.2.2.2.2.1
theorem dL_law_675 : decode cL_law 675 = .ok (.aload_n 0, 1) := dL8_54.2.2.2.2.2.2.2
theorem dL8_55 : (decode cL_law 676 = .ok (.iload_n 3, 1)) ∧ (decode cL_law 677 = .ok (.iconst 1, 1)) ∧ (decode cL_law 678 = .ok (.iadd, 1)) ∧ (decode cL_law 679 = .ok (.iaload, 1)) ∧ (decode cL_law 680 = .ok (.invokevirtual 79, 3)) ∧ (decode cL_law 683 = .ok (.pop2, 1)) ∧ (decode cL_law 684 = .ok (.goto 472, 3)) ∧ (decode cL_law 687 = .ok (.aload_n 1, 1)) := by decide +kernel
theorem dL_law_676 : decode cL_law 676 = .ok (.iload_n 3, 1) := dL8_55.1
theorem dL_law_677 : decode cL_law 677 = .ok (.iconst 1, 1) := dL8_55.2.1
theorem dL_law_678 : decode cL_law 678 = .ok (.iadd, 1) := dL8_55.2.2.1
theorem dL_law_679 : decode cL_law 679 = .ok (.iaload, 1) := dL8_55.2.2.2.1
theorem dL_law_680 : decode cL_law 680 = .ok (.invokevirtual 79, 3) := dL8_55.2.2.2.2.1
theorem dL_law_683 : decode cL_law 683 = .ok (.pop2, 1) := dL8_55.2.2.2.2.2.1
theorem dL_law_684 : decode cL_law 684 = .ok (.goto 472, 3) := dL8_55.2.2.2.2.2.2.1
theorem dL_law_687 : decode cL_law 687 = .ok (.aload_n 1, 1) := dL8_55.2.2.2.2.2.2.2
theorem dL8_56 : (decode cL_law 688 = .ok (.aload_n 0, 1)) ∧ (decode cL_law 689 = .ok (.iload_n 3, 1)) ∧ (decode cL_law 690 = .ok (.iconst 1, 1)) ∧ (decode cL_law 691 = .ok (.iadd, 1)) ∧ (decode cL_law 692 = .ok (.iaload, 1)) ∧ (decode cL_law 693 = .ok (.invokevirtual 80, 3)) ∧ (decode cL_law 696 = .ok (.pop, 1)) ∧ (decode cL_law 697 = .ok (.aload_n 2, 1)) := by decide +kernel
theorem dL_law_688 : decode cL_law 688 = .ok (.aload_n 0, 1) := dL8_56.1
theorem dL_law_689 : decode cL_law 689 = .ok (.iload_n 3, 1) := dL8_56.2.1
theorem dL_law_690 : decode cL_law 690 = .ok (.iconst 1, 1) := dL8_56.2.2.1
theorem dL_law_691 : decode cL_law 691 = .ok (.iadd, 1) := dL8_56.2.2.2.1
theorem dL_law_692 : decode cL_law 692 = .ok (.iaload, 1) := dL8_56.2.2.2.2.1
theorem dL_law_693 : decode cL_law 693 = .ok (.invokevirtual 80, 3) := dL8_56.2.2.2.2.2.1
theorem dL_law_696 : decode cL_law 696 = .ok (.pop, 1) := dL8_56.2.2.2.2.2.2.1
theorem dL_law_697 : decode cL_law 697 = .ok (.aload_n 2, 1) := dL8_56.2.2.2.2.2.2.2
theorem dL8_57 : (decode cL_law 698 = .ok (.aload_n 0, 1)) ∧ (decode cL_law 699 = .ok (.iload_n 3, 1)) ∧ (decode cL_law 700 = .ok (.iconst 1, 1)) ∧ (decode cL_law 701 = .ok (.iadd, 1)) ∧ (decode cL_law 702 = .ok (.iaload, 1)) ∧ (decode cL_law 703 = .ok (.invokevirtual 83, 3)) ∧ (decode cL_law 706 = .ok (.pop, 1)) ∧ (decode cL_law 707 = .ok (.goto 449, 3)) := by decide +kernel
theorem dL_law_698 : decode cL_law 698 = .ok (.aload_n 0, 1) := dL8_57.1
theorem dL_law_699 : decode cL_law 699 = .ok (.iload_n 3, 1) := dL8_57.2.1
theorem dL_law_700 : decode cL_law 700 = .ok (.iconst 1, 1) := dL8_57.2.2.1
theorem dL_law_701 : decode cL_law 701 = .ok (.iadd, 1) := dL8_57.2.2.2.1
theorem dL_law_702 : decode cL_law 702 = .ok (.iaload, 1) := dL8_57.2.2.2.2.1
theorem dL_law_703 : decode cL_law 703 = .ok (.invokevirtual 83, 3) := dL8_57.2.2.2.2.2.1
theorem dL_law_706 : decode cL_law 706 = .ok (.pop, 1) := dL8_57.2.2.2.2.2.2.1
theorem dL_law_707 : decode cL_law 707 = .ok (.goto 449, 3) := dL8_57.2.2.2.2.2.2.2
theorem dL8_58 : (decode cL_law 710 = .ok (.aload_n 1, 1)) ∧ (decode cL_law 711 = .ok (.aload_n 0, 1)) ∧ (decode cL_law 712 = .ok (.iload_n 3, 1)) ∧ (decode cL_law 713 = .ok (.iconst 1, 1)) ∧ (decode cL_law 714 = .ok (.iadd, 1)) ∧ (decode cL_law 715 = .ok (.iaload, 1)) ∧ (decode cL_law 716 = .ok (.invokevirtual 84, 3)) ∧ (decode cL_law 719 = .ok (.pop, 1)) := by decide +kernel
theorem dL_law_710 : decode cL_law 710 = .ok (.aload_n 1, 1) := dL8_58.1
theorem dL_law_711 : decode cL_law 711 = .ok (.aload_n 0, 1) := dL8_58.2.1
theorem dL_law_712 : decode cL_law 712 = .ok (.iload_n 3, 1) := dL8_58.2.2.1
theorem dL_law_713 : decode cL_law 713 = .ok (.iconst 1, 1) := dL8_58.2.2.2.1
theorem dL_law_714 : decode cL_law 714 = .ok (.iadd, 1) := dL8_58.2.2.2.2.1
theorem dL_law_715 : decode cL_law 715 = .ok (.iaload, 1) := dL8_58.2.2.2.2.2.1
theorem dL_law_716 : decode cL_law 716 = .ok (.invokevirtual 84, 3) := dL8_58.2.2.2.2.2.2.1
theorem dL_law_719 : decode cL_law 719 = .ok (.pop, 1) := dL8_58.2.2.2.2.2.2.2
theorem dL8_59 : (decode cL_law 720 = .ok (.aload_n 2, 1)) ∧ (decode cL_law 721 = .ok (.aload_n 0, 1)) ∧ (decode cL_law 722 = .ok (.iload_n 3, 1)) ∧ (decode cL_law 723 = .ok (.iconst 1, 1)) ∧ (decode cL_law 724 = .ok (.iadd, 1)) ∧ (decode cL_law 725 = .ok (.iaload, 1)) ∧ (decode cL_law 726 = .ok (.invokevirtual 87, 3)) ∧ (decode cL_law 729 = .ok (.pop, 1)) := by decide +kernel
theorem dL_law_720 : decode cL_law 720 = .ok (.aload_n 2, 1) := dL8_59.1
theorem dL_law_721 : decode cL_law 721 = .ok (.aload_n 0, 1) := dL8_59.2.1
theorem dL_law_722 : decode cL_law 722 = .ok (.iload_n 3, 1) := dL8_59.2.2.1
theorem dL_law_723 : decode cL_law 723 = .ok (.iconst 1, 1) := dL8_59.2.2.2.1
theorem dL_law_724 : decode cL_law 724 = .ok (.iadd, 1) := dL8_59.2.2.2.2.1
theorem dL_law_725 : decode cL_law 725 = .ok (.iaload, 1) := dL8_59.2.2.2.2.2.1
theorem dL_law_726 : decode cL_law 726 = .ok (.invokevirtual 87, 3) := dL8_59.2.2.2.2.2.2.1
theorem dL_law_729 : decode cL_law 729 = .ok (.pop, 1) := dL8_59.2.2.2.2.2.2.2
theorem dL8_60 : (decode cL_law 730 = .ok (.goto 426, 3)) ∧ (decode cL_law 733 = .ok (.aload_n 1, 1)) ∧ (decode cL_law 734 = .ok (.aload_n 0, 1)) ∧ (decode cL_law 735 = .ok (.iload_n 3, 1)) ∧ (decode cL_law 736 = .ok (.iconst 1, 1)) ∧ (decode cL_law 737 = .ok (.iadd, 1)) ∧ (decode cL_law 738 = .ok (.iaload, 1)) ∧ (decode cL_law 739 = .ok (.invokevirtual 88, 3)) := by decide +kernel
theorem dL_law_730 : decode cL_law 730 = .ok (.goto 426, 3) := dL8_60.1
theorem dL_law_733 : decode cL_law 733 = .ok (.aload_n 1, 1) := dL8_60.2.1
theorem dL_law_734 : decode cL_law 734 = .ok (.aload_n 0, 1) := dL8_60.2.2.1
theorem dL_law_735 : decode cL_law 735 = .ok (.iload_n 3, 1) := dL8_60.2.2.2.1
theorem dL_law_736 : decode cL_law 736 = .ok (.iconst 1, 1) := dL8_60.2.2.2.2.1
theorem dL_law_737 : decode cL_law 737 = .ok (.iadd, 1) := dL8_60.2.2.2.2.2.1
theorem dL_law_738 : decode cL_law 738 = .ok (.iaload, 1) := dL8_60.2.2.2.2.2.2.1
theorem dL_law_739 : decode cL_law 739 = .ok (.invokevirtual 88, 3) := dL8_60.2.2.2.2.2.2.2
theorem dL8_61 : (decode cL_law 742 = .ok (.pop, 1)) ∧ (decode cL_law 743 = .ok (.aload_n 2, 1)) ∧ (decode cL_law 744 = .ok (.aload_n 0, 1)) ∧ (decode cL_law 745 = .ok (.iload_n 3, 1)) ∧ (decode cL_law 746 = .ok (.iconst 1, 1)) ∧ (decode cL_law 747 = .ok (.iadd, 1)) ∧ (decode cL_law 748 = .ok (.iaload, 1)) ∧ (decode cL_law 749 = .ok (.invokevirtual 91, 3)) := by decide +kernel
theorem dL_law_742 : decode cL_law 742 = .ok (.pop, 1) := dL8_61.1
theorem dL_law_743 : decode cL_law 743 = .ok (.aload_n 2, 1) := dL8_61.2.1
theorem dL_law_744 : decode cL_law 744 = .ok (.aload_n 0, 1) := dL8_61.2.2.1
theorem dL_law_745 : decode cL_law 745 = .ok (.iload_n 3, 1) := dL8_61.2.2.2.1
theorem dL_law_746 : decode cL_law 746 = .ok (.iconst 1, 1) := dL8_61.2.2.2.2.1
theorem dL_law_747 : decode cL_law 747 = .ok (.iadd, 1) := dL8_61.2.2.2.2.2.1
theorem dL_law_748 : decode cL_law 748 = .ok (.iaload, 1) := dL8_61.2.2.2.2.2.2.1
theorem dL_law_749 : decode cL_law 749 = .ok (.invokevirtual 91, 3) := dL8_61.2.2.2.2.2.2.2
theorem dL8_62 : (decode cL_law 752 = .ok (.pop, 1)) ∧ (decode cL_law 753 = .ok (.goto 403, 3)) ∧ (decode cL_law 756 = .ok (.aload_n 1, 1)) ∧ (decode cL_law 757 = .ok (.aload_n 0, 1)) ∧ (decode cL_law 758 = .ok (.iload_n 3, 1)) ∧ (decode cL_law 759 = .ok (.iconst 1, 1)) ∧ (decode cL_law 760 = .ok (.iadd, 1)) ∧ (decode cL_law 761 = .ok (.iaload, 1)) := by decide +kernel
theorem dL_law_752 : decode cL_law 752 = .ok (.pop, 1) := dL8_62.1
theorem dL_law_753 : decode cL_law 753 = .ok (.goto 403, 3) := dL8_62.2.1
theorem dL_law_756 : decode cL_law 756 = .ok (.aload_n 1, 1) := dL8_62.2.2.1
theorem dL_law_757 : decode cL_law 757 = .ok (.aload_n 0, 1) := dL8_62.2.2.2.1
theorem dL_law_758 : decode cL_law 758 = .ok (.iload_n 3, 1) := dL8_62.2.2.2.2.1
theorem dL_law_759 : decode cL_law 759 = .ok (.iconst 1, 1) := dL8_62.2.2.2.2.2.1
theorem dL_law_760 : decode cL_law 760 = .ok (.iadd, 1) := dL8_62.2.2.2.2.2.2.1
theorem dL_law_761 : decode cL_law 761 = .ok (.iaload, 1) := dL8_62.2.2.2.2.2.2.2
theorem dL8_63 : (decode cL_law 762 = .ok (.invokevirtual 92, 3)) ∧ (decode cL_law 765 = .ok (.pop, 1)) ∧ (decode cL_law 766 = .ok (.aload_n 2, 1)) ∧ (decode cL_law 767 = .ok (.aload_n 0, 1)) ∧ (decode cL_law 768 = .ok (.iload_n 3, 1)) ∧ (decode cL_law 769 = .ok (.iconst 1, 1)) ∧ (decode cL_law 770 = .ok (.iadd, 1)) ∧ (decode cL_law 771 = .ok (.iaload, 1)) := by decide +kernel
theorem dL_law_762 : decode cL_law 762 = .ok (.invokevirtual 92, 3) := dL8_63.1
theorem dL_law_765 : decode cL_law 765 = .ok (.pop, 1) := dL8_63.2.1
theorem dL_law_766 : decode cL_law 766 = .ok (.aload_n 2, 1) := dL8_63.2.2.1
theorem dL_law_767 : decode cL_law 767 = .ok (.aload_n 0, 1) := dL8_63.2.2.2.1
theorem dL_law_768 : decode cL_law 768 = .ok (.iload_n 3, 1) := dL8_63.2.2.2.2.1
theorem dL_law_769 : decode cL_law 769 = .ok (.iconst 1, 1) := dL8_63.2.2.2.2.2.1
theorem dL_law_770 : decode cL_law 770 = .ok (.iadd, 1) := dL8_63.2.2.2.2.2.2.1
theorem dL_law_771 : decode cL_law 771 = .ok (.iaload, 1) := dL8_63.2.2.2.2.2.2.2
theorem dL8_64 : (decode cL_law 772 = .ok (.invokevirtual 95, 3)) ∧ (decode cL_law 775 = .ok (.pop, 1)) ∧ (decode cL_law 776 = .ok (.goto 380, 3)) ∧ (decode cL_law 779 = .ok (.aload_n 1, 1)) ∧ (decode cL_law 780 = .ok (.aload_n 0, 1)) ∧ (decode cL_law 781 = .ok (.iload_n 3, 1)) ∧ (decode cL_law 782 = .ok (.iconst 1, 1)) ∧ (decode cL_law 783 = .ok (.iadd, 1)) := by decide +kernel
theorem dL_law_772 : decode cL_law 772 = .ok (.invokevirtual 95, 3) := dL8_64.1
theorem dL_law_775 : decode cL_law 775 = .ok (.pop, 1) := dL8_64.2.1
theorem dL_law_776 : decode cL_law 776 = .ok (.goto 380, 3) := dL8_64.2.2.1
theorem dL_law_779 : decode cL_law 779 = .ok (.aload_n 1, 1) := dL8_64.2.2.2.1
theorem dL_law_780 : decode cL_law 780 = .ok (.aload_n 0, 1) := dL8_64.2.2.2.2.1
theorem dL_law_781 : decode cL_law 781 = .ok (.iload_n 3, 1) := dL8_64.2.2.2.2.2.1
theorem dL_law_782 : decode cL_law 782 = .ok (.iconst 1, 1) := dL8_64.2.2.2.2.2.2.1
theorem dL_law_783 : decode cL_law 783 = .ok (.iadd, 1) := dL8_64.2.2.2.2.2.2.2
theorem dL8_65 : (decode cL_law 784 = .ok (.iaload, 1)) ∧ (decode cL_law 785 = .ok (.aload_n 0, 1)) ∧ (decode cL_law 786 = .ok (.iload_n 3, 1)) ∧ (decode cL_law 787 = .ok (.iconst 2, 1)) ∧ (decode cL_law 788 = .ok (.iadd, 1)) ∧ (decode cL_law 789 = .ok (.iaload, 1)) ∧ (decode cL_law 790 = .ok (.invokevirtual 96, 3)) ∧ (decode cL_law 793 = .ok (.aload_n 2, 1)) := by decide +kernel
theorem dL_law_784 : decode cL_law 784 = .ok (.iaload, 1) := dL8_65.1
theorem dL_law_785 : decode cL_law 785 = .ok (.aload_n 0, 1) := dL8_65.2.1
theorem dL_law_786 : decode cL_law 786 = .ok (.iload_n 3, 1) := dL8_65.2.2.1
theorem dL_law_787 : decode cL_law 787 = .ok (.iconst 2, 1) := dL8_65.2.2.2.1
theorem dL_law_788 : decode cL_law 788 = .ok (.iadd, 1) := dL8_65.2.2.2.2.1
theorem dL_law_789 : decode cL_law 789 = .ok (.iaload, 1) := dL8_65.2.2.2.2.2.1
theorem dL_law_790 : decode cL_law 790 = .ok (.invokevirtual 96, 3) := dL8_65.2.2.2.2.2.2.1
theorem dL_law_793 : decode cL_law 793 = .ok (.aload_n 2, 1) := dL8_65.2.2.2.2.2.2.2
theorem dL8_66 : (decode cL_law 794 = .ok (.aload_n 0, 1)) ∧ (decode cL_law 795 = .ok (.iload_n 3, 1)) ∧ (decode cL_law 796 = .ok (.iconst 1, 1)) ∧ (decode cL_law 797 = .ok (.iadd, 1)) ∧ (decode cL_law 798 = .ok (.iaload, 1)) ∧ (decode cL_law 799 = .ok (.aload_n 0, 1)) ∧ (decode cL_law 800 = .ok (.iload_n 3, 1)) ∧ (decode cL_law 801 = .ok (.iconst 2, 1)) := by decide +kernel
theorem dL_law_794 : decode cL_law 794 = .ok (.aload_n 0, 1) := dL8_66.1
theorem dL_law_795 : decode cL_law 795 = .ok (.iload_n 3, 1) := dL8_66.2.1
theorem dL_law_796 : decode cL_law 796 = .ok (.iconst 1, 1) := dL8_66.2.2.1
theorem dL_law_797 : decode cL_law 797 = .ok (.iadd, 1) := dL8_66.2.2.2.1
theorem dL_law_798 : decode cL_law 798 = .ok (.iaload, 1) := dL8_66.2.2.2.2.1
theorem dL_law_799 : decode cL_law 799 = .ok (.aload_n 0, 1) := dL8_66.2.2.2.2.2.1
theorem dL_law_800 : decode cL_law 800 = .ok (.iload_n 3, 1) := dL8_66.2.2.2.2.2.2.1
theorem dL_law_801 : decode cL_law 801 = .ok (.iconst 2, 1) := dL8_66.2.2.2.2.2.2.2
theorem dL8_67 : (decode cL_law 802 = .ok (.iadd, 1)) ∧ (decode cL_law 803 = .ok (.iaload, 1)) ∧ (decode cL_law 804 = .ok (.invokevirtual 100, 3)) ∧ (decode cL_law 807 = .ok (.lcmp, 1)) ∧ (decode cL_law 808 = .ok (.ifCond .eq 348, 3)) ∧ (decode cL_law 811 = .ok (.iconst 0, 1)) ∧ (decode cL_law 812 = .ok (.ireturn, 1)) ∧ (decode cL_law 813 = .ok (.aload_n 1, 1)) := by decide +kernel
theorem dL_law_802 : decode cL_law 802 = .ok (.iadd, 1) := dL8_67.1
theorem dL_law_803 : decode cL_law 803 = .ok (.iaload, 1) := dL8_67.2.1
theorem dL_law_804 : decode cL_law 804 = .ok (.invokevirtual 100, 3) := dL8_67.2.2.1
theorem dL_law_807 : decode cL_law 807 = .ok (.lcmp, 1) := dL8_67.2.2.2.1
theorem dL_law_808 : decode cL_law 808 = .ok (.ifCond .eq 348, 3) := dL8_67.2.2.2.2.1
theorem dL_law_811 : decode cL_law 811 = .ok (.iconst 0, 1) := dL8_67.2.2.2.2.2.1
theorem dL_law_812 : decode cL_law 812 = .ok (.ireturn, 1) := dL8_67.2.2.2.2.2.2.1
theorem dL_law_813 : decode cL_law 813 = .ok (.aload_n 1, 1) := dL8_67.2.2.2.2.2.2.2
theorem dL8_68 : (decode cL_law 814 = .ok (.aload_n 0, 1)) ∧ (decode cL_law 815 = .ok (.iload_n 3, 1)) ∧ (decode cL_law 816 = .ok (.iconst 1, 1)) ∧ (decode cL_law 817 = .ok (.iadd, 1)) ∧ (decode cL_law 818 = .ok (.iaload, 1)) ∧ (decode cL_law 819 = .ok (.aload_n 0, 1)) ∧ (decode cL_law 820 = .ok (.iload_n 3, 1)) ∧ (decode cL_law 821 = .ok (.iconst 2, 1)) := by decide +kernel
theorem dL_law_814 : decode cL_law 814 = .ok (.aload_n 0, 1) := dL8_68.1
theorem dL_law_815 : decode cL_law 815 = .ok (.iload_n 3, 1) := dL8_68.2.1
theorem dL_law_816 : decode cL_law 816 = .ok (.iconst 1, 1) := dL8_68.2.2.1
theorem dL_law_817 : decode cL_law 817 = .ok (.iadd, 1) := dL8_68.2.2.2.1
theorem dL_law_818 : decode cL_law 818 = .ok (.iaload, 1) := dL8_68.2.2.2.2.1
theorem dL_law_819 : decode cL_law 819 = .ok (.aload_n 0, 1) := dL8_68.2.2.2.2.2.1
theorem dL_law_820 : decode cL_law 820 = .ok (.iload_n 3, 1) := dL8_68.2.2.2.2.2.2.1
theorem dL_law_821 : decode cL_law 821 = .ok (.iconst 2, 1) := dL8_68.2.2.2.2.2.2.2
theorem dL8_69 : (decode cL_law 822 = .ok (.iadd, 1)) ∧ (decode cL_law 823 = .ok (.iaload, 1)) ∧ (decode cL_law 824 = .ok (.aload_n 0, 1)) ∧ (decode cL_law 825 = .ok (.iload_n 3, 1)) ∧ (decode cL_law 826 = .ok (.iconst 3, 1)) ∧ (decode cL_law 827 = .ok (.iadd, 1)) ∧ (decode cL_law 828 = .ok (.iaload, 1)) ∧ (decode cL_law 829 = .ok (.invokevirtual 101, 3)) := by decide +kernel
theorem dL_law_822 : decode cL_law 822 = .ok (.iadd, 1) := dL8_69.1
theorem dL_law_823 : decode cL_law 823 = .ok (.iaload, 1) := dL8_69.2.1
theorem dL_law_824 : decode cL_law 824 = .ok (.aload_n 0, 1) := dL8_69.2.2.1
theorem dL_law_825 : decode cL_law 825 = .ok (.iload_n 3, 1) := dL8_69.2.2.2.1
theorem dL_law_826 : decode cL_law 826 = .ok (.iconst 3, 1) := dL8_69.2.2.2.2.1
theorem dL_law_827 : decode cL_law 827 = .ok (.iadd, 1) := dL8_69.2.2.2.2.2.1
theorem dL_law_828 : decode cL_law 828 = .ok (.iaload, 1) := dL8_69.2.2.2.2.2.2.1
theorem dL_law_829 : decode cL_law 829 = .ok (.invokevirtual 101, 3) := dL8_69.2.2.2.2.2.2.2
theorem dL8_70 : (decode cL_law 832 = .ok (.pop, 1)) ∧ (decode cL_law 833 = .ok (.aload_n 2, 1)) ∧ (decode cL_law 834 = .ok (.aload_n 0, 1)) ∧ (decode cL_law 835 = .ok (.iload_n 3, 1)) ∧ (decode cL_law 836 = .ok (.iconst 1, 1)) ∧ (decode cL_law 837 = .ok (.iadd, 1)) ∧ (decode cL_law 838 = .ok (.iaload, 1)) ∧ (decode cL_law 839 = .ok (.aload_n 0, 1)) := by decide +kernel
theorem dL_law_832 : decode cL_law 832 = .ok (.pop, 1) := dL8_70.1
theorem dL_law_833 : decode cL_law 833 = .ok (.aload_n 2, 1) := dL8_70.2.1
theorem dL_law_834 : decode cL_law 834 = .ok (.aload_n 0, 1) := dL8_70.2.2.1
theorem dL_law_835 : decode cL_law 835 = .ok (.iload_n 3, 1) := dL8_70.2.2.2.1
theorem dL_law_836 : decode cL_law 836 = .ok (.iconst 1, 1) := dL8_70.2.2.2.2.1
theorem dL_law_837 : decode cL_law 837 = .ok (.iadd, 1) := dL8_70.2.2.2.2.2.1
theorem dL_law_838 : decode cL_law 838 = .ok (.iaload, 1) := dL8_70.2.2.2.2.2.2.1
theorem dL_law_839 : decode cL_law 839 = .ok (.aload_n 0, 1) := dL8_70.2.2.2.2.2.2.2
theorem dL8_71 : (decode cL_law 840 = .ok (.iload_n 3, 1)) ∧ (decode cL_law 841 = .ok (.iconst 2, 1)) ∧ (decode cL_law 842 = .ok (.iadd, 1)) ∧ (decode cL_law 843 = .ok (.iaload, 1)) ∧ (decode cL_law 844 = .ok (.aload_n 0, 1)) ∧ (decode cL_law 845 = .ok (.iload_n 3, 1)) ∧ (decode cL_law 846 = .ok (.iconst 3, 1)) ∧ (decode cL_law 847 = .ok (.iadd, 1)) := by decide +kernel
theorem dL_law_840 : decode cL_law 840 = .ok (.iload_n 3, 1) := dL8_71.1
theorem dL_law_841 : decode cL_law 841 = .ok (.iconst 2, 1) := dL8_71.2.1
theorem dL_law_842 : decode cL_law 842 = .ok (.iadd, 1) := dL8_71.2.2.1
theorem dL_law_843 : decode cL_law 843 = .ok (.iaload, 1) := dL8_71.2.2.2.1
theorem dL_law_844 : decode cL_law 844 = .ok (.aload_n 0, 1) := dL8_71.2.2.2.2.1
theorem dL_law_845 : decode cL_law 845 = .ok (.iload_n 3, 1) := dL8_71.2.2.2.2.2.1
theorem dL_law_846 : decode cL_law 846 = .ok (.iconst 3, 1) := dL8_71.2.2.2.2.2.2.1
theorem dL_law_847 : decode cL_law 847 = .ok (.iadd, 1) := dL8_71.2.2.2.2.2.2.2
theorem dL8_72 : (decode cL_law 848 = .ok (.iaload, 1)) ∧ (decode cL_law 849 = .ok (.invokevirtual 104, 3)) ∧ (decode cL_law 852 = .ok (.pop, 1)) ∧ (decode cL_law 853 = .ok (.goto 303, 3)) ∧ (decode cL_law 856 = .ok (.aload_n 1, 1)) ∧ (decode cL_law 857 = .ok (.aload_n 0, 1)) ∧ (decode cL_law 858 = .ok (.iload_n 3, 1)) ∧ (decode cL_law 859 = .ok (.iconst 1, 1)) := by decide +kernel
theorem dL_law_848 : decode cL_law 848 = .ok (.iaload, 1) := dL8_72.1
theorem dL_law_849 : decode cL_law 849 = .ok (.invokevirtual 104, 3) := dL8_72.2.1
theorem dL_law_852 : decode cL_law 852 = .ok (.pop, 1) := dL8_72.2.2.1
theorem dL_law_853 : decode cL_law 853 = .ok (.goto 303, 3) := dL8_72.2.2.2.1
theorem dL_law_856 : decode cL_law 856 = .ok (.aload_n 1, 1) := dL8_72.2.2.2.2.1
theorem dL_law_857 : decode cL_law 857 = .ok (.aload_n 0, 1) := dL8_72.2.2.2.2.2.1
theorem dL_law_858 : decode cL_law 858 = .ok (.iload_n 3, 1) := dL8_72.2.2.2.2.2.2.1
theorem dL_law_859 : decode cL_law 859 = .ok (.iconst 1, 1) := dL8_72.2.2.2.2.2.2.2
theorem dL8_73 : (decode cL_law 860 = .ok (.iadd, 1)) ∧ (decode cL_law 861 = .ok (.iaload, 1)) ∧ (decode cL_law 862 = .ok (.invokevirtual 105, 3)) ∧ (decode cL_law 865 = .ok (.pop, 1)) ∧ (decode cL_law 866 = .ok (.aload_n 2, 1)) ∧ (decode cL_law 867 = .ok (.aload_n 0, 1)) ∧ (decode cL_law 868 = .ok (.iload_n 3, 1)) ∧ (decode cL_law 869 = .ok (.iconst 1, 1)) := by decide +kernel
theorem dL_law_860 : decode cL_law 860 = .ok (.iadd, 1) := dL8_73.1
theorem dL_law_861 : decode cL_law 861 = .ok (.iaload, 1) := dL8_73.2.1
theorem dL_law_862 : decode cL_law 862 = .ok (.invokevirtual 105, 3) := dL8_73.2.2.1
theorem dL_law_865 : decode cL_law 865 = .ok (.pop, 1) := dL8_73.2.2.2.1
theorem dL_law_866 : decode cL_law 866 = .ok (.aload_n 2, 1) := dL8_73.2.2.2.2.1
theorem dL_law_867 : decode cL_law 867 = .ok (.aload_n 0, 1) := dL8_73.2.2.2.2.2.1
theorem dL_law_868 : decode cL_law 868 = .ok (.iload_n 3, 1) := dL8_73.2.2.2.2.2.2.1
theorem dL_law_869 : decode cL_law 869 = .ok (.iconst 1, 1) := dL8_73.2.2.2.2.2.2.2
theorem dL8_74 : (decode cL_law 870 = .ok (.iadd, 1)) ∧ (decode cL_law 871 = .ok (.iaload, 1)) ∧ (decode cL_law 872 = .ok (.invokevirtual 108, 3)) ∧ (decode cL_law 875 = .ok (.pop, 1)) ∧ (decode cL_law 876 = .ok (.goto 280, 3)) ∧ (decode cL_law 879 = .ok (.aload_n 1, 1)) ∧ (decode cL_law 880 = .ok (.aload_n 0, 1)) ∧ (decode cL_law 881 = .ok (.iload_n 3, 1)) := by decide +kernel
theorem dL_law_870 : decode cL_law 870 = .ok (.iadd, 1) := dL8_74.1
theorem dL_law_871 : decode cL_law 871 = .ok (.iaload, 1) := dL8_74.2.1
theorem dL_law_872 : decode cL_law 872 = .ok (.invokevirtual 108, 3) := dL8_74.2.2.1
theorem dL_law_875 : decode cL_law 875 = .ok (.pop, 1) := dL8_74.2.2.2.1
theorem dL_law_876 : decode cL_law 876 = .ok (.goto 280, 3) := dL8_74.2.2.2.2.1
theorem dL_law_879 : decode cL_law 879 = .ok (.aload_n 1, 1) := dL8_74.2.2.2.2.2.1
theorem dL_law_880 : decode cL_law 880 = .ok (.aload_n 0, 1) := dL8_74.2.2.2.2.2.2.1
theorem dL_law_881 : decode cL_law 881 = .ok (.iload_n 3, 1) := dL8_74.2.2.2.2.2.2.2
theorem dL8_75 : (decode cL_law 882 = .ok (.iconst 1, 1)) ∧ (decode cL_law 883 = .ok (.iadd, 1)) ∧ (decode cL_law 884 = .ok (.iaload, 1)) ∧ (decode cL_law 885 = .ok (.aload_n 0, 1)) ∧ (decode cL_law 886 = .ok (.iload_n 3, 1)) ∧ (decode cL_law 887 = .ok (.iconst 2, 1)) ∧ (decode cL_law 888 = .ok (.iadd, 1)) ∧ (decode cL_law 889 = .ok (.iaload, 1)) := by decide +kernel
theorem dL_law_882 : decode cL_law 882 = .ok (.iconst 1, 1) := dL8_75.1
theorem dL_law_883 : decode cL_law 883 = .ok (.iadd, 1) := dL8_75.2.1
theorem dL_law_884 : decode cL_law 884 = .ok (.iaload, 1) := dL8_75.2.2.1
theorem dL_law_885 : decode cL_law 885 = .ok (.aload_n 0, 1) := dL8_75.2.2.2.1
theorem dL_law_886 : decode cL_law 886 = .ok (.iload_n 3, 1) := dL8_75.2.2.2.2.1
theorem dL_law_887 : decode cL_law 887 = .ok (.iconst 2, 1) := dL8_75.2.2.2.2.2.1
theorem dL_law_888 : decode cL_law 888 = .ok (.iadd, 1) := dL8_75.2.2.2.2.2.2.1
theorem dL_law_889 : decode cL_law 889 = .ok (.iaload, 1) := dL8_75.2.2.2.2.2.2.2
theorem dL8_76 : (decode cL_law 890 = .ok (.aload_n 0, 1)) ∧ (decode cL_law 891 = .ok (.iload_n 3, 1)) ∧ (decode cL_law 892 = .ok (.iconst 3, 1)) ∧ (decode cL_law 893 = .ok (.iadd, 1)) ∧ (decode cL_law 894 = .ok (.iaload, 1)) ∧ (decode cL_law 895 = .ok (.invokevirtual 109, 3)) ∧ (decode cL_law 898 = .ok (.pop, 1)) ∧ (decode cL_law 899 = .ok (.aload_n 2, 1)) := by decide +kernel
theorem dL_law_890 : decode cL_law 890 = .ok (.aload_n 0, 1) := dL8_76.1
theorem dL_law_891 : decode cL_law 891 = .ok (.iload_n 3, 1) := dL8_76.2.1
theorem dL_law_892 : decode cL_law 892 = .ok (.iconst 3, 1) := dL8_76.2.2.1
theorem dL_law_893 : decode cL_law 893 = .ok (.iadd, 1) := dL8_76.2.2.2.1
theorem dL_law_894 : decode cL_law 894 = .ok (.iaload, 1) := dL8_76.2.2.2.2.1
theorem dL_law_895 : decode cL_law 895 = .ok (.invokevirtual 109, 3) := dL8_76.2.2.2.2.2.1
theorem dL_law_898 : decode cL_law 898 = .ok (.pop, 1) := dL8_76.2.2.2.2.2.2.1
theorem dL_law_899 : decode cL_law 899 = .ok (.aload_n 2, 1) := dL8_76.2.2.2.2.2.2.2
theorem dL8_77 : (decode cL_law 900 = .ok (.aload_n 0, 1)) ∧ (decode cL_law 901 = .ok (.iload_n 3, 1)) ∧ (decode cL_law 902 = .ok (.iconst 1, 1)) ∧ (decode cL_law 903 = .ok (.iadd, 1)) ∧ (decode cL_law 904 = .ok (.iaload, 1)) ∧ (decode cL_law 905 = .ok (.aload_n 0, 1)) ∧ (decode cL_law 906 = .ok (.iload_n 3, 1)) ∧ (decode cL_law 907 = .ok (.iconst 2, 1)) := by decide +kernel
theorem dL_law_900 : decode cL_law 900 = .ok (.aload_n 0, 1) := dL8_77.1
theorem dL_law_901 : decode cL_law 901 = .ok (.iload_n 3, 1) := dL8_77.2.1
theorem dL_law_902 : decode cL_law 902 = .ok (.iconst 1, 1) := dL8_77.2.2.1
theorem dL_law_903 : decode cL_law 903 = .ok (.iadd, 1) := dL8_77.2.2.2.1
theorem dL_law_904 : decode cL_law 904 = .ok (.iaload, 1) := dL8_77.2.2.2.2.1
theorem dL_law_905 : decode cL_law 905 = .ok (.aload_n 0, 1) := dL8_77.2.2.2.2.2.1
theorem dL_law_906 : decode cL_law 906 = .ok (.iload_n 3, 1) := dL8_77.2.2.2.2.2.2.1
theorem dL_law_907 : decode cL_law 907 = .ok (.iconst 2, 1) := dL8_77.2.2.2.2.2.2.2
theorem dL8_78 : (decode cL_law 908 = .ok (.iadd, 1)) ∧ (decode cL_law 909 = .ok (.iaload, 1)) ∧ (decode cL_law 910 = .ok (.aload_n 0, 1)) ∧ (decode cL_law 911 = .ok (.iload_n 3, 1)) ∧ (decode cL_law 912 = .ok (.iconst 3, 1)) ∧ (decode cL_law 913 = .ok (.iadd, 1)) ∧ (decode cL_law 914 = .ok (.iaload, 1)) ∧ (decode cL_law 915 = .ok (.invokevirtual 112, 3)) := by decide +kernel
theorem dL_law_908 : decode cL_law 908 = .ok (.iadd, 1) := dL8_78.1
theorem dL_law_909 : decode cL_law 909 = .ok (.iaload, 1) := dL8_78.2.1
theorem dL_law_910 : decode cL_law 910 = .ok (.aload_n 0, 1) := dL8_78.2.2.1
theorem dL_law_911 : decode cL_law 911 = .ok (.iload_n 3, 1) := dL8_78.2.2.2.1
theorem dL_law_912 : decode cL_law 912 = .ok (.iconst 3, 1) := dL8_78.2.2.2.2.1
theorem dL_law_913 : decode cL_law 913 = .ok (.iadd, 1) := dL8_78.2.2.2.2.2.1
theorem dL_law_914 : decode cL_law 914 = .ok (.iaload, 1) := dL8_78.2.2.2.2.2.2.1
theorem dL_law_915 : decode cL_law 915 = .ok (.invokevirtual 112, 3) := dL8_78.2.2.2.2.2.2.2
theorem dL8_79 : (decode cL_law 918 = .ok (.pop, 1)) ∧ (decode cL_law 919 = .ok (.goto 237, 3)) ∧ (decode cL_law 922 = .ok (.aload_n 1, 1)) ∧ (decode cL_law 923 = .ok (.aload_n 0, 1)) ∧ (decode cL_law 924 = .ok (.iload_n 3, 1)) ∧ (decode cL_law 925 = .ok (.iconst 1, 1)) ∧ (decode cL_law 926 = .ok (.iadd, 1)) ∧ (decode cL_law 927 = .ok (.iaload, 1)) := by decide +kernel
theorem dL_law_918 : decode cL_law 918 = .ok (.pop, 1) := dL8_79.1
theorem dL_law_919 : decode cL_law 919 = .ok (.goto 237, 3) := dL8_79.2.1
theorem dL_law_922 : decode cL_law 922 = .ok (.aload_n 1, 1) := dL8_79.2.2.1
theorem dL_law_923 : decode cL_law 923 = .ok (.aload_n 0, 1) := dL8_79.2.2.2.1
theorem dL_law_924 : decode cL_law 924 = .ok (.iload_n 3, 1) := dL8_79.2.2.2.2.1
theorem dL_law_925 : decode cL_law 925 = .ok (.iconst 1, 1) := dL8_79.2.2.2.2.2.1
theorem dL_law_926 : decode cL_law 926 = .ok (.iadd, 1) := dL8_79.2.2.2.2.2.2.1
theorem dL_law_927 : decode cL_law 927 = .ok (.iaload, 1) := dL8_79.2.2.2.2.2.2.2
theorem dL8_80 : (decode cL_law 928 = .ok (.aload_n 0, 1)) ∧ (decode cL_law 929 = .ok (.iload_n 3, 1)) ∧ (decode cL_law 930 = .ok (.iconst 2, 1)) ∧ (decode cL_law 931 = .ok (.iadd, 1)) ∧ (decode cL_law 932 = .ok (.iaload, 1)) ∧ (decode cL_law 933 = .ok (.aload_n 0, 1)) ∧ (decode cL_law 934 = .ok (.iload_n 3, 1)) ∧ (decode cL_law 935 = .ok (.iconst 3, 1)) := by decide +kernel
theorem dL_law_928 : decode cL_law 928 = .ok (.aload_n 0, 1) := dL8_80.1
theorem dL_law_929 : decode cL_law 929 = .ok (.iload_n 3, 1) := dL8_80.2.1
theorem dL_law_930 : decode cL_law 930 = .ok (.iconst 2, 1) := dL8_80.2.2.1
theorem dL_law_931 : decode cL_law 931 = .ok (.iadd, 1) := dL8_80.2.2.2.1
theorem dL_law_932 : decode cL_law 932 = .ok (.iaload, 1) := dL8_80.2.2.2.2.1
theorem dL_law_933 : decode cL_law 933 = .ok (.aload_n 0, 1) := dL8_80.2.2.2.2.2.1
theorem dL_law_934 : decode cL_law 934 = .ok (.iload_n 3, 1) := dL8_80.2.2.2.2.2.2.1
theorem dL_law_935 : decode cL_law 935 = .ok (.iconst 3, 1) := dL8_80.2.2.2.2.2.2.2
theorem dL8_81 : (decode cL_law 936 = .ok (.iadd, 1)) ∧ (decode cL_law 937 = .ok (.iaload, 1)) ∧ (decode cL_law 938 = .ok (.invokevirtual 113, 3)) ∧ (decode cL_law 941 = .ok (.pop2, 1)) ∧ (decode cL_law 942 = .ok (.aload_n 2, 1)) ∧ (decode cL_law 943 = .ok (.aload_n 0, 1)) ∧ (decode cL_law 944 = .ok (.iload_n 3, 1)) ∧ (decode cL_law 945 = .ok (.iconst 1, 1)) := by decide +kernel
theorem dL_law_936 : decode cL_law 936 = .ok (.iadd, 1) := dL8_81.1
theorem dL_law_937 : decode cL_law 937 = .ok (.iaload, 1) := dL8_81.2.1
theorem dL_law_938 : decode cL_law 938 = .ok (.invokevirtual 113, 3) := dL8_81.2.2.1
theorem dL_law_941 : decode cL_law 941 = .ok (.pop2, 1) := dL8_81.2.2.2.1
theorem dL_law_942 : decode cL_law 942 = .ok (.aload_n 2, 1) := dL8_81.2.2.2.2.1
theorem dL_law_943 : decode cL_law 943 = .ok (.aload_n 0, 1) := dL8_81.2.2.2.2.2.1
theorem dL_law_944 : decode cL_law 944 = .ok (.iload_n 3, 1) := dL8_81.2.2.2.2.2.2.1
theorem dL_law_945 : decode cL_law 945 = .ok (.iconst 1, 1) := dL8_81.2.2.2.2.2.2.2
theorem dL8_82 : (decode cL_law 946 = .ok (.iadd, 1)) ∧ (decode cL_law 947 = .ok (.iaload, 1)) ∧ (decode cL_law 948 = .ok (.aload_n 0, 1)) ∧ (decode cL_law 949 = .ok (.iload_n 3, 1)) ∧ (decode cL_law 950 = .ok (.iconst 2, 1)) ∧ (decode cL_law 951 = .ok (.iadd, 1)) ∧ (decode cL_law 952 = .ok (.iaload, 1)) ∧ (decode cL_law 953 = .ok (.aload_n 0, 1)) := by decide +kernel
theorem dL_law_946 : decode cL_law 946 = .ok (.iadd, 1) := dL8_82.1
theorem dL_law_947 : decode cL_law 947 = .ok (.iaload, 1) := dL8_82.2.1
theorem dL_law_948 : decode cL_law 948 = .ok (.aload_n 0, 1) := dL8_82.2.2.1
theorem dL_law_949 : decode cL_law 949 = .ok (.iload_n 3, 1) := dL8_82.2.2.2.1
theorem dL_law_950 : decode cL_law 950 = .ok (.iconst 2, 1) := dL8_82.2.2.2.2.1
theorem dL_law_951 : decode cL_law 951 = .ok (.iadd, 1) := dL8_82.2.2.2.2.2.1
theorem dL_law_952 : decode cL_law 952 = .ok (.iaload, 1) := dL8_82.2.2.2.2.2.2.1
theorem dL_law_953 : decode cL_law 953 = .ok (.aload_n 0, 1) := dL8_82.2.2.2.2.2.2.2
theorem dL8_83 : (decode cL_law 954 = .ok (.iload_n 3, 1)) ∧ (decode cL_law 955 = .ok (.iconst 3, 1)) ∧ (decode cL_law 956 = .ok (.iadd, 1)) ∧ (decode cL_law 957 = .ok (.iaload, 1)) ∧ (decode cL_law 958 = .ok (.invokevirtual 117, 3)) ∧ (decode cL_law 961 = .ok (.pop2, 1)) ∧ (decode cL_law 962 = .ok (.goto 194, 3)) ∧ (decode cL_law 965 = .ok (.aload_n 1, 1)) := by decide +kernel
theorem dL_law_954 : decode cL_law 954 = .ok (.iload_n 3, 1) := dL8_83.1
theorem dL_law_955 : decode cL_law 955 = .ok (.iconst 3, 1) := dL8_83.2.1
theorem dL_law_956 : decode cL_law 956 = .ok (.iadd, 1) := dL8_83.2.2.1
theorem dL_law_957 : decode cL_law 957 = .ok (.iaload, 1) := dL8_83.2.2.2.1
theorem dL_law_958 : decode cL_law 958 = .ok (.invokevirtual 117, 3) := dL8_83.2.2.2.2.1
theorem dL_law_961 : decode cL_law 961 = .ok (.pop2, 1) := dL8_83.2.2.2.2.2.1
theorem dL_law_962 : decode cL_law 962 = .ok (.goto 194, 3) := dL8_83.2.2.2.2.2.2.1
theorem dL_law_965 : decode cL_law 965 = .ok (.aload_n 1, 1) := dL8_83.2.2.2.2.2.2.2
theorem dL8_84 : (decode cL_law 966 = .ok (.aload_n 0, 1)) ∧ (decode cL_law 967 = .ok (.iload_n 3, 1)) ∧ (decode cL_law 968 = .ok (.iconst 1, 1)) ∧ (decode cL_law 969 = .ok (.iadd, 1)) ∧ (decode cL_law 970 = .ok (.iaload, 1)) ∧ (decode cL_law 971 = .ok (.aload_n 0, 1)) ∧ (decode cL_law 972 = .ok (.iload_n 3, 1)) ∧ (decode cL_law 973 = .ok (.iconst 2, 1)) := by decide +kernel
theorem dL_law_966 : decode cL_law 966 = .ok (.aload_n 0, 1) := dL8_84.1
theorem dL_law_967 : decode cL_law 967 = .ok (.iload_n 3, 1) := dL8_84.2.1
theorem dL_law_968 : decode cL_law 968 = .ok (.iconst 1, 1) := dL8_84.2.2.1
theorem dL_law_969 : decode cL_law 969 = .ok (.iadd, 1) := dL8_84.2.2.2.1
theorem dL_law_970 : decode cL_law 970 = .ok (.iaload, 1) := dL8_84.2.2.2.2.1
theorem dL_law_971 : decode cL_law 971 = .ok (.aload_n 0, 1) := dL8_84.2.2.2.2.2.1
theorem dL_law_972 : decode cL_law 972 = .ok (.iload_n 3, 1) := dL8_84.2.2.2.2.2.2.1
theorem dL_law_973 : decode cL_law 973 = .ok (.iconst 2, 1) := dL8_84.2.2.2.2.2.2.2
theorem dL8_85 : (decode cL_law 974 = .ok (.iadd, 1)) ∧ (decode cL_law 975 = .ok (.iaload, 1)) ∧ (decode cL_law 976 = .ok (.aload_n 0, 1)) ∧ (decode cL_law 977 = .ok (.iload_n 3, 1)) ∧ (decode cL_law 978 = .ok (.iconst 3, 1)) ∧ (decode cL_law 979 = .ok (.iadd, 1)) ∧ (decode cL_law 980 = .ok (.iaload, 1)) ∧ (decode cL_law 981 = .ok (.aload_n 0, 1)) := by decide +kernel
theorem dL_law_974 : decode cL_law 974 = .ok (.iadd, 1) := dL8_85.1
theorem dL_law_975 : decode cL_law 975 = .ok (.iaload, 1) := dL8_85.2.1
theorem dL_law_976 : decode cL_law 976 = .ok (.aload_n 0, 1) := dL8_85.2.2.1
theorem dL_law_977 : decode cL_law 977 = .ok (.iload_n 3, 1) := dL8_85.2.2.2.1
theorem dL_law_978 : decode cL_law 978 = .ok (.iconst 3, 1) := dL8_85.2.2.2.2.1
theorem dL_law_979 : decode cL_law 979 = .ok (.iadd, 1) := dL8_85.2.2.2.2.2.1
theorem dL_law_980 : decode cL_law 980 = .ok (.iaload, 1) := dL8_85.2.2.2.2.2.2.1
theorem dL_law_981 : decode cL_law 981 = .ok (.aload_n 0, 1) := dL8_85.2.2.2.2.2.2.2
theorem dL8_86 : (decode cL_law 982 = .ok (.iload_n 3, 1)) ∧ (decode cL_law 983 = .ok (.iconst 4, 1)) ∧ (decode cL_law 984 = .ok (.iadd, 1)) ∧ (decode cL_law 985 = .ok (.iaload, 1)) ∧ (decode cL_law 986 = .ok (.aload_n 0, 1)) ∧ (decode cL_law 987 = .ok (.iload_n 3, 1)) ∧ (decode cL_law 988 = .ok (.iconst 5, 1)) ∧ (decode cL_law 989 = .ok (.iadd, 1)) := by decide +kernel
theorem dL_law_982 : decode cL_law 982 = .ok (.iload_n 3, 1) := dL8_86.1
theorem dL_law_983 : decode cL_law 983 = .ok (.iconst 4, 1) := dL8_86.2.1
theorem dL_law_984 : decode cL_law 984 = .ok (.iadd, 1) := dL8_86.2.2.1
theorem dL_law_985 : decode cL_law 985 = .ok (.iaload, 1) := dL8_86.2.2.2.1
theorem dL_law_986 : decode cL_law 986 = .ok (.aload_n 0, 1) := dL8_86.2.2.2.2.1
theorem dL_law_987 : decode cL_law 987 = .ok (.iload_n 3, 1) := dL8_86.2.2.2.2.2.1
theorem dL_law_988 : decode cL_law 988 = .ok (.iconst 5, 1) := dL8_86.2.2.2.2.2.2.1
theorem dL_law_989 : decode cL_law 989 = .ok (.iadd, 1) := dL8_86.2.2.2.2.2.2.2
theorem dL8_87 : (decode cL_law 990 = .ok (.iaload, 1)) ∧ (decode cL_law 991 = .ok (.invokevirtual 118, 3)) ∧ (decode cL_law 994 = .ok (.pop, 1)) ∧ (decode cL_law 995 = .ok (.aload_n 2, 1)) ∧ (decode cL_law 996 = .ok (.aload_n 0, 1)) ∧ (decode cL_law 997 = .ok (.iload_n 3, 1)) ∧ (decode cL_law 998 = .ok (.iconst 1, 1)) ∧ (decode cL_law 999 = .ok (.iadd, 1)) := by decide +kernel
theorem dL_law_990 : decode cL_law 990 = .ok (.iaload, 1) := dL8_87.1
theorem dL_law_991 : decode cL_law 991 = .ok (.invokevirtual 118, 3) := dL8_87.2.1
theorem dL_law_994 : decode cL_law 994 = .ok (.pop, 1) := dL8_87.2.2.1
theorem dL_law_995 : decode cL_law 995 = .ok (.aload_n 2, 1) := dL8_87.2.2.2.1
theorem dL_law_996 : decode cL_law 996 = .ok (.aload_n 0, 1) := dL8_87.2.2.2.2.1
theorem dL_law_997 : decode cL_law 997 = .ok (.iload_n 3, 1) := dL8_87.2.2.2.2.2.1
theorem dL_law_998 : decode cL_law 998 = .ok (.iconst 1, 1) := dL8_87.2.2.2.2.2.2.1
theorem dL_law_999 : decode cL_law 999 = .ok (.iadd, 1) := dL8_87.2.2.2.2.2.2.2
theorem dL8_88 : (decode cL_law 1000 = .ok (.iaload, 1)) ∧ (decode cL_law 1001 = .ok (.aload_n 0, 1)) ∧ (decode cL_law 1002 = .ok (.iload_n 3, 1)) ∧ (decode cL_law 1003 = .ok (.iconst 2, 1)) ∧ (decode cL_law 1004 = .ok (.iadd, 1)) ∧ (decode cL_law 1005 = .ok (.iaload, 1)) ∧ (decode cL_law 1006 = .ok (.aload_n 0, 1)) ∧ (decode cL_law 1007 = .ok (.iload_n 3, 1)) := by decide +kernel
theorem dL_law_1000 : decode cL_law 1000 = .ok (.iaload, 1) := dL8_88.1
theorem dL_law_1001 : decode cL_law 1001 = .ok (.aload_n 0, 1) := dL8_88.2.1
theorem dL_law_1002 : decode cL_law 1002 = .ok (.iload_n 3, 1) := dL8_88.2.2.1
theorem dL_law_1003 : decode cL_law 1003 = .ok (.iconst 2, 1) := dL8_88.2.2.2.1
theorem dL_law_1004 : decode cL_law 1004 = .ok (.iadd, 1) := dL8_88.2.2.2.2.1
theorem dL_law_1005 : decode cL_law 1005 = .ok (.iaload, 1) := dL8_88.2.2.2.2.2.1
theorem dL_law_1006 : decode cL_law 1006 = .ok (.aload_n 0, 1) := dL8_88.2.2.2.2.2.2.1
theorem dL_law_1007 : decode cL_law 1007 = .ok (.iload_n 3, 1) := dL8_88.2.2.2.2.2.2.2
theorem dL8_89 : (decode cL_law 1008 = .ok (.iconst 3, 1)) ∧ (decode cL_law 1009 = .ok (.iadd, 1)) ∧ (decode cL_law 1010 = .ok (.iaload, 1)) ∧ (decode cL_law 1011 = .ok (.aload_n 0, 1)) ∧ (decode cL_law 1012 = .ok (.iload_n 3, 1)) ∧ (decode cL_law 1013 = .ok (.iconst 4, 1)) ∧ (decode cL_law 1014 = .ok (.iadd, 1)) ∧ (decode cL_law 1015 = .ok (.iaload, 1)) := by decide +kernel
theorem dL_law_1008 : decode cL_law 1008 = .ok (.iconst 3, 1) := dL8_89.1
theorem dL_law_1009 : decode cL_law 1009 = .ok (.iadd, 1) := dL8_89.2.1
theorem dL_law_1010 : decode cL_law 1010 = .ok (.iaload, 1) := dL8_89.2.2.1
theorem dL_law_1011 : decode cL_law 1011 = .ok (.aload_n 0, 1) := dL8_89.2.2.2.1
theorem dL_law_1012 : decode cL_law 1012 = .ok (.iload_n 3, 1) := dL8_89.2.2.2.2.1
theorem dL_law_1013 : decode cL_law 1013 = .ok (.iconst 4, 1) := dL8_89.2.2.2.2.2.1
theorem dL_law_1014 : decode cL_law 1014 = .ok (.iadd, 1) := dL8_89.2.2.2.2.2.2.1
theorem dL_law_1015 : decode cL_law 1015 = .ok (.iaload, 1) := dL8_89.2.2.2.2.2.2.2
theorem dL8_90 : (decode cL_law 1016 = .ok (.aload_n 0, 1)) ∧ (decode cL_law 1017 = .ok (.iload_n 3, 1)) ∧ (decode cL_law 1018 = .ok (.iconst 5, 1)) ∧ (decode cL_law 1019 = .ok (.iadd, 1)) ∧ (decode cL_law 1020 = .ok (.iaload, 1)) ∧ (decode cL_law 1021 = .ok (.invokevirtual 121, 3)) ∧ (decode cL_law 1024 = .ok (.pop, 1)) ∧ (decode cL_law 1025 = .ok (.goto 131, 3)) := by decide +kernel
theorem dL_law_1016 : decode cL_law 1016 = .ok (.aload_n 0, 1) := dL8_90.1
theorem dL_law_1017 : decode cL_law 1017 = .ok (.iload_n 3, 1) := dL8_90.2.1
theorem dL_law_1018 : decode cL_law 1018 = .ok (.iconst 5, 1) := dL8_90.2.2.1
theorem dL_law_1019 : decode cL_law 1019 = .ok (.iadd, 1) := dL8_90.2.2.2.1
theorem dL_law_1020 : decode cL_law 1020 = .ok (.iaload, 1) := dL8_90.2.2.2.2.1
theorem dL_law_1021 : decode cL_law 1021 = .ok (.invokevirtual 121, 3) := dL8_90.2.2.2.2.2.1
theorem dL_law_1024 : decode cL_law 1024 = .ok (.pop, 1) := dL8_90.2.2.2.2.2.2.1
theorem dL_law_1025 : decode cL_law 1025 = .ok (.goto 131, 3) := dL8_90.2.2.2.2.2.2.2
theorem dL8_91 : (decode cL_law 1028 = .ok (.aload_n 1, 1)) ∧ (decode cL_law 1029 = .ok (.aload_n 0, 1)) ∧ (decode cL_law 1030 = .ok (.iload_n 3, 1)) ∧ (decode cL_law 1031 = .ok (.iconst 1, 1)) ∧ (decode cL_law 1032 = .ok (.iadd, 1)) ∧ (decode cL_law 1033 = .ok (.iaload, 1)) ∧ (decode cL_law 1034 = .ok (.invokevirtual 122, 3)) ∧ (decode cL_law 1037 = .ok (.pop, 1)) := by decide +kernel
theorem dL_law_1028 : decode cL_law 1028 = .ok (.aload_n 1, 1) := dL8_91.1
theorem dL_law_1029 : decode cL_law 1029 = .ok (.aload_n 0, 1) := dL8_91.2.1
theorem dL_law_1030 : decode cL_law 1030 = .ok (.iload_n 3, 1) := dL8_91.2.2.1
theorem dL_law_1031 : decode cL_law 1031 = .ok (.iconst 1, 1) := dL8_91.2.2.2.1
theorem dL_law_1032 : decode cL_law 1032 = .ok (.iadd, 1) := dL8_91.2.2.2.2.1
theorem dL_law_1033 : decode cL_law 1033 = .ok (.iaload, 1) := dL8_91.2.2.2.2.2.1
theorem dL_law_1034 : decode cL_law 1034 = .ok (.invokevirtual 122, 3) := dL8_91.2.2.2.2.2.2.1
theorem dL_law_1037 : decode cL_law 1037 = .ok (.pop, 1) := dL8_91.2.2.2.2.2.2.2
theorem dL8_92 : (decode cL_law 1038 = .ok (.aload_n 2, 1)) ∧ (decode cL_law 1039 = .ok (.aload_n 0, 1)) ∧ (decode cL_law 1040 = .ok (.iload_n 3, 1)) ∧ (decode cL_law 1041 = .ok (.iconst 1, 1)) ∧ (decode cL_law 1042 = .ok (.iadd, 1)) ∧ (decode cL_law 1043 = .ok (.iaload, 1)) ∧ (decode cL_law 1044 = .ok (.invokevirtual 125, 3)) ∧ (decode cL_law 1047 = .ok (.pop, 1)) := by decide +kernel
theorem dL_law_1038 : decode cL_law 1038 = .ok (.aload_n 2, 1) := dL8_92.1
theorem dL_law_1039 : decode cL_law 1039 = .ok (.aload_n 0, 1) := dL8_92.2.1
theorem dL_law_1040 : decode cL_law 1040 = .ok (.iload_n 3, 1) := dL8_92.2.2.1
theorem dL_law_1041 : decode cL_law 1041 = .ok (.iconst 1, 1) := dL8_92.2.2.2.1
theorem dL_law_1042 : decode cL_law 1042 = .ok (.iadd, 1) := dL8_92.2.2.2.2.1
theorem dL_law_1043 : decode cL_law 1043 = .ok (.iaload, 1) := dL8_92.2.2.2.2.2.1
theorem dL_law_1044 : decode cL_law 1044 = .ok (.invokevirtual 125, 3) := dL8_92.2.2.2.2.2.2.1
theorem dL_law_1047 : decode cL_law 1047 = .ok (.pop, 1) := dL8_92.2.2.2.2.2.2.2
theorem dL8_93 : (decode cL_law 1048 = .ok (.goto 108, 3)) ∧ (decode cL_law 1051 = .ok (.aload_n 1, 1)) ∧ (decode cL_law 1052 = .ok (.aload_n 0, 1)) ∧ (decode cL_law 1053 = .ok (.iload_n 3, 1)) ∧ (decode cL_law 1054 = .ok (.iconst 1, 1)) ∧ (decode cL_law 1055 = .ok (.iadd, 1)) ∧ (decode cL_law 1056 = .ok (.iaload, 1)) ∧ (decode cL_law 1057 = .ok (.invokevirtual 126, 3)) := by decide +kernel
theorem dL_law_1048 : decode cL_law 1048 = .ok (.goto 108, 3) := dL8_93.1
theorem dL_law_1051 : decode cL_law 1051 = .ok (.aload_n 1, 1) := dL8_93.2.1
theorem dL_law_1052 : decode cL_law 1052 = .ok (.aload_n 0, 1) := dL8_93.2.2.1
theorem dL_law_1053 : decode cL_law 1053 = .ok (.iload_n 3, 1) := dL8_93.2.2.2.1
theorem dL_law_1054 : decode cL_law 1054 = .ok (.iconst 1, 1) := dL8_93.2.2.2.2.1
theorem dL_law_1055 : decode cL_law 1055 = .ok (.iadd, 1) := dL8_93.2.2.2.2.2.1
theorem dL_law_1056 : decode cL_law 1056 = .ok (.iaload, 1) := dL8_93.2.2.2.2.2.2.1
theorem dL_law_1057 : decode cL_law 1057 = .ok (.invokevirtual 126, 3) := dL8_93.2.2.2.2.2.2.2
theorem dL8_94 : (decode cL_law 1060 = .ok (.pop, 1)) ∧ (decode cL_law 1061 = .ok (.aload_n 2, 1)) ∧ (decode cL_law 1062 = .ok (.aload_n 0, 1)) ∧ (decode cL_law 1063 = .ok (.iload_n 3, 1)) ∧ (decode cL_law 1064 = .ok (.iconst 1, 1)) ∧ (decode cL_law 1065 = .ok (.iadd, 1)) ∧ (decode cL_law 1066 = .ok (.iaload, 1)) ∧ (decode cL_law 1067 = .ok (.invokevirtual 129, 3)) := by decide +kernel
theorem dL_law_1060 : decode cL_law 1060 = .ok (.pop, 1) := dL8_94.1
theorem dL_law_1061 : decode cL_law 1061 = .ok (.aload_n 2, 1) := dL8_94.2.1
theorem dL_law_1062 : decode cL_law 1062 = .ok (.aload_n 0, 1) := dL8_94.2.2.1
theorem dL_law_1063 : decode cL_law 1063 = .ok (.iload_n 3, 1) := dL8_94.2.2.2.1
theorem dL_law_1064 : decode cL_law 1064 = .ok (.iconst 1, 1) := dL8_94.2.2.2.2.1
theorem dL_law_1065 : decode cL_law 1065 = .ok (.iadd, 1) := dL8_94.2.2.2.2.2.1
theorem dL_law_1066 : decode cL_law 1066 = .ok (.iaload, 1) := dL8_94.2.2.2.2.2.2.1
theorem dL_law_1067 : decode cL_law 1067 = .ok (.invokevirtual 129, 3) := dL8_94.2.2.2.2.2.2.2
theorem dL8_95 : (decode cL_law 1070 = .ok (.pop, 1)) ∧ (decode cL_law 1071 = .ok (.goto 85, 3)) ∧ (decode cL_law 1074 = .ok (.aload_n 1, 1)) ∧ (decode cL_law 1075 = .ok (.aload_n 0, 1)) ∧ (decode cL_law 1076 = .ok (.iload_n 3, 1)) ∧ (decode cL_law 1077 = .ok (.iconst 1, 1)) ∧ (decode cL_law 1078 = .ok (.iadd, 1)) ∧ (decode cL_law 1079 = .ok (.iaload, 1)) := by decide +kernel
theorem dL_law_1070 : decode cL_law 1070 = .ok (.pop, 1) := dL8_95.1
theorem dL_law_1071 : decode cL_law 1071 = .ok (.goto 85, 3) := dL8_95.2.1
theorem dL_law_1074 : decode cL_law 1074 = .ok (.aload_n 1, 1) := dL8_95.2.2.1
theorem dL_law_1075 : decode cL_law 1075 = .ok (.aload_n 0, 1) := dL8_95.2.2.2.1
theorem dL_law_1076 : decode cL_law 1076 = .ok (.iload_n 3, 1) := dL8_95.2.2.2.2.1
theorem dL_law_1077 : decode cL_law 1077 = .ok (.iconst 1, 1) := dL8_95.2.2.2.2.2.1
theorem dL_law_1078 : decode cL_law 1078 = .ok (.iadd, 1) := dL8_95.2.2.2.2.2.2.1
theorem dL_law_1079 : decode cL_law 1079 = .ok (.iaload, 1) := dL8_95.2.2.2.2.2.2.2
theorem dL8_96 : (decode cL_law 1080 = .ok (.aload_n 0, 1)) ∧ (decode cL_law 1081 = .ok (.iload_n 3, 1)) ∧ (decode cL_law 1082 = .ok (.iconst 2, 1)) ∧ (decode cL_law 1083 = .ok (.iadd, 1)) ∧ (decode cL_law 1084 = .ok (.iaload, 1)) ∧ (decode cL_law 1085 = .ok (.invokevirtual 130, 3)) ∧ (decode cL_law 1088 = .ok (.pop, 1)) ∧ (decode cL_law 1089 = .ok (.aload_n 2, 1)) := by decide +kernel
theorem dL_law_1080 : decode cL_law 1080 = .ok (.aload_n 0, 1) := dL8_96.1
theorem dL_law_1081 : decode cL_law 1081 = .ok (.iload_n 3, 1) := dL8_96.2.1
theorem dL_law_1082 : decode cL_law 1082 = .ok (.iconst 2, 1) := dL8_96.2.2.1
theorem dL_law_1083 : decode cL_law 1083 = .ok (.iadd, 1) := dL8_96.2.2.2.1
theorem dL_law_1084 : decode cL_law 1084 = .ok (.iaload, 1) := dL8_96.2.2.2.2.1
theorem dL_law_1085 : decode cL_law 1085 = .ok (.invokevirtual 130, 3) := dL8_96.2.2.2.2.2.1
theorem dL_law_1088 : decode cL_law 1088 = .ok (.pop, 1) := dL8_96.2.2.2.2.2.2.1
theorem dL_law_1089 : decode cL_law 1089 = .ok (.aload_n 2, 1) := dL8_96.2.2.2.2.2.2.2
theorem dL8_97 : (decode cL_law 1090 = .ok (.aload_n 0, 1)) ∧ (decode cL_law 1091 = .ok (.iload_n 3, 1)) ∧ (decode cL_law 1092 = .ok (.iconst 1, 1)) ∧ (decode cL_law 1093 = .ok (.iadd, 1)) ∧ (decode cL_law 1094 = .ok (.iaload, 1)) ∧ (decode cL_law 1095 = .ok (.aload_n 0, 1)) ∧ (decode cL_law 1096 = .ok (.iload_n 3, 1)) ∧ (decode cL_law 1097 = .ok (.iconst 2, 1)) := by decide +kernel
theorem dL_law_1090 : decode cL_law 1090 = .ok (.aload_n 0, 1) := dL8_97.1
theorem dL_law_1091 : decode cL_law 1091 = .ok (.iload_n 3, 1) := dL8_97.2.1
theorem dL_law_1092 : decode cL_law 1092 = .ok (.iconst 1, 1) := dL8_97.2.2.1
theorem dL_law_1093 : decode cL_law 1093 = .ok (.iadd, 1) := dL8_97.2.2.2.1
theorem dL_law_1094 : decode cL_law 1094 = .ok (.iaload, 1) := dL8_97.2.2.2.2.1
theorem dL_law_1095 : decode cL_law 1095 = .ok (.aload_n 0, 1) := dL8_97.2.2.2.2.2.1
theorem dL_law_1096 : decode cL_law 1096 = .ok (.iload_n 3, 1) := dL8_97.2.2.2.2.2.2.1
theorem dL_law_1097 : decode cL_law 1097 = .ok (.iconst 2, 1) := dL8_97.2.2.2.2.2.2.2
theorem dL8_98 : (decode cL_law 1098 = .ok (.iadd, 1)) ∧ (decode cL_law 1099 = .ok (.iaload, 1)) ∧ (decode cL_law 1100 = .ok (.invokevirtual 133, 3)) ∧ (decode cL_law 1103 = .ok (.pop, 1)) ∧ (decode cL_law 1104 = .ok (.goto 52, 3)) ∧ (decode cL_law 1107 = .ok (.aload_n 1, 1)) ∧ (decode cL_law 1108 = .ok (.invokevirtual 134, 3)) ∧ (decode cL_law 1111 = .ok (.pop, 1)) := by decide +kernel
theorem dL_law_1098 : decode cL_law 1098 = .ok (.iadd, 1) := dL8_98.1
theorem dL_law_1099 : decode cL_law 1099 = .ok (.iaload, 1) := dL8_98.2.1
theorem dL_law_1100 : decode cL_law 1100 = .ok (.invokevirtual 133, 3) := dL8_98.2.2.1
theorem dL_law_1103 : decode cL_law 1103 = .ok (.pop, 1) := dL8_98.2.2.2.1
theorem dL_law_1104 : decode cL_law 1104 = .ok (.goto 52, 3) := dL8_98.2.2.2.2.1
theorem dL_law_1107 : decode cL_law 1107 = .ok (.aload_n 1, 1) := dL8_98.2.2.2.2.2.1
theorem dL_law_1108 : decode cL_law 1108 = .ok (.invokevirtual 134, 3) := dL8_98.2.2.2.2.2.2.1
theorem dL_law_1111 : decode cL_law 1111 = .ok (.pop, 1) := dL8_98.2.2.2.2.2.2.2
theorem dL8_99 : (decode cL_law 1112 = .ok (.aload_n 2, 1)) ∧ (decode cL_law 1113 = .ok (.invokevirtual 137, 3)) ∧ (decode cL_law 1116 = .ok (.pop, 1)) ∧ (decode cL_law 1117 = .ok (.goto 39, 3)) ∧ (decode cL_law 1120 = .ok (.aload_n 1, 1)) ∧ (decode cL_law 1121 = .ok (.invokevirtual 138, 3)) ∧ (decode cL_law 1124 = .ok (.pop, 1)) ∧ (decode cL_law 1125 = .ok (.aload_n 2, 1)) := by decide +kernel
theorem dL_law_1112 : decode cL_law 1112 = .ok (.aload_n 2, 1) := dL8_99.1
theorem dL_law_1113 : decode cL_law 1113 = .ok (.invokevirtual 137, 3) := dL8_99.2.1
theorem dL_law_1116 : decode cL_law 1116 = .ok (.pop, 1) := dL8_99.2.2.1
theorem dL_law_1117 : decode cL_law 1117 = .ok (.goto 39, 3) := dL8_99.2.2.2.1
theorem dL_law_1120 : decode cL_law 1120 = .ok (.aload_n 1, 1) := dL8_99.2.2.2.2.1
theorem dL_law_1121 : decode cL_law 1121 = .ok (.invokevirtual 138, 3) := dL8_99.2.2.2.2.2.1
theorem dL_law_1124 : decode cL_law 1124 = .ok (.pop, 1) := dL8_99.2.2.2.2.2.2.1
theorem dL_law_1125 : decode cL_law 1125 = .ok (.aload_n 2, 1) := dL8_99.2.2.2.2.2.2.2
theorem dL8_100 : (decode cL_law 1126 = .ok (.invokevirtual 141, 3)) ∧ (decode cL_law 1129 = .ok (.pop, 1)) ∧ (decode cL_law 1130 = .ok (.goto 26, 3)) ∧ (decode cL_law 1133 = .ok (.aload_n 1, 1)) ∧ (decode cL_law 1134 = .ok (.aload_n 0, 1)) ∧ (decode cL_law 1135 = .ok (.iload_n 3, 1)) ∧ (decode cL_law 1136 = .ok (.iconst 1, 1)) ∧ (decode cL_law 1137 = .ok (.iadd, 1)) := by decide +kernel
theorem dL_law_1126 : decode cL_law 1126 = .ok (.invokevirtual 141, 3) := dL8_100.1
theorem dL_law_1129 : decode cL_law 1129 = .ok (.pop, 1) := dL8_100.2.1
theorem dL_law_1130 : decode cL_law 1130 = .ok (.goto 26, 3) := dL8_100.2.2.1
theorem dL_law_1133 : decode cL_law 1133 = .ok (.aload_n 1, 1) := dL8_100.2.2.2.1
theorem dL_law_1134 : decode cL_law 1134 = .ok (.aload_n 0, 1) := dL8_100.2.2.2.2.1
theorem dL_law_1135 : decode cL_law 1135 = .ok (.iload_n 3, 1) := dL8_100.2.2.2.2.2.1
theorem dL_law_1136 : decode cL_law 1136 = .ok (.iconst 1, 1) := dL8_100.2.2.2.2.2.2.1
theorem dL_law_1137 : decode cL_law 1137 = .ok (.iadd, 1) := dL8_100.2.2.2.2.2.2.2
theorem dL8_101 : (decode cL_law 1138 = .ok (.iaload, 1)) ∧ (decode cL_law 1139 = .ok (.invokevirtual 142, 3)) ∧ (decode cL_law 1142 = .ok (.pop, 1)) ∧ (decode cL_law 1143 = .ok (.aload_n 2, 1)) ∧ (decode cL_law 1144 = .ok (.aload_n 0, 1)) ∧ (decode cL_law 1145 = .ok (.iload_n 3, 1)) ∧ (decode cL_law 1146 = .ok (.iconst 1, 1)) ∧ (decode cL_law 1147 = .ok (.iadd, 1)) := by decide +kernel
theorem dL_law_1138 : decode cL_law 1138 = .ok (.iaload, 1) := dL8_101.1
theorem dL_law_1139 : decode cL_law 1139 = .ok (.invokevirtual 142, 3) := dL8_101.2.1
theorem dL_law_1142 : decode cL_law 1142 = .ok (.pop, 1) := dL8_101.2.2.1
theorem dL_law_1143 : decode cL_law 1143 = .ok (.aload_n 2, 1) := dL8_101.2.2.2.1
theorem dL_law_1144 : decode cL_law 1144 = .ok (.aload_n 0, 1) := dL8_101.2.2.2.2.1
theorem dL_law_1145 : decode cL_law 1145 = .ok (.iload_n 3, 1) := dL8_101.2.2.2.2.2.1
theorem dL_law_1146 : decode cL_law 1146 = .ok (.iconst 1, 1) := dL8_101.2.2.2.2.2.2.1
theorem dL_law_1147 : decode cL_law 1147 = .ok (.iadd, 1) := dL8_101.2.2.2.2.2.2.2
theorem dL8_102 : (decode cL_law 1148 = .ok (.iaload, 1)) ∧ (decode cL_law 1149 = .ok (.invokevirtual 145, 3)) ∧ (decode cL_law 1152 = .ok (.pop, 1)) ∧ (decode cL_law 1153 = .ok (.goto 3, 3)) ∧ (decode cL_law 1156 = .ok (.iinc 3 6, 3)) ∧ (decode cL_law 1159 = .ok (.goto (-1141), 3)) ∧ (decode cL_law 1162 = .ok (.iconst 1, 1)) ∧ (decode cL_law 1163 = .ok (.ireturn, 1)) := by decide +kernel
theorem dL_law_1148 : decode cL_law 1148 = .ok (.iaload, 1) := dL8_102.1
theorem dL_law_1149 : decode cL_law 1149 = .ok (.invokevirtual 145, 3) := dL8_102.2.1
theorem dL_law_1152 : decode cL_law 1152 = .ok (.pop, 1) := dL8_102.2.2.1
theorem dL_law_1153 : decode cL_law 1153 = .ok (.goto 3, 3) := dL8_102.2.2.2.1
theorem dL_law_1156 : decode cL_law 1156 = .ok (.iinc 3 6, 3) := dL8_102.2.2.2.2.1
theorem dL_law_1159 : decode cL_law 1159 = .ok (.goto (-1141), 3) := dL8_102.2.2.2.2.2.1
theorem dL_law_1162 : decode cL_law 1162 = .ok (.iconst 1, 1) := dL8_102.2.2.2.2.2.2.1
theorem dL_law_1163 : decode cL_law 1163 = .ok (.ireturn, 1) := dL8_102.2.2.2.2.2.2.2
