/-! the law's code -/
theorem eL_0 (nm : String) : ax_dc (YL nm) 0 (.new 7) 3 3 := ⟨(by decide +kernel : decode code 0 = .ok (.new 7, 3)), rfl⟩
theorem eL_3 (nm : String) : ax_dc (YL nm) 3 (.dup) 1 4 := ⟨(by decide +kernel : decode code 3 = .ok (.dup, 1)), rfl⟩
theorem eL_4 (nm : String) : ax_dc (YL nm) 4 (.invokespecial 9) 3 7 := ⟨(by decide +kernel : decode code 4 = .ok (.invokespecial 9, 3)), rfl⟩
theorem eL_7 (nm : String) : ax_dc (YL nm) 7 (.astore_n 1) 1 8 := ⟨(by decide +kernel : decode code 7 = .ok (.astore_n 1, 1)), rfl⟩
theorem eL_8 (nm : String) : ax_dc (YL nm) 8 (.new 10) 3 11 := ⟨(by decide +kernel : decode code 8 = .ok (.new 10, 3)), rfl⟩
theorem eL_11 (nm : String) : ax_dc (YL nm) 11 (.dup) 1 12 := ⟨(by decide +kernel : decode code 11 = .ok (.dup, 1)), rfl⟩
theorem eL_12 (nm : String) : ax_dc (YL nm) 12 (.invokespecial 12) 3 15 := ⟨(by decide +kernel : decode code 12 = .ok (.invokespecial 12, 3)), rfl⟩
theorem eL_15 (nm : String) : ax_dc (YL nm) 15 (.astore_n 2) 1 16 := ⟨(by decide +kernel : decode code 15 = .ok (.astore_n 2, 1)), rfl⟩
theorem eL_16 (nm : String) : ax_dc (YL nm) 16 (.iconst 0) 1 17 := ⟨(by decide +kernel : decode code 16 = .ok (.iconst 0, 1)), rfl⟩
theorem eL_17 (nm : String) : ax_dc (YL nm) 17 (.istore_n 3) 1 18 := ⟨(by decide +kernel : decode code 17 = .ok (.istore_n 3, 1)), rfl⟩
theorem eL_18 (nm : String) : ax_dc (YL nm) 18 (.iload_n 3) 1 19 := ⟨(by decide +kernel : decode code 18 = .ok (.iload_n 3, 1)), rfl⟩
theorem eL_19 (nm : String) : ax_dc (YL nm) 19 (.aload_n 0) 1 20 := ⟨(by decide +kernel : decode code 19 = .ok (.aload_n 0, 1)), rfl⟩
theorem eL_20 (nm : String) : ax_dc (YL nm) 20 (.arraylength) 1 21 := ⟨(by decide +kernel : decode code 20 = .ok (.arraylength, 1)), rfl⟩
theorem eL_21 (nm : String) : ax_dc (YL nm) 21 (.bipush 6) 2 23 := ⟨(by decide +kernel : decode code 21 = .ok (.bipush 6, 2)), rfl⟩
theorem eL_23 (nm : String) : ax_dc (YL nm) 23 (.isub) 1 24 := ⟨(by decide +kernel : decode code 23 = .ok (.isub, 1)), rfl⟩
theorem eL_24 (nm : String) : ax_dj (YL nm) 24 (.if_icmp .gt 1389) 3 27 1389 1413 := ⟨(by decide +kernel : decode code 24 = .ok (.if_icmp .gt 1389, 3)), rfl, by decide⟩
theorem eL_27 (nm : String) : ax_dc (YL nm) 27 (.aload_n 0) 1 28 := ⟨(by decide +kernel : decode code 27 = .ok (.aload_n 0, 1)), rfl⟩
theorem eL_28 (nm : String) : ax_dc (YL nm) 28 (.iload_n 3) 1 29 := ⟨(by decide +kernel : decode code 28 = .ok (.iload_n 3, 1)), rfl⟩
theorem eL_29 (nm : String) : ax_dc (YL nm) 29 (.iaload) 1 30 := ⟨(by decide +kernel : decode code 29 = .ok (.iaload, 1)), rfl⟩
theorem eL_30 (nm : String) : ax_dc (YL nm) 30 (.bipush 63) 2 32 := ⟨(by decide +kernel : decode code 30 = .ok (.bipush 63, 2)), rfl⟩
theorem eL_32 (nm : String) : ax_dc (YL nm) 32 (.iand) 1 33 := ⟨(by decide +kernel : decode code 32 = .ok (.iand, 1)), rfl⟩
theorem eL_33 (nm : String) : ax_dc (YL nm) 33 (.tableswitch 1374 0 36 #[163, 216, 239, 252, 265, 288, 321, 354, 377, 410, 443, 476, 519, 552, 615, 678, 731, 764, 797, 830, 863, 906, 929, 952, 965, 1008, 1031, 1044, 1067, 1110, 1153, 1176, 1199, 1242, 1285, 1338, 1351]) 163 196 := ⟨(by decide +kernel : decode code 33 = .ok (.tableswitch 1374 0 36 #[163, 216, 239, 252, 265, 288, 321, 354, 377, 410, 443, 476, 519, 552, 615, 678, 731, 764, 797, 830, 863, 906, 929, 952, 965, 1008, 1031, 1044, 1067, 1110, 1153, 1176, 1199, 1242, 1285, 1338, 1351], 163)), rfl⟩
theorem eL_196 (nm : String) : ax_dc (YL nm) 196 (.aload_n 1) 1 197 := ⟨(by decide +kernel : decode code 196 = .ok (.aload_n 1, 1)), rfl⟩
theorem eL_197 (nm : String) : ax_dc (YL nm) 197 (.aload_n 0) 1 198 := ⟨(by decide +kernel : decode code 197 = .ok (.aload_n 0, 1)), rfl⟩
theorem eL_198 (nm : String) : ax_dc (YL nm) 198 (.iload_n 3) 1 199 := ⟨(by decide +kernel : decode code 198 = .ok (.iload_n 3, 1)), rfl⟩
theorem eL_199 (nm : String) : ax_dc (YL nm) 199 (.iconst 1) 1 200 := ⟨(by decide +kernel : decode code 199 = .ok (.iconst 1, 1)), rfl⟩
theorem eL_200 (nm : String) : ax_dc (YL nm) 200 (.iadd) 1 201 := ⟨(by decide +kernel : decode code 200 = .ok (.iadd, 1)), rfl⟩
theorem eL_201 (nm : String) : ax_dc (YL nm) 201 (.iaload) 1 202 := ⟨(by decide +kernel : decode code 201 = .ok (.iaload, 1)), rfl⟩
theorem eL_202 (nm : String) : ax_dc (YL nm) 202 (.i2l) 1 203 := ⟨(by decide +kernel : decode code 202 = .ok (.i2l, 1)), rfl⟩
theorem eL_203 (nm : String) : ax_dc (YL nm) 203 (.bipush 32) 2 205 := ⟨(by decide +kernel : decode code 203 = .ok (.bipush 32, 2)), rfl⟩
theorem eL_205 (nm : String) : ax_dc (YL nm) 205 (.lshl) 1 206 := ⟨(by decide +kernel : decode code 205 = .ok (.lshl, 1)), rfl⟩
theorem eL_206 (nm : String) : ax_dc (YL nm) 206 (.aload_n 0) 1 207 := ⟨(by decide +kernel : decode code 206 = .ok (.aload_n 0, 1)), rfl⟩
theorem eL_207 (nm : String) : ax_dc (YL nm) 207 (.iload_n 3) 1 208 := ⟨(by decide +kernel : decode code 207 = .ok (.iload_n 3, 1)), rfl⟩
theorem eL_208 (nm : String) : ax_dc (YL nm) 208 (.iconst 2) 1 209 := ⟨(by decide +kernel : decode code 208 = .ok (.iconst 2, 1)), rfl⟩
theorem eL_209 (nm : String) : ax_dc (YL nm) 209 (.iadd) 1 210 := ⟨(by decide +kernel : decode code 209 = .ok (.iadd, 1)), rfl⟩
theorem eL_210 (nm : String) : ax_dc (YL nm) 210 (.iaload) 1 211 := ⟨(by decide +kernel : decode code 210 = .ok (.iaload, 1)), rfl⟩
theorem eL_211 (nm : String) : ax_dc (YL nm) 211 (.i2l) 1 212 := ⟨(by decide +kernel : decode code 211 = .ok (.i2l, 1)), rfl⟩
theorem eL_212 (nm : String) : ax_dc (YL nm) 212 (.ldc2_w 13) 3 215 := ⟨(by decide +kernel : decode code 212 = .ok (.ldc2_w 13, 3)), rfl⟩
theorem eL_215 (nm : String) : ax_dc (YL nm) 215 (.land) 1 216 := ⟨(by decide +kernel : decode code 215 = .ok (.land, 1)), rfl⟩
theorem eL_216 (nm : String) : ax_dc (YL nm) 216 (.lor) 1 217 := ⟨(by decide +kernel : decode code 216 = .ok (.lor, 1)), rfl⟩
theorem eL_217 (nm : String) : ax_dc (YL nm) 217 (.invokevirtual 15) 3 220 := ⟨(by decide +kernel : decode code 217 = .ok (.invokevirtual 15, 3)), rfl⟩
theorem eL_220 (nm : String) : ax_dc (YL nm) 220 (.aload_n 2) 1 221 := ⟨(by decide +kernel : decode code 220 = .ok (.aload_n 2, 1)), rfl⟩
theorem eL_221 (nm : String) : ax_dc (YL nm) 221 (.aload_n 0) 1 222 := ⟨(by decide +kernel : decode code 221 = .ok (.aload_n 0, 1)), rfl⟩
theorem eL_222 (nm : String) : ax_dc (YL nm) 222 (.iload_n 3) 1 223 := ⟨(by decide +kernel : decode code 222 = .ok (.iload_n 3, 1)), rfl⟩
theorem eL_223 (nm : String) : ax_dc (YL nm) 223 (.iconst 1) 1 224 := ⟨(by decide +kernel : decode code 223 = .ok (.iconst 1, 1)), rfl⟩
theorem eL_224 (nm : String) : ax_dc (YL nm) 224 (.iadd) 1 225 := ⟨(by decide +kernel : decode code 224 = .ok (.iadd, 1)), rfl⟩
theorem eL_225 (nm : String) : ax_dc (YL nm) 225 (.iaload) 1 226 := ⟨(by decide +kernel : decode code 225 = .ok (.iaload, 1)), rfl⟩
theorem eL_226 (nm : String) : ax_dc (YL nm) 226 (.i2l) 1 227 := ⟨(by decide +kernel : decode code 226 = .ok (.i2l, 1)), rfl⟩
theorem eL_227 (nm : String) : ax_dc (YL nm) 227 (.bipush 32) 2 229 := ⟨(by decide +kernel : decode code 227 = .ok (.bipush 32, 2)), rfl⟩
theorem eL_229 (nm : String) : ax_dc (YL nm) 229 (.lshl) 1 230 := ⟨(by decide +kernel : decode code 229 = .ok (.lshl, 1)), rfl⟩
theorem eL_230 (nm : String) : ax_dc (YL nm) 230 (.aload_n 0) 1 231 := ⟨(by decide +kernel : decode code 230 = .ok (.aload_n 0, 1)), rfl⟩
theorem eL_231 (nm : String) : ax_dc (YL nm) 231 (.iload_n 3) 1 232 := ⟨(by decide +kernel : decode code 231 = .ok (.iload_n 3, 1)), rfl⟩
theorem eL_232 (nm : String) : ax_dc (YL nm) 232 (.iconst 2) 1 233 := ⟨(by decide +kernel : decode code 232 = .ok (.iconst 2, 1)), rfl⟩
theorem eL_233 (nm : String) : ax_dc (YL nm) 233 (.iadd) 1 234 := ⟨(by decide +kernel : decode code 233 = .ok (.iadd, 1)), rfl⟩
theorem eL_234 (nm : String) : ax_dc (YL nm) 234 (.iaload) 1 235 := ⟨(by decide +kernel : decode code 234 = .ok (.iaload, 1)), rfl⟩
theorem eL_235 (nm : String) : ax_dc (YL nm) 235 (.i2l) 1 236 := ⟨(by decide +kernel : decode code 235 = .ok (.i2l, 1)), rfl⟩
theorem eL_236 (nm : String) : ax_dc (YL nm) 236 (.ldc2_w 13) 3 239 := ⟨(by decide +kernel : decode code 236 = .ok (.ldc2_w 13, 3)), rfl⟩
theorem eL_239 (nm : String) : ax_dc (YL nm) 239 (.land) 1 240 := ⟨(by decide +kernel : decode code 239 = .ok (.land, 1)), rfl⟩
theorem eL_240 (nm : String) : ax_dc (YL nm) 240 (.lor) 1 241 := ⟨(by decide +kernel : decode code 240 = .ok (.lor, 1)), rfl⟩
theorem eL_241 (nm : String) : ax_dc (YL nm) 241 (.invokevirtual 19) 3 244 := ⟨(by decide +kernel : decode code 241 = .ok (.invokevirtual 19, 3)), rfl⟩
theorem eL_244 (nm : String) : ax_dj (YL nm) 244 (.if_icmp .eq 1163) 3 247 1163 1407 := ⟨(by decide +kernel : decode code 244 = .ok (.if_icmp .eq 1163, 3)), rfl, by decide⟩
theorem eL_247 (nm : String) : ax_dc (YL nm) 247 (.iconst 0) 1 248 := ⟨(by decide +kernel : decode code 247 = .ok (.iconst 0, 1)), rfl⟩
theorem eL_248 (nm : String) : ax_dc (YL nm) 248 (.ireturn) 1 249 := ⟨(by decide +kernel : decode code 248 = .ok (.ireturn, 1)), rfl⟩
theorem eL_249 (nm : String) : ax_dc (YL nm) 249 (.aload_n 1) 1 250 := ⟨(by decide +kernel : decode code 249 = .ok (.aload_n 1, 1)), rfl⟩
theorem eL_250 (nm : String) : ax_dc (YL nm) 250 (.aload_n 0) 1 251 := ⟨(by decide +kernel : decode code 250 = .ok (.aload_n 0, 1)), rfl⟩
theorem eL_251 (nm : String) : ax_dc (YL nm) 251 (.iload_n 3) 1 252 := ⟨(by decide +kernel : decode code 251 = .ok (.iload_n 3, 1)), rfl⟩
theorem eL_252 (nm : String) : ax_dc (YL nm) 252 (.iconst 1) 1 253 := ⟨(by decide +kernel : decode code 252 = .ok (.iconst 1, 1)), rfl⟩
theorem eL_253 (nm : String) : ax_dc (YL nm) 253 (.iadd) 1 254 := ⟨(by decide +kernel : decode code 253 = .ok (.iadd, 1)), rfl⟩
theorem eL_254 (nm : String) : ax_dc (YL nm) 254 (.iaload) 1 255 := ⟨(by decide +kernel : decode code 254 = .ok (.iaload, 1)), rfl⟩
theorem eL_255 (nm : String) : ax_dc (YL nm) 255 (.invokevirtual 20) 3 258 := ⟨(by decide +kernel : decode code 255 = .ok (.invokevirtual 20, 3)), rfl⟩
theorem eL_258 (nm : String) : ax_dc (YL nm) 258 (.aload_n 2) 1 259 := ⟨(by decide +kernel : decode code 258 = .ok (.aload_n 2, 1)), rfl⟩
theorem eL_259 (nm : String) : ax_dc (YL nm) 259 (.aload_n 0) 1 260 := ⟨(by decide +kernel : decode code 259 = .ok (.aload_n 0, 1)), rfl⟩
theorem eL_260 (nm : String) : ax_dc (YL nm) 260 (.iload_n 3) 1 261 := ⟨(by decide +kernel : decode code 260 = .ok (.iload_n 3, 1)), rfl⟩
theorem eL_261 (nm : String) : ax_dc (YL nm) 261 (.iconst 1) 1 262 := ⟨(by decide +kernel : decode code 261 = .ok (.iconst 1, 1)), rfl⟩
theorem eL_262 (nm : String) : ax_dc (YL nm) 262 (.iadd) 1 263 := ⟨(by decide +kernel : decode code 262 = .ok (.iadd, 1)), rfl⟩
theorem eL_263 (nm : String) : ax_dc (YL nm) 263 (.iaload) 1 264 := ⟨(by decide +kernel : decode code 263 = .ok (.iaload, 1)), rfl⟩
theorem eL_264 (nm : String) : ax_dc (YL nm) 264 (.invokevirtual 24) 3 267 := ⟨(by decide +kernel : decode code 264 = .ok (.invokevirtual 24, 3)), rfl⟩
theorem eL_267 (nm : String) : ax_dj (YL nm) 267 (.if_icmp .eq 1140) 3 270 1140 1407 := ⟨(by decide +kernel : decode code 267 = .ok (.if_icmp .eq 1140, 3)), rfl, by decide⟩
theorem eL_270 (nm : String) : ax_dc (YL nm) 270 (.iconst 0) 1 271 := ⟨(by decide +kernel : decode code 270 = .ok (.iconst 0, 1)), rfl⟩
theorem eL_271 (nm : String) : ax_dc (YL nm) 271 (.ireturn) 1 272 := ⟨(by decide +kernel : decode code 271 = .ok (.ireturn, 1)), rfl⟩
theorem eL_272 (nm : String) : ax_dc (YL nm) 272 (.aload_n 1) 1 273 := ⟨(by decide +kernel : decode code 272 = .ok (.aload_n 1, 1)), rfl⟩
theorem eL_273 (nm : String) : ax_dc (YL nm) 273 (.invokevirtual 25) 3 276 := ⟨(by decide +kernel : decode code 273 = .ok (.invokevirtual 25, 3)), rfl⟩
theorem eL_276 (nm : String) : ax_dc (YL nm) 276 (.aload_n 2) 1 277 := ⟨(by decide +kernel : decode code 276 = .ok (.aload_n 2, 1)), rfl⟩
theorem eL_277 (nm : String) : ax_dc (YL nm) 277 (.invokevirtual 29) 3 280 := ⟨(by decide +kernel : decode code 277 = .ok (.invokevirtual 29, 3)), rfl⟩
theorem eL_280 (nm : String) : ax_dj (YL nm) 280 (.if_icmp .eq 1127) 3 283 1127 1407 := ⟨(by decide +kernel : decode code 280 = .ok (.if_icmp .eq 1127, 3)), rfl, by decide⟩
theorem eL_283 (nm : String) : ax_dc (YL nm) 283 (.iconst 0) 1 284 := ⟨(by decide +kernel : decode code 283 = .ok (.iconst 0, 1)), rfl⟩
theorem eL_284 (nm : String) : ax_dc (YL nm) 284 (.ireturn) 1 285 := ⟨(by decide +kernel : decode code 284 = .ok (.ireturn, 1)), rfl⟩
theorem eL_285 (nm : String) : ax_dc (YL nm) 285 (.aload_n 1) 1 286 := ⟨(by decide +kernel : decode code 285 = .ok (.aload_n 1, 1)), rfl⟩
theorem eL_286 (nm : String) : ax_dc (YL nm) 286 (.invokevirtual 30) 3 289 := ⟨(by decide +kernel : decode code 286 = .ok (.invokevirtual 30, 3)), rfl⟩
theorem eL_289 (nm : String) : ax_dc (YL nm) 289 (.aload_n 2) 1 290 := ⟨(by decide +kernel : decode code 289 = .ok (.aload_n 2, 1)), rfl⟩
theorem eL_290 (nm : String) : ax_dc (YL nm) 290 (.invokevirtual 33) 3 293 := ⟨(by decide +kernel : decode code 290 = .ok (.invokevirtual 33, 3)), rfl⟩
theorem eL_293 (nm : String) : ax_dj (YL nm) 293 (.if_icmp .eq 1114) 3 296 1114 1407 := ⟨(by decide +kernel : decode code 293 = .ok (.if_icmp .eq 1114, 3)), rfl, by decide⟩
theorem eL_296 (nm : String) : ax_dc (YL nm) 296 (.iconst 0) 1 297 := ⟨(by decide +kernel : decode code 296 = .ok (.iconst 0, 1)), rfl⟩
theorem eL_297 (nm : String) : ax_dc (YL nm) 297 (.ireturn) 1 298 := ⟨(by decide +kernel : decode code 297 = .ok (.ireturn, 1)), rfl⟩
theorem eL_298 (nm : String) : ax_dc (YL nm) 298 (.aload_n 1) 1 299 := ⟨(by decide +kernel : decode code 298 = .ok (.aload_n 1, 1)), rfl⟩
theorem eL_299 (nm : String) : ax_dc (YL nm) 299 (.aload_n 0) 1 300 := ⟨(by decide +kernel : decode code 299 = .ok (.aload_n 0, 1)), rfl⟩
theorem eL_300 (nm : String) : ax_dc (YL nm) 300 (.iload_n 3) 1 301 := ⟨(by decide +kernel : decode code 300 = .ok (.iload_n 3, 1)), rfl⟩
theorem eL_301 (nm : String) : ax_dc (YL nm) 301 (.iconst 1) 1 302 := ⟨(by decide +kernel : decode code 301 = .ok (.iconst 1, 1)), rfl⟩
theorem eL_302 (nm : String) : ax_dc (YL nm) 302 (.iadd) 1 303 := ⟨(by decide +kernel : decode code 302 = .ok (.iadd, 1)), rfl⟩
theorem eL_303 (nm : String) : ax_dc (YL nm) 303 (.iaload) 1 304 := ⟨(by decide +kernel : decode code 303 = .ok (.iaload, 1)), rfl⟩
theorem eL_304 (nm : String) : ax_dc (YL nm) 304 (.invokevirtual 34) 3 307 := ⟨(by decide +kernel : decode code 304 = .ok (.invokevirtual 34, 3)), rfl⟩
theorem eL_307 (nm : String) : ax_dc (YL nm) 307 (.aload_n 2) 1 308 := ⟨(by decide +kernel : decode code 307 = .ok (.aload_n 2, 1)), rfl⟩
theorem eL_308 (nm : String) : ax_dc (YL nm) 308 (.aload_n 0) 1 309 := ⟨(by decide +kernel : decode code 308 = .ok (.aload_n 0, 1)), rfl⟩
theorem eL_309 (nm : String) : ax_dc (YL nm) 309 (.iload_n 3) 1 310 := ⟨(by decide +kernel : decode code 309 = .ok (.iload_n 3, 1)), rfl⟩
theorem eL_310 (nm : String) : ax_dc (YL nm) 310 (.iconst 1) 1 311 := ⟨(by decide +kernel : decode code 310 = .ok (.iconst 1, 1)), rfl⟩
theorem eL_311 (nm : String) : ax_dc (YL nm) 311 (.iadd) 1 312 := ⟨(by decide +kernel : decode code 311 = .ok (.iadd, 1)), rfl⟩
theorem eL_312 (nm : String) : ax_dc (YL nm) 312 (.iaload) 1 313 := ⟨(by decide +kernel : decode code 312 = .ok (.iaload, 1)), rfl⟩
theorem eL_313 (nm : String) : ax_dc (YL nm) 313 (.invokevirtual 37) 3 316 := ⟨(by decide +kernel : decode code 313 = .ok (.invokevirtual 37, 3)), rfl⟩
theorem eL_316 (nm : String) : ax_dj (YL nm) 316 (.if_icmp .eq 1091) 3 319 1091 1407 := ⟨(by decide +kernel : decode code 316 = .ok (.if_icmp .eq 1091, 3)), rfl, by decide⟩
theorem eL_319 (nm : String) : ax_dc (YL nm) 319 (.iconst 0) 1 320 := ⟨(by decide +kernel : decode code 319 = .ok (.iconst 0, 1)), rfl⟩
theorem eL_320 (nm : String) : ax_dc (YL nm) 320 (.ireturn) 1 321 := ⟨(by decide +kernel : decode code 320 = .ok (.ireturn, 1)), rfl⟩
theorem eL_321 (nm : String) : ax_dc (YL nm) 321 (.aload_n 1) 1 322 := ⟨(by decide +kernel : decode code 321 = .ok (.aload_n 1, 1)), rfl⟩
theorem eL_322 (nm : String) : ax_dc (YL nm) 322 (.aload_n 0) 1 323 := ⟨(by decide +kernel : decode code 322 = .ok (.aload_n 0, 1)), rfl⟩
theorem eL_323 (nm : String) : ax_dc (YL nm) 323 (.iload_n 3) 1 324 := ⟨(by decide +kernel : decode code 323 = .ok (.iload_n 3, 1)), rfl⟩
theorem eL_324 (nm : String) : ax_dc (YL nm) 324 (.iconst 1) 1 325 := ⟨(by decide +kernel : decode code 324 = .ok (.iconst 1, 1)), rfl⟩
theorem eL_325 (nm : String) : ax_dc (YL nm) 325 (.iadd) 1 326 := ⟨(by decide +kernel : decode code 325 = .ok (.iadd, 1)), rfl⟩
theorem eL_326 (nm : String) : ax_dc (YL nm) 326 (.iaload) 1 327 := ⟨(by decide +kernel : decode code 326 = .ok (.iaload, 1)), rfl⟩
theorem eL_327 (nm : String) : ax_dc (YL nm) 327 (.aload_n 0) 1 328 := ⟨(by decide +kernel : decode code 327 = .ok (.aload_n 0, 1)), rfl⟩
theorem eL_328 (nm : String) : ax_dc (YL nm) 328 (.iload_n 3) 1 329 := ⟨(by decide +kernel : decode code 328 = .ok (.iload_n 3, 1)), rfl⟩
theorem eL_329 (nm : String) : ax_dc (YL nm) 329 (.iconst 2) 1 330 := ⟨(by decide +kernel : decode code 329 = .ok (.iconst 2, 1)), rfl⟩
theorem eL_330 (nm : String) : ax_dc (YL nm) 330 (.iadd) 1 331 := ⟨(by decide +kernel : decode code 330 = .ok (.iadd, 1)), rfl⟩
theorem eL_331 (nm : String) : ax_dc (YL nm) 331 (.iaload) 1 332 := ⟨(by decide +kernel : decode code 331 = .ok (.iaload, 1)), rfl⟩
theorem eL_332 (nm : String) : ax_dc (YL nm) 332 (.invokevirtual 38) 3 335 := ⟨(by decide +kernel : decode code 332 = .ok (.invokevirtual 38, 3)), rfl⟩
theorem eL_335 (nm : String) : ax_dc (YL nm) 335 (.aload_n 2) 1 336 := ⟨(by decide +kernel : decode code 335 = .ok (.aload_n 2, 1)), rfl⟩
theorem eL_336 (nm : String) : ax_dc (YL nm) 336 (.aload_n 0) 1 337 := ⟨(by decide +kernel : decode code 336 = .ok (.aload_n 0, 1)), rfl⟩
theorem eL_337 (nm : String) : ax_dc (YL nm) 337 (.iload_n 3) 1 338 := ⟨(by decide +kernel : decode code 337 = .ok (.iload_n 3, 1)), rfl⟩
theorem eL_338 (nm : String) : ax_dc (YL nm) 338 (.iconst 1) 1 339 := ⟨(by decide +kernel : decode code 338 = .ok (.iconst 1, 1)), rfl⟩
theorem eL_339 (nm : String) : ax_dc (YL nm) 339 (.iadd) 1 340 := ⟨(by decide +kernel : decode code 339 = .ok (.iadd, 1)), rfl⟩
theorem eL_340 (nm : String) : ax_dc (YL nm) 340 (.iaload) 1 341 := ⟨(by decide +kernel : decode code 340 = .ok (.iaload, 1)), rfl⟩
theorem eL_341 (nm : String) : ax_dc (YL nm) 341 (.aload_n 0) 1 342 := ⟨(by decide +kernel : decode code 341 = .ok (.aload_n 0, 1)), rfl⟩
theorem eL_342 (nm : String) : ax_dc (YL nm) 342 (.iload_n 3) 1 343 := ⟨(by decide +kernel : decode code 342 = .ok (.iload_n 3, 1)), rfl⟩
theorem eL_343 (nm : String) : ax_dc (YL nm) 343 (.iconst 2) 1 344 := ⟨(by decide +kernel : decode code 343 = .ok (.iconst 2, 1)), rfl⟩
theorem eL_344 (nm : String) : ax_dc (YL nm) 344 (.iadd) 1 345 := ⟨(by decide +kernel : decode code 344 = .ok (.iadd, 1)), rfl⟩
theorem eL_345 (nm : String) : ax_dc (YL nm) 345 (.iaload) 1 346 := ⟨(by decide +kernel : decode code 345 = .ok (.iaload, 1)), rfl⟩
theorem eL_346 (nm : String) : ax_dc (YL nm) 346 (.invokevirtual 42) 3 349 := ⟨(by decide +kernel : decode code 346 = .ok (.invokevirtual 42, 3)), rfl⟩
theorem eL_349 (nm : String) : ax_dj (YL nm) 349 (.if_icmp .eq 1058) 3 352 1058 1407 := ⟨(by decide +kernel : decode code 349 = .ok (.if_icmp .eq 1058, 3)), rfl, by decide⟩
theorem eL_352 (nm : String) : ax_dc (YL nm) 352 (.iconst 0) 1 353 := ⟨(by decide +kernel : decode code 352 = .ok (.iconst 0, 1)), rfl⟩
theorem eL_353 (nm : String) : ax_dc (YL nm) 353 (.ireturn) 1 354 := ⟨(by decide +kernel : decode code 353 = .ok (.ireturn, 1)), rfl⟩
theorem eL_354 (nm : String) : ax_dc (YL nm) 354 (.aload_n 1) 1 355 := ⟨(by decide +kernel : decode code 354 = .ok (.aload_n 1, 1)), rfl⟩
theorem eL_355 (nm : String) : ax_dc (YL nm) 355 (.aload_n 0) 1 356 := ⟨(by decide +kernel : decode code 355 = .ok (.aload_n 0, 1)), rfl⟩
theorem eL_356 (nm : String) : ax_dc (YL nm) 356 (.iload_n 3) 1 357 := ⟨(by decide +kernel : decode code 356 = .ok (.iload_n 3, 1)), rfl⟩
theorem eL_357 (nm : String) : ax_dc (YL nm) 357 (.iconst 1) 1 358 := ⟨(by decide +kernel : decode code 357 = .ok (.iconst 1, 1)), rfl⟩
theorem eL_358 (nm : String) : ax_dc (YL nm) 358 (.iadd) 1 359 := ⟨(by decide +kernel : decode code 358 = .ok (.iadd, 1)), rfl⟩
theorem eL_359 (nm : String) : ax_dc (YL nm) 359 (.iaload) 1 360 := ⟨(by decide +kernel : decode code 359 = .ok (.iaload, 1)), rfl⟩
theorem eL_360 (nm : String) : ax_dc (YL nm) 360 (.aload_n 0) 1 361 := ⟨(by decide +kernel : decode code 360 = .ok (.aload_n 0, 1)), rfl⟩
theorem eL_361 (nm : String) : ax_dc (YL nm) 361 (.iload_n 3) 1 362 := ⟨(by decide +kernel : decode code 361 = .ok (.iload_n 3, 1)), rfl⟩
theorem eL_362 (nm : String) : ax_dc (YL nm) 362 (.iconst 2) 1 363 := ⟨(by decide +kernel : decode code 362 = .ok (.iconst 2, 1)), rfl⟩
theorem eL_363 (nm : String) : ax_dc (YL nm) 363 (.iadd) 1 364 := ⟨(by decide +kernel : decode code 363 = .ok (.iadd, 1)), rfl⟩
theorem eL_364 (nm : String) : ax_dc (YL nm) 364 (.iaload) 1 365 := ⟨(by decide +kernel : decode code 364 = .ok (.iaload, 1)), rfl⟩
theorem eL_365 (nm : String) : ax_dc (YL nm) 365 (.invokevirtual 43) 3 368 := ⟨(by decide +kernel : decode code 365 = .ok (.invokevirtual 43, 3)), rfl⟩
theorem eL_368 (nm : String) : ax_dc (YL nm) 368 (.aload_n 2) 1 369 := ⟨(by decide +kernel : decode code 368 = .ok (.aload_n 2, 1)), rfl⟩
theorem eL_369 (nm : String) : ax_dc (YL nm) 369 (.aload_n 0) 1 370 := ⟨(by decide +kernel : decode code 369 = .ok (.aload_n 0, 1)), rfl⟩
theorem eL_370 (nm : String) : ax_dc (YL nm) 370 (.iload_n 3) 1 371 := ⟨(by decide +kernel : decode code 370 = .ok (.iload_n 3, 1)), rfl⟩
theorem eL_371 (nm : String) : ax_dc (YL nm) 371 (.iconst 1) 1 372 := ⟨(by decide +kernel : decode code 371 = .ok (.iconst 1, 1)), rfl⟩
theorem eL_372 (nm : String) : ax_dc (YL nm) 372 (.iadd) 1 373 := ⟨(by decide +kernel : decode code 372 = .ok (.iadd, 1)), rfl⟩
theorem eL_373 (nm : String) : ax_dc (YL nm) 373 (.iaload) 1 374 := ⟨(by decide +kernel : decode code 373 = .ok (.iaload, 1)), rfl⟩
theorem eL_374 (nm : String) : ax_dc (YL nm) 374 (.aload_n 0) 1 375 := ⟨(by decide +kernel : decode code 374 = .ok (.aload_n 0, 1)), rfl⟩
theorem eL_375 (nm : String) : ax_dc (YL nm) 375 (.iload_n 3) 1 376 := ⟨(by decide +kernel : decode code 375 = .ok (.iload_n 3, 1)), rfl⟩
theorem eL_376 (nm : String) : ax_dc (YL nm) 376 (.iconst 2) 1 377 := ⟨(by decide +kernel : decode code 376 = .ok (.iconst 2, 1)), rfl⟩
theorem eL_377 (nm : String) : ax_dc (YL nm) 377 (.iadd) 1 378 := ⟨(by decide +kernel : decode code 377 = .ok (.iadd, 1)), rfl⟩
theorem eL_378 (nm : String) : ax_dc (YL nm) 378 (.iaload) 1 379 := ⟨(by decide +kernel : decode code 378 = .ok (.iaload, 1)), rfl⟩
theorem eL_379 (nm : String) : ax_dc (YL nm) 379 (.invokevirtual 46) 3 382 := ⟨(by decide +kernel : decode code 379 = .ok (.invokevirtual 46, 3)), rfl⟩
theorem eL_382 (nm : String) : ax_dj (YL nm) 382 (.if_icmp .eq 1025) 3 385 1025 1407 := ⟨(by decide +kernel : decode code 382 = .ok (.if_icmp .eq 1025, 3)), rfl, by decide⟩
theorem eL_385 (nm : String) : ax_dc (YL nm) 385 (.iconst 0) 1 386 := ⟨(by decide +kernel : decode code 385 = .ok (.iconst 0, 1)), rfl⟩
theorem eL_386 (nm : String) : ax_dc (YL nm) 386 (.ireturn) 1 387 := ⟨(by decide +kernel : decode code 386 = .ok (.ireturn, 1)), rfl⟩
theorem eL_387 (nm : String) : ax_dc (YL nm) 387 (.aload_n 1) 1 388 := ⟨(by decide +kernel : decode code 387 = .ok (.aload_n 1, 1)), rfl⟩
theorem eL_388 (nm : String) : ax_dc (YL nm) 388 (.aload_n 0) 1 389 := ⟨(by decide +kernel : decode code 388 = .ok (.aload_n 0, 1)), rfl⟩
theorem eL_389 (nm : String) : ax_dc (YL nm) 389 (.iload_n 3) 1 390 := ⟨(by decide +kernel : decode code 389 = .ok (.iload_n 3, 1)), rfl⟩
theorem eL_390 (nm : String) : ax_dc (YL nm) 390 (.iconst 1) 1 391 := ⟨(by decide +kernel : decode code 390 = .ok (.iconst 1, 1)), rfl⟩
theorem eL_391 (nm : String) : ax_dc (YL nm) 391 (.iadd) 1 392 := ⟨(by decide +kernel : decode code 391 = .ok (.iadd, 1)), rfl⟩
theorem eL_392 (nm : String) : ax_dc (YL nm) 392 (.iaload) 1 393 := ⟨(by decide +kernel : decode code 392 = .ok (.iaload, 1)), rfl⟩
theorem eL_393 (nm : String) : ax_dc (YL nm) 393 (.invokevirtual 47) 3 396 := ⟨(by decide +kernel : decode code 393 = .ok (.invokevirtual 47, 3)), rfl⟩
theorem eL_396 (nm : String) : ax_dc (YL nm) 396 (.aload_n 2) 1 397 := ⟨(by decide +kernel : decode code 396 = .ok (.aload_n 2, 1)), rfl⟩
theorem eL_397 (nm : String) : ax_dc (YL nm) 397 (.aload_n 0) 1 398 := ⟨(by decide +kernel : decode code 397 = .ok (.aload_n 0, 1)), rfl⟩
theorem eL_398 (nm : String) : ax_dc (YL nm) 398 (.iload_n 3) 1 399 := ⟨(by decide +kernel : decode code 398 = .ok (.iload_n 3, 1)), rfl⟩
theorem eL_399 (nm : String) : ax_dc (YL nm) 399 (.iconst 1) 1 400 := ⟨(by decide +kernel : decode code 399 = .ok (.iconst 1, 1)), rfl⟩
theorem eL_400 (nm : String) : ax_dc (YL nm) 400 (.iadd) 1 401 := ⟨(by decide +kernel : decode code 400 = .ok (.iadd, 1)), rfl⟩
theorem eL_401 (nm : String) : ax_dc (YL nm) 401 (.iaload) 1 402 := ⟨(by decide +kernel : decode code 401 = .ok (.iaload, 1)), rfl⟩
theorem eL_402 (nm : String) : ax_dc (YL nm) 402 (.invokevirtual 50) 3 405 := ⟨(by decide +kernel : decode code 402 = .ok (.invokevirtual 50, 3)), rfl⟩
theorem eL_405 (nm : String) : ax_dj (YL nm) 405 (.if_icmp .eq 1002) 3 408 1002 1407 := ⟨(by decide +kernel : decode code 405 = .ok (.if_icmp .eq 1002, 3)), rfl, by decide⟩
theorem eL_408 (nm : String) : ax_dc (YL nm) 408 (.iconst 0) 1 409 := ⟨(by decide +kernel : decode code 408 = .ok (.iconst 0, 1)), rfl⟩
theorem eL_409 (nm : String) : ax_dc (YL nm) 409 (.ireturn) 1 410 := ⟨(by decide +kernel : decode code 409 = .ok (.ireturn, 1)), rfl⟩
theorem eL_410 (nm : String) : ax_dc (YL nm) 410 (.aload_n 1) 1 411 := ⟨(by decide +kernel : decode code 410 = .ok (.aload_n 1, 1)), rfl⟩
theorem eL_411 (nm : String) : ax_dc (YL nm) 411 (.aload_n 0) 1 412 := ⟨(by decide +kernel : decode code 411 = .ok (.aload_n 0, 1)), rfl⟩
theorem eL_412 (nm : String) : ax_dc (YL nm) 412 (.iload_n 3) 1 413 := ⟨(by decide +kernel : decode code 412 = .ok (.iload_n 3, 1)), rfl⟩
theorem eL_413 (nm : String) : ax_dc (YL nm) 413 (.iconst 1) 1 414 := ⟨(by decide +kernel : decode code 413 = .ok (.iconst 1, 1)), rfl⟩
theorem eL_414 (nm : String) : ax_dc (YL nm) 414 (.iadd) 1 415 := ⟨(by decide +kernel : decode code 414 = .ok (.iadd, 1)), rfl⟩
theorem eL_415 (nm : String) : ax_dc (YL nm) 415 (.iaload) 1 416 := ⟨(by decide +kernel : decode code 415 = .ok (.iaload, 1)), rfl⟩
theorem eL_416 (nm : String) : ax_dc (YL nm) 416 (.aload_n 0) 1 417 := ⟨(by decide +kernel : decode code 416 = .ok (.aload_n 0, 1)), rfl⟩
theorem eL_417 (nm : String) : ax_dc (YL nm) 417 (.iload_n 3) 1 418 := ⟨(by decide +kernel : decode code 417 = .ok (.iload_n 3, 1)), rfl⟩
theorem eL_418 (nm : String) : ax_dc (YL nm) 418 (.iconst 2) 1 419 := ⟨(by decide +kernel : decode code 418 = .ok (.iconst 2, 1)), rfl⟩
theorem eL_419 (nm : String) : ax_dc (YL nm) 419 (.iadd) 1 420 := ⟨(by decide +kernel : decode code 419 = .ok (.iadd, 1)), rfl⟩
theorem eL_420 (nm : String) : ax_dc (YL nm) 420 (.iaload) 1 421 := ⟨(by decide +kernel : decode code 420 = .ok (.iaload, 1)), rfl⟩
theorem eL_421 (nm : String) : ax_dc (YL nm) 421 (.invokevirtual 51) 3 424 := ⟨(by decide +kernel : decode code 421 = .ok (.invokevirtual 51, 3)), rfl⟩
theorem eL_424 (nm : String) : ax_dc (YL nm) 424 (.aload_n 2) 1 425 := ⟨(by decide +kernel : decode code 424 = .ok (.aload_n 2, 1)), rfl⟩
theorem eL_425 (nm : String) : ax_dc (YL nm) 425 (.aload_n 0) 1 426 := ⟨(by decide +kernel : decode code 425 = .ok (.aload_n 0, 1)), rfl⟩
theorem eL_426 (nm : String) : ax_dc (YL nm) 426 (.iload_n 3) 1 427 := ⟨(by decide +kernel : decode code 426 = .ok (.iload_n 3, 1)), rfl⟩
theorem eL_427 (nm : String) : ax_dc (YL nm) 427 (.iconst 1) 1 428 := ⟨(by decide +kernel : decode code 427 = .ok (.iconst 1, 1)), rfl⟩
theorem eL_428 (nm : String) : ax_dc (YL nm) 428 (.iadd) 1 429 := ⟨(by decide +kernel : decode code 428 = .ok (.iadd, 1)), rfl⟩
theorem eL_429 (nm : String) : ax_dc (YL nm) 429 (.iaload) 1 430 := ⟨(by decide +kernel : decode code 429 = .ok (.iaload, 1)), rfl⟩
theorem eL_430 (nm : String) : ax_dc (YL nm) 430 (.aload_n 0) 1 431 := ⟨(by decide +kernel : decode code 430 = .ok (.aload_n 0, 1)), rfl⟩
theorem eL_431 (nm : String) : ax_dc (YL nm) 431 (.iload_n 3) 1 432 := ⟨(by decide +kernel : decode code 431 = .ok (.iload_n 3, 1)), rfl⟩
theorem eL_432 (nm : String) : ax_dc (YL nm) 432 (.iconst 2) 1 433 := ⟨(by decide +kernel : decode code 432 = .ok (.iconst 2, 1)), rfl⟩
theorem eL_433 (nm : String) : ax_dc (YL nm) 433 (.iadd) 1 434 := ⟨(by decide +kernel : decode code 433 = .ok (.iadd, 1)), rfl⟩
theorem eL_434 (nm : String) : ax_dc (YL nm) 434 (.iaload) 1 435 := ⟨(by decide +kernel : decode code 434 = .ok (.iaload, 1)), rfl⟩
theorem eL_435 (nm : String) : ax_dc (YL nm) 435 (.invokevirtual 54) 3 438 := ⟨(by decide +kernel : decode code 435 = .ok (.invokevirtual 54, 3)), rfl⟩
theorem eL_438 (nm : String) : ax_dj (YL nm) 438 (.if_icmp .eq 969) 3 441 969 1407 := ⟨(by decide +kernel : decode code 438 = .ok (.if_icmp .eq 969, 3)), rfl, by decide⟩
theorem eL_441 (nm : String) : ax_dc (YL nm) 441 (.iconst 0) 1 442 := ⟨(by decide +kernel : decode code 441 = .ok (.iconst 0, 1)), rfl⟩
theorem eL_442 (nm : String) : ax_dc (YL nm) 442 (.ireturn) 1 443 := ⟨(by decide +kernel : decode code 442 = .ok (.ireturn, 1)), rfl⟩
theorem eL_443 (nm : String) : ax_dc (YL nm) 443 (.aload_n 1) 1 444 := ⟨(by decide +kernel : decode code 443 = .ok (.aload_n 1, 1)), rfl⟩
theorem eL_444 (nm : String) : ax_dc (YL nm) 444 (.aload_n 0) 1 445 := ⟨(by decide +kernel : decode code 444 = .ok (.aload_n 0, 1)), rfl⟩
theorem eL_445 (nm : String) : ax_dc (YL nm) 445 (.iload_n 3) 1 446 := ⟨(by decide +kernel : decode code 445 = .ok (.iload_n 3, 1)), rfl⟩
theorem eL_446 (nm : String) : ax_dc (YL nm) 446 (.iconst 1) 1 447 := ⟨(by decide +kernel : decode code 446 = .ok (.iconst 1, 1)), rfl⟩
theorem eL_447 (nm : String) : ax_dc (YL nm) 447 (.iadd) 1 448 := ⟨(by decide +kernel : decode code 447 = .ok (.iadd, 1)), rfl⟩
theorem eL_448 (nm : String) : ax_dc (YL nm) 448 (.iaload) 1 449 := ⟨(by decide +kernel : decode code 448 = .ok (.iaload, 1)), rfl⟩
theorem eL_449 (nm : String) : ax_dc (YL nm) 449 (.aload_n 0) 1 450 := ⟨(by decide +kernel : decode code 449 = .ok (.aload_n 0, 1)), rfl⟩
theorem eL_450 (nm : String) : ax_dc (YL nm) 450 (.iload_n 3) 1 451 := ⟨(by decide +kernel : decode code 450 = .ok (.iload_n 3, 1)), rfl⟩
theorem eL_451 (nm : String) : ax_dc (YL nm) 451 (.iconst 2) 1 452 := ⟨(by decide +kernel : decode code 451 = .ok (.iconst 2, 1)), rfl⟩
theorem eL_452 (nm : String) : ax_dc (YL nm) 452 (.iadd) 1 453 := ⟨(by decide +kernel : decode code 452 = .ok (.iadd, 1)), rfl⟩
theorem eL_453 (nm : String) : ax_dc (YL nm) 453 (.iaload) 1 454 := ⟨(by decide +kernel : decode code 453 = .ok (.iaload, 1)), rfl⟩
theorem eL_454 (nm : String) : ax_dc (YL nm) 454 (.invokevirtual 55) 3 457 := ⟨(by decide +kernel : decode code 454 = .ok (.invokevirtual 55, 3)), rfl⟩
theorem eL_457 (nm : String) : ax_dc (YL nm) 457 (.aload_n 2) 1 458 := ⟨(by decide +kernel : decode code 457 = .ok (.aload_n 2, 1)), rfl⟩
theorem eL_458 (nm : String) : ax_dc (YL nm) 458 (.aload_n 0) 1 459 := ⟨(by decide +kernel : decode code 458 = .ok (.aload_n 0, 1)), rfl⟩
theorem eL_459 (nm : String) : ax_dc (YL nm) 459 (.iload_n 3) 1 460 := ⟨(by decide +kernel : decode code 459 = .ok (.iload_n 3, 1)), rfl⟩
theorem eL_460 (nm : String) : ax_dc (YL nm) 460 (.iconst 1) 1 461 := ⟨(by decide +kernel : decode code 460 = .ok (.iconst 1, 1)), rfl⟩
theorem eL_461 (nm : String) : ax_dc (YL nm) 461 (.iadd) 1 462 := ⟨(by decide +kernel : decode code 461 = .ok (.iadd, 1)), rfl⟩
theorem eL_462 (nm : String) : ax_dc (YL nm) 462 (.iaload) 1 463 := ⟨(by decide +kernel : decode code 462 = .ok (.iaload, 1)), rfl⟩
theorem eL_463 (nm : String) : ax_dc (YL nm) 463 (.aload_n 0) 1 464 := ⟨(by decide +kernel : decode code 463 = .ok (.aload_n 0, 1)), rfl⟩
theorem eL_464 (nm : String) : ax_dc (YL nm) 464 (.iload_n 3) 1 465 := ⟨(by decide +kernel : decode code 464 = .ok (.iload_n 3, 1)), rfl⟩
theorem eL_465 (nm : String) : ax_dc (YL nm) 465 (.iconst 2) 1 466 := ⟨(by decide +kernel : decode code 465 = .ok (.iconst 2, 1)), rfl⟩
theorem eL_466 (nm : String) : ax_dc (YL nm) 466 (.iadd) 1 467 := ⟨(by decide +kernel : decode code 466 = .ok (.iadd, 1)), rfl⟩
theorem eL_467 (nm : String) : ax_dc (YL nm) 467 (.iaload) 1 468 := ⟨(by decide +kernel : decode code 467 = .ok (.iaload, 1)), rfl⟩
theorem eL_468 (nm : String) : ax_dc (YL nm) 468 (.invokevirtual 58) 3 471 := ⟨(by decide +kernel : decode code 468 = .ok (.invokevirtual 58, 3)), rfl⟩
theorem eL_471 (nm : String) : ax_dj (YL nm) 471 (.if_icmp .eq 936) 3 474 936 1407 := ⟨(by decide +kernel : decode code 471 = .ok (.if_icmp .eq 936, 3)), rfl, by decide⟩
theorem eL_474 (nm : String) : ax_dc (YL nm) 474 (.iconst 0) 1 475 := ⟨(by decide +kernel : decode code 474 = .ok (.iconst 0, 1)), rfl⟩
theorem eL_475 (nm : String) : ax_dc (YL nm) 475 (.ireturn) 1 476 := ⟨(by decide +kernel : decode code 475 = .ok (.ireturn, 1)), rfl⟩
theorem eL_476 (nm : String) : ax_dc (YL nm) 476 (.aload_n 1) 1 477 := ⟨(by decide +kernel : decode code 476 = .ok (.aload_n 1, 1)), rfl⟩
theorem eL_477 (nm : String) : ax_dc (YL nm) 477 (.aload_n 0) 1 478 := ⟨(by decide +kernel : decode code 477 = .ok (.aload_n 0, 1)), rfl⟩
theorem eL_478 (nm : String) : ax_dc (YL nm) 478 (.iload_n 3) 1 479 := ⟨(by decide +kernel : decode code 478 = .ok (.iload_n 3, 1)), rfl⟩
theorem eL_479 (nm : String) : ax_dc (YL nm) 479 (.iconst 1) 1 480 := ⟨(by decide +kernel : decode code 479 = .ok (.iconst 1, 1)), rfl⟩
theorem eL_480 (nm : String) : ax_dc (YL nm) 480 (.iadd) 1 481 := ⟨(by decide +kernel : decode code 480 = .ok (.iadd, 1)), rfl⟩
theorem eL_481 (nm : String) : ax_dc (YL nm) 481 (.iaload) 1 482 := ⟨(by decide +kernel : decode code 481 = .ok (.iaload, 1)), rfl⟩
theorem eL_482 (nm : String) : ax_dc (YL nm) 482 (.aload_n 0) 1 483 := ⟨(by decide +kernel : decode code 482 = .ok (.aload_n 0, 1)), rfl⟩
theorem eL_483 (nm : String) : ax_dc (YL nm) 483 (.iload_n 3) 1 484 := ⟨(by decide +kernel : decode code 483 = .ok (.iload_n 3, 1)), rfl⟩
theorem eL_484 (nm : String) : ax_dc (YL nm) 484 (.iconst 2) 1 485 := ⟨(by decide +kernel : decode code 484 = .ok (.iconst 2, 1)), rfl⟩
theorem eL_485 (nm : String) : ax_dc (YL nm) 485 (.iadd) 1 486 := ⟨(by decide +kernel : decode code 485 = .ok (.iadd, 1)), rfl⟩
theorem eL_486 (nm : String) : ax_dc (YL nm) 486 (.iaload) 1 487 := ⟨(by decide +kernel : decode code 486 = .ok (.iaload, 1)), rfl⟩
theorem eL_487 (nm : String) : ax_dc (YL nm) 487 (.invokevirtual 59) 3 490 := ⟨(by decide +kernel : decode code 487 = .ok (.invokevirtual 59, 3)), rfl⟩
theorem eL_490 (nm : String) : ax_dc (YL nm) 490 (.aload_n 2) 1 491 := ⟨(by decide +kernel : decode code 490 = .ok (.aload_n 2, 1)), rfl⟩
theorem eL_491 (nm : String) : ax_dc (YL nm) 491 (.aload_n 0) 1 492 := ⟨(by decide +kernel : decode code 491 = .ok (.aload_n 0, 1)), rfl⟩
theorem eL_492 (nm : String) : ax_dc (YL nm) 492 (.iload_n 3) 1 493 := ⟨(by decide +kernel : decode code 492 = .ok (.iload_n 3, 1)), rfl⟩
theorem eL_493 (nm : String) : ax_dc (YL nm) 493 (.iconst 1) 1 494 := ⟨(by decide +kernel : decode code 493 = .ok (.iconst 1, 1)), rfl⟩
theorem eL_494 (nm : String) : ax_dc (YL nm) 494 (.iadd) 1 495 := ⟨(by decide +kernel : decode code 494 = .ok (.iadd, 1)), rfl⟩
theorem eL_495 (nm : String) : ax_dc (YL nm) 495 (.iaload) 1 496 := ⟨(by decide +kernel : decode code 495 = .ok (.iaload, 1)), rfl⟩
theorem eL_496 (nm : String) : ax_dc (YL nm) 496 (.aload_n 0) 1 497 := ⟨(by decide +kernel : decode code 496 = .ok (.aload_n 0, 1)), rfl⟩
theorem eL_497 (nm : String) : ax_dc (YL nm) 497 (.iload_n 3) 1 498 := ⟨(by decide +kernel : decode code 497 = .ok (.iload_n 3, 1)), rfl⟩
theorem eL_498 (nm : String) : ax_dc (YL nm) 498 (.iconst 2) 1 499 := ⟨(by decide +kernel : decode code 498 = .ok (.iconst 2, 1)), rfl⟩
theorem eL_499 (nm : String) : ax_dc (YL nm) 499 (.iadd) 1 500 := ⟨(by decide +kernel : decode code 499 = .ok (.iadd, 1)), rfl⟩
theorem eL_500 (nm : String) : ax_dc (YL nm) 500 (.iaload) 1 501 := ⟨(by decide +kernel : decode code 500 = .ok (.iaload, 1)), rfl⟩
theorem eL_501 (nm : String) : ax_dc (YL nm) 501 (.invokevirtual 62) 3 504 := ⟨(by decide +kernel : decode code 501 = .ok (.invokevirtual 62, 3)), rfl⟩
theorem eL_504 (nm : String) : ax_dj (YL nm) 504 (.if_icmp .eq 903) 3 507 903 1407 := ⟨(by decide +kernel : decode code 504 = .ok (.if_icmp .eq 903, 3)), rfl, by decide⟩
theorem eL_507 (nm : String) : ax_dc (YL nm) 507 (.iconst 0) 1 508 := ⟨(by decide +kernel : decode code 507 = .ok (.iconst 0, 1)), rfl⟩
theorem eL_508 (nm : String) : ax_dc (YL nm) 508 (.ireturn) 1 509 := ⟨(by decide +kernel : decode code 508 = .ok (.ireturn, 1)), rfl⟩
theorem eL_509 (nm : String) : ax_dc (YL nm) 509 (.aload_n 1) 1 510 := ⟨(by decide +kernel : decode code 509 = .ok (.aload_n 1, 1)), rfl⟩
theorem eL_510 (nm : String) : ax_dc (YL nm) 510 (.aload_n 0) 1 511 := ⟨(by decide +kernel : decode code 510 = .ok (.aload_n 0, 1)), rfl⟩
theorem eL_511 (nm : String) : ax_dc (YL nm) 511 (.iload_n 3) 1 512 := ⟨(by decide +kernel : decode code 511 = .ok (.iload_n 3, 1)), rfl⟩
theorem eL_512 (nm : String) : ax_dc (YL nm) 512 (.iconst 1) 1 513 := ⟨(by decide +kernel : decode code 512 = .ok (.iconst 1, 1)), rfl⟩
theorem eL_513 (nm : String) : ax_dc (YL nm) 513 (.iadd) 1 514 := ⟨(by decide +kernel : decode code 513 = .ok (.iadd, 1)), rfl⟩
theorem eL_514 (nm : String) : ax_dc (YL nm) 514 (.iaload) 1 515 := ⟨(by decide +kernel : decode code 514 = .ok (.iaload, 1)), rfl⟩
theorem eL_515 (nm : String) : ax_dc (YL nm) 515 (.aload_n 0) 1 516 := ⟨(by decide +kernel : decode code 515 = .ok (.aload_n 0, 1)), rfl⟩
theorem eL_516 (nm : String) : ax_dc (YL nm) 516 (.iload_n 3) 1 517 := ⟨(by decide +kernel : decode code 516 = .ok (.iload_n 3, 1)), rfl⟩
theorem eL_517 (nm : String) : ax_dc (YL nm) 517 (.iconst 2) 1 518 := ⟨(by decide +kernel : decode code 517 = .ok (.iconst 2, 1)), rfl⟩
theorem eL_518 (nm : String) : ax_dc (YL nm) 518 (.iadd) 1 519 := ⟨(by decide +kernel : decode code 518 = .ok (.iadd, 1)), rfl⟩
theorem eL_519 (nm : String) : ax_dc (YL nm) 519 (.iaload) 1 520 := ⟨(by decide +kernel : decode code 519 = .ok (.iaload, 1)), rfl⟩
theorem eL_520 (nm : String) : ax_dc (YL nm) 520 (.aload_n 0) 1 521 := ⟨(by decide +kernel : decode code 520 = .ok (.aload_n 0, 1)), rfl⟩
theorem eL_521 (nm : String) : ax_dc (YL nm) 521 (.iload_n 3) 1 522 := ⟨(by decide +kernel : decode code 521 = .ok (.iload_n 3, 1)), rfl⟩
theorem eL_522 (nm : String) : ax_dc (YL nm) 522 (.iconst 3) 1 523 := ⟨(by decide +kernel : decode code 522 = .ok (.iconst 3, 1)), rfl⟩
theorem eL_523 (nm : String) : ax_dc (YL nm) 523 (.iadd) 1 524 := ⟨(by decide +kernel : decode code 523 = .ok (.iadd, 1)), rfl⟩
theorem eL_524 (nm : String) : ax_dc (YL nm) 524 (.iaload) 1 525 := ⟨(by decide +kernel : decode code 524 = .ok (.iaload, 1)), rfl⟩
theorem eL_525 (nm : String) : ax_dc (YL nm) 525 (.invokevirtual 63) 3 528 := ⟨(by decide +kernel : decode code 525 = .ok (.invokevirtual 63, 3)), rfl⟩
theorem eL_528 (nm : String) : ax_dc (YL nm) 528 (.aload_n 2) 1 529 := ⟨(by decide +kernel : decode code 528 = .ok (.aload_n 2, 1)), rfl⟩
theorem eL_529 (nm : String) : ax_dc (YL nm) 529 (.aload_n 0) 1 530 := ⟨(by decide +kernel : decode code 529 = .ok (.aload_n 0, 1)), rfl⟩
theorem eL_530 (nm : String) : ax_dc (YL nm) 530 (.iload_n 3) 1 531 := ⟨(by decide +kernel : decode code 530 = .ok (.iload_n 3, 1)), rfl⟩
theorem eL_531 (nm : String) : ax_dc (YL nm) 531 (.iconst 1) 1 532 := ⟨(by decide +kernel : decode code 531 = .ok (.iconst 1, 1)), rfl⟩
theorem eL_532 (nm : String) : ax_dc (YL nm) 532 (.iadd) 1 533 := ⟨(by decide +kernel : decode code 532 = .ok (.iadd, 1)), rfl⟩
theorem eL_533 (nm : String) : ax_dc (YL nm) 533 (.iaload) 1 534 := ⟨(by decide +kernel : decode code 533 = .ok (.iaload, 1)), rfl⟩
theorem eL_534 (nm : String) : ax_dc (YL nm) 534 (.aload_n 0) 1 535 := ⟨(by decide +kernel : decode code 534 = .ok (.aload_n 0, 1)), rfl⟩
theorem eL_535 (nm : String) : ax_dc (YL nm) 535 (.iload_n 3) 1 536 := ⟨(by decide +kernel : decode code 535 = .ok (.iload_n 3, 1)), rfl⟩
theorem eL_536 (nm : String) : ax_dc (YL nm) 536 (.iconst 2) 1 537 := ⟨(by decide +kernel : decode code 536 = .ok (.iconst 2, 1)), rfl⟩
theorem eL_537 (nm : String) : ax_dc (YL nm) 537 (.iadd) 1 538 := ⟨(by decide +kernel : decode code 537 = .ok (.iadd, 1)), rfl⟩
theorem eL_538 (nm : String) : ax_dc (YL nm) 538 (.iaload) 1 539 := ⟨(by decide +kernel : decode code 538 = .ok (.iaload, 1)), rfl⟩
theorem eL_539 (nm : String) : ax_dc (YL nm) 539 (.aload_n 0) 1 540 := ⟨(by decide +kernel : decode code 539 = .ok (.aload_n 0, 1)), rfl⟩
theorem eL_540 (nm : String) : ax_dc (YL nm) 540 (.iload_n 3) 1 541 := ⟨(by decide +kernel : decode code 540 = .ok (.iload_n 3, 1)), rfl⟩
theorem eL_541 (nm : String) : ax_dc (YL nm) 541 (.iconst 3) 1 542 := ⟨(by decide +kernel : decode code 541 = .ok (.iconst 3, 1)), rfl⟩
theorem eL_542 (nm : String) : ax_dc (YL nm) 542 (.iadd) 1 543 := ⟨(by decide +kernel : decode code 542 = .ok (.iadd, 1)), rfl⟩
theorem eL_543 (nm : String) : ax_dc (YL nm) 543 (.iaload) 1 544 := ⟨(by decide +kernel : decode code 543 = .ok (.iaload, 1)), rfl⟩
theorem eL_544 (nm : String) : ax_dc (YL nm) 544 (.invokevirtual 67) 3 547 := ⟨(by decide +kernel : decode code 544 = .ok (.invokevirtual 67, 3)), rfl⟩
theorem eL_547 (nm : String) : ax_dj (YL nm) 547 (.if_icmp .eq 860) 3 550 860 1407 := ⟨(by decide +kernel : decode code 547 = .ok (.if_icmp .eq 860, 3)), rfl, by decide⟩
theorem eL_550 (nm : String) : ax_dc (YL nm) 550 (.iconst 0) 1 551 := ⟨(by decide +kernel : decode code 550 = .ok (.iconst 0, 1)), rfl⟩
theorem eL_551 (nm : String) : ax_dc (YL nm) 551 (.ireturn) 1 552 := ⟨(by decide +kernel : decode code 551 = .ok (.ireturn, 1)), rfl⟩
theorem eL_552 (nm : String) : ax_dc (YL nm) 552 (.aload_n 1) 1 553 := ⟨(by decide +kernel : decode code 552 = .ok (.aload_n 1, 1)), rfl⟩
theorem eL_553 (nm : String) : ax_dc (YL nm) 553 (.aload_n 0) 1 554 := ⟨(by decide +kernel : decode code 553 = .ok (.aload_n 0, 1)), rfl⟩
theorem eL_554 (nm : String) : ax_dc (YL nm) 554 (.iload_n 3) 1 555 := ⟨(by decide +kernel : decode code 554 = .ok (.iload_n 3, 1)), rfl⟩
theorem eL_555 (nm : String) : ax_dc (YL nm) 555 (.iconst 1) 1 556 := ⟨(by decide +kernel : decode code 555 = .ok (.iconst 1, 1)), rfl⟩
theorem eL_556 (nm : String) : ax_dc (YL nm) 556 (.iadd) 1 557 := ⟨(by decide +kernel : decode code 556 = .ok (.iadd, 1)), rfl⟩
theorem eL_557 (nm : String) : ax_dc (YL nm) 557 (.iaload) 1 558 := ⟨(by decide +kernel : decode code 557 = .ok (.iaload, 1)), rfl⟩
theorem eL_558 (nm : String) : ax_dc (YL nm) 558 (.aload_n 0) 1 559 := ⟨(by decide +kernel : decode code 558 = .ok (.aload_n 0, 1)), rfl⟩
theorem eL_559 (nm : String) : ax_dc (YL nm) 559 (.iload_n 3) 1 560 := ⟨(by decide +kernel : decode code 559 = .ok (.iload_n 3, 1)), rfl⟩
theorem eL_560 (nm : String) : ax_dc (YL nm) 560 (.iconst 2) 1 561 := ⟨(by decide +kernel : decode code 560 = .ok (.iconst 2, 1)), rfl⟩
theorem eL_561 (nm : String) : ax_dc (YL nm) 561 (.iadd) 1 562 := ⟨(by decide +kernel : decode code 561 = .ok (.iadd, 1)), rfl⟩
theorem eL_562 (nm : String) : ax_dc (YL nm) 562 (.iaload) 1 563 := ⟨(by decide +kernel : decode code 562 = .ok (.iaload, 1)), rfl⟩
theorem eL_563 (nm : String) : ax_dc (YL nm) 563 (.invokevirtual 68) 3 566 := ⟨(by decide +kernel : decode code 563 = .ok (.invokevirtual 68, 3)), rfl⟩
theorem eL_566 (nm : String) : ax_dc (YL nm) 566 (.aload_n 2) 1 567 := ⟨(by decide +kernel : decode code 566 = .ok (.aload_n 2, 1)), rfl⟩
theorem eL_567 (nm : String) : ax_dc (YL nm) 567 (.aload_n 0) 1 568 := ⟨(by decide +kernel : decode code 567 = .ok (.aload_n 0, 1)), rfl⟩
theorem eL_568 (nm : String) : ax_dc (YL nm) 568 (.iload_n 3) 1 569 := ⟨(by decide +kernel : decode code 568 = .ok (.iload_n 3, 1)), rfl⟩
theorem eL_569 (nm : String) : ax_dc (YL nm) 569 (.iconst 1) 1 570 := ⟨(by decide +kernel : decode code 569 = .ok (.iconst 1, 1)), rfl⟩
theorem eL_570 (nm : String) : ax_dc (YL nm) 570 (.iadd) 1 571 := ⟨(by decide +kernel : decode code 570 = .ok (.iadd, 1)), rfl⟩
theorem eL_571 (nm : String) : ax_dc (YL nm) 571 (.iaload) 1 572 := ⟨(by decide +kernel : decode code 571 = .ok (.iaload, 1)), rfl⟩
theorem eL_572 (nm : String) : ax_dc (YL nm) 572 (.aload_n 0) 1 573 := ⟨(by decide +kernel : decode code 572 = .ok (.aload_n 0, 1)), rfl⟩
theorem eL_573 (nm : String) : ax_dc (YL nm) 573 (.iload_n 3) 1 574 := ⟨(by decide +kernel : decode code 573 = .ok (.iload_n 3, 1)), rfl⟩
theorem eL_574 (nm : String) : ax_dc (YL nm) 574 (.iconst 2) 1 575 := ⟨(by decide +kernel : decode code 574 = .ok (.iconst 2, 1)), rfl⟩
theorem eL_575 (nm : String) : ax_dc (YL nm) 575 (.iadd) 1 576 := ⟨(by decide +kernel : decode code 575 = .ok (.iadd, 1)), rfl⟩
theorem eL_576 (nm : String) : ax_dc (YL nm) 576 (.iaload) 1 577 := ⟨(by decide +kernel : decode code 576 = .ok (.iaload, 1)), rfl⟩
theorem eL_577 (nm : String) : ax_dc (YL nm) 577 (.invokevirtual 71) 3 580 := ⟨(by decide +kernel : decode code 577 = .ok (.invokevirtual 71, 3)), rfl⟩
theorem eL_580 (nm : String) : ax_dj (YL nm) 580 (.if_icmp .eq 827) 3 583 827 1407 := ⟨(by decide +kernel : decode code 580 = .ok (.if_icmp .eq 827, 3)), rfl, by decide⟩
theorem eL_583 (nm : String) : ax_dc (YL nm) 583 (.iconst 0) 1 584 := ⟨(by decide +kernel : decode code 583 = .ok (.iconst 0, 1)), rfl⟩
theorem eL_584 (nm : String) : ax_dc (YL nm) 584 (.ireturn) 1 585 := ⟨(by decide +kernel : decode code 584 = .ok (.ireturn, 1)), rfl⟩
theorem eL_585 (nm : String) : ax_dc (YL nm) 585 (.aload_n 1) 1 586 := ⟨(by decide +kernel : decode code 585 = .ok (.aload_n 1, 1)), rfl⟩
theorem eL_586 (nm : String) : ax_dc (YL nm) 586 (.aload_n 0) 1 587 := ⟨(by decide +kernel : decode code 586 = .ok (.aload_n 0, 1)), rfl⟩
theorem eL_587 (nm : String) : ax_dc (YL nm) 587 (.iload_n 3) 1 588 := ⟨(by decide +kernel : decode code 587 = .ok (.iload_n 3, 1)), rfl⟩
theorem eL_588 (nm : String) : ax_dc (YL nm) 588 (.iconst 1) 1 589 := ⟨(by decide +kernel : decode code 588 = .ok (.iconst 1, 1)), rfl⟩
theorem eL_589 (nm : String) : ax_dc (YL nm) 589 (.iadd) 1 590 := ⟨(by decide +kernel : decode code 589 = .ok (.iadd, 1)), rfl⟩
theorem eL_590 (nm : String) : ax_dc (YL nm) 590 (.iaload) 1 591 := ⟨(by decide +kernel : decode code 590 = .ok (.iaload, 1)), rfl⟩
theorem eL_591 (nm : String) : ax_dc (YL nm) 591 (.aload_n 0) 1 592 := ⟨(by decide +kernel : decode code 591 = .ok (.aload_n 0, 1)), rfl⟩
theorem eL_592 (nm : String) : ax_dc (YL nm) 592 (.iload_n 3) 1 593 := ⟨(by decide +kernel : decode code 592 = .ok (.iload_n 3, 1)), rfl⟩
theorem eL_593 (nm : String) : ax_dc (YL nm) 593 (.iconst 2) 1 594 := ⟨(by decide +kernel : decode code 593 = .ok (.iconst 2, 1)), rfl⟩
theorem eL_594 (nm : String) : ax_dc (YL nm) 594 (.iadd) 1 595 := ⟨(by decide +kernel : decode code 594 = .ok (.iadd, 1)), rfl⟩
theorem eL_595 (nm : String) : ax_dc (YL nm) 595 (.iaload) 1 596 := ⟨(by decide +kernel : decode code 595 = .ok (.iaload, 1)), rfl⟩
theorem eL_596 (nm : String) : ax_dc (YL nm) 596 (.aload_n 0) 1 597 := ⟨(by decide +kernel : decode code 596 = .ok (.aload_n 0, 1)), rfl⟩
theorem eL_597 (nm : String) : ax_dc (YL nm) 597 (.iload_n 3) 1 598 := ⟨(by decide +kernel : decode code 597 = .ok (.iload_n 3, 1)), rfl⟩
theorem eL_598 (nm : String) : ax_dc (YL nm) 598 (.iconst 3) 1 599 := ⟨(by decide +kernel : decode code 598 = .ok (.iconst 3, 1)), rfl⟩
theorem eL_599 (nm : String) : ax_dc (YL nm) 599 (.iadd) 1 600 := ⟨(by decide +kernel : decode code 599 = .ok (.iadd, 1)), rfl⟩
theorem eL_600 (nm : String) : ax_dc (YL nm) 600 (.iaload) 1 601 := ⟨(by decide +kernel : decode code 600 = .ok (.iaload, 1)), rfl⟩
theorem eL_601 (nm : String) : ax_dc (YL nm) 601 (.aload_n 0) 1 602 := ⟨(by decide +kernel : decode code 601 = .ok (.aload_n 0, 1)), rfl⟩
theorem eL_602 (nm : String) : ax_dc (YL nm) 602 (.iload_n 3) 1 603 := ⟨(by decide +kernel : decode code 602 = .ok (.iload_n 3, 1)), rfl⟩
theorem eL_603 (nm : String) : ax_dc (YL nm) 603 (.iconst 4) 1 604 := ⟨(by decide +kernel : decode code 603 = .ok (.iconst 4, 1)), rfl⟩
theorem eL_604 (nm : String) : ax_dc (YL nm) 604 (.iadd) 1 605 := ⟨(by decide +kernel : decode code 604 = .ok (.iadd, 1)), rfl⟩
theorem eL_605 (nm : String) : ax_dc (YL nm) 605 (.iaload) 1 606 := ⟨(by decide +kernel : decode code 605 = .ok (.iaload, 1)), rfl⟩
theorem eL_606 (nm : String) : ax_dc (YL nm) 606 (.aload_n 0) 1 607 := ⟨(by decide +kernel : decode code 606 = .ok (.aload_n 0, 1)), rfl⟩
theorem eL_607 (nm : String) : ax_dc (YL nm) 607 (.iload_n 3) 1 608 := ⟨(by decide +kernel : decode code 607 = .ok (.iload_n 3, 1)), rfl⟩
theorem eL_608 (nm : String) : ax_dc (YL nm) 608 (.iconst 5) 1 609 := ⟨(by decide +kernel : decode code 608 = .ok (.iconst 5, 1)), rfl⟩
theorem eL_609 (nm : String) : ax_dc (YL nm) 609 (.iadd) 1 610 := ⟨(by decide +kernel : decode code 609 = .ok (.iadd, 1)), rfl⟩
theorem eL_610 (nm : String) : ax_dc (YL nm) 610 (.iaload) 1 611 := ⟨(by decide +kernel : decode code 610 = .ok (.iaload, 1)), rfl⟩
theorem eL_611 (nm : String) : ax_dc (YL nm) 611 (.invokevirtual 72) 3 614 := ⟨(by decide +kernel : decode code 611 = .ok (.invokevirtual 72, 3)), rfl⟩
theorem eL_614 (nm : String) : ax_dc (YL nm) 614 (.aload_n 2) 1 615 := ⟨(by decide +kernel : decode code 614 = .ok (.aload_n 2, 1)), rfl⟩
theorem eL_615 (nm : String) : ax_dc (YL nm) 615 (.aload_n 0) 1 616 := ⟨(by decide +kernel : decode code 615 = .ok (.aload_n 0, 1)), rfl⟩
theorem eL_616 (nm : String) : ax_dc (YL nm) 616 (.iload_n 3) 1 617 := ⟨(by decide +kernel : decode code 616 = .ok (.iload_n 3, 1)), rfl⟩
theorem eL_617 (nm : String) : ax_dc (YL nm) 617 (.iconst 1) 1 618 := ⟨(by decide +kernel : decode code 617 = .ok (.iconst 1, 1)), rfl⟩
theorem eL_618 (nm : String) : ax_dc (YL nm) 618 (.iadd) 1 619 := ⟨(by decide +kernel : decode code 618 = .ok (.iadd, 1)), rfl⟩
theorem eL_619 (nm : String) : ax_dc (YL nm) 619 (.iaload) 1 620 := ⟨(by decide +kernel : decode code 619 = .ok (.iaload, 1)), rfl⟩
theorem eL_620 (nm : String) : ax_dc (YL nm) 620 (.aload_n 0) 1 621 := ⟨(by decide +kernel : decode code 620 = .ok (.aload_n 0, 1)), rfl⟩
theorem eL_621 (nm : String) : ax_dc (YL nm) 621 (.iload_n 3) 1 622 := ⟨(by decide +kernel : decode code 621 = .ok (.iload_n 3, 1)), rfl⟩
theorem eL_622 (nm : String) : ax_dc (YL nm) 622 (.iconst 2) 1 623 := ⟨(by decide +kernel : decode code 622 = .ok (.iconst 2, 1)), rfl⟩
theorem eL_623 (nm : String) : ax_dc (YL nm) 623 (.iadd) 1 624 := ⟨(by decide +kernel : decode code 623 = .ok (.iadd, 1)), rfl⟩
theorem eL_624 (nm : String) : ax_dc (YL nm) 624 (.iaload) 1 625 := ⟨(by decide +kernel : decode code 624 = .ok (.iaload, 1)), rfl⟩
theorem eL_625 (nm : String) : ax_dc (YL nm) 625 (.aload_n 0) 1 626 := ⟨(by decide +kernel : decode code 625 = .ok (.aload_n 0, 1)), rfl⟩
theorem eL_626 (nm : String) : ax_dc (YL nm) 626 (.iload_n 3) 1 627 := ⟨(by decide +kernel : decode code 626 = .ok (.iload_n 3, 1)), rfl⟩
theorem eL_627 (nm : String) : ax_dc (YL nm) 627 (.iconst 3) 1 628 := ⟨(by decide +kernel : decode code 627 = .ok (.iconst 3, 1)), rfl⟩
theorem eL_628 (nm : String) : ax_dc (YL nm) 628 (.iadd) 1 629 := ⟨(by decide +kernel : decode code 628 = .ok (.iadd, 1)), rfl⟩
theorem eL_629 (nm : String) : ax_dc (YL nm) 629 (.iaload) 1 630 := ⟨(by decide +kernel : decode code 629 = .ok (.iaload, 1)), rfl⟩
theorem eL_630 (nm : String) : ax_dc (YL nm) 630 (.aload_n 0) 1 631 := ⟨(by decide +kernel : decode code 630 = .ok (.aload_n 0, 1)), rfl⟩
theorem eL_631 (nm : String) : ax_dc (YL nm) 631 (.iload_n 3) 1 632 := ⟨(by decide +kernel : decode code 631 = .ok (.iload_n 3, 1)), rfl⟩
theorem eL_632 (nm : String) : ax_dc (YL nm) 632 (.iconst 4) 1 633 := ⟨(by decide +kernel : decode code 632 = .ok (.iconst 4, 1)), rfl⟩
theorem eL_633 (nm : String) : ax_dc (YL nm) 633 (.iadd) 1 634 := ⟨(by decide +kernel : decode code 633 = .ok (.iadd, 1)), rfl⟩
theorem eL_634 (nm : String) : ax_dc (YL nm) 634 (.iaload) 1 635 := ⟨(by decide +kernel : decode code 634 = .ok (.iaload, 1)), rfl⟩
theorem eL_635 (nm : String) : ax_dc (YL nm) 635 (.aload_n 0) 1 636 := ⟨(by decide +kernel : decode code 635 = .ok (.aload_n 0, 1)), rfl⟩
theorem eL_636 (nm : String) : ax_dc (YL nm) 636 (.iload_n 3) 1 637 := ⟨(by decide +kernel : decode code 636 = .ok (.iload_n 3, 1)), rfl⟩
theorem eL_637 (nm : String) : ax_dc (YL nm) 637 (.iconst 5) 1 638 := ⟨(by decide +kernel : decode code 637 = .ok (.iconst 5, 1)), rfl⟩
theorem eL_638 (nm : String) : ax_dc (YL nm) 638 (.iadd) 1 639 := ⟨(by decide +kernel : decode code 638 = .ok (.iadd, 1)), rfl⟩
theorem eL_639 (nm : String) : ax_dc (YL nm) 639 (.iaload) 1 640 := ⟨(by decide +kernel : decode code 639 = .ok (.iaload, 1)), rfl⟩
theorem eL_640 (nm : String) : ax_dc (YL nm) 640 (.invokevirtual 76) 3 643 := ⟨(by decide +kernel : decode code 640 = .ok (.invokevirtual 76, 3)), rfl⟩
theorem eL_643 (nm : String) : ax_dj (YL nm) 643 (.if_icmp .eq 764) 3 646 764 1407 := ⟨(by decide +kernel : decode code 643 = .ok (.if_icmp .eq 764, 3)), rfl, by decide⟩
theorem eL_646 (nm : String) : ax_dc (YL nm) 646 (.iconst 0) 1 647 := ⟨(by decide +kernel : decode code 646 = .ok (.iconst 0, 1)), rfl⟩
theorem eL_647 (nm : String) : ax_dc (YL nm) 647 (.ireturn) 1 648 := ⟨(by decide +kernel : decode code 647 = .ok (.ireturn, 1)), rfl⟩
theorem eL_648 (nm : String) : ax_dc (YL nm) 648 (.aload_n 1) 1 649 := ⟨(by decide +kernel : decode code 648 = .ok (.aload_n 1, 1)), rfl⟩
theorem eL_649 (nm : String) : ax_dc (YL nm) 649 (.aload_n 0) 1 650 := ⟨(by decide +kernel : decode code 649 = .ok (.aload_n 0, 1)), rfl⟩
theorem eL_650 (nm : String) : ax_dc (YL nm) 650 (.iload_n 3) 1 651 := ⟨(by decide +kernel : decode code 650 = .ok (.iload_n 3, 1)), rfl⟩
theorem eL_651 (nm : String) : ax_dc (YL nm) 651 (.iconst 1) 1 652 := ⟨(by decide +kernel : decode code 651 = .ok (.iconst 1, 1)), rfl⟩
theorem eL_652 (nm : String) : ax_dc (YL nm) 652 (.iadd) 1 653 := ⟨(by decide +kernel : decode code 652 = .ok (.iadd, 1)), rfl⟩
theorem eL_653 (nm : String) : ax_dc (YL nm) 653 (.iaload) 1 654 := ⟨(by decide +kernel : decode code 653 = .ok (.iaload, 1)), rfl⟩
theorem eL_654 (nm : String) : ax_dc (YL nm) 654 (.aload_n 0) 1 655 := ⟨(by decide +kernel : decode code 654 = .ok (.aload_n 0, 1)), rfl⟩
theorem eL_655 (nm : String) : ax_dc (YL nm) 655 (.iload_n 3) 1 656 := ⟨(by decide +kernel : decode code 655 = .ok (.iload_n 3, 1)), rfl⟩
theorem eL_656 (nm : String) : ax_dc (YL nm) 656 (.iconst 2) 1 657 := ⟨(by decide +kernel : decode code 656 = .ok (.iconst 2, 1)), rfl⟩
theorem eL_657 (nm : String) : ax_dc (YL nm) 657 (.iadd) 1 658 := ⟨(by decide +kernel : decode code 657 = .ok (.iadd, 1)), rfl⟩
theorem eL_658 (nm : String) : ax_dc (YL nm) 658 (.iaload) 1 659 := ⟨(by decide +kernel : decode code 658 = .ok (.iaload, 1)), rfl⟩
theorem eL_659 (nm : String) : ax_dc (YL nm) 659 (.aload_n 0) 1 660 := ⟨(by decide +kernel : decode code 659 = .ok (.aload_n 0, 1)), rfl⟩
theorem eL_660 (nm : String) : ax_dc (YL nm) 660 (.iload_n 3) 1 661 := ⟨(by decide +kernel : decode code 660 = .ok (.iload_n 3, 1)), rfl⟩
theorem eL_661 (nm : String) : ax_dc (YL nm) 661 (.iconst 3) 1 662 := ⟨(by decide +kernel : decode code 661 = .ok (.iconst 3, 1)), rfl⟩
theorem eL_662 (nm : String) : ax_dc (YL nm) 662 (.iadd) 1 663 := ⟨(by decide +kernel : decode code 662 = .ok (.iadd, 1)), rfl⟩
theorem eL_663 (nm : String) : ax_dc (YL nm) 663 (.iaload) 1 664 := ⟨(by decide +kernel : decode code 663 = .ok (.iaload, 1)), rfl⟩
theorem eL_664 (nm : String) : ax_dc (YL nm) 664 (.aload_n 0) 1 665 := ⟨(by decide +kernel : decode code 664 = .ok (.aload_n 0, 1)), rfl⟩
theorem eL_665 (nm : String) : ax_dc (YL nm) 665 (.iload_n 3) 1 666 := ⟨(by decide +kernel : decode code 665 = .ok (.iload_n 3, 1)), rfl⟩
theorem eL_666 (nm : String) : ax_dc (YL nm) 666 (.iconst 4) 1 667 := ⟨(by decide +kernel : decode code 666 = .ok (.iconst 4, 1)), rfl⟩
theorem eL_667 (nm : String) : ax_dc (YL nm) 667 (.iadd) 1 668 := ⟨(by decide +kernel : decode code 667 = .ok (.iadd, 1)), rfl⟩
theorem eL_668 (nm : String) : ax_dc (YL nm) 668 (.iaload) 1 669 := ⟨(by decide +kernel : decode code 668 = .ok (.iaload, 1)), rfl⟩
theorem eL_669 (nm : String) : ax_dc (YL nm) 669 (.aload_n 0) 1 670 := ⟨(by decide +kernel : decode code 669 = .ok (.aload_n 0, 1)), rfl⟩
theorem eL_670 (nm : String) : ax_dc (YL nm) 670 (.iload_n 3) 1 671 := ⟨(by decide +kernel : decode code 670 = .ok (.iload_n 3, 1)), rfl⟩
theorem eL_671 (nm : String) : ax_dc (YL nm) 671 (.iconst 5) 1 672 := ⟨(by decide +kernel : decode code 671 = .ok (.iconst 5, 1)), rfl⟩
theorem eL_672 (nm : String) : ax_dc (YL nm) 672 (.iadd) 1 673 := ⟨(by decide +kernel : decode code 672 = .ok (.iadd, 1)), rfl⟩
theorem eL_673 (nm : String) : ax_dc (YL nm) 673 (.iaload) 1 674 := ⟨(by decide +kernel : decode code 673 = .ok (.iaload, 1)), rfl⟩
theorem eL_674 (nm : String) : ax_dc (YL nm) 674 (.invokevirtual 77) 3 677 := ⟨(by decide +kernel : decode code 674 = .ok (.invokevirtual 77, 3)), rfl⟩
theorem eL_677 (nm : String) : ax_dc (YL nm) 677 (.aload_n 2) 1 678 := ⟨(by decide +kernel : decode code 677 = .ok (.aload_n 2, 1)), rfl⟩
theorem eL_678 (nm : String) : ax_dc (YL nm) 678 (.aload_n 0) 1 679 := ⟨(by decide +kernel : decode code 678 = .ok (.aload_n 0, 1)), rfl⟩
theorem eL_679 (nm : String) : ax_dc (YL nm) 679 (.iload_n 3) 1 680 := ⟨(by decide +kernel : decode code 679 = .ok (.iload_n 3, 1)), rfl⟩
theorem eL_680 (nm : String) : ax_dc (YL nm) 680 (.iconst 1) 1 681 := ⟨(by decide +kernel : decode code 680 = .ok (.iconst 1, 1)), rfl⟩
theorem eL_681 (nm : String) : ax_dc (YL nm) 681 (.iadd) 1 682 := ⟨(by decide +kernel : decode code 681 = .ok (.iadd, 1)), rfl⟩
theorem eL_682 (nm : String) : ax_dc (YL nm) 682 (.iaload) 1 683 := ⟨(by decide +kernel : decode code 682 = .ok (.iaload, 1)), rfl⟩
theorem eL_683 (nm : String) : ax_dc (YL nm) 683 (.aload_n 0) 1 684 := ⟨(by decide +kernel : decode code 683 = .ok (.aload_n 0, 1)), rfl⟩
theorem eL_684 (nm : String) : ax_dc (YL nm) 684 (.iload_n 3) 1 685 := ⟨(by decide +kernel : decode code 684 = .ok (.iload_n 3, 1)), rfl⟩
theorem eL_685 (nm : String) : ax_dc (YL nm) 685 (.iconst 2) 1 686 := ⟨(by decide +kernel : decode code 685 = .ok (.iconst 2, 1)), rfl⟩
theorem eL_686 (nm : String) : ax_dc (YL nm) 686 (.iadd) 1 687 := ⟨(by decide +kernel : decode code 686 = .ok (.iadd, 1)), rfl⟩
theorem eL_687 (nm : String) : ax_dc (YL nm) 687 (.iaload) 1 688 := ⟨(by decide +kernel : decode code 687 = .ok (.iaload, 1)), rfl⟩
theorem eL_688 (nm : String) : ax_dc (YL nm) 688 (.aload_n 0) 1 689 := ⟨(by decide +kernel : decode code 688 = .ok (.aload_n 0, 1)), rfl⟩
theorem eL_689 (nm : String) : ax_dc (YL nm) 689 (.iload_n 3) 1 690 := ⟨(by decide +kernel : decode code 689 = .ok (.iload_n 3, 1)), rfl⟩
theorem eL_690 (nm : String) : ax_dc (YL nm) 690 (.iconst 3) 1 691 := ⟨(by decide +kernel : decode code 690 = .ok (.iconst 3, 1)), rfl⟩
theorem eL_691 (nm : String) : ax_dc (YL nm) 691 (.iadd) 1 692 := ⟨(by decide +kernel : decode code 691 = .ok (.iadd, 1)), rfl⟩
theorem eL_692 (nm : String) : ax_dc (YL nm) 692 (.iaload) 1 693 := ⟨(by decide +kernel : decode code 692 = .ok (.iaload, 1)), rfl⟩
theorem eL_693 (nm : String) : ax_dc (YL nm) 693 (.aload_n 0) 1 694 := ⟨(by decide +kernel : decode code 693 = .ok (.aload_n 0, 1)), rfl⟩
theorem eL_694 (nm : String) : ax_dc (YL nm) 694 (.iload_n 3) 1 695 := ⟨(by decide +kernel : decode code 694 = .ok (.iload_n 3, 1)), rfl⟩
theorem eL_695 (nm : String) : ax_dc (YL nm) 695 (.iconst 4) 1 696 := ⟨(by decide +kernel : decode code 695 = .ok (.iconst 4, 1)), rfl⟩
theorem eL_696 (nm : String) : ax_dc (YL nm) 696 (.iadd) 1 697 := ⟨(by decide +kernel : decode code 696 = .ok (.iadd, 1)), rfl⟩
theorem eL_697 (nm : String) : ax_dc (YL nm) 697 (.iaload) 1 698 := ⟨(by decide +kernel : decode code 697 = .ok (.iaload, 1)), rfl⟩
theorem eL_698 (nm : String) : ax_dc (YL nm) 698 (.aload_n 0) 1 699 := ⟨(by decide +kernel : decode code 698 = .ok (.aload_n 0, 1)), rfl⟩
theorem eL_699 (nm : String) : ax_dc (YL nm) 699 (.iload_n 3) 1 700 := ⟨(by decide +kernel : decode code 699 = .ok (.iload_n 3, 1)), rfl⟩
theorem eL_700 (nm : String) : ax_dc (YL nm) 700 (.iconst 5) 1 701 := ⟨(by decide +kernel : decode code 700 = .ok (.iconst 5, 1)), rfl⟩
theorem eL_701 (nm : String) : ax_dc (YL nm) 701 (.iadd) 1 702 := ⟨(by decide +kernel : decode code 701 = .ok (.iadd, 1)), rfl⟩
theorem eL_702 (nm : String) : ax_dc (YL nm) 702 (.iaload) 1 703 := ⟨(by decide +kernel : decode code 702 = .ok (.iaload, 1)), rfl⟩
theorem eL_703 (nm : String) : ax_dc (YL nm) 703 (.invokevirtual 80) 3 706 := ⟨(by decide +kernel : decode code 703 = .ok (.invokevirtual 80, 3)), rfl⟩
theorem eL_706 (nm : String) : ax_dj (YL nm) 706 (.if_icmp .eq 701) 3 709 701 1407 := ⟨(by decide +kernel : decode code 706 = .ok (.if_icmp .eq 701, 3)), rfl, by decide⟩
theorem eL_709 (nm : String) : ax_dc (YL nm) 709 (.iconst 0) 1 710 := ⟨(by decide +kernel : decode code 709 = .ok (.iconst 0, 1)), rfl⟩
theorem eL_710 (nm : String) : ax_dc (YL nm) 710 (.ireturn) 1 711 := ⟨(by decide +kernel : decode code 710 = .ok (.ireturn, 1)), rfl⟩
theorem eL_711 (nm : String) : ax_dc (YL nm) 711 (.aload_n 1) 1 712 := ⟨(by decide +kernel : decode code 711 = .ok (.aload_n 1, 1)), rfl⟩
theorem eL_712 (nm : String) : ax_dc (YL nm) 712 (.aload_n 0) 1 713 := ⟨(by decide +kernel : decode code 712 = .ok (.aload_n 0, 1)), rfl⟩
theorem eL_713 (nm : String) : ax_dc (YL nm) 713 (.iload_n 3) 1 714 := ⟨(by decide +kernel : decode code 713 = .ok (.iload_n 3, 1)), rfl⟩
theorem eL_714 (nm : String) : ax_dc (YL nm) 714 (.iconst 1) 1 715 := ⟨(by decide +kernel : decode code 714 = .ok (.iconst 1, 1)), rfl⟩
theorem eL_715 (nm : String) : ax_dc (YL nm) 715 (.iadd) 1 716 := ⟨(by decide +kernel : decode code 715 = .ok (.iadd, 1)), rfl⟩
theorem eL_716 (nm : String) : ax_dc (YL nm) 716 (.iaload) 1 717 := ⟨(by decide +kernel : decode code 716 = .ok (.iaload, 1)), rfl⟩
theorem eL_717 (nm : String) : ax_dc (YL nm) 717 (.aload_n 0) 1 718 := ⟨(by decide +kernel : decode code 717 = .ok (.aload_n 0, 1)), rfl⟩
theorem eL_718 (nm : String) : ax_dc (YL nm) 718 (.iload_n 3) 1 719 := ⟨(by decide +kernel : decode code 718 = .ok (.iload_n 3, 1)), rfl⟩
theorem eL_719 (nm : String) : ax_dc (YL nm) 719 (.iconst 2) 1 720 := ⟨(by decide +kernel : decode code 719 = .ok (.iconst 2, 1)), rfl⟩
theorem eL_720 (nm : String) : ax_dc (YL nm) 720 (.iadd) 1 721 := ⟨(by decide +kernel : decode code 720 = .ok (.iadd, 1)), rfl⟩
theorem eL_721 (nm : String) : ax_dc (YL nm) 721 (.iaload) 1 722 := ⟨(by decide +kernel : decode code 721 = .ok (.iaload, 1)), rfl⟩
theorem eL_722 (nm : String) : ax_dc (YL nm) 722 (.aload_n 0) 1 723 := ⟨(by decide +kernel : decode code 722 = .ok (.aload_n 0, 1)), rfl⟩
theorem eL_723 (nm : String) : ax_dc (YL nm) 723 (.iload_n 3) 1 724 := ⟨(by decide +kernel : decode code 723 = .ok (.iload_n 3, 1)), rfl⟩
theorem eL_724 (nm : String) : ax_dc (YL nm) 724 (.iconst 3) 1 725 := ⟨(by decide +kernel : decode code 724 = .ok (.iconst 3, 1)), rfl⟩
theorem eL_725 (nm : String) : ax_dc (YL nm) 725 (.iadd) 1 726 := ⟨(by decide +kernel : decode code 725 = .ok (.iadd, 1)), rfl⟩
theorem eL_726 (nm : String) : ax_dc (YL nm) 726 (.iaload) 1 727 := ⟨(by decide +kernel : decode code 726 = .ok (.iaload, 1)), rfl⟩
theorem eL_727 (nm : String) : ax_dc (YL nm) 727 (.aload_n 0) 1 728 := ⟨(by decide +kernel : decode code 727 = .ok (.aload_n 0, 1)), rfl⟩
theorem eL_728 (nm : String) : ax_dc (YL nm) 728 (.iload_n 3) 1 729 := ⟨(by decide +kernel : decode code 728 = .ok (.iload_n 3, 1)), rfl⟩
theorem eL_729 (nm : String) : ax_dc (YL nm) 729 (.iconst 4) 1 730 := ⟨(by decide +kernel : decode code 729 = .ok (.iconst 4, 1)), rfl⟩
theorem eL_730 (nm : String) : ax_dc (YL nm) 730 (.iadd) 1 731 := ⟨(by decide +kernel : decode code 730 = .ok (.iadd, 1)), rfl⟩
theorem eL_731 (nm : String) : ax_dc (YL nm) 731 (.iaload) 1 732 := ⟨(by decide +kernel : decode code 731 = .ok (.iaload, 1)), rfl⟩
theorem eL_732 (nm : String) : ax_dc (YL nm) 732 (.invokevirtual 81) 3 735 := ⟨(by decide +kernel : decode code 732 = .ok (.invokevirtual 81, 3)), rfl⟩
theorem eL_735 (nm : String) : ax_dc (YL nm) 735 (.aload_n 2) 1 736 := ⟨(by decide +kernel : decode code 735 = .ok (.aload_n 2, 1)), rfl⟩
theorem eL_736 (nm : String) : ax_dc (YL nm) 736 (.aload_n 0) 1 737 := ⟨(by decide +kernel : decode code 736 = .ok (.aload_n 0, 1)), rfl⟩
theorem eL_737 (nm : String) : ax_dc (YL nm) 737 (.iload_n 3) 1 738 := ⟨(by decide +kernel : decode code 737 = .ok (.iload_n 3, 1)), rfl⟩
theorem eL_738 (nm : String) : ax_dc (YL nm) 738 (.iconst 1) 1 739 := ⟨(by decide +kernel : decode code 738 = .ok (.iconst 1, 1)), rfl⟩
theorem eL_739 (nm : String) : ax_dc (YL nm) 739 (.iadd) 1 740 := ⟨(by decide +kernel : decode code 739 = .ok (.iadd, 1)), rfl⟩
theorem eL_740 (nm : String) : ax_dc (YL nm) 740 (.iaload) 1 741 := ⟨(by decide +kernel : decode code 740 = .ok (.iaload, 1)), rfl⟩
theorem eL_741 (nm : String) : ax_dc (YL nm) 741 (.aload_n 0) 1 742 := ⟨(by decide +kernel : decode code 741 = .ok (.aload_n 0, 1)), rfl⟩
theorem eL_742 (nm : String) : ax_dc (YL nm) 742 (.iload_n 3) 1 743 := ⟨(by decide +kernel : decode code 742 = .ok (.iload_n 3, 1)), rfl⟩
theorem eL_743 (nm : String) : ax_dc (YL nm) 743 (.iconst 2) 1 744 := ⟨(by decide +kernel : decode code 743 = .ok (.iconst 2, 1)), rfl⟩
theorem eL_744 (nm : String) : ax_dc (YL nm) 744 (.iadd) 1 745 := ⟨(by decide +kernel : decode code 744 = .ok (.iadd, 1)), rfl⟩
theorem eL_745 (nm : String) : ax_dc (YL nm) 745 (.iaload) 1 746 := ⟨(by decide +kernel : decode code 745 = .ok (.iaload, 1)), rfl⟩
theorem eL_746 (nm : String) : ax_dc (YL nm) 746 (.aload_n 0) 1 747 := ⟨(by decide +kernel : decode code 746 = .ok (.aload_n 0, 1)), rfl⟩
theorem eL_747 (nm : String) : ax_dc (YL nm) 747 (.iload_n 3) 1 748 := ⟨(by decide +kernel : decode code 747 = .ok (.iload_n 3, 1)), rfl⟩
theorem eL_748 (nm : String) : ax_dc (YL nm) 748 (.iconst 3) 1 749 := ⟨(by decide +kernel : decode code 748 = .ok (.iconst 3, 1)), rfl⟩
theorem eL_749 (nm : String) : ax_dc (YL nm) 749 (.iadd) 1 750 := ⟨(by decide +kernel : decode code 749 = .ok (.iadd, 1)), rfl⟩
theorem eL_750 (nm : String) : ax_dc (YL nm) 750 (.iaload) 1 751 := ⟨(by decide +kernel : decode code 750 = .ok (.iaload, 1)), rfl⟩
theorem eL_751 (nm : String) : ax_dc (YL nm) 751 (.aload_n 0) 1 752 := ⟨(by decide +kernel : decode code 751 = .ok (.aload_n 0, 1)), rfl⟩
theorem eL_752 (nm : String) : ax_dc (YL nm) 752 (.iload_n 3) 1 753 := ⟨(by decide +kernel : decode code 752 = .ok (.iload_n 3, 1)), rfl⟩
theorem eL_753 (nm : String) : ax_dc (YL nm) 753 (.iconst 4) 1 754 := ⟨(by decide +kernel : decode code 753 = .ok (.iconst 4, 1)), rfl⟩
theorem eL_754 (nm : String) : ax_dc (YL nm) 754 (.iadd) 1 755 := ⟨(by decide +kernel : decode code 754 = .ok (.iadd, 1)), rfl⟩
theorem eL_755 (nm : String) : ax_dc (YL nm) 755 (.iaload) 1 756 := ⟨(by decide +kernel : decode code 755 = .ok (.iaload, 1)), rfl⟩
theorem eL_756 (nm : String) : ax_dc (YL nm) 756 (.invokevirtual 85) 3 759 := ⟨(by decide +kernel : decode code 756 = .ok (.invokevirtual 85, 3)), rfl⟩
theorem eL_759 (nm : String) : ax_dj (YL nm) 759 (.if_icmp .eq 648) 3 762 648 1407 := ⟨(by decide +kernel : decode code 759 = .ok (.if_icmp .eq 648, 3)), rfl, by decide⟩
theorem eL_762 (nm : String) : ax_dc (YL nm) 762 (.iconst 0) 1 763 := ⟨(by decide +kernel : decode code 762 = .ok (.iconst 0, 1)), rfl⟩
theorem eL_763 (nm : String) : ax_dc (YL nm) 763 (.ireturn) 1 764 := ⟨(by decide +kernel : decode code 763 = .ok (.ireturn, 1)), rfl⟩
theorem eL_764 (nm : String) : ax_dc (YL nm) 764 (.aload_n 1) 1 765 := ⟨(by decide +kernel : decode code 764 = .ok (.aload_n 1, 1)), rfl⟩
theorem eL_765 (nm : String) : ax_dc (YL nm) 765 (.aload_n 0) 1 766 := ⟨(by decide +kernel : decode code 765 = .ok (.aload_n 0, 1)), rfl⟩
theorem eL_766 (nm : String) : ax_dc (YL nm) 766 (.iload_n 3) 1 767 := ⟨(by decide +kernel : decode code 766 = .ok (.iload_n 3, 1)), rfl⟩
theorem eL_767 (nm : String) : ax_dc (YL nm) 767 (.iconst 1) 1 768 := ⟨(by decide +kernel : decode code 767 = .ok (.iconst 1, 1)), rfl⟩
theorem eL_768 (nm : String) : ax_dc (YL nm) 768 (.iadd) 1 769 := ⟨(by decide +kernel : decode code 768 = .ok (.iadd, 1)), rfl⟩
theorem eL_769 (nm : String) : ax_dc (YL nm) 769 (.iaload) 1 770 := ⟨(by decide +kernel : decode code 769 = .ok (.iaload, 1)), rfl⟩
theorem eL_770 (nm : String) : ax_dc (YL nm) 770 (.aload_n 0) 1 771 := ⟨(by decide +kernel : decode code 770 = .ok (.aload_n 0, 1)), rfl⟩
theorem eL_771 (nm : String) : ax_dc (YL nm) 771 (.iload_n 3) 1 772 := ⟨(by decide +kernel : decode code 771 = .ok (.iload_n 3, 1)), rfl⟩
theorem eL_772 (nm : String) : ax_dc (YL nm) 772 (.iconst 2) 1 773 := ⟨(by decide +kernel : decode code 772 = .ok (.iconst 2, 1)), rfl⟩
theorem eL_773 (nm : String) : ax_dc (YL nm) 773 (.iadd) 1 774 := ⟨(by decide +kernel : decode code 773 = .ok (.iadd, 1)), rfl⟩
theorem eL_774 (nm : String) : ax_dc (YL nm) 774 (.iaload) 1 775 := ⟨(by decide +kernel : decode code 774 = .ok (.iaload, 1)), rfl⟩
theorem eL_775 (nm : String) : ax_dc (YL nm) 775 (.invokevirtual 86) 3 778 := ⟨(by decide +kernel : decode code 775 = .ok (.invokevirtual 86, 3)), rfl⟩
theorem eL_778 (nm : String) : ax_dc (YL nm) 778 (.aload_n 2) 1 779 := ⟨(by decide +kernel : decode code 778 = .ok (.aload_n 2, 1)), rfl⟩
theorem eL_779 (nm : String) : ax_dc (YL nm) 779 (.aload_n 0) 1 780 := ⟨(by decide +kernel : decode code 779 = .ok (.aload_n 0, 1)), rfl⟩
theorem eL_780 (nm : String) : ax_dc (YL nm) 780 (.iload_n 3) 1 781 := ⟨(by decide +kernel : decode code 780 = .ok (.iload_n 3, 1)), rfl⟩
theorem eL_781 (nm : String) : ax_dc (YL nm) 781 (.iconst 1) 1 782 := ⟨(by decide +kernel : decode code 781 = .ok (.iconst 1, 1)), rfl⟩
