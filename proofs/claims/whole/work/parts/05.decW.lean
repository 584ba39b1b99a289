theorem zd_W_law_0 : decode zb_W_law 0 = .ok (.new 7, 3) ∧ 0 + 3 = 3 := ⟨by decide +kernel, rfl⟩
theorem zd_W_law_3 : decode zb_W_law 3 = .ok (.dup, 1) ∧ 3 + 1 = 4 := ⟨by decide +kernel, rfl⟩
theorem zd_W_law_4 : decode zb_W_law 4 = .ok (.invokespecial 9, 3) ∧ 4 + 3 = 7 := ⟨by decide +kernel, rfl⟩
theorem zd_W_law_7 : decode zb_W_law 7 = .ok (.astore_n 1, 1) ∧ 7 + 1 = 8 := ⟨by decide +kernel, rfl⟩
theorem zd_W_law_8 : decode zb_W_law 8 = .ok (.new 10, 3) ∧ 8 + 3 = 11 := ⟨by decide +kernel, rfl⟩
theorem zd_W_law_11 : decode zb_W_law 11 = .ok (.dup, 1) ∧ 11 + 1 = 12 := ⟨by decide +kernel, rfl⟩
theorem zd_W_law_12 : decode zb_W_law 12 = .ok (.invokespecial 12, 3) ∧ 12 + 3 = 15 := ⟨by decide +kernel, rfl⟩
theorem zd_W_law_15 : decode zb_W_law 15 = .ok (.astore_n 2, 1) ∧ 15 + 1 = 16 := ⟨by decide +kernel, rfl⟩
theorem zd_W_law_16 : decode zb_W_law 16 = .ok (.iconst 0, 1) ∧ 16 + 1 = 17 := ⟨by decide +kernel, rfl⟩
theorem zd_W_law_17 : decode zb_W_law 17 = .ok (.istore_n 3, 1) ∧ 17 + 1 = 18 := ⟨by decide +kernel, rfl⟩
theorem zd_W_law_18 : decode zb_W_law 18 = .ok (.iload_n 3, 1) ∧ 18 + 1 = 19 := ⟨by decide +kernel, rfl⟩
theorem zd_W_law_19 : decode zb_W_law 19 = .ok (.aload_n 0, 1) ∧ 19 + 1 = 20 := ⟨by decide +kernel, rfl⟩
theorem zd_W_law_20 : decode zb_W_law 20 = .ok (.arraylength, 1) ∧ 20 + 1 = 21 := ⟨by decide +kernel, rfl⟩
theorem zd_W_law_21 : decode zb_W_law 21 = .ok (.bipush 6, 2) ∧ 21 + 2 = 23 := ⟨by decide +kernel, rfl⟩
theorem zd_W_law_23 : decode zb_W_law 23 = .ok (.isub, 1) ∧ 23 + 1 = 24 := ⟨by decide +kernel, rfl⟩
theorem zd_W_law_24 : decode zb_W_law 24 = .ok (.if_icmp .gt 1188, 3) ∧ ((24 : Nat) : Int) + (1188) = ((1212 : Nat) : Int) ∧ 24 + 3 = 27 := ⟨by decide +kernel, by decide, rfl⟩
theorem zd_W_law_27 : decode zb_W_law 27 = .ok (.aload_n 0, 1) ∧ 27 + 1 = 28 := ⟨by decide +kernel, rfl⟩
theorem zd_W_law_28 : decode zb_W_law 28 = .ok (.iload_n 3, 1) ∧ 28 + 1 = 29 := ⟨by decide +kernel, rfl⟩
theorem zd_W_law_29 : decode zb_W_law 29 = .ok (.iaload, 1) ∧ 29 + 1 = 30 := ⟨by decide +kernel, rfl⟩
theorem zd_W_law_30 : decode zb_W_law 30 = .ok (.bipush 63, 2) ∧ 30 + 2 = 32 := ⟨by decide +kernel, rfl⟩
theorem zd_W_law_32 : decode zb_W_law 32 = .ok (.iand, 1) ∧ 32 + 1 = 33 := ⟨by decide +kernel, rfl⟩
theorem zd_W_law_33 : decode zb_W_law 33 = .ok (.tableswitch 1173 0 37 #[167, 230, 253, 266, 289, 312, 345, 388, 411, 424, 447, 460, 503, 526, 549, 572, 595, 618, 641, 674, 687, 726, 759, 792, 815, 838, 861, 874, 907, 960, 1003, 1026, 1049, 1088, 1111, 1124, 1137, 1160], 167) ∧ 33 + 167 = 200 := ⟨by decide +kernel, rfl⟩
theorem zd_W_law_200 : decode zb_W_law 200 = .ok (.aload_n 1, 1) ∧ 200 + 1 = 201 := ⟨by decide +kernel, rfl⟩
theorem zd_W_law_201 : decode zb_W_law 201 = .ok (.aload_n 0, 1) ∧ 201 + 1 = 202 := ⟨by decide +kernel, rfl⟩
theorem zd_W_law_202 : decode zb_W_law 202 = .ok (.iload_n 3, 1) ∧ 202 + 1 = 203 := ⟨by decide +kernel, rfl⟩
theorem zd_W_law_203 : decode zb_W_law 203 = .ok (.iconst 1, 1) ∧ 203 + 1 = 204 := ⟨by decide +kernel, rfl⟩
theorem zd_W_law_204 : decode zb_W_law 204 = .ok (.iadd, 1) ∧ 204 + 1 = 205 := ⟨by decide +kernel, rfl⟩
theorem zd_W_law_205 : decode zb_W_law 205 = .ok (.iaload, 1) ∧ 205 + 1 = 206 := ⟨by decide +kernel, rfl⟩
theorem zd_W_law_206 : decode zb_W_law 206 = .ok (.aload_n 0, 1) ∧ 206 + 1 = 207 := ⟨by decide +kernel, rfl⟩
theorem zd_W_law_207 : decode zb_W_law 207 = .ok (.iload_n 3, 1) ∧ 207 + 1 = 208 := ⟨by decide +kernel, rfl⟩
theorem zd_W_law_208 : decode zb_W_law 208 = .ok (.iconst 2, 1) ∧ 208 + 1 = 209 := ⟨by decide +kernel, rfl⟩
theorem zd_W_law_209 : decode zb_W_law 209 = .ok (.iadd, 1) ∧ 209 + 1 = 210 := ⟨by decide +kernel, rfl⟩
theorem zd_W_law_210 : decode zb_W_law 210 = .ok (.iaload, 1) ∧ 210 + 1 = 211 := ⟨by decide +kernel, rfl⟩
theorem zd_W_law_211 : decode zb_W_law 211 = .ok (.aload_n 0, 1) ∧ 211 + 1 = 212 := ⟨by decide +kernel, rfl⟩
theorem zd_W_law_212 : decode zb_W_law 212 = .ok (.iload_n 3, 1) ∧ 212 + 1 = 213 := ⟨by decide +kernel, rfl⟩
theorem zd_W_law_213 : decode zb_W_law 213 = .ok (.iconst 3, 1) ∧ 213 + 1 = 214 := ⟨by decide +kernel, rfl⟩
theorem zd_W_law_214 : decode zb_W_law 214 = .ok (.iadd, 1) ∧ 214 + 1 = 215 := ⟨by decide +kernel, rfl⟩
theorem zd_W_law_215 : decode zb_W_law 215 = .ok (.iaload, 1) ∧ 215 + 1 = 216 := ⟨by decide +kernel, rfl⟩
theorem zd_W_law_216 : decode zb_W_law 216 = .ok (.aload_n 0, 1) ∧ 216 + 1 = 217 := ⟨by decide +kernel, rfl⟩
theorem zd_W_law_217 : decode zb_W_law 217 = .ok (.iload_n 3, 1) ∧ 217 + 1 = 218 := ⟨by decide +kernel, rfl⟩
theorem zd_W_law_218 : decode zb_W_law 218 = .ok (.iconst 4, 1) ∧ 218 + 1 = 219 := ⟨by decide +kernel, rfl⟩
theorem zd_W_law_219 : decode zb_W_law 219 = .ok (.iadd, 1) ∧ 219 + 1 = 220 := ⟨by decide +kernel, rfl⟩
theorem zd_W_law_220 : decode zb_W_law 220 = .ok (.iaload, 1) ∧ 220 + 1 = 221 := ⟨by decide +kernel, rfl⟩
theorem zd_W_law_221 : decode zb_W_law 221 = .ok (.aload_n 0, 1) ∧ 221 + 1 = 222 := ⟨by decide +kernel, rfl⟩
theorem zd_W_law_222 : decode zb_W_law 222 = .ok (.iload_n 3, 1) ∧ 222 + 1 = 223 := ⟨by decide +kernel, rfl⟩
theorem zd_W_law_223 : decode zb_W_law 223 = .ok (.iconst 5, 1) ∧ 223 + 1 = 224 := ⟨by decide +kernel, rfl⟩
theorem zd_W_law_224 : decode zb_W_law 224 = .ok (.iadd, 1) ∧ 224 + 1 = 225 := ⟨by decide +kernel, rfl⟩
theorem zd_W_law_225 : decode zb_W_law 225 = .ok (.iaload, 1) ∧ 225 + 1 = 226 := ⟨by decide +kernel, rfl⟩
theorem zd_W_law_226 : decode zb_W_law 226 = .ok (.invokevirtual 13, 3) ∧ 226 + 3 = 229 := ⟨by decide +kernel, rfl⟩
theorem zd_W_law_229 : decode zb_W_law 229 = .ok (.aload_n 2, 1) ∧ 229 + 1 = 230 := ⟨by decide +kernel, rfl⟩
theorem zd_W_law_230 : decode zb_W_law 230 = .ok (.aload_n 0, 1) ∧ 230 + 1 = 231 := ⟨by decide +kernel, rfl⟩
theorem zd_W_law_231 : decode zb_W_law 231 = .ok (.iload_n 3, 1) ∧ 231 + 1 = 232 := ⟨by decide +kernel, rfl⟩
theorem zd_W_law_232 : decode zb_W_law 232 = .ok (.iconst 1, 1) ∧ 232 + 1 = 233 := ⟨by decide +kernel, rfl⟩
theorem zd_W_law_233 : decode zb_W_law 233 = .ok (.iadd, 1) ∧ 233 + 1 = 234 := ⟨by decide +kernel, rfl⟩
theorem zd_W_law_234 : decode zb_W_law 234 = .ok (.iaload, 1) ∧ 234 + 1 = 235 := ⟨by decide +kernel, rfl⟩
theorem zd_W_law_235 : decode zb_W_law 235 = .ok (.aload_n 0, 1) ∧ 235 + 1 = 236 := ⟨by decide +kernel, rfl⟩
theorem zd_W_law_236 : decode zb_W_law 236 = .ok (.iload_n 3, 1) ∧ 236 + 1 = 237 := ⟨by decide +kernel, rfl⟩
theorem zd_W_law_237 : decode zb_W_law 237 = .ok (.iconst 2, 1) ∧ 237 + 1 = 238 := ⟨by decide +kernel, rfl⟩
theorem zd_W_law_238 : decode zb_W_law 238 = .ok (.iadd, 1) ∧ 238 + 1 = 239 := ⟨by decide +kernel, rfl⟩
theorem zd_W_law_239 : decode zb_W_law 239 = .ok (.iaload, 1) ∧ 239 + 1 = 240 := ⟨by decide +kernel, rfl⟩
theorem zd_W_law_240 : decode zb_W_law 240 = .ok (.aload_n 0, 1) ∧ 240 + 1 = 241 := ⟨by decide +kernel, rfl⟩
theorem zd_W_law_241 : decode zb_W_law 241 = .ok (.iload_n 3, 1) ∧ 241 + 1 = 242 := ⟨by decide +kernel, rfl⟩
theorem zd_W_law_242 : decode zb_W_law 242 = .ok (.iconst 3, 1) ∧ 242 + 1 = 243 := ⟨by decide +kernel, rfl⟩
theorem zd_W_law_243 : decode zb_W_law 243 = .ok (.iadd, 1) ∧ 243 + 1 = 244 := ⟨by decide +kernel, rfl⟩
theorem zd_W_law_244 : decode zb_W_law 244 = .ok (.iaload, 1) ∧ 244 + 1 = 245 := ⟨by decide +kernel, rfl⟩
theorem zd_W_law_245 : decode zb_W_law 245 = .ok (.aload_n 0, 1) ∧ 245 + 1 = 246 := ⟨by decide +kernel, rfl⟩
theorem zd_W_law_246 : decode zb_W_law 246 = .ok (.iload_n 3, 1) ∧ 246 + 1 = 247 := ⟨by decide +kernel, rfl⟩
theorem zd_W_law_247 : decode zb_W_law 247 = .ok (.iconst 4, 1) ∧ 247 + 1 = 248 := ⟨by decide +kernel, rfl⟩
theorem zd_W_law_248 : decode zb_W_law 248 = .ok (.iadd, 1) ∧ 248 + 1 = 249 := ⟨by decide +kernel, rfl⟩
theorem zd_W_law_249 : decode zb_W_law 249 = .ok (.iaload, 1) ∧ 249 + 1 = 250 := ⟨by decide +kernel, rfl⟩
theorem zd_W_law_250 : decode zb_W_law 250 = .ok (.aload_n 0, 1) ∧ 250 + 1 = 251 := ⟨by decide +kernel, rfl⟩
theorem zd_W_law_251 : decode zb_W_law 251 = .ok (.iload_n 3, 1) ∧ 251 + 1 = 252 := ⟨by decide +kernel, rfl⟩
theorem zd_W_law_252 : decode zb_W_law 252 = .ok (.iconst 5, 1) ∧ 252 + 1 = 253 := ⟨by decide +kernel, rfl⟩
theorem zd_W_law_253 : decode zb_W_law 253 = .ok (.iadd, 1) ∧ 253 + 1 = 254 := ⟨by decide +kernel, rfl⟩
theorem zd_W_law_254 : decode zb_W_law 254 = .ok (.iaload, 1) ∧ 254 + 1 = 255 := ⟨by decide +kernel, rfl⟩
theorem zd_W_law_255 : decode zb_W_law 255 = .ok (.invokevirtual 17, 3) ∧ 255 + 3 = 258 := ⟨by decide +kernel, rfl⟩
theorem zd_W_law_258 : decode zb_W_law 258 = .ok (.if_icmp .eq 948, 3) ∧ ((258 : Nat) : Int) + (948) = ((1206 : Nat) : Int) ∧ 258 + 3 = 261 := ⟨by decide +kernel, by decide, rfl⟩
theorem zd_W_law_261 : decode zb_W_law 261 = .ok (.iconst 0, 1) ∧ 261 + 1 = 262 := ⟨by decide +kernel, rfl⟩
theorem zd_W_law_262 : decode zb_W_law 262 = .ok (.ireturn, 1) ∧ 262 + 1 = 263 := ⟨by decide +kernel, rfl⟩
theorem zd_W_law_263 : decode zb_W_law 263 = .ok (.aload_n 1, 1) ∧ 263 + 1 = 264 := ⟨by decide +kernel, rfl⟩
theorem zd_W_law_264 : decode zb_W_law 264 = .ok (.aload_n 0, 1) ∧ 264 + 1 = 265 := ⟨by decide +kernel, rfl⟩
theorem zd_W_law_265 : decode zb_W_law 265 = .ok (.iload_n 3, 1) ∧ 265 + 1 = 266 := ⟨by decide +kernel, rfl⟩
theorem zd_W_law_266 : decode zb_W_law 266 = .ok (.iconst 1, 1) ∧ 266 + 1 = 267 := ⟨by decide +kernel, rfl⟩
theorem zd_W_law_267 : decode zb_W_law 267 = .ok (.iadd, 1) ∧ 267 + 1 = 268 := ⟨by decide +kernel, rfl⟩
theorem zd_W_law_268 : decode zb_W_law 268 = .ok (.iaload, 1) ∧ 268 + 1 = 269 := ⟨by decide +kernel, rfl⟩
theorem zd_W_law_269 : decode zb_W_law 269 = .ok (.invokevirtual 18, 3) ∧ 269 + 3 = 272 := ⟨by decide +kernel, rfl⟩
theorem zd_W_law_272 : decode zb_W_law 272 = .ok (.aload_n 2, 1) ∧ 272 + 1 = 273 := ⟨by decide +kernel, rfl⟩
theorem zd_W_law_273 : decode zb_W_law 273 = .ok (.aload_n 0, 1) ∧ 273 + 1 = 274 := ⟨by decide +kernel, rfl⟩
theorem zd_W_law_274 : decode zb_W_law 274 = .ok (.iload_n 3, 1) ∧ 274 + 1 = 275 := ⟨by decide +kernel, rfl⟩
theorem zd_W_law_275 : decode zb_W_law 275 = .ok (.iconst 1, 1) ∧ 275 + 1 = 276 := ⟨by decide +kernel, rfl⟩
theorem zd_W_law_276 : decode zb_W_law 276 = .ok (.iadd, 1) ∧ 276 + 1 = 277 := ⟨by decide +kernel, rfl⟩
theorem zd_W_law_277 : decode zb_W_law 277 = .ok (.iaload, 1) ∧ 277 + 1 = 278 := ⟨by decide +kernel, rfl⟩
theorem zd_W_law_278 : decode zb_W_law 278 = .ok (.invokevirtual 22, 3) ∧ 278 + 3 = 281 := ⟨by decide +kernel, rfl⟩
theorem zd_W_law_281 : decode zb_W_law 281 = .ok (.if_icmp .eq 925, 3) ∧ ((281 : Nat) : Int) + (925) = ((1206 : Nat) : Int) ∧ 281 + 3 = 284 := ⟨by decide +kernel, by decide, rfl⟩
theorem zd_W_law_284 : decode zb_W_law 284 = .ok (.iconst 0, 1) ∧ 284 + 1 = 285 := ⟨by decide +kernel, rfl⟩
theorem zd_W_law_285 : decode zb_W_law 285 = .ok (.ireturn, 1) ∧ 285 + 1 = 286 := ⟨by decide +kernel, rfl⟩
theorem zd_W_law_286 : decode zb_W_law 286 = .ok (.aload_n 1, 1) ∧ 286 + 1 = 287 := ⟨by decide +kernel, rfl⟩
theorem zd_W_law_287 : decode zb_W_law 287 = .ok (.invokevirtual 23, 3) ∧ 287 + 3 = 290 := ⟨by decide +kernel, rfl⟩
theorem zd_W_law_290 : decode zb_W_law 290 = .ok (.aload_n 2, 1) ∧ 290 + 1 = 291 := ⟨by decide +kernel, rfl⟩
theorem zd_W_law_291 : decode zb_W_law 291 = .ok (.invokevirtual 27, 3) ∧ 291 + 3 = 294 := ⟨by decide +kernel, rfl⟩
theorem zd_W_law_294 : decode zb_W_law 294 = .ok (.if_icmp .eq 912, 3) ∧ ((294 : Nat) : Int) + (912) = ((1206 : Nat) : Int) ∧ 294 + 3 = 297 := ⟨by decide +kernel, by decide, rfl⟩
theorem zd_W_law_297 : decode zb_W_law 297 = .ok (.iconst 0, 1) ∧ 297 + 1 = 298 := ⟨by decide +kernel, rfl⟩
theorem zd_W_law_298 : decode zb_W_law 298 = .ok (.ireturn, 1) ∧ 298 + 1 = 299 := ⟨by decide +kernel, rfl⟩
theorem zd_W_law_299 : decode zb_W_law 299 = .ok (.aload_n 1, 1) ∧ 299 + 1 = 300 := ⟨by decide +kernel, rfl⟩
theorem zd_W_law_300 : decode zb_W_law 300 = .ok (.aload_n 0, 1) ∧ 300 + 1 = 301 := ⟨by decide +kernel, rfl⟩
theorem zd_W_law_301 : decode zb_W_law 301 = .ok (.iload_n 3, 1) ∧ 301 + 1 = 302 := ⟨by decide +kernel, rfl⟩
theorem zd_W_law_302 : decode zb_W_law 302 = .ok (.iconst 1, 1) ∧ 302 + 1 = 303 := ⟨by decide +kernel, rfl⟩
theorem zd_W_law_303 : decode zb_W_law 303 = .ok (.iadd, 1) ∧ 303 + 1 = 304 := ⟨by decide +kernel, rfl⟩
theorem zd_W_law_304 : decode zb_W_law 304 = .ok (.iaload, 1) ∧ 304 + 1 = 305 := ⟨by decide +kernel, rfl⟩
theorem zd_W_law_305 : decode zb_W_law 305 = .ok (.invokevirtual 28, 3) ∧ 305 + 3 = 308 := ⟨by decide +kernel, rfl⟩
theorem zd_W_law_308 : decode zb_W_law 308 = .ok (.aload_n 2, 1) ∧ 308 + 1 = 309 := ⟨by decide +kernel, rfl⟩
theorem zd_W_law_309 : decode zb_W_law 309 = .ok (.aload_n 0, 1) ∧ 309 + 1 = 310 := ⟨by decide +kernel, rfl⟩
theorem zd_W_law_310 : decode zb_W_law 310 = .ok (.iload_n 3, 1) ∧ 310 + 1 = 311 := ⟨by decide +kernel, rfl⟩
theorem zd_W_law_311 : decode zb_W_law 311 = .ok (.iconst 1, 1) ∧ 311 + 1 = 312 := ⟨by decide +kernel, rfl⟩
theorem zd_W_law_312 : decode zb_W_law 312 = .ok (.iadd, 1) ∧ 312 + 1 = 313 := ⟨by decide +kernel, rfl⟩
theorem zd_W_law_313 : decode zb_W_law 313 = .ok (.iaload, 1) ∧ 313 + 1 = 314 := ⟨by decide +kernel, rfl⟩
theorem zd_W_law_314 : decode zb_W_law 314 = .ok (.invokevirtual 32, 3) ∧ 314 + 3 = 317 := ⟨by decide +kernel, rfl⟩
theorem zd_W_law_317 : decode zb_W_law 317 = .ok (.if_icmp .eq 889, 3) ∧ ((317 : Nat) : Int) + (889) = ((1206 : Nat) : Int) ∧ 317 + 3 = 320 := ⟨by decide +kernel, by decide, rfl⟩
theorem zd_W_law_320 : decode zb_W_law 320 = .ok (.iconst 0, 1) ∧ 320 + 1 = 321 := ⟨by decide +kernel, rfl⟩
theorem zd_W_law_321 : decode zb_W_law 321 = .ok (.ireturn, 1) ∧ 321 + 1 = 322 := ⟨by decide +kernel, rfl⟩
theorem zd_W_law_322 : decode zb_W_law 322 = .ok (.aload_n 1, 1) ∧ 322 + 1 = 323 := ⟨by decide +kernel, rfl⟩
theorem zd_W_law_323 : decode zb_W_law 323 = .ok (.aload_n 0, 1) ∧ 323 + 1 = 324 := ⟨by decide +kernel, rfl⟩
theorem zd_W_law_324 : decode zb_W_law 324 = .ok (.iload_n 3, 1) ∧ 324 + 1 = 325 := ⟨by decide +kernel, rfl⟩
theorem zd_W_law_325 : decode zb_W_law 325 = .ok (.iconst 1, 1) ∧ 325 + 1 = 326 := ⟨by decide +kernel, rfl⟩
theorem zd_W_law_326 : decode zb_W_law 326 = .ok (.iadd, 1) ∧ 326 + 1 = 327 := ⟨by decide +kernel, rfl⟩
theorem zd_W_law_327 : decode zb_W_law 327 = .ok (.iaload, 1) ∧ 327 + 1 = 328 := ⟨by decide +kernel, rfl⟩
theorem zd_W_law_328 : decode zb_W_law 328 = .ok (.invokevirtual 33, 3) ∧ 328 + 3 = 331 := ⟨by decide +kernel, rfl⟩
theorem zd_W_law_331 : decode zb_W_law 331 = .ok (.aload_n 2, 1) ∧ 331 + 1 = 332 := ⟨by decide +kernel, rfl⟩
theorem zd_W_law_332 : decode zb_W_law 332 = .ok (.aload_n 0, 1) ∧ 332 + 1 = 333 := ⟨by decide +kernel, rfl⟩
theorem zd_W_law_333 : decode zb_W_law 333 = .ok (.iload_n 3, 1) ∧ 333 + 1 = 334 := ⟨by decide +kernel, rfl⟩
theorem zd_W_law_334 : decode zb_W_law 334 = .ok (.iconst 1, 1) ∧ 334 + 1 = 335 := ⟨by decide +kernel, rfl⟩
theorem zd_W_law_335 : decode zb_W_law 335 = .ok (.iadd, 1) ∧ 335 + 1 = 336 := ⟨by decide +kernel, rfl⟩
theorem zd_W_law_336 : decode zb_W_law 336 = .ok (.iaload, 1) ∧ 336 + 1 = 337 := ⟨by decide +kernel, rfl⟩
theorem zd_W_law_337 : decode zb_W_law 337 = .ok (.invokevirtual 36, 3) ∧ 337 + 3 = 340 := ⟨by decide +kernel, rfl⟩
theorem zd_W_law_340 : decode zb_W_law 340 = .ok (.if_icmp .eq 866, 3) ∧ ((340 : Nat) : Int) + (866) = ((1206 : Nat) : Int) ∧ 340 + 3 = 343 := ⟨by decide +kernel, by decide, rfl⟩
theorem zd_W_law_343 : decode zb_W_law 343 = .ok (.iconst 0, 1) ∧ 343 + 1 = 344 := ⟨by decide +kernel, rfl⟩
theorem zd_W_law_344 : decode zb_W_law 344 = .ok (.ireturn, 1) ∧ 344 + 1 = 345 := ⟨by decide +kernel, rfl⟩
theorem zd_W_law_345 : decode zb_W_law 345 = .ok (.aload_n 1, 1) ∧ 345 + 1 = 346 := ⟨by decide +kernel, rfl⟩
theorem zd_W_law_346 : decode zb_W_law 346 = .ok (.aload_n 0, 1) ∧ 346 + 1 = 347 := ⟨by decide +kernel, rfl⟩
theorem zd_W_law_347 : decode zb_W_law 347 = .ok (.iload_n 3, 1) ∧ 347 + 1 = 348 := ⟨by decide +kernel, rfl⟩
theorem zd_W_law_348 : decode zb_W_law 348 = .ok (.iconst 1, 1) ∧ 348 + 1 = 349 := ⟨by decide +kernel, rfl⟩
theorem zd_W_law_349 : decode zb_W_law 349 = .ok (.iadd, 1) ∧ 349 + 1 = 350 := ⟨by decide +kernel, rfl⟩
theorem zd_W_law_350 : decode zb_W_law 350 = .ok (.iaload, 1) ∧ 350 + 1 = 351 := ⟨by decide +kernel, rfl⟩
theorem zd_W_law_351 : decode zb_W_law 351 = .ok (.aload_n 0, 1) ∧ 351 + 1 = 352 := ⟨by decide +kernel, rfl⟩
theorem zd_W_law_352 : decode zb_W_law 352 = .ok (.iload_n 3, 1) ∧ 352 + 1 = 353 := ⟨by decide +kernel, rfl⟩
theorem zd_W_law_353 : decode zb_W_law 353 = .ok (.iconst 2, 1) ∧ 353 + 1 = 354 := ⟨by decide +kernel, rfl⟩
theorem zd_W_law_354 : decode zb_W_law 354 = .ok (.iadd, 1) ∧ 354 + 1 = 355 := ⟨by decide +kernel, rfl⟩
theorem zd_W_law_355 : decode zb_W_law 355 = .ok (.iaload, 1) ∧ 355 + 1 = 356 := ⟨by decide +kernel, rfl⟩
theorem zd_W_law_356 : decode zb_W_law 356 = .ok (.invokevirtual 37, 3) ∧ 356 + 3 = 359 := ⟨by decide +kernel, rfl⟩
theorem zd_W_law_359 : decode zb_W_law 359 = .ok (.aload_n 2, 1) ∧ 359 + 1 = 360 := ⟨by decide +kernel, rfl⟩
theorem zd_W_law_360 : decode zb_W_law 360 = .ok (.aload_n 0, 1) ∧ 360 + 1 = 361 := ⟨by decide +kernel, rfl⟩
theorem zd_W_law_361 : decode zb_W_law 361 = .ok (.iload_n 3, 1) ∧ 361 + 1 = 362 := ⟨by decide +kernel, rfl⟩
theorem zd_W_law_362 : decode zb_W_law 362 = .ok (.iconst 1, 1) ∧ 362 + 1 = 363 := ⟨by decide +kernel, rfl⟩
theorem zd_W_law_363 : decode zb_W_law 363 = .ok (.iadd, 1) ∧ 363 + 1 = 364 := ⟨by decide +kernel, rfl⟩
theorem zd_W_law_364 : decode zb_W_law 364 = .ok (.iaload, 1) ∧ 364 + 1 = 365 := ⟨by decide +kernel, rfl⟩
theorem zd_W_law_365 : decode zb_W_law 365 = .ok (.aload_n 0, 1) ∧ 365 + 1 = 366 := ⟨by decide +kernel, rfl⟩
theorem zd_W_law_366 : decode zb_W_law 366 = .ok (.iload_n 3, 1) ∧ 366 + 1 = 367 := ⟨by decide +kernel, rfl⟩
theorem zd_W_law_367 : decode zb_W_law 367 = .ok (.iconst 2, 1) ∧ 367 + 1 = 368 := ⟨by decide +kernel, rfl⟩
theorem zd_W_law_368 : decode zb_W_law 368 = .ok (.iadd, 1) ∧ 368 + 1 = 369 := ⟨by decide +kernel, rfl⟩
theorem zd_W_law_369 : decode zb_W_law 369 = .ok (.iaload, 1) ∧ 369 + 1 = 370 := ⟨by decide +kernel, rfl⟩
theorem zd_W_law_370 : decode zb_W_law 370 = .ok (.invokevirtual 41, 3) ∧ 370 + 3 = 373 := ⟨by decide +kernel, rfl⟩
theorem zd_W_law_373 : decode zb_W_law 373 = .ok (.if_icmp .eq 833, 3) ∧ ((373 : Nat) : Int) + (833) = ((1206 : Nat) : Int) ∧ 373 + 3 = 376 := ⟨by decide +kernel, by decide, rfl⟩
theorem zd_W_law_376 : decode zb_W_law 376 = .ok (.iconst 0, 1) ∧ 376 + 1 = 377 := ⟨by decide +kernel, rfl⟩
theorem zd_W_law_377 : decode zb_W_law 377 = .ok (.ireturn, 1) ∧ 377 + 1 = 378 := ⟨by decide +kernel, rfl⟩
theorem zd_W_law_378 : decode zb_W_law 378 = .ok (.aload_n 1, 1) ∧ 378 + 1 = 379 := ⟨by decide +kernel, rfl⟩
theorem zd_W_law_379 : decode zb_W_law 379 = .ok (.aload_n 0, 1) ∧ 379 + 1 = 380 := ⟨by decide +kernel, rfl⟩
theorem zd_W_law_380 : decode zb_W_law 380 = .ok (.iload_n 3, 1) ∧ 380 + 1 = 381 := ⟨by decide +kernel, rfl⟩
theorem zd_W_law_381 : decode zb_W_law 381 = .ok (.iconst 1, 1) ∧ 381 + 1 = 382 := ⟨by decide +kernel, rfl⟩
theorem zd_W_law_382 : decode zb_W_law 382 = .ok (.iadd, 1) ∧ 382 + 1 = 383 := ⟨by decide +kernel, rfl⟩
theorem zd_W_law_383 : decode zb_W_law 383 = .ok (.iaload, 1) ∧ 383 + 1 = 384 := ⟨by decide +kernel, rfl⟩
theorem zd_W_law_384 : decode zb_W_law 384 = .ok (.aload_n 0, 1) ∧ 384 + 1 = 385 := ⟨by decide +kernel, rfl⟩
theorem zd_W_law_385 : decode zb_W_law 385 = .ok (.iload_n 3, 1) ∧ 385 + 1 = 386 := ⟨by decide +kernel, rfl⟩
theorem zd_W_law_386 : decode zb_W_law 386 = .ok (.iconst 2, 1) ∧ 386 + 1 = 387 := ⟨by decide +kernel, rfl⟩
theorem zd_W_law_387 : decode zb_W_law 387 = .ok (.iadd, 1) ∧ 387 + 1 = 388 := ⟨by decide +kernel, rfl⟩
theorem zd_W_law_388 : decode zb_W_law 388 = .ok (.iaload, 1) ∧ 388 + 1 = 389 := ⟨by decide +kernel, rfl⟩
theorem zd_W_law_389 : decode zb_W_law 389 = .ok (.aload_n 0, 1) ∧ 389 + 1 = 390 := ⟨by decide +kernel, rfl⟩
theorem zd_W_law_390 : decode zb_W_law 390 = .ok (.iload_n 3, 1) ∧ 390 + 1 = 391 := ⟨by decide +kernel, rfl⟩
theorem zd_W_law_391 : decode zb_W_law 391 = .ok (.iconst 3, 1) ∧ 391 + 1 = 392 := ⟨by decide +kernel, rfl⟩
theorem zd_W_law_392 : decode zb_W_law 392 = .ok (.iadd, 1) ∧ 392 + 1 = 393 := ⟨by decide +kernel, rfl⟩
theorem zd_W_law_393 : decode zb_W_law 393 = .ok (.iaload, 1) ∧ 393 + 1 = 394 := ⟨by decide +kernel, rfl⟩
theorem zd_W_law_394 : decode zb_W_law 394 = .ok (.invokevirtual 42, 3) ∧ 394 + 3 = 397 := ⟨by decide +kernel, rfl⟩
theorem zd_W_law_397 : decode zb_W_law 397 = .ok (.aload_n 2, 1) ∧ 397 + 1 = 398 := ⟨by decide +kernel, rfl⟩
theorem zd_W_law_398 : decode zb_W_law 398 = .ok (.aload_n 0, 1) ∧ 398 + 1 = 399 := ⟨by decide +kernel, rfl⟩
theorem zd_W_law_399 : decode zb_W_law 399 = .ok (.iload_n 3, 1) ∧ 399 + 1 = 400 := ⟨by decide +kernel, rfl⟩
theorem zd_W_law_400 : decode zb_W_law 400 = .ok (.iconst 1, 1) ∧ 400 + 1 = 401 := ⟨by decide +kernel, rfl⟩
theorem zd_W_law_401 : decode zb_W_law 401 = .ok (.iadd, 1) ∧ 401 + 1 = 402 := ⟨by decide +kernel, rfl⟩
theorem zd_W_law_402 : decode zb_W_law 402 = .ok (.iaload, 1) ∧ 402 + 1 = 403 := ⟨by decide +kernel, rfl⟩
theorem zd_W_law_403 : decode zb_W_law 403 = .ok (.aload_n 0, 1) ∧ 403 + 1 = 404 := ⟨by decide +kernel, rfl⟩
theorem zd_W_law_404 : decode zb_W_law 404 = .ok (.iload_n 3, 1) ∧ 404 + 1 = 405 := ⟨by decide +kernel, rfl⟩
theorem zd_W_law_405 : decode zb_W_law 405 = .ok (.iconst 2, 1) ∧ 405 + 1 = 406 := ⟨by decide +kernel, rfl⟩
theorem zd_W_law_406 : decode zb_W_law 406 = .ok (.iadd, 1) ∧ 406 + 1 = 407 := ⟨by decide +kernel, rfl⟩
theorem zd_W_law_407 : decode zb_W_law 407 = .ok (.iaload, 1) ∧ 407 + 1 = 408 := ⟨by decide +kernel, rfl⟩
theorem zd_W_law_408 : decode zb_W_law 408 = .ok (.aload_n 0, 1) ∧ 408 + 1 = 409 := ⟨by decide +kernel, rfl⟩
theorem zd_W_law_409 : decode zb_W_law 409 = .ok (.iload_n 3, 1) ∧ 409 + 1 = 410 := ⟨by decide +kernel, rfl⟩
theorem zd_W_law_410 : decode zb_W_law 410 = .ok (.iconst 3, 1) ∧ 410 + 1 = 411 := ⟨by decide +kernel, rfl⟩
theorem zd_W_law_411 : decode zb_W_law 411 = .ok (.iadd, 1) ∧ 411 + 1 = 412 := ⟨by decide +kernel, rfl⟩
theorem zd_W_law_412 : decode zb_W_law 412 = .ok (.iaload, 1) ∧ 412 + 1 = 413 := ⟨by decide +kernel, rfl⟩
theorem zd_W_law_413 : decode zb_W_law 413 = .ok (.invokevirtual 46, 3) ∧ 413 + 3 = 416 := ⟨by decide +kernel, rfl⟩
theorem zd_W_law_416 : decode zb_W_law 416 = .ok (.if_icmp .eq 790, 3) ∧ ((416 : Nat) : Int) + (790) = ((1206 : Nat) : Int) ∧ 416 + 3 = 419 := ⟨by decide +kernel, by decide, rfl⟩
theorem zd_W_law_419 : decode zb_W_law 419 = .ok (.iconst 0, 1) ∧ 419 + 1 = 420 := ⟨by decide +kernel, rfl⟩
theorem zd_W_law_420 : decode zb_W_law 420 = .ok (.ireturn, 1) ∧ 420 + 1 = 421 := ⟨by decide +kernel, rfl⟩
theorem zd_W_law_421 : decode zb_W_law 421 = .ok (.aload_n 1, 1) ∧ 421 + 1 = 422 := ⟨by decide +kernel, rfl⟩
theorem zd_W_law_422 : decode zb_W_law 422 = .ok (.aload_n 0, 1) ∧ 422 + 1 = 423 := ⟨by decide +kernel, rfl⟩
theorem zd_W_law_423 : decode zb_W_law 423 = .ok (.iload_n 3, 1) ∧ 423 + 1 = 424 := ⟨by decide +kernel, rfl⟩
theorem zd_W_law_424 : decode zb_W_law 424 = .ok (.iconst 1, 1) ∧ 424 + 1 = 425 := ⟨by decide +kernel, rfl⟩
theorem zd_W_law_425 : decode zb_W_law 425 = .ok (.iadd, 1) ∧ 425 + 1 = 426 := ⟨by decide +kernel, rfl⟩
theorem zd_W_law_426 : decode zb_W_law 426 = .ok (.iaload, 1) ∧ 426 + 1 = 427 := ⟨by decide +kernel, rfl⟩
theorem zd_W_law_427 : decode zb_W_law 427 = .ok (.invokevirtual 47, 3) ∧ 427 + 3 = 430 := ⟨by decide +kernel, rfl⟩
theorem zd_W_law_430 : decode zb_W_law 430 = .ok (.aload_n 2, 1) ∧ 430 + 1 = 431 := ⟨by decide +kernel, rfl⟩
theorem zd_W_law_431 : decode zb_W_law 431 = .ok (.aload_n 0, 1) ∧ 431 + 1 = 432 := ⟨by decide +kernel, rfl⟩
theorem zd_W_law_432 : decode zb_W_law 432 = .ok (.iload_n 3, 1) ∧ 432 + 1 = 433 := ⟨by decide +kernel, rfl⟩
theorem zd_W_law_433 : decode zb_W_law 433 = .ok (.iconst 1, 1) ∧ 433 + 1 = 434 := ⟨by decide +kernel, rfl⟩
theorem zd_W_law_434 : decode zb_W_law 434 = .ok (.iadd, 1) ∧ 434 + 1 = 435 := ⟨by decide +kernel, rfl⟩
theorem zd_W_law_435 : decode zb_W_law 435 = .ok (.iaload, 1) ∧ 435 + 1 = 436 := ⟨by decide +kernel, rfl⟩
theorem zd_W_law_436 : decode zb_W_law 436 = .ok (.invokevirtual 50, 3) ∧ 436 + 3 = 439 := ⟨by decide +kernel, rfl⟩
theorem zd_W_law_439 : decode zb_W_law 439 = .ok (.if_icmp .eq 767, 3) ∧ ((439 : Nat) : Int) + (767) = ((1206 : Nat) : Int) ∧ 439 + 3 = 442 := ⟨by decide +kernel, by decide, rfl⟩
theorem zd_W_law_442 : decode zb_W_law 442 = .ok (.iconst 0, 1) ∧ 442 + 1 = 443 := ⟨by decide +kernel, rfl⟩
theorem zd_W_law_443 : decode zb_W_law 443 = .ok (.ireturn, 1) ∧ 443 + 1 = 444 := ⟨by decide +kernel, rfl⟩
theorem zd_W_law_444 : decode zb_W_law 444 = .ok (.aload_n 1, 1) ∧ 444 + 1 = 445 := ⟨by decide +kernel, rfl⟩
theorem zd_W_law_445 : decode zb_W_law 445 = .ok (.invokevirtual 51, 3) ∧ 445 + 3 = 448 := ⟨by decide +kernel, rfl⟩
theorem zd_W_law_448 : decode zb_W_law 448 = .ok (.aload_n 2, 1) ∧ 448 + 1 = 449 := ⟨by decide +kernel, rfl⟩
theorem zd_W_law_449 : decode zb_W_law 449 = .ok (.invokevirtual 54, 3) ∧ 449 + 3 = 452 := ⟨by decide +kernel, rfl⟩
theorem zd_W_law_452 : decode zb_W_law 452 = .ok (.if_icmp .eq 754, 3) ∧ ((452 : Nat) : Int) + (754) = ((1206 : Nat) : Int) ∧ 452 + 3 = 455 := ⟨by decide +kernel, by decide, rfl⟩
theorem zd_W_law_455 : decode zb_W_law 455 = .ok (.iconst 0, 1) ∧ 455 + 1 = 456 := ⟨by decide +kernel, rfl⟩
theorem zd_W_law_456 : decode zb_W_law 456 = .ok (.ireturn, 1) ∧ 456 + 1 = 457 := ⟨by decide +kernel, rfl⟩
theorem zd_W_law_457 : decode zb_W_law 457 = .ok (.aload_n 1, 1) ∧ 457 + 1 = 458 := ⟨by decide +kernel, rfl⟩
theorem zd_W_law_458 : decode zb_W_law 458 = .ok (.aload_n 0, 1) ∧ 458 + 1 = 459 := ⟨by decide +kernel, rfl⟩
theorem zd_W_law_459 : decode zb_W_law 459 = .ok (.iload_n 3, 1) ∧ 459 + 1 = 460 := ⟨by decide +kernel, rfl⟩
theorem zd_W_law_460 : decode zb_W_law 460 = .ok (.iconst 1, 1) ∧ 460 + 1 = 461 := ⟨by decide +kernel, rfl⟩
theorem zd_W_law_461 : decode zb_W_law 461 = .ok (.iadd, 1) ∧ 461 + 1 = 462 := ⟨by decide +kernel, rfl⟩
theorem zd_W_law_462 : decode zb_W_law 462 = .ok (.iaload, 1) ∧ 462 + 1 = 463 := ⟨by decide +kernel, rfl⟩
theorem zd_W_law_463 : decode zb_W_law 463 = .ok (.invokevirtual 55, 3) ∧ 463 + 3 = 466 := ⟨by decide +kernel, rfl⟩
theorem zd_W_law_466 : decode zb_W_law 466 = .ok (.aload_n 2, 1) ∧ 466 + 1 = 467 := ⟨by decide +kernel, rfl⟩
theorem zd_W_law_467 : decode zb_W_law 467 = .ok (.aload_n 0, 1) ∧ 467 + 1 = 468 := ⟨by decide +kernel, rfl⟩
theorem zd_W_law_468 : decode zb_W_law 468 = .ok (.iload_n 3, 1) ∧ 468 + 1 = 469 := ⟨by decide +kernel, rfl⟩
theorem zd_W_law_469 : decode zb_W_law 469 = .ok (.iconst 1, 1) ∧ 469 + 1 = 470 := ⟨by decide +kernel, rfl⟩
theorem zd_W_law_470 : decode zb_W_law 470 = .ok (.iadd, 1) ∧ 470 + 1 = 471 := ⟨by decide +kernel, rfl⟩
theorem zd_W_law_471 : decode zb_W_law 471 = .ok (.iaload, 1) ∧ 471 + 1 = 472 := ⟨by decide +kernel, rfl⟩
theorem zd_W_law_472 : decode zb_W_law 472 = .ok (.invokevirtual 58, 3) ∧ 472 + 3 = 475 := ⟨by decide +kernel, rfl⟩
theorem zd_W_law_475 : decode zb_W_law 475 = .ok (.if_icmp .eq 731, 3) ∧ ((475 : Nat) : Int) + (731) = ((1206 : Nat) : Int) ∧ 475 + 3 = 478 := ⟨by decide +kernel, by decide, rfl⟩
theorem zd_W_law_478 : decode zb_W_law 478 = .ok (.iconst 0, 1) ∧ 478 + 1 = 479 := ⟨by decide +kernel, rfl⟩
theorem zd_W_law_479 : decode zb_W_law 479 = .ok (.ireturn, 1) ∧ 479 + 1 = 480 := ⟨by decide +kernel, rfl⟩
theorem zd_W_law_480 : decode zb_W_law 480 = .ok (.aload_n 1, 1) ∧ 480 + 1 = 481 := ⟨by decide +kernel, rfl⟩
theorem zd_W_law_481 : decode zb_W_law 481 = .ok (.invokevirtual 59, 3) ∧ 481 + 3 = 484 := ⟨by decide +kernel, rfl⟩
theorem zd_W_law_484 : decode zb_W_law 484 = .ok (.aload_n 2, 1) ∧ 484 + 1 = 485 := ⟨by decide +kernel, rfl⟩
theorem zd_W_law_485 : decode zb_W_law 485 = .ok (.invokevirtual 62, 3) ∧ 485 + 3 = 488 := ⟨by decide +kernel, rfl⟩
theorem zd_W_law_488 : decode zb_W_law 488 = .ok (.if_icmp .eq 718, 3) ∧ ((488 : Nat) : Int) + (718) = ((1206 : Nat) : Int) ∧ 488 + 3 = 491 := ⟨by decide +kernel, by decide, rfl⟩
theorem zd_W_law_491 : decode zb_W_law 491 = .ok (.iconst 0, 1) ∧ 491 + 1 = 492 := ⟨by decide +kernel, rfl⟩
theorem zd_W_law_492 : decode zb_W_law 492 = .ok (.ireturn, 1) ∧ 492 + 1 = 493 := ⟨by decide +kernel, rfl⟩
theorem zd_W_law_493 : decode zb_W_law 493 = .ok (.aload_n 1, 1) ∧ 493 + 1 = 494 := ⟨by decide +kernel, rfl⟩
theorem zd_W_law_494 : decode zb_W_law 494 = .ok (.aload_n 0, 1) ∧ 494 + 1 = 495 := ⟨by decide +kernel, rfl⟩
theorem zd_W_law_495 : decode zb_W_law 495 = .ok (.iload_n 3, 1) ∧ 495 + 1 = 496 := ⟨by decide +kernel, rfl⟩
theorem zd_W_law_496 : decode zb_W_law 496 = .ok (.iconst 1, 1) ∧ 496 + 1 = 497 := ⟨by decide +kernel, rfl⟩
theorem zd_W_law_497 : decode zb_W_law 497 = .ok (.iadd, 1) ∧ 497 + 1 = 498 := ⟨by decide +kernel, rfl⟩
theorem zd_W_law_498 : decode zb_W_law 498 = .ok (.iaload, 1) ∧ 498 + 1 = 499 := ⟨by decide +kernel, rfl⟩
theorem zd_W_law_499 : decode zb_W_law 499 = .ok (.aload_n 0, 1) ∧ 499 + 1 = 500 := ⟨by decide +kernel, rfl⟩
theorem zd_W_law_500 : decode zb_W_law 500 = .ok (.iload_n 3, 1) ∧ 500 + 1 = 501 := ⟨by decide +kernel, rfl⟩
theorem zd_W_law_501 : decode zb_W_law 501 = .ok (.iconst 2, 1) ∧ 501 + 1 = 502 := ⟨by decide +kernel, rfl⟩
theorem zd_W_law_502 : decode zb_W_law 502 = .ok (.iadd, 1) ∧ 502 + 1 = 503 := ⟨by decide +kernel, rfl⟩
theorem zd_W_law_503 : decode zb_W_law 503 = .ok (.iaload, 1) ∧ 503 + 1 = 504 := ⟨by decide +kernel, rfl⟩
theorem zd_W_law_504 : decode zb_W_law 504 = .ok (.aload_n 0, 1) ∧ 504 + 1 = 505 := ⟨by decide +kernel, rfl⟩
theorem zd_W_law_505 : decode zb_W_law 505 = .ok (.iload_n 3, 1) ∧ 505 + 1 = 506 := ⟨by decide +kernel, rfl⟩
theorem zd_W_law_506 : decode zb_W_law 506 = .ok (.iconst 3, 1) ∧ 506 + 1 = 507 := ⟨by decide +kernel, rfl⟩
theorem zd_W_law_507 : decode zb_W_law 507 = .ok (.iadd, 1) ∧ 507 + 1 = 508 := ⟨by decide +kernel, rfl⟩
theorem zd_W_law_508 : decode zb_W_law 508 = .ok (.iaload, 1) ∧ 508 + 1 = 509 := ⟨by decide +kernel, rfl⟩
theorem zd_W_law_509 : decode zb_W_law 509 = .ok (.invokevirtual 63, 3) ∧ 509 + 3 = 512 := ⟨by decide +kernel, rfl⟩
theorem zd_W_law_512 : decode zb_W_law 512 = .ok (.aload_n 2, 1) ∧ 512 + 1 = 513 := ⟨by decide +kernel, rfl⟩
theorem zd_W_law_513 : decode zb_W_law 513 = .ok (.aload_n 0, 1) ∧ 513 + 1 = 514 := ⟨by decide +kernel, rfl⟩
theorem zd_W_law_514 : decode zb_W_law 514 = .ok (.iload_n 3, 1) ∧ 514 + 1 = 515 := ⟨by decide +kernel, rfl⟩
theorem zd_W_law_515 : decode zb_W_law 515 = .ok (.iconst 1, 1) ∧ 515 + 1 = 516 := ⟨by decide +kernel, rfl⟩
theorem zd_W_law_516 : decode zb_W_law 516 = .ok (.iadd, 1) ∧ 516 + 1 = 517 := ⟨by decide +kernel, rfl⟩
theorem zd_W_law_517 : decode zb_W_law 517 = .ok (.iaload, 1) ∧ 517 + 1 = 518 := ⟨by decide +kernel, rfl⟩
theorem zd_W_law_518 : decode zb_W_law 518 = .ok (.aload_n 0, 1) ∧ 518 + 1 = 519 := ⟨by decide +kernel, rfl⟩
theorem zd_W_law_519 : decode zb_W_law 519 = .ok (.iload_n 3, 1) ∧ 519 + 1 = 520 := ⟨by decide +kernel, rfl⟩
theorem zd_W_law_520 : decode zb_W_law 520 = .ok (.iconst 2, 1) ∧ 520 + 1 = 521 := ⟨by decide +kernel, rfl⟩
theorem zd_W_law_521 : decode zb_W_law 521 = .ok (.iadd, 1) ∧ 521 + 1 = 522 := ⟨by decide +kernel, rfl⟩
theorem zd_W_law_522 : decode zb_W_law 522 = .ok (.iaload, 1) ∧ 522 + 1 = 523 := ⟨by decide +kernel, rfl⟩
theorem zd_W_law_523 : decode zb_W_law 523 = .ok (.aload_n 0, 1) ∧ 523 + 1 = 524 := ⟨by decide +kernel, rfl⟩
theorem zd_W_law_524 : decode zb_W_law 524 = .ok (.iload_n 3, 1) ∧ 524 + 1 = 525 := ⟨by decide +kernel, rfl⟩
theorem zd_W_law_525 : decode zb_W_law 525 = .ok (.iconst 3, 1) ∧ 525 + 1 = 526 := ⟨by decide +kernel, rfl⟩
theorem zd_W_law_526 : decode zb_W_law 526 = .ok (.iadd, 1) ∧ 526 + 1 = 527 := ⟨by decide +kernel, rfl⟩
theorem zd_W_law_527 : decode zb_W_law 527 = .ok (.iaload, 1) ∧ 527 + 1 = 528 := ⟨by decide +kernel, rfl⟩
theorem zd_W_law_528 : decode zb_W_law 528 = .ok (.invokevirtual 66, 3) ∧ 528 + 3 = 531 := ⟨by decide +kernel, rfl⟩
theorem zd_W_law_531 : decode zb_W_law 531 = .ok (.if_icmp .eq 675, 3) ∧ ((531 : Nat) : Int) + (675) = ((1206 : Nat) : Int) ∧ 531 + 3 = 534 := ⟨by decide +kernel, by decide, rfl⟩
theorem zd_W_law_534 : decode zb_W_law 534 = .ok (.iconst 0, 1) ∧ 534 + 1 = 535 := ⟨by decide +kernel, rfl⟩
theorem zd_W_law_535 : decode zb_W_law 535 = .ok (.ireturn, 1) ∧ 535 + 1 = 536 := ⟨by decide +kernel, rfl⟩
theorem zd_W_law_536 : decode zb_W_law 536 = .ok (.aload_n 1, 1) ∧ 536 + 1 = 537 := ⟨by decide +kernel, rfl⟩
theorem zd_W_law_537 : decode zb_W_law 537 = .ok (.aload_n 0, 1) ∧ 537 + 1 = 538 := ⟨by decide +kernel, rfl⟩
theorem zd_W_law_538 : decode zb_W_law 538 = .ok (.iload_n 3, 1) ∧ 538 + 1 = 539 := ⟨by decide +kernel, rfl⟩
theorem zd_W_law_539 : decode zb_W_law 539 = .ok (.iconst 1, 1) ∧ 539 + 1 = 540 := ⟨by decide +kernel, rfl⟩
theorem zd_W_law_540 : decode zb_W_law 540 = .ok (.iadd, 1) ∧ 540 + 1 = 541 := ⟨by decide +kernel, rfl⟩
theorem zd_W_law_541 : decode zb_W_law 541 = .ok (.iaload, 1) ∧ 541 + 1 = 542 := ⟨by decide +kernel, rfl⟩
theorem zd_W_law_542 : decode zb_W_law 542 = .ok (.invokevirtual 67, 3) ∧ 542 + 3 = 545 := ⟨by decide +kernel, rfl⟩
theorem zd_W_law_545 : decode zb_W_law 545 = .ok (.aload_n 2, 1) ∧ 545 + 1 = 546 := ⟨by decide +kernel, rfl⟩
theorem zd_W_law_546 : decode zb_W_law 546 = .ok (.aload_n 0, 1) ∧ 546 + 1 = 547 := ⟨by decide +kernel, rfl⟩
theorem zd_W_law_547 : decode zb_W_law 547 = .ok (.iload_n 3, 1) ∧ 547 + 1 = 548 := ⟨by decide +kernel, rfl⟩
theorem zd_W_law_548 : decode zb_W_law 548 = .ok (.iconst 1, 1) ∧ 548 + 1 = 549 := ⟨by decide +kernel, rfl⟩
theorem zd_W_law_549 : decode zb_W_law 549 = .ok (.iadd, 1) ∧ 549 + 1 = 550 := ⟨by decide +kernel, rfl⟩
theorem zd_W_law_550 : decode zb_W_law 550 = .ok (.iaload, 1) ∧ 550 + 1 = 551 := ⟨by decide +kernel, rfl⟩
theorem zd_W_law_551 : decode zb_W_law 551 = .ok (.invokevirtual 70, 3) ∧ 551 + 3 = 554 := ⟨by decide +kernel, rfl⟩
theorem zd_W_law_554 : decode zb_W_law 554 = .ok (.if_icmp .eq 652, 3) ∧ ((554 : Nat) : Int) + (652) = ((1206 : Nat) : Int) ∧ 554 + 3 = 557 := ⟨by decide +kernel, by decide, rfl⟩
theorem zd_W_law_557 : decode zb_W_law 557 = .ok (.iconst 0, 1) ∧ 557 + 1 = 558 := ⟨by decide +kernel, rfl⟩
theorem zd_W_law_558 : decode zb_W_law 558 = .ok (.ireturn, 1) ∧ 558 + 1 = 559 := ⟨by decide +kernel, rfl⟩
theorem zd_W_law_559 : decode zb_W_law 559 = .ok (.aload_n 1, 1) ∧ 559 + 1 = 560 := ⟨by decide +kernel, rfl⟩
theorem zd_W_law_560 : decode zb_W_law 560 = .ok (.aload_n 0, 1) ∧ 560 + 1 = 561 := ⟨by decide +kernel, rfl⟩
theorem zd_W_law_561 : decode zb_W_law 561 = .ok (.iload_n 3, 1) ∧ 561 + 1 = 562 := ⟨by decide +kernel, rfl⟩
theorem zd_W_law_562 : decode zb_W_law 562 = .ok (.iconst 1, 1) ∧ 562 + 1 = 563 := ⟨by decide +kernel, rfl⟩
theorem zd_W_law_563 : decode zb_W_law 563 = .ok (.iadd, 1) ∧ 563 + 1 = 564 := ⟨by decide +kernel, rfl⟩
theorem zd_W_law_564 : decode zb_W_law 564 = .ok (.iaload, 1) ∧ 564 + 1 = 565 := ⟨by decide +kernel, rfl⟩
theorem zd_W_law_565 : decode zb_W_law 565 = .ok (.invokevirtual 71, 3) ∧ 565 + 3 = 568 := ⟨by decide +kernel, rfl⟩
theorem zd_W_law_568 : decode zb_W_law 568 = .ok (.aload_n 2, 1) ∧ 568 + 1 = 569 := ⟨by decide +kernel, rfl⟩
theorem zd_W_law_569 : decode zb_W_law 569 = .ok (.aload_n 0, 1) ∧ 569 + 1 = 570 := ⟨by decide +kernel, rfl⟩
theorem zd_W_law_570 : decode zb_W_law 570 = .ok (.iload_n 3, 1) ∧ 570 + 1 = 571 := ⟨by decide +kernel, rfl⟩
theorem zd_W_law_571 : decode zb_W_law 571 = .ok (.iconst 1, 1) ∧ 571 + 1 = 572 := ⟨by decide +kernel, rfl⟩
theorem zd_W_law_572 : decode zb_W_law 572 = .ok (.iadd, 1) ∧ 572 + 1 = 573 := ⟨by decide +kernel, rfl⟩
theorem zd_W_law_573 : decode zb_W_law 573 = .ok (.iaload, 1) ∧ 573 + 1 = 574 := ⟨by decide +kernel, rfl⟩
theorem zd_W_law_574 : decode zb_W_law 574 = .ok (.invokevirtual 74, 3) ∧ 574 + 3 = 577 := ⟨by decide +kernel, rfl⟩
theorem zd_W_law_577 : decode zb_W_law 577 = .ok (.if_icmp .eq 629, 3) ∧ ((577 : Nat) : Int) + (629) = ((1206 : Nat) : Int) ∧ 577 + 3 = 580 := ⟨by decide +kernel, by decide, rfl⟩
theorem zd_W_law_580 : decode zb_W_law 580 = .ok (.iconst 0, 1) ∧ 580 + 1 = 581 := ⟨by decide +kernel, rfl⟩
theorem zd_W_law_581 : decode zb_W_law 581 = .ok (.ireturn, 1) ∧ 581 + 1 = 582 := ⟨by decide +kernel, rfl⟩
theorem zd_W_law_582 : decode zb_W_law 582 = .ok (.aload_n 1, 1) ∧ 582 + 1 = 583 := ⟨by decide +kernel, rfl⟩
theorem zd_W_law_583 : decode zb_W_law 583 = .ok (.aload_n 0, 1) ∧ 583 + 1 = 584 := ⟨by decide +kernel, rfl⟩
theorem zd_W_law_584 : decode zb_W_law 584 = .ok (.iload_n 3, 1) ∧ 584 + 1 = 585 := ⟨by decide +kernel, rfl⟩
theorem zd_W_law_585 : decode zb_W_law 585 = .ok (.iconst 1, 1) ∧ 585 + 1 = 586 := ⟨by decide +kernel, rfl⟩
theorem zd_W_law_586 : decode zb_W_law 586 = .ok (.iadd, 1) ∧ 586 + 1 = 587 := ⟨by decide +kernel, rfl⟩
theorem zd_W_law_587 : decode zb_W_law 587 = .ok (.iaload, 1) ∧ 587 + 1 = 588 := ⟨by decide +kernel, rfl⟩
theorem zd_W_law_588 : decode zb_W_law 588 = .ok (.invokevirtual 75, 3) ∧ 588 + 3 = 591 := ⟨by decide +kernel, rfl⟩
theorem zd_W_law_591 : decode zb_W_law 591 = .ok (.aload_n 2, 1) ∧ 591 + 1 = 592 := ⟨by decide +kernel, rfl⟩
theorem zd_W_law_592 : decode zb_W_law 592 = .ok (.aload_n 0, 1) ∧ 592 + 1 = 593 := ⟨by decide +kernel, rfl⟩
theorem zd_W_law_593 : decode zb_W_law 593 = .ok (.iload_n 3, 1) ∧ 593 + 1 = 594 := ⟨by decide +kernel, rfl⟩
theorem zd_W_law_594 : decode zb_W_law 594 = .ok (.iconst 1, 1) ∧ 594 + 1 = 595 := ⟨by decide +kernel, rfl⟩
theorem zd_W_law_595 : decode zb_W_law 595 = .ok (.iadd, 1) ∧ 595 + 1 = 596 := ⟨by decide +kernel, rfl⟩
theorem zd_W_law_596 : decode zb_W_law 596 = .ok (.iaload, 1) ∧ 596 + 1 = 597 := ⟨by decide +kernel, rfl⟩
theorem zd_W_law_597 : decode zb_W_law 597 = .ok (.invokevirtual 78, 3) ∧ 597 + 3 = 600 := ⟨by decide +kernel, rfl⟩
theorem zd_W_law_600 : decode zb_W_law 600 = .ok (.if_icmp .eq 606, 3) ∧ ((600 : Nat) : Int) + (606) = ((1206 : Nat) : Int) ∧ 600 + 3 = 603 := ⟨by decide +kernel, by decide, rfl⟩
theorem zd_W_law_603 : decode zb_W_law 603 = .ok (.iconst 0, 1) ∧ 603 + 1 = 604 := ⟨by decide +kernel, rfl⟩
theorem zd_W_law_604 : decode zb_W_law 604 = .ok (.ireturn, 1) ∧ 604 + 1 = 605 := ⟨by decide +kernel, rfl⟩
theorem zd_W_law_605 : decode zb_W_law 605 = .ok (.aload_n 1, 1) ∧ 605 + 1 = 606 := ⟨by decide +kernel, rfl⟩
theorem zd_W_law_606 : decode zb_W_law 606 = .ok (.aload_n 0, 1) ∧ 606 + 1 = 607 := ⟨by decide +kernel, rfl⟩
theorem zd_W_law_607 : decode zb_W_law 607 = .ok (.iload_n 3, 1) ∧ 607 + 1 = 608 := ⟨by decide +kernel, rfl⟩
theorem zd_W_law_608 : decode zb_W_law 608 = .ok (.iconst 1, 1) ∧ 608 + 1 = 609 := ⟨by decide +kernel, rfl⟩
theorem zd_W_law_609 : decode zb_W_law 609 = .ok (.iadd, 1) ∧ 609 + 1 = 610 := ⟨by decide +kernel, rfl⟩
theorem zd_W_law_610 : decode zb_W_law 610 = .ok (.iaload, 1) ∧ 610 + 1 = 611 := ⟨by decide +kernel, rfl⟩
theorem zd_W_law_611 : decode zb_W_law 611 = .ok (.invokevirtual 79, 3) ∧ 611 + 3 = 614 := ⟨by decide +kernel, rfl⟩
theorem zd_W_law_614 : decode zb_W_law 614 = .ok (.aload_n 2, 1) ∧ 614 + 1 = 615 := ⟨by decide +kernel, rfl⟩
theorem zd_W_law_615 : decode zb_W_law 615 = .ok (.aload_n 0, 1) ∧ 615 + 1 = 616 := ⟨by decide +kernel, rfl⟩
theorem zd_W_law_616 : decode zb_W_law 616 = .ok (.iload_n 3, 1) ∧ 616 + 1 = 617 := ⟨by decide +kernel, rfl⟩
theorem zd_W_law_617 : decode zb_W_law 617 = .ok (.iconst 1, 1) ∧ 617 + 1 = 618 := ⟨by decide +kernel, rfl⟩
theorem zd_W_law_618 : decode zb_W_law 618 = .ok (.iadd, 1) ∧ 618 + 1 = 619 := ⟨by decide +kernel, rfl⟩
theorem zd_W_law_619 : decode zb_W_law 619 = .ok (.iaload, 1) ∧ 619 + 1 = 620 := ⟨by decide +kernel, rfl⟩
theorem zd_W_law_620 : decode zb_W_law 620 = .ok (.invokevirtual 82, 3) ∧ 620 + 3 = 623 := ⟨by decide +kernel, rfl⟩
theorem zd_W_law_623 : decode zb_W_law 623 = .ok (.if_icmp .eq 583, 3) ∧ ((623 : Nat) : Int) + (583) = ((1206 : Nat) : Int) ∧ 623 + 3 = 626 := ⟨by decide +kernel, by decide, rfl⟩
theorem zd_W_law_626 : decode zb_W_law 626 = .ok (.iconst 0, 1) ∧ 626 + 1 = 627 := ⟨by decide +kernel, rfl⟩
theorem zd_W_law_627 : decode zb_W_law 627 = .ok (.ireturn, 1) ∧ 627 + 1 = 628 := ⟨by decide +kernel, rfl⟩
theorem zd_W_law_628 : decode zb_W_law 628 = .ok (.aload_n 1, 1) ∧ 628 + 1 = 629 := ⟨by decide +kernel, rfl⟩
theorem zd_W_law_629 : decode zb_W_law 629 = .ok (.aload_n 0, 1) ∧ 629 + 1 = 630 := ⟨by decide +kernel, rfl⟩
theorem zd_W_law_630 : decode zb_W_law 630 = .ok (.iload_n 3, 1) ∧ 630 + 1 = 631 := ⟨by decide +kernel, rfl⟩
theorem zd_W_law_631 : decode zb_W_law 631 = .ok (.iconst 1, 1) ∧ 631 + 1 = 632 := ⟨by decide +kernel, rfl⟩
theorem zd_W_law_632 : decode zb_W_law 632 = .ok (.iadd, 1) ∧ 632 + 1 = 633 := ⟨by decide +kernel, rfl⟩
theorem zd_W_law_633 : decode zb_W_law 633 = .ok (.iaload, 1) ∧ 633 + 1 = 634 := ⟨by decide +kernel, rfl⟩
theorem zd_W_law_634 : decode zb_W_law 634 = .ok (.invokevirtual 83, 3) ∧ 634 + 3 = 637 := ⟨by decide +kernel, rfl⟩
theorem zd_W_law_637 : decode zb_W_law 637 = .ok (.aload_n 2, 1) ∧ 637 + 1 = 638 := ⟨by decide +kernel, rfl⟩
theorem zd_W_law_638 : decode zb_W_law 638 = .ok (.aload_n 0, 1) ∧ 638 + 1 = 639 := ⟨by decide +kernel, rfl⟩
theorem zd_W_law_639 : decode zb_W_law 639 = .ok (.iload_n 3, 1) ∧ 639 + 1 = 640 := ⟨by decide +kernel, rfl⟩
theorem zd_W_law_640 : decode zb_W_law 640 = .ok (.iconst 1, 1) ∧ 640 + 1 = 641 := ⟨by decide +kernel, rfl⟩
theorem zd_W_law_641 : decode zb_W_law 641 = .ok (.iadd, 1) ∧ 641 + 1 = 642 := ⟨by decide +kernel, rfl⟩
theorem zd_W_law_642 : decode zb_W_law 642 = .ok (.iaload, 1) ∧ 642 + 1 = 643 := ⟨by decide +kernel, rfl⟩
theorem zd_W_law_643 : decode zb_W_law 643 = .ok (.invokevirtual 86, 3) ∧ 643 + 3 = 646 := ⟨by decide +kernel, rfl⟩
theorem zd_W_law_646 : decode zb_W_law 646 = .ok (.if_icmp .eq 560, 3) ∧ ((646 : Nat) : Int) + (560) = ((1206 : Nat) : Int) ∧ 646 + 3 = 649 := ⟨by decide +kernel, by decide, rfl⟩
theorem zd_W_law_649 : decode zb_W_law 649 = .ok (.iconst 0, 1) ∧ 649 + 1 = 650 := ⟨by decide +kernel, rfl⟩
theorem zd_W_law_650 : decode zb_W_law 650 = .ok (.ireturn, 1) ∧ 650 + 1 = 651 := ⟨by decide +kernel, rfl⟩
theorem zd_W_law_651 : decode zb_W_law 651 = .ok (.aload_n 1, 1) ∧ 651 + 1 = 652 := ⟨by decide +kernel, rfl⟩
theorem zd_W_law_652 : decode zb_W_law 652 = .ok (.aload_n 0, 1) ∧ 652 + 1 = 653 := ⟨by decide +kernel, rfl⟩
theorem zd_W_law_653 : decode zb_W_law 653 = .ok (.iload_n 3, 1) ∧ 653 + 1 = 654 := ⟨by decide +kernel, rfl⟩
theorem zd_W_law_654 : decode zb_W_law 654 = .ok (.iconst 1, 1) ∧ 654 + 1 = 655 := ⟨by decide +kernel, rfl⟩
theorem zd_W_law_655 : decode zb_W_law 655 = .ok (.iadd, 1) ∧ 655 + 1 = 656 := ⟨by decide +kernel, rfl⟩
theorem zd_W_law_656 : decode zb_W_law 656 = .ok (.iaload, 1) ∧ 656 + 1 = 657 := ⟨by decide +kernel, rfl⟩
theorem zd_W_law_657 : decode zb_W_law 657 = .ok (.invokevirtual 87, 3) ∧ 657 + 3 = 660 := ⟨by decide +kernel, rfl⟩
theorem zd_W_law_660 : decode zb_W_law 660 = .ok (.aload_n 2, 1) ∧ 660 + 1 = 661 := ⟨by decide +kernel, rfl⟩
theorem zd_W_law_661 : decode zb_W_law 661 = .ok (.aload_n 0, 1) ∧ 661 + 1 = 662 := ⟨by decide +kernel, rfl⟩
theorem zd_W_law_662 : decode zb_W_law 662 = .ok (.iload_n 3, 1) ∧ 662 + 1 = 663 := ⟨by decide +kernel, rfl⟩
theorem zd_W_law_663 : decode zb_W_law 663 = .ok (.iconst 1, 1) ∧ 663 + 1 = 664 := ⟨by decide +kernel, rfl⟩
theorem zd_W_law_664 : decode zb_W_law 664 = .ok (.iadd, 1) ∧ 664 + 1 = 665 := ⟨by decide +kernel, rfl⟩
theorem zd_W_law_665 : decode zb_W_law 665 = .ok (.iaload, 1) ∧ 665 + 1 = 666 := ⟨by decide +kernel, rfl⟩
theorem zd_W_law_666 : decode zb_W_law 666 = .ok (.invokevirtual 90, 3) ∧ 666 + 3 = 669 := ⟨by decide +kernel, rfl⟩
theorem zd_W_law_669 : decode zb_W_law 669 = .ok (.if_icmp .eq 537, 3) ∧ ((669 : Nat) : Int) + (537) = ((1206 : Nat) : Int) ∧ 669 + 3 = 672 := ⟨by decide +kernel, by decide, rfl⟩
theorem zd_W_law_672 : decode zb_W_law 672 = .ok (.iconst 0, 1) ∧ 672 + 1 = 673 := ⟨by decide +kernel, rfl⟩
theorem zd_W_law_673 : decode zb_W_law 673 = .ok (.ireturn, 1) ∧ 673 + 1 = 674 := ⟨by decide +kernel, rfl⟩
theorem zd_W_law_674 : decode zb_W_law 674 = .ok (.aload_n 1, 1) ∧ 674 + 1 = 675 := ⟨by decide +kernel, rfl⟩
theorem zd_W_law_675 : decode zb_W_law 675 = .ok (.aload_n 0, 1) ∧ 675 + 1 = 676 := ⟨by decide +kernel, rfl⟩
theorem zd_W_law_676 : decode zb_W_law 676 = .ok (.iload_n 3, 1) ∧ 676 + 1 = 677 := ⟨by decide +kernel, rfl⟩
theorem zd_W_law_677 : decode zb_W_law 677 = .ok (.iconst 1, 1) ∧ 677 + 1 = 678 := ⟨by decide +kernel, rfl⟩
theorem zd_W_law_678 : decode zb_W_law 678 = .ok (.iadd, 1) ∧ 678 + 1 = 679 := ⟨by decide +kernel, rfl⟩
theorem zd_W_law_679 : decode zb_W_law 679 = .ok (.iaload, 1) ∧ 679 + 1 = 680 := ⟨by decide +kernel, rfl⟩
theorem zd_W_law_680 : decode zb_W_law 680 = .ok (.aload_n 0, 1) ∧ 680 + 1 = 681 := ⟨by decide +kernel, rfl⟩
theorem zd_W_law_681 : decode zb_W_law 681 = .ok (.iload_n 3, 1) ∧ 681 + 1 = 682 := ⟨by decide +kernel, rfl⟩
theorem zd_W_law_682 : decode zb_W_law 682 = .ok (.iconst 2, 1) ∧ 682 + 1 = 683 := ⟨by decide +kernel, rfl⟩
theorem zd_W_law_683 : decode zb_W_law 683 = .ok (.iadd, 1) ∧ 683 + 1 = 684 := ⟨by decide +kernel, rfl⟩
theorem zd_W_law_684 : decode zb_W_law 684 = .ok (.iaload, 1) ∧ 684 + 1 = 685 := ⟨by decide +kernel, rfl⟩
theorem zd_W_law_685 : decode zb_W_law 685 = .ok (.invokevirtual 91, 3) ∧ 685 + 3 = 688 := ⟨by decide +kernel, rfl⟩
theorem zd_W_law_688 : decode zb_W_law 688 = .ok (.aload_n 2, 1) ∧ 688 + 1 = 689 := ⟨by decide +kernel, rfl⟩
theorem zd_W_law_689 : decode zb_W_law 689 = .ok (.aload_n 0, 1) ∧ 689 + 1 = 690 := ⟨by decide +kernel, rfl⟩
theorem zd_W_law_690 : decode zb_W_law 690 = .ok (.iload_n 3, 1) ∧ 690 + 1 = 691 := ⟨by decide +kernel, rfl⟩
theorem zd_W_law_691 : decode zb_W_law 691 = .ok (.iconst 1, 1) ∧ 691 + 1 = 692 := ⟨by decide +kernel, rfl⟩
theorem zd_W_law_692 : decode zb_W_law 692 = .ok (.iadd, 1) ∧ 692 + 1 = 693 := ⟨by decide +kernel, rfl⟩
theorem zd_W_law_693 : decode zb_W_law 693 = .ok (.iaload, 1) ∧ 693 + 1 = 694 := ⟨by decide +kernel, rfl⟩
theorem zd_W_law_694 : decode zb_W_law 694 = .ok (.aload_n 0, 1) ∧ 694 + 1 = 695 := ⟨by decide +kernel, rfl⟩
theorem zd_W_law_695 : decode zb_W_law 695 = .ok (.iload_n 3, 1) ∧ 695 + 1 = 696 := ⟨by decide +kernel, rfl⟩
theorem zd_W_law_696 : decode zb_W_law 696 = .ok (.iconst 2, 1) ∧ 696 + 1 = 697 := ⟨by decide +kernel, rfl⟩
theorem zd_W_law_697 : decode zb_W_law 697 = .ok (.iadd, 1) ∧ 697 + 1 = 698 := ⟨by decide +kernel, rfl⟩
theorem zd_W_law_698 : decode zb_W_law 698 = .ok (.iaload, 1) ∧ 698 + 1 = 699 := ⟨by decide +kernel, rfl⟩
theorem zd_W_law_699 : decode zb_W_law 699 = .ok (.invokevirtual 95, 3) ∧ 699 + 3 = 702 := ⟨by decide +kernel, rfl⟩
theorem zd_W_law_702 : decode zb_W_law 702 = .ok (.if_icmp .eq 504, 3) ∧ ((702 : Nat) : Int) + (504) = ((1206 : Nat) : Int) ∧ 702 + 3 = 705 := ⟨by decide +kernel, by decide, rfl⟩
theorem zd_W_law_705 : decode zb_W_law 705 = .ok (.iconst 0, 1) ∧ 705 + 1 = 706 := ⟨by decide +kernel, rfl⟩
theorem zd_W_law_706 : decode zb_W_law 706 = .ok (.ireturn, 1) ∧ 706 + 1 = 707 := ⟨by decide +kernel, rfl⟩
theorem zd_W_law_707 : decode zb_W_law 707 = .ok (.aload_n 1, 1) ∧ 707 + 1 = 708 := ⟨by decide +kernel, rfl⟩
theorem zd_W_law_708 : decode zb_W_law 708 = .ok (.invokevirtual 96, 3) ∧ 708 + 3 = 711 := ⟨by decide +kernel, rfl⟩
theorem zd_W_law_711 : decode zb_W_law 711 = .ok (.aload_n 2, 1) ∧ 711 + 1 = 712 := ⟨by decide +kernel, rfl⟩
theorem zd_W_law_712 : decode zb_W_law 712 = .ok (.invokevirtual 99, 3) ∧ 712 + 3 = 715 := ⟨by decide +kernel, rfl⟩
theorem zd_W_law_715 : decode zb_W_law 715 = .ok (.if_icmp .eq 491, 3) ∧ ((715 : Nat) : Int) + (491) = ((1206 : Nat) : Int) ∧ 715 + 3 = 718 := ⟨by decide +kernel, by decide, rfl⟩
theorem zd_W_law_718 : decode zb_W_law 718 = .ok (.iconst 0, 1) ∧ 718 + 1 = 719 := ⟨by decide +kernel, rfl⟩
theorem zd_W_law_719 : decode zb_W_law 719 = .ok (.ireturn, 1) ∧ 719 + 1 = 720 := ⟨by decide +kernel, rfl⟩
theorem zd_W_law_720 : decode zb_W_law 720 = .ok (.aload_n 1, 1) ∧ 720 + 1 = 721 := ⟨by decide +kernel, rfl⟩
theorem zd_W_law_721 : decode zb_W_law 721 = .ok (.aload_n 0, 1) ∧ 721 + 1 = 722 := ⟨by decide +kernel, rfl⟩
theorem zd_W_law_722 : decode zb_W_law 722 = .ok (.iload_n 3, 1) ∧ 722 + 1 = 723 := ⟨by decide +kernel, rfl⟩
theorem zd_W_law_723 : decode zb_W_law 723 = .ok (.iconst 1, 1) ∧ 723 + 1 = 724 := ⟨by decide +kernel, rfl⟩
theorem zd_W_law_724 : decode zb_W_law 724 = .ok (.iadd, 1) ∧ 724 + 1 = 725 := ⟨by decide +kernel, rfl⟩
theorem zd_W_law_725 : decode zb_W_law 725 = .ok (.iaload, 1) ∧ 725 + 1 = 726 := ⟨by decide +kernel, rfl⟩
theorem zd_W_law_726 : decode zb_W_law 726 = .ok (.ifCond .eq 7, 3) ∧ ((726 : Nat) : Int) + (7) = ((733 : Nat) : Int) ∧ 726 + 3 = 729 := ⟨by decide +kernel, by decide, rfl⟩
theorem zd_W_law_729 : decode zb_W_law 729 = .ok (.iconst 1, 1) ∧ 729 + 1 = 730 := ⟨by decide +kernel, rfl⟩
theorem zd_W_law_730 : decode zb_W_law 730 = .ok (.goto 4, 3) ∧ ((730 : Nat) : Int) + (4) = ((734 : Nat) : Int) ∧ 730 + 3 = 733 := ⟨by decide +kernel, by decide, rfl⟩
theorem zd_W_law_733 : decode zb_W_law 733 = .ok (.iconst 0, 1) ∧ 733 + 1 = 734 := ⟨by decide +kernel, rfl⟩
theorem zd_W_law_734 : decode zb_W_law 734 = .ok (.invokevirtual 100, 3) ∧ 734 + 3 = 737 := ⟨by decide +kernel, rfl⟩
theorem zd_W_law_737 : decode zb_W_law 737 = .ok (.aload_n 2, 1) ∧ 737 + 1 = 738 := ⟨by decide +kernel, rfl⟩
theorem zd_W_law_738 : decode zb_W_law 738 = .ok (.aload_n 0, 1) ∧ 738 + 1 = 739 := ⟨by decide +kernel, rfl⟩
theorem zd_W_law_739 : decode zb_W_law 739 = .ok (.iload_n 3, 1) ∧ 739 + 1 = 740 := ⟨by decide +kernel, rfl⟩
theorem zd_W_law_740 : decode zb_W_law 740 = .ok (.iconst 1, 1) ∧ 740 + 1 = 741 := ⟨by decide +kernel, rfl⟩
theorem zd_W_law_741 : decode zb_W_law 741 = .ok (.iadd, 1) ∧ 741 + 1 = 742 := ⟨by decide +kernel, rfl⟩
theorem zd_W_law_742 : decode zb_W_law 742 = .ok (.iaload, 1) ∧ 742 + 1 = 743 := ⟨by decide +kernel, rfl⟩
theorem zd_W_law_743 : decode zb_W_law 743 = .ok (.ifCond .eq 7, 3) ∧ ((743 : Nat) : Int) + (7) = ((750 : Nat) : Int) ∧ 743 + 3 = 746 := ⟨by decide +kernel, by decide, rfl⟩
theorem zd_W_law_746 : decode zb_W_law 746 = .ok (.iconst 1, 1) ∧ 746 + 1 = 747 := ⟨by decide +kernel, rfl⟩
theorem zd_W_law_747 : decode zb_W_law 747 = .ok (.goto 4, 3) ∧ ((747 : Nat) : Int) + (4) = ((751 : Nat) : Int) ∧ 747 + 3 = 750 := ⟨by decide +kernel, by decide, rfl⟩
theorem zd_W_law_750 : decode zb_W_law 750 = .ok (.iconst 0, 1) ∧ 750 + 1 = 751 := ⟨by decide +kernel, rfl⟩
theorem zd_W_law_751 : decode zb_W_law 751 = .ok (.invokevirtual 104, 3) ∧ 751 + 3 = 754 := ⟨by decide +kernel, rfl⟩
theorem zd_W_law_754 : decode zb_W_law 754 = .ok (.if_icmp .eq 452, 3) ∧ ((754 : Nat) : Int) + (452) = ((1206 : Nat) : Int) ∧ 754 + 3 = 757 := ⟨by decide +kernel, by decide, rfl⟩
theorem zd_W_law_757 : decode zb_W_law 757 = .ok (.iconst 0, 1) ∧ 757 + 1 = 758 := ⟨by decide +kernel, rfl⟩
theorem zd_W_law_758 : decode zb_W_law 758 = .ok (.ireturn, 1) ∧ 758 + 1 = 759 := ⟨by decide +kernel, rfl⟩
theorem zd_W_law_759 : decode zb_W_law 759 = .ok (.aload_n 1, 1) ∧ 759 + 1 = 760 := ⟨by decide +kernel, rfl⟩
theorem zd_W_law_760 : decode zb_W_law 760 = .ok (.aload_n 0, 1) ∧ 760 + 1 = 761 := ⟨by decide +kernel, rfl⟩
theorem zd_W_law_761 : decode zb_W_law 761 = .ok (.iload_n 3, 1) ∧ 761 + 1 = 762 := ⟨by decide +kernel, rfl⟩
theorem zd_W_law_762 : decode zb_W_law 762 = .ok (.iconst 1, 1) ∧ 762 + 1 = 763 := ⟨by decide +kernel, rfl⟩
theorem zd_W_law_763 : decode zb_W_law 763 = .ok (.iadd, 1) ∧ 763 + 1 = 764 := ⟨by decide +kernel, rfl⟩
theorem zd_W_law_764 : decode zb_W_law 764 = .ok (.iaload, 1) ∧ 764 + 1 = 765 := ⟨by decide +kernel, rfl⟩
theorem zd_W_law_765 : decode zb_W_law 765 = .ok (.aload_n 0, 1) ∧ 765 + 1 = 766 := ⟨by decide +kernel, rfl⟩
theorem zd_W_law_766 : decode zb_W_law 766 = .ok (.iload_n 3, 1) ∧ 766 + 1 = 767 := ⟨by decide +kernel, rfl⟩
theorem zd_W_law_767 : decode zb_W_law 767 = .ok (.iconst 2, 1) ∧ 767 + 1 = 768 := ⟨by decide +kernel, rfl⟩
theorem zd_W_law_768 : decode zb_W_law 768 = .ok (.iadd, 1) ∧ 768 + 1 = 769 := ⟨by decide +kernel, rfl⟩
theorem zd_W_law_769 : decode zb_W_law 769 = .ok (.iaload, 1) ∧ 769 + 1 = 770 := ⟨by decide +kernel, rfl⟩
theorem zd_W_law_770 : decode zb_W_law 770 = .ok (.invokevirtual 105, 3) ∧ 770 + 3 = 773 := ⟨by decide +kernel, rfl⟩
theorem zd_W_law_773 : decode zb_W_law 773 = .ok (.aload_n 2, 1) ∧ 773 + 1 = 774 := ⟨by decide +kernel, rfl⟩
theorem zd_W_law_774 : decode zb_W_law 774 = .ok (.aload_n 0, 1) ∧ 774 + 1 = 775 := ⟨by decide +kernel, rfl⟩
theorem zd_W_law_775 : decode zb_W_law 775 = .ok (.iload_n 3, 1) ∧ 775 + 1 = 776 := ⟨by decide +kernel, rfl⟩
theorem zd_W_law_776 : decode zb_W_law 776 = .ok (.iconst 1, 1) ∧ 776 + 1 = 777 := ⟨by decide +kernel, rfl⟩
theorem zd_W_law_777 : decode zb_W_law 777 = .ok (.iadd, 1) ∧ 777 + 1 = 778 := ⟨by decide +kernel, rfl⟩
theorem zd_W_law_778 : decode zb_W_law 778 = .ok (.iaload, 1) ∧ 778 + 1 = 779 := ⟨by decide +kernel, rfl⟩
theorem zd_W_law_779 : decode zb_W_law 779 = .ok (.aload_n 0, 1) ∧ 779 + 1 = 780 := ⟨by decide +kernel, rfl⟩
theorem zd_W_law_780 : decode zb_W_law 780 = .ok (.iload_n 3, 1) ∧ 780 + 1 = 781 := ⟨by decide +kernel, rfl⟩
theorem zd_W_law_781 : decode zb_W_law 781 = .ok (.iconst 2, 1) ∧ 781 + 1 = 782 := ⟨by decide +kernel, rfl⟩
theorem zd_W_law_782 : decode zb_W_law 782 = .ok (.iadd, 1) ∧ 782 + 1 = 783 := ⟨by decide +kernel, rfl⟩
theorem zd_W_law_783 : decode zb_W_law 783 = .ok (.iaload, 1) ∧ 783 + 1 = 784 := ⟨by decide +kernel, rfl⟩
theorem zd_W_law_784 : decode zb_W_law 784 = .ok (.invokevirtual 108, 3) ∧ 784 + 3 = 787 := ⟨by decide +kernel, rfl⟩
theorem zd_W_law_787 : decode zb_W_law 787 = .ok (.if_icmp .eq 419, 3) ∧ ((787 : Nat) : Int) + (419) = ((1206 : Nat) : Int) ∧ 787 + 3 = 790 := ⟨by decide +kernel, by decide, rfl⟩
theorem zd_W_law_790 : decode zb_W_law 790 = .ok (.iconst 0, 1) ∧ 790 + 1 = 791 := ⟨by decide +kernel, rfl⟩
theorem zd_W_law_791 : decode zb_W_law 791 = .ok (.ireturn, 1) ∧ 791 + 1 = 792 := ⟨by decide +kernel, rfl⟩
theorem zd_W_law_792 : decode zb_W_law 792 = .ok (.aload_n 1, 1) ∧ 792 + 1 = 793 := ⟨by decide +kernel, rfl⟩
theorem zd_W_law_793 : decode zb_W_law 793 = .ok (.aload_n 0, 1) ∧ 793 + 1 = 794 := ⟨by decide +kernel, rfl⟩
theorem zd_W_law_794 : decode zb_W_law 794 = .ok (.iload_n 3, 1) ∧ 794 + 1 = 795 := ⟨by decide +kernel, rfl⟩
theorem zd_W_law_795 : decode zb_W_law 795 = .ok (.iconst 1, 1) ∧ 795 + 1 = 796 := ⟨by decide +kernel, rfl⟩
theorem zd_W_law_796 : decode zb_W_law 796 = .ok (.iadd, 1) ∧ 796 + 1 = 797 := ⟨by decide +kernel, rfl⟩
theorem zd_W_law_797 : decode zb_W_law 797 = .ok (.iaload, 1) ∧ 797 + 1 = 798 := ⟨by decide +kernel, rfl⟩
theorem zd_W_law_798 : decode zb_W_law 798 = .ok (.aload_n 0, 1) ∧ 798 + 1 = 799 := ⟨by decide +kernel, rfl⟩
theorem zd_W_law_799 : decode zb_W_law 799 = .ok (.iload_n 3, 1) ∧ 799 + 1 = 800 := ⟨by decide +kernel, rfl⟩
theorem zd_W_law_800 : decode zb_W_law 800 = .ok (.iconst 2, 1) ∧ 800 + 1 = 801 := ⟨by decide +kernel, rfl⟩
theorem zd_W_law_801 : decode zb_W_law 801 = .ok (.iadd, 1) ∧ 801 + 1 = 802 := ⟨by decide +kernel, rfl⟩
theorem zd_W_law_802 : decode zb_W_law 802 = .ok (.iaload, 1) ∧ 802 + 1 = 803 := ⟨by decide +kernel, rfl⟩
theorem zd_W_law_803 : decode zb_W_law 803 = .ok (.invokevirtual 109, 3) ∧ 803 + 3 = 806 := ⟨by decide +kernel, rfl⟩
theorem zd_W_law_806 : decode zb_W_law 806 = .ok (.aload_n 2, 1) ∧ 806 + 1 = 807 := ⟨by decide +kernel, rfl⟩
theorem zd_W_law_807 : decode zb_W_law 807 = .ok (.aload_n 0, 1) ∧ 807 + 1 = 808 := ⟨by decide +kernel, rfl⟩
theorem zd_W_law_808 : decode zb_W_law 808 = .ok (.iload_n 3, 1) ∧ 808 + 1 = 809 := ⟨by decide +kernel, rfl⟩
theorem zd_W_law_809 : decode zb_W_law 809 = .ok (.iconst 1, 1) ∧ 809 + 1 = 810 := ⟨by decide +kernel, rfl⟩
theorem zd_W_law_810 : decode zb_W_law 810 = .ok (.iadd, 1) ∧ 810 + 1 = 811 := ⟨by decide +kernel, rfl⟩
theorem zd_W_law_811 : decode zb_W_law 811 = .ok (.iaload, 1) ∧ 811 + 1 = 812 := ⟨by decide +kernel, rfl⟩
theorem zd_W_law_812 : decode zb_W_law 812 = .ok (.aload_n 0, 1) ∧ 812 + 1 = 813 := ⟨by decide +kernel, rfl⟩
theorem zd_W_law_813 : decode zb_W_law 813 = .ok (.iload_n 3, 1) ∧ 813 + 1 = 814 := ⟨by decide +kernel, rfl⟩
theorem zd_W_law_814 : decode zb_W_law 814 = .ok (.iconst 2, 1) ∧ 814 + 1 = 815 := ⟨by decide +kernel, rfl⟩
theorem zd_W_law_815 : decode zb_W_law 815 = .ok (.iadd, 1) ∧ 815 + 1 = 816 := ⟨by decide +kernel, rfl⟩
theorem zd_W_law_816 : decode zb_W_law 816 = .ok (.iaload, 1) ∧ 816 + 1 = 817 := ⟨by decide +kernel, rfl⟩
theorem zd_W_law_817 : decode zb_W_law 817 = .ok (.invokevirtual 112, 3) ∧ 817 + 3 = 820 := ⟨by decide +kernel, rfl⟩
theorem zd_W_law_820 : decode zb_W_law 820 = .ok (.if_icmp .eq 386, 3) ∧ ((820 : Nat) : Int) + (386) = ((1206 : Nat) : Int) ∧ 820 + 3 = 823 := ⟨by decide +kernel, by decide, rfl⟩
theorem zd_W_law_823 : decode zb_W_law 823 = .ok (.iconst 0, 1) ∧ 823 + 1 = 824 := ⟨by decide +kernel, rfl⟩
theorem zd_W_law_824 : decode zb_W_law 824 = .ok (.ireturn, 1) ∧ 824 + 1 = 825 := ⟨by decide +kernel, rfl⟩
theorem zd_W_law_825 : decode zb_W_law 825 = .ok (.aload_n 1, 1) ∧ 825 + 1 = 826 := ⟨by decide +kernel, rfl⟩
theorem zd_W_law_826 : decode zb_W_law 826 = .ok (.aload_n 0, 1) ∧ 826 + 1 = 827 := ⟨by decide +kernel, rfl⟩
theorem zd_W_law_827 : decode zb_W_law 827 = .ok (.iload_n 3, 1) ∧ 827 + 1 = 828 := ⟨by decide +kernel, rfl⟩
theorem zd_W_law_828 : decode zb_W_law 828 = .ok (.iconst 1, 1) ∧ 828 + 1 = 829 := ⟨by decide +kernel, rfl⟩
theorem zd_W_law_829 : decode zb_W_law 829 = .ok (.iadd, 1) ∧ 829 + 1 = 830 := ⟨by decide +kernel, rfl⟩
theorem zd_W_law_830 : decode zb_W_law 830 = .ok (.iaload, 1) ∧ 830 + 1 = 831 := ⟨by decide +kernel, rfl⟩
theorem zd_W_law_831 : decode zb_W_law 831 = .ok (.invokevirtual 113, 3) ∧ 831 + 3 = 834 := ⟨by decide +kernel, rfl⟩
theorem zd_W_law_834 : decode zb_W_law 834 = .ok (.aload_n 2, 1) ∧ 834 + 1 = 835 := ⟨by decide +kernel, rfl⟩
theorem zd_W_law_835 : decode zb_W_law 835 = .ok (.aload_n 0, 1) ∧ 835 + 1 = 836 := ⟨by decide +kernel, rfl⟩
theorem zd_W_law_836 : decode zb_W_law 836 = .ok (.iload_n 3, 1) ∧ 836 + 1 = 837 := ⟨by decide +kernel, rfl⟩
theorem zd_W_law_837 : decode zb_W_law 837 = .ok (.iconst 1, 1) ∧ 837 + 1 = 838 := ⟨by decide +kernel, rfl⟩
theorem zd_W_law_838 : decode zb_W_law 838 = .ok (.iadd, 1) ∧ 838 + 1 = 839 := ⟨by decide +kernel, rfl⟩
theorem zd_W_law_839 : decode zb_W_law 839 = .ok (.iaload, 1) ∧ 839 + 1 = 840 := ⟨by decide +kernel, rfl⟩
theorem zd_W_law_840 : decode zb_W_law 840 = .ok (.invokevirtual 116, 3) ∧ 840 + 3 = 843 := ⟨by decide +kernel, rfl⟩
theorem zd_W_law_843 : decode zb_W_law 843 = .ok (.if_icmp .eq 363, 3) ∧ ((843 : Nat) : Int) + (363) = ((1206 : Nat) : Int) ∧ 843 + 3 = 846 := ⟨by decide +kernel, by decide, rfl⟩
theorem zd_W_law_846 : decode zb_W_law 846 = .ok (.iconst 0, 1) ∧ 846 + 1 = 847 := ⟨by decide +kernel, rfl⟩
theorem zd_W_law_847 : decode zb_W_law 847 = .ok (.ireturn, 1) ∧ 847 + 1 = 848 := ⟨by decide +kernel, rfl⟩
theorem zd_W_law_848 : decode zb_W_law 848 = .ok (.aload_n 1, 1) ∧ 848 + 1 = 849 := ⟨by decide +kernel, rfl⟩
theorem zd_W_law_849 : decode zb_W_law 849 = .ok (.aload_n 0, 1) ∧ 849 + 1 = 850 := ⟨by decide +kernel, rfl⟩
theorem zd_W_law_850 : decode zb_W_law 850 = .ok (.iload_n 3, 1) ∧ 850 + 1 = 851 := ⟨by decide +kernel, rfl⟩
theorem zd_W_law_851 : decode zb_W_law 851 = .ok (.iconst 1, 1) ∧ 851 + 1 = 852 := ⟨by decide +kernel, rfl⟩
theorem zd_W_law_852 : decode zb_W_law 852 = .ok (.iadd, 1) ∧ 852 + 1 = 853 := ⟨by decide +kernel, rfl⟩
theorem zd_W_law_853 : decode zb_W_law 853 = .ok (.iaload, 1) ∧ 853 + 1 = 854 := ⟨by decide +kernel, rfl⟩
theorem zd_W_law_854 : decode zb_W_law 854 = .ok (.invokevirtual 117, 3) ∧ 854 + 3 = 857 := ⟨by decide +kernel, rfl⟩
theorem zd_W_law_857 : decode zb_W_law 857 = .ok (.aload_n 2, 1) ∧ 857 + 1 = 858 := ⟨by decide +kernel, rfl⟩
theorem zd_W_law_858 : decode zb_W_law 858 = .ok (.aload_n 0, 1) ∧ 858 + 1 = 859 := ⟨by decide +kernel, rfl⟩
theorem zd_W_law_859 : decode zb_W_law 859 = .ok (.iload_n 3, 1) ∧ 859 + 1 = 860 := ⟨by decide +kernel, rfl⟩
theorem zd_W_law_860 : decode zb_W_law 860 = .ok (.iconst 1, 1) ∧ 860 + 1 = 861 := ⟨by decide +kernel, rfl⟩
theorem zd_W_law_861 : decode zb_W_law 861 = .ok (.iadd, 1) ∧ 861 + 1 = 862 := ⟨by decide +kernel, rfl⟩
theorem zd_W_law_862 : decode zb_W_law 862 = .ok (.iaload, 1) ∧ 862 + 1 = 863 := ⟨by decide +kernel, rfl⟩
theorem zd_W_law_863 : decode zb_W_law 863 = .ok (.invokevirtual 120, 3) ∧ 863 + 3 = 866 := ⟨by decide +kernel, rfl⟩
theorem zd_W_law_866 : decode zb_W_law 866 = .ok (.if_icmp .eq 340, 3) ∧ ((866 : Nat) : Int) + (340) = ((1206 : Nat) : Int) ∧ 866 + 3 = 869 := ⟨by decide +kernel, by decide, rfl⟩
theorem zd_W_law_869 : decode zb_W_law 869 = .ok (.iconst 0, 1) ∧ 869 + 1 = 870 := ⟨by decide +kernel, rfl⟩
theorem zd_W_law_870 : decode zb_W_law 870 = .ok (.ireturn, 1) ∧ 870 + 1 = 871 := ⟨by decide +kernel, rfl⟩
theorem zd_W_law_871 : decode zb_W_law 871 = .ok (.aload_n 1, 1) ∧ 871 + 1 = 872 := ⟨by decide +kernel, rfl⟩
theorem zd_W_law_872 : decode zb_W_law 872 = .ok (.aload_n 0, 1) ∧ 872 + 1 = 873 := ⟨by decide +kernel, rfl⟩
theorem zd_W_law_873 : decode zb_W_law 873 = .ok (.iload_n 3, 1) ∧ 873 + 1 = 874 := ⟨by decide +kernel, rfl⟩
theorem zd_W_law_874 : decode zb_W_law 874 = .ok (.iconst 1, 1) ∧ 874 + 1 = 875 := ⟨by decide +kernel, rfl⟩
theorem zd_W_law_875 : decode zb_W_law 875 = .ok (.iadd, 1) ∧ 875 + 1 = 876 := ⟨by decide +kernel, rfl⟩
theorem zd_W_law_876 : decode zb_W_law 876 = .ok (.iaload, 1) ∧ 876 + 1 = 877 := ⟨by decide +kernel, rfl⟩
theorem zd_W_law_877 : decode zb_W_law 877 = .ok (.invokevirtual 121, 3) ∧ 877 + 3 = 880 := ⟨by decide +kernel, rfl⟩
theorem zd_W_law_880 : decode zb_W_law 880 = .ok (.aload_n 2, 1) ∧ 880 + 1 = 881 := ⟨by decide +kernel, rfl⟩
theorem zd_W_law_881 : decode zb_W_law 881 = .ok (.aload_n 0, 1) ∧ 881 + 1 = 882 := ⟨by decide +kernel, rfl⟩
theorem zd_W_law_882 : decode zb_W_law 882 = .ok (.iload_n 3, 1) ∧ 882 + 1 = 883 := ⟨by decide +kernel, rfl⟩
theorem zd_W_law_883 : decode zb_W_law 883 = .ok (.iconst 1, 1) ∧ 883 + 1 = 884 := ⟨by decide +kernel, rfl⟩
theorem zd_W_law_884 : decode zb_W_law 884 = .ok (.iadd, 1) ∧ 884 + 1 = 885 := ⟨by decide +kernel, rfl⟩
theorem zd_W_law_885 : decode zb_W_law 885 = .ok (.iaload, 1) ∧ 885 + 1 = 886 := ⟨by decide +kernel, rfl⟩
theorem zd_W_law_886 : decode zb_W_law 886 = .ok (.invokevirtual 124, 3) ∧ 886 + 3 = 889 := ⟨by decide +kernel, rfl⟩
theorem zd_W_law_889 : decode zb_W_law 889 = .ok (.if_icmp .eq 317, 3) ∧ ((889 : Nat) : Int) + (317) = ((1206 : Nat) : Int) ∧ 889 + 3 = 892 := ⟨by decide +kernel, by decide, rfl⟩
theorem zd_W_law_892 : decode zb_W_law 892 = .ok (.iconst 0, 1) ∧ 892 + 1 = 893 := ⟨by decide +kernel, rfl⟩
theorem zd_W_law_893 : decode zb_W_law 893 = .ok (.ireturn, 1) ∧ 893 + 1 = 894 := ⟨by decide +kernel, rfl⟩
theorem zd_W_law_894 : decode zb_W_law 894 = .ok (.aload_n 1, 1) ∧ 894 + 1 = 895 := ⟨by decide +kernel, rfl⟩
theorem zd_W_law_895 : decode zb_W_law 895 = .ok (.invokevirtual 125, 3) ∧ 895 + 3 = 898 := ⟨by decide +kernel, rfl⟩
theorem zd_W_law_898 : decode zb_W_law 898 = .ok (.aload_n 2, 1) ∧ 898 + 1 = 899 := ⟨by decide +kernel, rfl⟩
theorem zd_W_law_899 : decode zb_W_law 899 = .ok (.invokevirtual 128, 3) ∧ 899 + 3 = 902 := ⟨by decide +kernel, rfl⟩
theorem zd_W_law_902 : decode zb_W_law 902 = .ok (.if_icmp .eq 304, 3) ∧ ((902 : Nat) : Int) + (304) = ((1206 : Nat) : Int) ∧ 902 + 3 = 905 := ⟨by decide +kernel, by decide, rfl⟩
theorem zd_W_law_905 : decode zb_W_law 905 = .ok (.iconst 0, 1) ∧ 905 + 1 = 906 := ⟨by decide +kernel, rfl⟩
theorem zd_W_law_906 : decode zb_W_law 906 = .ok (.ireturn, 1) ∧ 906 + 1 = 907 := ⟨by decide +kernel, rfl⟩
theorem zd_W_law_907 : decode zb_W_law 907 = .ok (.aload_n 1, 1) ∧ 907 + 1 = 908 := ⟨by decide +kernel, rfl⟩
theorem zd_W_law_908 : decode zb_W_law 908 = .ok (.aload_n 0, 1) ∧ 908 + 1 = 909 := ⟨by decide +kernel, rfl⟩
theorem zd_W_law_909 : decode zb_W_law 909 = .ok (.iload_n 3, 1) ∧ 909 + 1 = 910 := ⟨by decide +kernel, rfl⟩
theorem zd_W_law_910 : decode zb_W_law 910 = .ok (.iconst 1, 1) ∧ 910 + 1 = 911 := ⟨by decide +kernel, rfl⟩
theorem zd_W_law_911 : decode zb_W_law 911 = .ok (.iadd, 1) ∧ 911 + 1 = 912 := ⟨by decide +kernel, rfl⟩
theorem zd_W_law_912 : decode zb_W_law 912 = .ok (.iaload, 1) ∧ 912 + 1 = 913 := ⟨by decide +kernel, rfl⟩
theorem zd_W_law_913 : decode zb_W_law 913 = .ok (.aload_n 0, 1) ∧ 913 + 1 = 914 := ⟨by decide +kernel, rfl⟩
theorem zd_W_law_914 : decode zb_W_law 914 = .ok (.iload_n 3, 1) ∧ 914 + 1 = 915 := ⟨by decide +kernel, rfl⟩
theorem zd_W_law_915 : decode zb_W_law 915 = .ok (.iconst 2, 1) ∧ 915 + 1 = 916 := ⟨by decide +kernel, rfl⟩
theorem zd_W_law_916 : decode zb_W_law 916 = .ok (.iadd, 1) ∧ 916 + 1 = 917 := ⟨by decide +kernel, rfl⟩
theorem zd_W_law_917 : decode zb_W_law 917 = .ok (.iaload, 1) ∧ 917 + 1 = 918 := ⟨by decide +kernel, rfl⟩
theorem zd_W_law_918 : decode zb_W_law 918 = .ok (.invokevirtual 129, 3) ∧ 918 + 3 = 921 := ⟨by decide +kernel, rfl⟩
theorem zd_W_law_921 : decode zb_W_law 921 = .ok (.aload_n 2, 1) ∧ 921 + 1 = 922 := ⟨by decide +kernel, rfl⟩
theorem zd_W_law_922 : decode zb_W_law 922 = .ok (.aload_n 0, 1) ∧ 922 + 1 = 923 := ⟨by decide +kernel, rfl⟩
theorem zd_W_law_923 : decode zb_W_law 923 = .ok (.iload_n 3, 1) ∧ 923 + 1 = 924 := ⟨by decide +kernel, rfl⟩
theorem zd_W_law_924 : decode zb_W_law 924 = .ok (.iconst 1, 1) ∧ 924 + 1 = 925 := ⟨by decide +kernel, rfl⟩
theorem zd_W_law_925 : decode zb_W_law 925 = .ok (.iadd, 1) ∧ 925 + 1 = 926 := ⟨by decide +kernel, rfl⟩
theorem zd_W_law_926 : decode zb_W_law 926 = .ok (.iaload, 1) ∧ 926 + 1 = 927 := ⟨by decide +kernel, rfl⟩
theorem zd_W_law_927 : decode zb_W_law 927 = .ok (.aload_n 0, 1) ∧ 927 + 1 = 928 := ⟨by decide +kernel, rfl⟩
theorem zd_W_law_928 : decode zb_W_law 928 = .ok (.iload_n 3, 1) ∧ 928 + 1 = 929 := ⟨by decide +kernel, rfl⟩
theorem zd_W_law_929 : decode zb_W_law 929 = .ok (.iconst 2, 1) ∧ 929 + 1 = 930 := ⟨by decide +kernel, rfl⟩
theorem zd_W_law_930 : decode zb_W_law 930 = .ok (.iadd, 1) ∧ 930 + 1 = 931 := ⟨by decide +kernel, rfl⟩
theorem zd_W_law_931 : decode zb_W_law 931 = .ok (.iaload, 1) ∧ 931 + 1 = 932 := ⟨by decide +kernel, rfl⟩
theorem zd_W_law_932 : decode zb_W_law 932 = .ok (.invokevirtual 132, 3) ∧ 932 + 3 = 935 := ⟨by decide +kernel, rfl⟩
theorem zd_W_law_935 : decode zb_W_law 935 = .ok (.if_icmp .eq 271, 3) ∧ ((935 : Nat) : Int) + (271) = ((1206 : Nat) : Int) ∧ 935 + 3 = 938 := ⟨by decide +kernel, by decide, rfl⟩
theorem zd_W_law_938 : decode zb_W_law 938 = .ok (.iconst 0, 1) ∧ 938 + 1 = 939 := ⟨by decide +kernel, rfl⟩
theorem zd_W_law_939 : decode zb_W_law 939 = .ok (.ireturn, 1) ∧ 939 + 1 = 940 := ⟨by decide +kernel, rfl⟩
theorem zd_W_law_940 : decode zb_W_law 940 = .ok (.aload_n 1, 1) ∧ 940 + 1 = 941 := ⟨by decide +kernel, rfl⟩
theorem zd_W_law_941 : decode zb_W_law 941 = .ok (.aload_n 0, 1) ∧ 941 + 1 = 942 := ⟨by decide +kernel, rfl⟩
theorem zd_W_law_942 : decode zb_W_law 942 = .ok (.iload_n 3, 1) ∧ 942 + 1 = 943 := ⟨by decide +kernel, rfl⟩
theorem zd_W_law_943 : decode zb_W_law 943 = .ok (.iconst 1, 1) ∧ 943 + 1 = 944 := ⟨by decide +kernel, rfl⟩
theorem zd_W_law_944 : decode zb_W_law 944 = .ok (.iadd, 1) ∧ 944 + 1 = 945 := ⟨by decide +kernel, rfl⟩
theorem zd_W_law_945 : decode zb_W_law 945 = .ok (.iaload, 1) ∧ 945 + 1 = 946 := ⟨by decide +kernel, rfl⟩
theorem zd_W_law_946 : decode zb_W_law 946 = .ok (.aload_n 0, 1) ∧ 946 + 1 = 947 := ⟨by decide +kernel, rfl⟩
theorem zd_W_law_947 : decode zb_W_law 947 = .ok (.iload_n 3, 1) ∧ 947 + 1 = 948 := ⟨by decide +kernel, rfl⟩
theorem zd_W_law_948 : decode zb_W_law 948 = .ok (.iconst 2, 1) ∧ 948 + 1 = 949 := ⟨by decide +kernel, rfl⟩
theorem zd_W_law_949 : decode zb_W_law 949 = .ok (.iadd, 1) ∧ 949 + 1 = 950 := ⟨by decide +kernel, rfl⟩
theorem zd_W_law_950 : decode zb_W_law 950 = .ok (.iaload, 1) ∧ 950 + 1 = 951 := ⟨by decide +kernel, rfl⟩
theorem zd_W_law_951 : decode zb_W_law 951 = .ok (.aload_n 0, 1) ∧ 951 + 1 = 952 := ⟨by decide +kernel, rfl⟩
theorem zd_W_law_952 : decode zb_W_law 952 = .ok (.iload_n 3, 1) ∧ 952 + 1 = 953 := ⟨by decide +kernel, rfl⟩
theorem zd_W_law_953 : decode zb_W_law 953 = .ok (.iconst 3, 1) ∧ 953 + 1 = 954 := ⟨by decide +kernel, rfl⟩
theorem zd_W_law_954 : decode zb_W_law 954 = .ok (.iadd, 1) ∧ 954 + 1 = 955 := ⟨by decide +kernel, rfl⟩
theorem zd_W_law_955 : decode zb_W_law 955 = .ok (.iaload, 1) ∧ 955 + 1 = 956 := ⟨by decide +kernel, rfl⟩
theorem zd_W_law_956 : decode zb_W_law 956 = .ok (.aload_n 0, 1) ∧ 956 + 1 = 957 := ⟨by decide +kernel, rfl⟩
theorem zd_W_law_957 : decode zb_W_law 957 = .ok (.iload_n 3, 1) ∧ 957 + 1 = 958 := ⟨by decide +kernel, rfl⟩
theorem zd_W_law_958 : decode zb_W_law 958 = .ok (.iconst 4, 1) ∧ 958 + 1 = 959 := ⟨by decide +kernel, rfl⟩
theorem zd_W_law_959 : decode zb_W_law 959 = .ok (.iadd, 1) ∧ 959 + 1 = 960 := ⟨by decide +kernel, rfl⟩
theorem zd_W_law_960 : decode zb_W_law 960 = .ok (.iaload, 1) ∧ 960 + 1 = 961 := ⟨by decide +kernel, rfl⟩
theorem zd_W_law_961 : decode zb_W_law 961 = .ok (.invokevirtual 133, 3) ∧ 961 + 3 = 964 := ⟨by decide +kernel, rfl⟩
theorem zd_W_law_964 : decode zb_W_law 964 = .ok (.aload_n 2, 1) ∧ 964 + 1 = 965 := ⟨by decide +kernel, rfl⟩
theorem zd_W_law_965 : decode zb_W_law 965 = .ok (.aload_n 0, 1) ∧ 965 + 1 = 966 := ⟨by decide +kernel, rfl⟩
theorem zd_W_law_966 : decode zb_W_law 966 = .ok (.iload_n 3, 1) ∧ 966 + 1 = 967 := ⟨by decide +kernel, rfl⟩
theorem zd_W_law_967 : decode zb_W_law 967 = .ok (.iconst 1, 1) ∧ 967 + 1 = 968 := ⟨by decide +kernel, rfl⟩
theorem zd_W_law_968 : decode zb_W_law 968 = .ok (.iadd, 1) ∧ 968 + 1 = 969 := ⟨by decide +kernel, rfl⟩
theorem zd_W_law_969 : decode zb_W_law 969 = .ok (.iaload, 1) ∧ 969 + 1 = 970 := ⟨by decide +kernel, rfl⟩
theorem zd_W_law_970 : decode zb_W_law 970 = .ok (.aload_n 0, 1) ∧ 970 + 1 = 971 := ⟨by decide +kernel, rfl⟩
theorem zd_W_law_971 : decode zb_W_law 971 = .ok (.iload_n 3, 1) ∧ 971 + 1 = 972 := ⟨by decide +kernel, rfl⟩
theorem zd_W_law_972 : decode zb_W_law 972 = .ok (.iconst 2, 1) ∧ 972 + 1 = 973 := ⟨by decide +kernel, rfl⟩
theorem zd_W_law_973 : decode zb_W_law 973 = .ok (.iadd, 1) ∧ 973 + 1 = 974 := ⟨by decide +kernel, rfl⟩
theorem zd_W_law_974 : decode zb_W_law 974 = .ok (.iaload, 1) ∧ 974 + 1 = 975 := ⟨by decide +kernel, rfl⟩
theorem zd_W_law_975 : decode zb_W_law 975 = .ok (.aload_n 0, 1) ∧ 975 + 1 = 976 := ⟨by decide +kernel, rfl⟩
theorem zd_W_law_976 : decode zb_W_law 976 = .ok (.iload_n 3, 1) ∧ 976 + 1 = 977 := ⟨by decide +kernel, rfl⟩
theorem zd_W_law_977 : decode zb_W_law 977 = .ok (.iconst 3, 1) ∧ 977 + 1 = 978 := ⟨by decide +kernel, rfl⟩
theorem zd_W_law_978 : decode zb_W_law 978 = .ok (.iadd, 1) ∧ 978 + 1 = 979 := ⟨by decide +kernel, rfl⟩
theorem zd_W_law_979 : decode zb_W_law 979 = .ok (.iaload, 1) ∧ 979 + 1 = 980 := ⟨by decide +kernel, rfl⟩
theorem zd_W_law_980 : decode zb_W_law 980 = .ok (.aload_n 0, 1) ∧ 980 + 1 = 981 := ⟨by decide +kernel, rfl⟩
theorem zd_W_law_981 : decode zb_W_law 981 = .ok (.iload_n 3, 1) ∧ 981 + 1 = 982 := ⟨by decide +kernel, rfl⟩
theorem zd_W_law_982 : decode zb_W_law 982 = .ok (.iconst 4, 1) ∧ 982 + 1 = 983 := ⟨by decide +kernel, rfl⟩
theorem zd_W_law_983 : decode zb_W_law 983 = .ok (.iadd, 1) ∧ 983 + 1 = 984 := ⟨by decide +kernel, rfl⟩
theorem zd_W_law_984 : decode zb_W_law 984 = .ok (.iaload, 1) ∧ 984 + 1 = 985 := ⟨by decide +kernel, rfl⟩
theorem zd_W_law_985 : decode zb_W_law 985 = .ok (.invokevirtual 137, 3) ∧ 985 + 3 = 988 := ⟨by decide +kernel, rfl⟩
theorem zd_W_law_988 : decode zb_W_law 988 = .ok (.if_icmp .eq 218, 3) ∧ ((988 : Nat) : Int) + (218) = ((1206 : Nat) : Int) ∧ 988 + 3 = 991 := ⟨by decide +kernel, by decide, rfl⟩
theorem zd_W_law_991 : decode zb_W_law 991 = .ok (.iconst 0, 1) ∧ 991 + 1 = 992 := ⟨by decide +kernel, rfl⟩
theorem zd_W_law_992 : decode zb_W_law 992 = .ok (.ireturn, 1) ∧ 992 + 1 = 993 := ⟨by decide +kernel, rfl⟩
theorem zd_W_law_993 : decode zb_W_law 993 = .ok (.aload_n 1, 1) ∧ 993 + 1 = 994 := ⟨by decide +kernel, rfl⟩
theorem zd_W_law_994 : decode zb_W_law 994 = .ok (.aload_n 0, 1) ∧ 994 + 1 = 995 := ⟨by decide +kernel, rfl⟩
theorem zd_W_law_995 : decode zb_W_law 995 = .ok (.iload_n 3, 1) ∧ 995 + 1 = 996 := ⟨by decide +kernel, rfl⟩
theorem zd_W_law_996 : decode zb_W_law 996 = .ok (.iconst 1, 1) ∧ 996 + 1 = 997 := ⟨by decide +kernel, rfl⟩
theorem zd_W_law_997 : decode zb_W_law 997 = .ok (.iadd, 1) ∧ 997 + 1 = 998 := ⟨by decide +kernel, rfl⟩
theorem zd_W_law_998 : decode zb_W_law 998 = .ok (.iaload, 1) ∧ 998 + 1 = 999 := ⟨by decide +kernel, rfl⟩
theorem zd_W_law_999 : decode zb_W_law 999 = .ok (.aload_n 0, 1) ∧ 999 + 1 = 1000 := ⟨by decide +kernel, rfl⟩
theorem zd_W_law_1000 : decode zb_W_law 1000 = .ok (.iload_n 3, 1) ∧ 1000 + 1 = 1001 := ⟨by decide +kernel, rfl⟩
theorem zd_W_law_1001 : decode zb_W_law 1001 = .ok (.iconst 2, 1) ∧ 1001 + 1 = 1002 := ⟨by decide +kernel, rfl⟩
theorem zd_W_law_1002 : decode zb_W_law 1002 = .ok (.iadd, 1) ∧ 1002 + 1 = 1003 := ⟨by decide +kernel, rfl⟩
theorem zd_W_law_1003 : decode zb_W_law 1003 = .ok (.iaload, 1) ∧ 1003 + 1 = 1004 := ⟨by decide +kernel, rfl⟩
theorem zd_W_law_1004 : decode zb_W_law 1004 = .ok (.aload_n 0, 1) ∧ 1004 + 1 = 1005 := ⟨by decide +kernel, rfl⟩
theorem zd_W_law_1005 : decode zb_W_law 1005 = .ok (.iload_n 3, 1) ∧ 1005 + 1 = 1006 := ⟨by decide +kernel, rfl⟩
theorem zd_W_law_1006 : decode zb_W_law 1006 = .ok (.iconst 3, 1) ∧ 1006 + 1 = 1007 := ⟨by decide +kernel, rfl⟩
theorem zd_W_law_1007 : decode zb_W_law 1007 = .ok (.iadd, 1) ∧ 1007 + 1 = 1008 := ⟨by decide +kernel, rfl⟩
theorem zd_W_law_1008 : decode zb_W_law 1008 = .ok (.iaload, 1) ∧ 1008 + 1 = 1009 := ⟨by decide +kernel, rfl⟩
theorem zd_W_law_1009 : decode zb_W_law 1009 = .ok (.invokevirtual 138, 3) ∧ 1009 + 3 = 1012 := ⟨by decide +kernel, rfl⟩
theorem zd_W_law_1012 : decode zb_W_law 1012 = .ok (.aload_n 2, 1) ∧ 1012 + 1 = 1013 := ⟨by decide +kernel, rfl⟩
theorem zd_W_law_1013 : decode zb_W_law 1013 = .ok (.aload_n 0, 1) ∧ 1013 + 1 = 1014 := ⟨by decide +kernel, rfl⟩
theorem zd_W_law_1014 : decode zb_W_law 1014 = .ok (.iload_n 3, 1) ∧ 1014 + 1 = 1015 := ⟨by decide +kernel, rfl⟩
theorem zd_W_law_1015 : decode zb_W_law 1015 = .ok (.iconst 1, 1) ∧ 1015 + 1 = 1016 := ⟨by decide +kernel, rfl⟩
theorem zd_W_law_1016 : decode zb_W_law 1016 = .ok (.iadd, 1) ∧ 1016 + 1 = 1017 := ⟨by decide +kernel, rfl⟩
theorem zd_W_law_1017 : decode zb_W_law 1017 = .ok (.iaload, 1) ∧ 1017 + 1 = 1018 := ⟨by decide +kernel, rfl⟩
theorem zd_W_law_1018 : decode zb_W_law 1018 = .ok (.aload_n 0, 1) ∧ 1018 + 1 = 1019 := ⟨by decide +kernel, rfl⟩
theorem zd_W_law_1019 : decode zb_W_law 1019 = .ok (.iload_n 3, 1) ∧ 1019 + 1 = 1020 := ⟨by decide +kernel, rfl⟩
theorem zd_W_law_1020 : decode zb_W_law 1020 = .ok (.iconst 2, 1) ∧ 1020 + 1 = 1021 := ⟨by decide +kernel, rfl⟩
theorem zd_W_law_1021 : decode zb_W_law 1021 = .ok (.iadd, 1) ∧ 1021 + 1 = 1022 := ⟨by decide +kernel, rfl⟩
theorem zd_W_law_1022 : decode zb_W_law 1022 = .ok (.iaload, 1) ∧ 1022 + 1 = 1023 := ⟨by decide +kernel, rfl⟩
theorem zd_W_law_1023 : decode zb_W_law 1023 = .ok (.aload_n 0, 1) ∧ 1023 + 1 = 1024 := ⟨by decide +kernel, rfl⟩
theorem zd_W_law_1024 : decode zb_W_law 1024 = .ok (.iload_n 3, 1) ∧ 1024 + 1 = 1025 := ⟨by decide +kernel, rfl⟩
theorem zd_W_law_1025 : decode zb_W_law 1025 = .ok (.iconst 3, 1) ∧ 1025 + 1 = 1026 := ⟨by decide +kernel, rfl⟩
theorem zd_W_law_1026 : decode zb_W_law 1026 = .ok (.iadd, 1) ∧ 1026 + 1 = 1027 := ⟨by decide +kernel, rfl⟩
theorem zd_W_law_1027 : decode zb_W_law 1027 = .ok (.iaload, 1) ∧ 1027 + 1 = 1028 := ⟨by decide +kernel, rfl⟩
theorem zd_W_law_1028 : decode zb_W_law 1028 = .ok (.invokevirtual 141, 3) ∧ 1028 + 3 = 1031 := ⟨by decide +kernel, rfl⟩
theorem zd_W_law_1031 : decode zb_W_law 1031 = .ok (.if_icmp .eq 175, 3) ∧ ((1031 : Nat) : Int) + (175) = ((1206 : Nat) : Int) ∧ 1031 + 3 = 1034 := ⟨by decide +kernel, by decide, rfl⟩
theorem zd_W_law_1034 : decode zb_W_law 1034 = .ok (.iconst 0, 1) ∧ 1034 + 1 = 1035 := ⟨by decide +kernel, rfl⟩
theorem zd_W_law_1035 : decode zb_W_law 1035 = .ok (.ireturn, 1) ∧ 1035 + 1 = 1036 := ⟨by decide +kernel, rfl⟩
theorem zd_W_law_1036 : decode zb_W_law 1036 = .ok (.aload_n 1, 1) ∧ 1036 + 1 = 1037 := ⟨by decide +kernel, rfl⟩
theorem zd_W_law_1037 : decode zb_W_law 1037 = .ok (.aload_n 0, 1) ∧ 1037 + 1 = 1038 := ⟨by decide +kernel, rfl⟩
theorem zd_W_law_1038 : decode zb_W_law 1038 = .ok (.iload_n 3, 1) ∧ 1038 + 1 = 1039 := ⟨by decide +kernel, rfl⟩
theorem zd_W_law_1039 : decode zb_W_law 1039 = .ok (.iconst 1, 1) ∧ 1039 + 1 = 1040 := ⟨by decide +kernel, rfl⟩
theorem zd_W_law_1040 : decode zb_W_law 1040 = .ok (.iadd, 1) ∧ 1040 + 1 = 1041 := ⟨by decide +kernel, rfl⟩
theorem zd_W_law_1041 : decode zb_W_law 1041 = .ok (.iaload, 1) ∧ 1041 + 1 = 1042 := ⟨by decide +kernel, rfl⟩
theorem zd_W_law_1042 : decode zb_W_law 1042 = .ok (.invokevirtual 142, 3) ∧ 1042 + 3 = 1045 := ⟨by decide +kernel, rfl⟩
theorem zd_W_law_1045 : decode zb_W_law 1045 = .ok (.aload_n 2, 1) ∧ 1045 + 1 = 1046 := ⟨by decide +kernel, rfl⟩
theorem zd_W_law_1046 : decode zb_W_law 1046 = .ok (.aload_n 0, 1) ∧ 1046 + 1 = 1047 := ⟨by decide +kernel, rfl⟩
theorem zd_W_law_1047 : decode zb_W_law 1047 = .ok (.iload_n 3, 1) ∧ 1047 + 1 = 1048 := ⟨by decide +kernel, rfl⟩
theorem zd_W_law_1048 : decode zb_W_law 1048 = .ok (.iconst 1, 1) ∧ 1048 + 1 = 1049 := ⟨by decide +kernel, rfl⟩
theorem zd_W_law_1049 : decode zb_W_law 1049 = .ok (.iadd, 1) ∧ 1049 + 1 = 1050 := ⟨by decide +kernel, rfl⟩
theorem zd_W_law_1050 : decode zb_W_law 1050 = .ok (.iaload, 1) ∧ 1050 + 1 = 1051 := ⟨by decide +kernel, rfl⟩
theorem zd_W_law_1051 : decode zb_W_law 1051 = .ok (.invokevirtual 145, 3) ∧ 1051 + 3 = 1054 := ⟨by decide +kernel, rfl⟩
theorem zd_W_law_1054 : decode zb_W_law 1054 = .ok (.if_icmp .eq 152, 3) ∧ ((1054 : Nat) : Int) + (152) = ((1206 : Nat) : Int) ∧ 1054 + 3 = 1057 := ⟨by decide +kernel, by decide, rfl⟩
theorem zd_W_law_1057 : decode zb_W_law 1057 = .ok (.iconst 0, 1) ∧ 1057 + 1 = 1058 := ⟨by decide +kernel, rfl⟩
theorem zd_W_law_1058 : decode zb_W_law 1058 = .ok (.ireturn, 1) ∧ 1058 + 1 = 1059 := ⟨by decide +kernel, rfl⟩
theorem zd_W_law_1059 : decode zb_W_law 1059 = .ok (.aload_n 1, 1) ∧ 1059 + 1 = 1060 := ⟨by decide +kernel, rfl⟩
theorem zd_W_law_1060 : decode zb_W_law 1060 = .ok (.aload_n 0, 1) ∧ 1060 + 1 = 1061 := ⟨by decide +kernel, rfl⟩
theorem zd_W_law_1061 : decode zb_W_law 1061 = .ok (.iload_n 3, 1) ∧ 1061 + 1 = 1062 := ⟨by decide +kernel, rfl⟩
theorem zd_W_law_1062 : decode zb_W_law 1062 = .ok (.iconst 1, 1) ∧ 1062 + 1 = 1063 := ⟨by decide +kernel, rfl⟩
theorem zd_W_law_1063 : decode zb_W_law 1063 = .ok (.iadd, 1) ∧ 1063 + 1 = 1064 := ⟨by decide +kernel, rfl⟩
theorem zd_W_law_1064 : decode zb_W_law 1064 = .ok (.iaload, 1) ∧ 1064 + 1 = 1065 := ⟨by decide +kernel, rfl⟩
theorem zd_W_law_1065 : decode zb_W_law 1065 = .ok (.invokevirtual 146, 3) ∧ 1065 + 3 = 1068 := ⟨by decide +kernel, rfl⟩
theorem zd_W_law_1068 : decode zb_W_law 1068 = .ok (.aload_n 2, 1) ∧ 1068 + 1 = 1069 := ⟨by decide +kernel, rfl⟩
theorem zd_W_law_1069 : decode zb_W_law 1069 = .ok (.aload_n 0, 1) ∧ 1069 + 1 = 1070 := ⟨by decide +kernel, rfl⟩
theorem zd_W_law_1070 : decode zb_W_law 1070 = .ok (.iload_n 3, 1) ∧ 1070 + 1 = 1071 := ⟨by decide +kernel, rfl⟩
theorem zd_W_law_1071 : decode zb_W_law 1071 = .ok (.iconst 1, 1) ∧ 1071 + 1 = 1072 := ⟨by decide +kernel, rfl⟩
theorem zd_W_law_1072 : decode zb_W_law 1072 = .ok (.iadd, 1) ∧ 1072 + 1 = 1073 := ⟨by decide +kernel, rfl⟩
theorem zd_W_law_1073 : decode zb_W_law 1073 = .ok (.iaload, 1) ∧ 1073 + 1 = 1074 := ⟨by decide +kernel, rfl⟩
theorem zd_W_law_1074 : decode zb_W_law 1074 = .ok (.invokevirtual 149, 3) ∧ 1074 + 3 = 1077 := ⟨by decide +kernel, rfl⟩
theorem zd_W_law_1077 : decode zb_W_law 1077 = .ok (.if_icmp .eq 129, 3) ∧ ((1077 : Nat) : Int) + (129) = ((1206 : Nat) : Int) ∧ 1077 + 3 = 1080 := ⟨by decide +kernel, by decide, rfl⟩
theorem zd_W_law_1080 : decode zb_W_law 1080 = .ok (.iconst 0, 1) ∧ 1080 + 1 = 1081 := ⟨by decide +kernel, rfl⟩
theorem zd_W_law_1081 : decode zb_W_law 1081 = .ok (.ireturn, 1) ∧ 1081 + 1 = 1082 := ⟨by decide +kernel, rfl⟩
theorem zd_W_law_1082 : decode zb_W_law 1082 = .ok (.aload_n 1, 1) ∧ 1082 + 1 = 1083 := ⟨by decide +kernel, rfl⟩
theorem zd_W_law_1083 : decode zb_W_law 1083 = .ok (.aload_n 0, 1) ∧ 1083 + 1 = 1084 := ⟨by decide +kernel, rfl⟩
theorem zd_W_law_1084 : decode zb_W_law 1084 = .ok (.iload_n 3, 1) ∧ 1084 + 1 = 1085 := ⟨by decide +kernel, rfl⟩
theorem zd_W_law_1085 : decode zb_W_law 1085 = .ok (.iconst 1, 1) ∧ 1085 + 1 = 1086 := ⟨by decide +kernel, rfl⟩
theorem zd_W_law_1086 : decode zb_W_law 1086 = .ok (.iadd, 1) ∧ 1086 + 1 = 1087 := ⟨by decide +kernel, rfl⟩
theorem zd_W_law_1087 : decode zb_W_law 1087 = .ok (.iaload, 1) ∧ 1087 + 1 = 1088 := ⟨by decide +kernel, rfl⟩
theorem zd_W_law_1088 : decode zb_W_law 1088 = .ok (.ifCond .eq 7, 3) ∧ ((1088 : Nat) : Int) + (7) = ((1095 : Nat) : Int) ∧ 1088 + 3 = 1091 := ⟨by decide +kernel, by decide, rfl⟩
theorem zd_W_law_1091 : decode zb_W_law 1091 = .ok (.iconst 1, 1) ∧ 1091 + 1 = 1092 := ⟨by decide +kernel, rfl⟩
theorem zd_W_law_1092 : decode zb_W_law 1092 = .ok (.goto 4, 3) ∧ ((1092 : Nat) : Int) + (4) = ((1096 : Nat) : Int) ∧ 1092 + 3 = 1095 := ⟨by decide +kernel, by decide, rfl⟩
theorem zd_W_law_1095 : decode zb_W_law 1095 = .ok (.iconst 0, 1) ∧ 1095 + 1 = 1096 := ⟨by decide +kernel, rfl⟩
theorem zd_W_law_1096 : decode zb_W_law 1096 = .ok (.invokevirtual 150, 3) ∧ 1096 + 3 = 1099 := ⟨by decide +kernel, rfl⟩
theorem zd_W_law_1099 : decode zb_W_law 1099 = .ok (.aload_n 2, 1) ∧ 1099 + 1 = 1100 := ⟨by decide +kernel, rfl⟩
theorem zd_W_law_1100 : decode zb_W_law 1100 = .ok (.aload_n 0, 1) ∧ 1100 + 1 = 1101 := ⟨by decide +kernel, rfl⟩
theorem zd_W_law_1101 : decode zb_W_law 1101 = .ok (.iload_n 3, 1) ∧ 1101 + 1 = 1102 := ⟨by decide +kernel, rfl⟩
theorem zd_W_law_1102 : decode zb_W_law 1102 = .ok (.iconst 1, 1) ∧ 1102 + 1 = 1103 := ⟨by decide +kernel, rfl⟩
theorem zd_W_law_1103 : decode zb_W_law 1103 = .ok (.iadd, 1) ∧ 1103 + 1 = 1104 := ⟨by decide +kernel, rfl⟩
theorem zd_W_law_1104 : decode zb_W_law 1104 = .ok (.iaload, 1) ∧ 1104 + 1 = 1105 := ⟨by decide +kernel, rfl⟩
theorem zd_W_law_1105 : decode zb_W_law 1105 = .ok (.ifCond .eq 7, 3) ∧ ((1105 : Nat) : Int) + (7) = ((1112 : Nat) : Int) ∧ 1105 + 3 = 1108 := ⟨by decide +kernel, by decide, rfl⟩
theorem zd_W_law_1108 : decode zb_W_law 1108 = .ok (.iconst 1, 1) ∧ 1108 + 1 = 1109 := ⟨by decide +kernel, rfl⟩
theorem zd_W_law_1109 : decode zb_W_law 1109 = .ok (.goto 4, 3) ∧ ((1109 : Nat) : Int) + (4) = ((1113 : Nat) : Int) ∧ 1109 + 3 = 1112 := ⟨by decide +kernel, by decide, rfl⟩
theorem zd_W_law_1112 : decode zb_W_law 1112 = .ok (.iconst 0, 1) ∧ 1112 + 1 = 1113 := ⟨by decide +kernel, rfl⟩
theorem zd_W_law_1113 : decode zb_W_law 1113 = .ok (.invokevirtual 153, 3) ∧ 1113 + 3 = 1116 := ⟨by decide +kernel, rfl⟩
theorem zd_W_law_1116 : decode zb_W_law 1116 = .ok (.if_icmp .eq 90, 3) ∧ ((1116 : Nat) : Int) + (90) = ((1206 : Nat) : Int) ∧ 1116 + 3 = 1119 := ⟨by decide +kernel, by decide, rfl⟩
theorem zd_W_law_1119 : decode zb_W_law 1119 = .ok (.iconst 0, 1) ∧ 1119 + 1 = 1120 := ⟨by decide +kernel, rfl⟩
theorem zd_W_law_1120 : decode zb_W_law 1120 = .ok (.ireturn, 1) ∧ 1120 + 1 = 1121 := ⟨by decide +kernel, rfl⟩
theorem zd_W_law_1121 : decode zb_W_law 1121 = .ok (.aload_n 1, 1) ∧ 1121 + 1 = 1122 := ⟨by decide +kernel, rfl⟩
theorem zd_W_law_1122 : decode zb_W_law 1122 = .ok (.aload_n 0, 1) ∧ 1122 + 1 = 1123 := ⟨by decide +kernel, rfl⟩
theorem zd_W_law_1123 : decode zb_W_law 1123 = .ok (.iload_n 3, 1) ∧ 1123 + 1 = 1124 := ⟨by decide +kernel, rfl⟩
theorem zd_W_law_1124 : decode zb_W_law 1124 = .ok (.iconst 1, 1) ∧ 1124 + 1 = 1125 := ⟨by decide +kernel, rfl⟩
theorem zd_W_law_1125 : decode zb_W_law 1125 = .ok (.iadd, 1) ∧ 1125 + 1 = 1126 := ⟨by decide +kernel, rfl⟩
theorem zd_W_law_1126 : decode zb_W_law 1126 = .ok (.iaload, 1) ∧ 1126 + 1 = 1127 := ⟨by decide +kernel, rfl⟩
theorem zd_W_law_1127 : decode zb_W_law 1127 = .ok (.invokevirtual 154, 3) ∧ 1127 + 3 = 1130 := ⟨by decide +kernel, rfl⟩
theorem zd_W_law_1130 : decode zb_W_law 1130 = .ok (.aload_n 2, 1) ∧ 1130 + 1 = 1131 := ⟨by decide +kernel, rfl⟩
theorem zd_W_law_1131 : decode zb_W_law 1131 = .ok (.aload_n 0, 1) ∧ 1131 + 1 = 1132 := ⟨by decide +kernel, rfl⟩
theorem zd_W_law_1132 : decode zb_W_law 1132 = .ok (.iload_n 3, 1) ∧ 1132 + 1 = 1133 := ⟨by decide +kernel, rfl⟩
theorem zd_W_law_1133 : decode zb_W_law 1133 = .ok (.iconst 1, 1) ∧ 1133 + 1 = 1134 := ⟨by decide +kernel, rfl⟩
theorem zd_W_law_1134 : decode zb_W_law 1134 = .ok (.iadd, 1) ∧ 1134 + 1 = 1135 := ⟨by decide +kernel, rfl⟩
theorem zd_W_law_1135 : decode zb_W_law 1135 = .ok (.iaload, 1) ∧ 1135 + 1 = 1136 := ⟨by decide +kernel, rfl⟩
theorem zd_W_law_1136 : decode zb_W_law 1136 = .ok (.invokevirtual 157, 3) ∧ 1136 + 3 = 1139 := ⟨by decide +kernel, rfl⟩
theorem zd_W_law_1139 : decode zb_W_law 1139 = .ok (.if_icmp .eq 67, 3) ∧ ((1139 : Nat) : Int) + (67) = ((1206 : Nat) : Int) ∧ 1139 + 3 = 1142 := ⟨by decide +kernel, by decide, rfl⟩
theorem zd_W_law_1142 : decode zb_W_law 1142 = .ok (.iconst 0, 1) ∧ 1142 + 1 = 1143 := ⟨by decide +kernel, rfl⟩
theorem zd_W_law_1143 : decode zb_W_law 1143 = .ok (.ireturn, 1) ∧ 1143 + 1 = 1144 := ⟨by decide +kernel, rfl⟩
theorem zd_W_law_1144 : decode zb_W_law 1144 = .ok (.aload_n 1, 1) ∧ 1144 + 1 = 1145 := ⟨by decide +kernel, rfl⟩
theorem zd_W_law_1145 : decode zb_W_law 1145 = .ok (.invokevirtual 158, 3) ∧ 1145 + 3 = 1148 := ⟨by decide +kernel, rfl⟩
theorem zd_W_law_1148 : decode zb_W_law 1148 = .ok (.aload_n 2, 1) ∧ 1148 + 1 = 1149 := ⟨by decide +kernel, rfl⟩
theorem zd_W_law_1149 : decode zb_W_law 1149 = .ok (.invokevirtual 161, 3) ∧ 1149 + 3 = 1152 := ⟨by decide +kernel, rfl⟩
theorem zd_W_law_1152 : decode zb_W_law 1152 = .ok (.if_icmp .eq 54, 3) ∧ ((1152 : Nat) : Int) + (54) = ((1206 : Nat) : Int) ∧ 1152 + 3 = 1155 := ⟨by decide +kernel, by decide, rfl⟩
theorem zd_W_law_1155 : decode zb_W_law 1155 = .ok (.iconst 0, 1) ∧ 1155 + 1 = 1156 := ⟨by decide +kernel, rfl⟩
theorem zd_W_law_1156 : decode zb_W_law 1156 = .ok (.ireturn, 1) ∧ 1156 + 1 = 1157 := ⟨by decide +kernel, rfl⟩
theorem zd_W_law_1157 : decode zb_W_law 1157 = .ok (.aload_n 1, 1) ∧ 1157 + 1 = 1158 := ⟨by decide +kernel, rfl⟩
theorem zd_W_law_1158 : decode zb_W_law 1158 = .ok (.invokevirtual 162, 3) ∧ 1158 + 3 = 1161 := ⟨by decide +kernel, rfl⟩
theorem zd_W_law_1161 : decode zb_W_law 1161 = .ok (.aload_n 2, 1) ∧ 1161 + 1 = 1162 := ⟨by decide +kernel, rfl⟩
theorem zd_W_law_1162 : decode zb_W_law 1162 = .ok (.invokevirtual 165, 3) ∧ 1162 + 3 = 1165 := ⟨by decide +kernel, rfl⟩
theorem zd_W_law_1165 : decode zb_W_law 1165 = .ok (.if_icmp .eq 41, 3) ∧ ((1165 : Nat) : Int) + (41) = ((1206 : Nat) : Int) ∧ 1165 + 3 = 1168 := ⟨by decide +kernel, by decide, rfl⟩
theorem zd_W_law_1168 : decode zb_W_law 1168 = .ok (.iconst 0, 1) ∧ 1168 + 1 = 1169 := ⟨by decide +kernel, rfl⟩
theorem zd_W_law_1169 : decode zb_W_law 1169 = .ok (.ireturn, 1) ∧ 1169 + 1 = 1170 := ⟨by decide +kernel, rfl⟩
theorem zd_W_law_1170 : decode zb_W_law 1170 = .ok (.aload_n 1, 1) ∧ 1170 + 1 = 1171 := ⟨by decide +kernel, rfl⟩
theorem zd_W_law_1171 : decode zb_W_law 1171 = .ok (.aload_n 0, 1) ∧ 1171 + 1 = 1172 := ⟨by decide +kernel, rfl⟩
theorem zd_W_law_1172 : decode zb_W_law 1172 = .ok (.iload_n 3, 1) ∧ 1172 + 1 = 1173 := ⟨by decide +kernel, rfl⟩
theorem zd_W_law_1173 : decode zb_W_law 1173 = .ok (.iconst 1, 1) ∧ 1173 + 1 = 1174 := ⟨by decide +kernel, rfl⟩
theorem zd_W_law_1174 : decode zb_W_law 1174 = .ok (.iadd, 1) ∧ 1174 + 1 = 1175 := ⟨by decide +kernel, rfl⟩
theorem zd_W_law_1175 : decode zb_W_law 1175 = .ok (.iaload, 1) ∧ 1175 + 1 = 1176 := ⟨by decide +kernel, rfl⟩
theorem zd_W_law_1176 : decode zb_W_law 1176 = .ok (.invokevirtual 166, 3) ∧ 1176 + 3 = 1179 := ⟨by decide +kernel, rfl⟩
theorem zd_W_law_1179 : decode zb_W_law 1179 = .ok (.aload_n 2, 1) ∧ 1179 + 1 = 1180 := ⟨by decide +kernel, rfl⟩
theorem zd_W_law_1180 : decode zb_W_law 1180 = .ok (.aload_n 0, 1) ∧ 1180 + 1 = 1181 := ⟨by decide +kernel, rfl⟩
theorem zd_W_law_1181 : decode zb_W_law 1181 = .ok (.iload_n 3, 1) ∧ 1181 + 1 = 1182 := ⟨by decide +kernel, rfl⟩
theorem zd_W_law_1182 : decode zb_W_law 1182 = .ok (.iconst 1, 1) ∧ 1182 + 1 = 1183 := ⟨by decide +kernel, rfl⟩
theorem zd_W_law_1183 : decode zb_W_law 1183 = .ok (.iadd, 1) ∧ 1183 + 1 = 1184 := ⟨by decide +kernel, rfl⟩
theorem zd_W_law_1184 : decode zb_W_law 1184 = .ok (.iaload, 1) ∧ 1184 + 1 = 1185 := ⟨by decide +kernel, rfl⟩
theorem zd_W_law_1185 : decode zb_W_law 1185 = .ok (.invokevirtual 169, 3) ∧ 1185 + 3 = 1188 := ⟨by decide +kernel, rfl⟩
theorem zd_W_law_1188 : decode zb_W_law 1188 = .ok (.if_icmp .eq 18, 3) ∧ ((1188 : Nat) : Int) + (18) = ((1206 : Nat) : Int) ∧ 1188 + 3 = 1191 := ⟨by decide +kernel, by decide, rfl⟩
theorem zd_W_law_1191 : decode zb_W_law 1191 = .ok (.iconst 0, 1) ∧ 1191 + 1 = 1192 := ⟨by decide +kernel, rfl⟩
theorem zd_W_law_1192 : decode zb_W_law 1192 = .ok (.ireturn, 1) ∧ 1192 + 1 = 1193 := ⟨by decide +kernel, rfl⟩
theorem zd_W_law_1193 : decode zb_W_law 1193 = .ok (.aload_n 1, 1) ∧ 1193 + 1 = 1194 := ⟨by decide +kernel, rfl⟩
theorem zd_W_law_1194 : decode zb_W_law 1194 = .ok (.invokevirtual 170, 3) ∧ 1194 + 3 = 1197 := ⟨by decide +kernel, rfl⟩
theorem zd_W_law_1197 : decode zb_W_law 1197 = .ok (.aload_n 2, 1) ∧ 1197 + 1 = 1198 := ⟨by decide +kernel, rfl⟩
theorem zd_W_law_1198 : decode zb_W_law 1198 = .ok (.invokevirtual 174, 3) ∧ 1198 + 3 = 1201 := ⟨by decide +kernel, rfl⟩
theorem zd_W_law_1201 : decode zb_W_law 1201 = .ok (.if_icmp .eq 5, 3) ∧ ((1201 : Nat) : Int) + (5) = ((1206 : Nat) : Int) ∧ 1201 + 3 = 1204 := ⟨by decide +kernel, by decide, rfl⟩
theorem zd_W_law_1204 : decode zb_W_law 1204 = .ok (.iconst 0, 1) ∧ 1204 + 1 = 1205 := ⟨by decide +kernel, rfl⟩
theorem zd_W_law_1205 : decode zb_W_law 1205 = .ok (.ireturn, 1) ∧ 1205 + 1 = 1206 := ⟨by decide +kernel, rfl⟩
theorem zd_W_law_1206 : decode zb_W_law 1206 = .ok (.iinc 3 6, 3) ∧ 1206 + 3 = 1209 := ⟨by decide +kernel, rfl⟩
theorem zd_W_law_1209 : decode zb_W_law 1209 = .ok (.goto (-1191), 3) ∧ ((1209 : Nat) : Int) + (-1191) = ((18 : Nat) : Int) ∧ 1209 + 3 = 1212 := ⟨by decide +kernel, by decide, rfl⟩
theorem zd_W_law_1212 : decode zb_W_law 1212 = .ok (.iconst 1, 1) ∧ 1212 + 1 = 1213 := ⟨by decide +kernel, rfl⟩
theorem zd_W_law_1213 : decode zb_W_law 1213 = .ok (.ireturn, 1) ∧ 1213 + 1 = 1214 := ⟨by decide +kernel, rfl⟩
