/-! ===== the law: its loop, over what the functions answer ===== -/
def m_Law : MT := (x, code, 4, ret)
theorem d_Law_0 : DC m_Law 0 (.new 7) 3 3 := ⟨by decide +kernel, rfl⟩
theorem d_Law_3 : DC m_Law 3 .dup 1 4 := ⟨by decide +kernel, rfl⟩
theorem d_Law_4 : DC m_Law 4 (.invokespecial 9) 3 7 := ⟨by decide +kernel, rfl⟩
theorem d_Law_7 : DC m_Law 7 (.astore_n 1) 1 8 := ⟨by decide +kernel, rfl⟩
theorem d_Law_8 : DC m_Law 8 (.new 10) 3 11 := ⟨by decide +kernel, rfl⟩
theorem d_Law_11 : DC m_Law 11 .dup 1 12 := ⟨by decide +kernel, rfl⟩
theorem d_Law_12 : DC m_Law 12 (.invokespecial 12) 3 15 := ⟨by decide +kernel, rfl⟩
theorem d_Law_15 : DC m_Law 15 (.astore_n 2) 1 16 := ⟨by decide +kernel, rfl⟩
theorem d_Law_16 : DC m_Law 16 (.iconst 0) 1 17 := ⟨by decide +kernel, rfl⟩
theorem d_Law_17 : DC m_Law 17 (.istore_n 3) 1 18 := ⟨by decide +kernel, rfl⟩
theorem d_Law_18 : DC m_Law 18 (.iload_n 3) 1 19 := ⟨by decide +kernel, rfl⟩
theorem d_Law_19 : DC m_Law 19 (.aload_n 0) 1 20 := ⟨by decide +kernel, rfl⟩
theorem d_Law_20 : DC m_Law 20 .arraylength 1 21 := ⟨by decide +kernel, rfl⟩
theorem d_Law_21 : DC m_Law 21 (.bipush 6) 2 23 := ⟨by decide +kernel, rfl⟩
theorem d_Law_23 : DC m_Law 23 .isub 1 24 := ⟨by decide +kernel, rfl⟩
theorem d_Law_24 : DC m_Law 24 (.if_icmp .gt 1232) 3 27 := ⟨by decide +kernel, rfl⟩
theorem d_Law_27 : DC m_Law 27 (.aload_n 0) 1 28 := ⟨by decide +kernel, rfl⟩
theorem d_Law_28 : DC m_Law 28 (.iload_n 3) 1 29 := ⟨by decide +kernel, rfl⟩
theorem d_Law_29 : DC m_Law 29 .iaload 1 30 := ⟨by decide +kernel, rfl⟩
theorem d_Law_30 : DC m_Law 30 (.bipush 31) 2 32 := ⟨by decide +kernel, rfl⟩
theorem d_Law_32 : DC m_Law 32 .iand 1 33 := ⟨by decide +kernel, rfl⟩
theorem d_Law_33 : DC m_Law 33 (.tableswitch 1217 0 31 #[143, 206, 229, 242, 255, 304, 363, 412, 487, 536, 585, 644, 677, 690, 723, 756, 769, 792, 825, 848, 881, 904, 927, 980, 1003, 1026, 1039, 1082, 1105, 1128, 1161, 1194]) 143 176 := ⟨by decide +kernel, rfl⟩
theorem d_Law_176 : DC m_Law 176 (.aload_n 1) 1 177 := ⟨by decide +kernel, rfl⟩
theorem d_Law_177 : DC m_Law 177 (.aload_n 0) 1 178 := ⟨by decide +kernel, rfl⟩
theorem d_Law_178 : DC m_Law 178 (.iload_n 3) 1 179 := ⟨by decide +kernel, rfl⟩
theorem d_Law_179 : DC m_Law 179 (.iconst 1) 1 180 := ⟨by decide +kernel, rfl⟩
theorem d_Law_180 : DC m_Law 180 .iadd 1 181 := ⟨by decide +kernel, rfl⟩
theorem d_Law_181 : DC m_Law 181 .iaload 1 182 := ⟨by decide +kernel, rfl⟩
theorem d_Law_182 : DC m_Law 182 (.aload_n 0) 1 183 := ⟨by decide +kernel, rfl⟩
theorem d_Law_183 : DC m_Law 183 (.iload_n 3) 1 184 := ⟨by decide +kernel, rfl⟩
theorem d_Law_184 : DC m_Law 184 (.iconst 2) 1 185 := ⟨by decide +kernel, rfl⟩
theorem d_Law_185 : DC m_Law 185 .iadd 1 186 := ⟨by decide +kernel, rfl⟩
theorem d_Law_186 : DC m_Law 186 .iaload 1 187 := ⟨by decide +kernel, rfl⟩
theorem d_Law_187 : DC m_Law 187 (.aload_n 0) 1 188 := ⟨by decide +kernel, rfl⟩
theorem d_Law_188 : DC m_Law 188 (.iload_n 3) 1 189 := ⟨by decide +kernel, rfl⟩
theorem d_Law_189 : DC m_Law 189 (.iconst 3) 1 190 := ⟨by decide +kernel, rfl⟩
theorem d_Law_190 : DC m_Law 190 .iadd 1 191 := ⟨by decide +kernel, rfl⟩
theorem d_Law_191 : DC m_Law 191 .iaload 1 192 := ⟨by decide +kernel, rfl⟩
theorem d_Law_192 : DC m_Law 192 (.aload_n 0) 1 193 := ⟨by decide +kernel, rfl⟩
theorem d_Law_193 : DC m_Law 193 (.iload_n 3) 1 194 := ⟨by decide +kernel, rfl⟩
theorem d_Law_194 : DC m_Law 194 (.iconst 4) 1 195 := ⟨by decide +kernel, rfl⟩
theorem d_Law_195 : DC m_Law 195 .iadd 1 196 := ⟨by decide +kernel, rfl⟩
theorem d_Law_196 : DC m_Law 196 .iaload 1 197 := ⟨by decide +kernel, rfl⟩
theorem d_Law_197 : DC m_Law 197 (.aload_n 0) 1 198 := ⟨by decide +kernel, rfl⟩
theorem d_Law_198 : DC m_Law 198 (.iload_n 3) 1 199 := ⟨by decide +kernel, rfl⟩
theorem d_Law_199 : DC m_Law 199 (.iconst 5) 1 200 := ⟨by decide +kernel, rfl⟩
theorem d_Law_200 : DC m_Law 200 .iadd 1 201 := ⟨by decide +kernel, rfl⟩
theorem d_Law_201 : DC m_Law 201 .iaload 1 202 := ⟨by decide +kernel, rfl⟩
theorem d_Law_202 : DC m_Law 202 (.invokevirtual 13) 3 205 := ⟨by decide +kernel, rfl⟩
theorem d_Law_205 : DC m_Law 205 (.aload_n 2) 1 206 := ⟨by decide +kernel, rfl⟩
theorem d_Law_206 : DC m_Law 206 (.aload_n 0) 1 207 := ⟨by decide +kernel, rfl⟩
theorem d_Law_207 : DC m_Law 207 (.iload_n 3) 1 208 := ⟨by decide +kernel, rfl⟩
theorem d_Law_208 : DC m_Law 208 (.iconst 1) 1 209 := ⟨by decide +kernel, rfl⟩
theorem d_Law_209 : DC m_Law 209 .iadd 1 210 := ⟨by decide +kernel, rfl⟩
theorem d_Law_210 : DC m_Law 210 .iaload 1 211 := ⟨by decide +kernel, rfl⟩
theorem d_Law_211 : DC m_Law 211 (.aload_n 0) 1 212 := ⟨by decide +kernel, rfl⟩
theorem d_Law_212 : DC m_Law 212 (.iload_n 3) 1 213 := ⟨by decide +kernel, rfl⟩
theorem d_Law_213 : DC m_Law 213 (.iconst 2) 1 214 := ⟨by decide +kernel, rfl⟩
theorem d_Law_214 : DC m_Law 214 .iadd 1 215 := ⟨by decide +kernel, rfl⟩
theorem d_Law_215 : DC m_Law 215 .iaload 1 216 := ⟨by decide +kernel, rfl⟩
theorem d_Law_216 : DC m_Law 216 (.aload_n 0) 1 217 := ⟨by decide +kernel, rfl⟩
theorem d_Law_217 : DC m_Law 217 (.iload_n 3) 1 218 := ⟨by decide +kernel, rfl⟩
theorem d_Law_218 : DC m_Law 218 (.iconst 3) 1 219 := ⟨by decide +kernel, rfl⟩
theorem d_Law_219 : DC m_Law 219 .iadd 1 220 := ⟨by decide +kernel, rfl⟩
theorem d_Law_220 : DC m_Law 220 .iaload 1 221 := ⟨by decide +kernel, rfl⟩
theorem d_Law_221 : DC m_Law 221 (.aload_n 0) 1 222 := ⟨by decide +kernel, rfl⟩
theorem d_Law_222 : DC m_Law 222 (.iload_n 3) 1 223 := ⟨by decide +kernel, rfl⟩
theorem d_Law_223 : DC m_Law 223 (.iconst 4) 1 224 := ⟨by decide +kernel, rfl⟩
theorem d_Law_224 : DC m_Law 224 .iadd 1 225 := ⟨by decide +kernel, rfl⟩
theorem d_Law_225 : DC m_Law 225 .iaload 1 226 := ⟨by decide +kernel, rfl⟩
theorem d_Law_226 : DC m_Law 226 (.aload_n 0) 1 227 := ⟨by decide +kernel, rfl⟩
theorem d_Law_227 : DC m_Law 227 (.iload_n 3) 1 228 := ⟨by decide +kernel, rfl⟩
theorem d_Law_228 : DC m_Law 228 (.iconst 5) 1 229 := ⟨by decide +kernel, rfl⟩
theorem d_Law_229 : DC m_Law 229 .iadd 1 230 := ⟨by decide +kernel, rfl⟩
theorem d_Law_230 : DC m_Law 230 .iaload 1 231 := ⟨by decide +kernel, rfl⟩
theorem d_Law_231 : DC m_Law 231 (.invokevirtual 17) 3 234 := ⟨by decide +kernel, rfl⟩
theorem d_Law_234 : DC m_Law 234 (.if_icmp .eq 1016) 3 237 := ⟨by decide +kernel, rfl⟩
theorem d_Law_237 : DC m_Law 237 (.iconst 0) 1 238 := ⟨by decide +kernel, rfl⟩
theorem d_Law_238 : DC m_Law 238 .ireturn 1 239 := ⟨by decide +kernel, rfl⟩
theorem d_Law_239 : DC m_Law 239 (.aload_n 1) 1 240 := ⟨by decide +kernel, rfl⟩
theorem d_Law_240 : DC m_Law 240 (.aload_n 0) 1 241 := ⟨by decide +kernel, rfl⟩
theorem d_Law_241 : DC m_Law 241 (.iload_n 3) 1 242 := ⟨by decide +kernel, rfl⟩
theorem d_Law_242 : DC m_Law 242 (.iconst 1) 1 243 := ⟨by decide +kernel, rfl⟩
theorem d_Law_243 : DC m_Law 243 .iadd 1 244 := ⟨by decide +kernel, rfl⟩
theorem d_Law_244 : DC m_Law 244 .iaload 1 245 := ⟨by decide +kernel, rfl⟩
theorem d_Law_245 : DC m_Law 245 (.invokevirtual 18) 3 248 := ⟨by decide +kernel, rfl⟩
theorem d_Law_248 : DC m_Law 248 (.aload_n 2) 1 249 := ⟨by decide +kernel, rfl⟩
theorem d_Law_249 : DC m_Law 249 (.aload_n 0) 1 250 := ⟨by decide +kernel, rfl⟩
theorem d_Law_250 : DC m_Law 250 (.iload_n 3) 1 251 := ⟨by decide +kernel, rfl⟩
theorem d_Law_251 : DC m_Law 251 (.iconst 1) 1 252 := ⟨by decide +kernel, rfl⟩
theorem d_Law_252 : DC m_Law 252 .iadd 1 253 := ⟨by decide +kernel, rfl⟩
theorem d_Law_253 : DC m_Law 253 .iaload 1 254 := ⟨by decide +kernel, rfl⟩
theorem d_Law_254 : DC m_Law 254 (.invokevirtual 22) 3 257 := ⟨by decide +kernel, rfl⟩
theorem d_Law_257 : DC m_Law 257 (.if_icmp .eq 993) 3 260 := ⟨by decide +kernel, rfl⟩
theorem d_Law_260 : DC m_Law 260 (.iconst 0) 1 261 := ⟨by decide +kernel, rfl⟩
theorem d_Law_261 : DC m_Law 261 .ireturn 1 262 := ⟨by decide +kernel, rfl⟩
theorem d_Law_262 : DC m_Law 262 (.aload_n 1) 1 263 := ⟨by decide +kernel, rfl⟩
theorem d_Law_263 : DC m_Law 263 (.invokevirtual 23) 3 266 := ⟨by decide +kernel, rfl⟩
theorem d_Law_266 : DC m_Law 266 (.aload_n 2) 1 267 := ⟨by decide +kernel, rfl⟩
theorem d_Law_267 : DC m_Law 267 (.invokevirtual 27) 3 270 := ⟨by decide +kernel, rfl⟩
theorem d_Law_270 : DC m_Law 270 (.if_icmp .eq 980) 3 273 := ⟨by decide +kernel, rfl⟩
theorem d_Law_273 : DC m_Law 273 (.iconst 0) 1 274 := ⟨by decide +kernel, rfl⟩
theorem d_Law_274 : DC m_Law 274 .ireturn 1 275 := ⟨by decide +kernel, rfl⟩
theorem d_Law_275 : DC m_Law 275 (.aload_n 1) 1 276 := ⟨by decide +kernel, rfl⟩
theorem d_Law_276 : DC m_Law 276 (.invokevirtual 28) 3 279 := ⟨by decide +kernel, rfl⟩
theorem d_Law_279 : DC m_Law 279 (.aload_n 2) 1 280 := ⟨by decide +kernel, rfl⟩
theorem d_Law_280 : DC m_Law 280 (.invokevirtual 31) 3 283 := ⟨by decide +kernel, rfl⟩
theorem d_Law_283 : DC m_Law 283 (.if_icmp .eq 967) 3 286 := ⟨by decide +kernel, rfl⟩
theorem d_Law_286 : DC m_Law 286 (.iconst 0) 1 287 := ⟨by decide +kernel, rfl⟩
theorem d_Law_287 : DC m_Law 287 .ireturn 1 288 := ⟨by decide +kernel, rfl⟩
theorem d_Law_288 : DC m_Law 288 (.aload_n 1) 1 289 := ⟨by decide +kernel, rfl⟩
theorem d_Law_289 : DC m_Law 289 (.aload_n 0) 1 290 := ⟨by decide +kernel, rfl⟩
theorem d_Law_290 : DC m_Law 290 (.iload_n 3) 1 291 := ⟨by decide +kernel, rfl⟩
theorem d_Law_291 : DC m_Law 291 (.iconst 1) 1 292 := ⟨by decide +kernel, rfl⟩
theorem d_Law_292 : DC m_Law 292 .iadd 1 293 := ⟨by decide +kernel, rfl⟩
theorem d_Law_293 : DC m_Law 293 .iaload 1 294 := ⟨by decide +kernel, rfl⟩
theorem d_Law_294 : DC m_Law 294 (.ifCond .eq 7) 3 297 := ⟨by decide +kernel, rfl⟩
theorem d_Law_297 : DC m_Law 297 (.iconst 1) 1 298 := ⟨by decide +kernel, rfl⟩
theorem d_Law_298 : DC m_Law 298 (.goto 4) 3 301 := ⟨by decide +kernel, rfl⟩
theorem d_Law_301 : DC m_Law 301 (.iconst 0) 1 302 := ⟨by decide +kernel, rfl⟩
theorem d_Law_302 : DC m_Law 302 (.aload_n 0) 1 303 := ⟨by decide +kernel, rfl⟩
theorem d_Law_303 : DC m_Law 303 (.iload_n 3) 1 304 := ⟨by decide +kernel, rfl⟩
theorem d_Law_304 : DC m_Law 304 (.iconst 2) 1 305 := ⟨by decide +kernel, rfl⟩
theorem d_Law_305 : DC m_Law 305 .iadd 1 306 := ⟨by decide +kernel, rfl⟩
theorem d_Law_306 : DC m_Law 306 .iaload 1 307 := ⟨by decide +kernel, rfl⟩
theorem d_Law_307 : DC m_Law 307 (.invokevirtual 32) 3 310 := ⟨by decide +kernel, rfl⟩
theorem d_Law_310 : DC m_Law 310 (.aload_n 2) 1 311 := ⟨by decide +kernel, rfl⟩
theorem d_Law_311 : DC m_Law 311 (.aload_n 0) 1 312 := ⟨by decide +kernel, rfl⟩
theorem d_Law_312 : DC m_Law 312 (.iload_n 3) 1 313 := ⟨by decide +kernel, rfl⟩
theorem d_Law_313 : DC m_Law 313 (.iconst 1) 1 314 := ⟨by decide +kernel, rfl⟩
theorem d_Law_314 : DC m_Law 314 .iadd 1 315 := ⟨by decide +kernel, rfl⟩
theorem d_Law_315 : DC m_Law 315 .iaload 1 316 := ⟨by decide +kernel, rfl⟩
theorem d_Law_316 : DC m_Law 316 (.ifCond .eq 7) 3 319 := ⟨by decide +kernel, rfl⟩
theorem d_Law_319 : DC m_Law 319 (.iconst 1) 1 320 := ⟨by decide +kernel, rfl⟩
theorem d_Law_320 : DC m_Law 320 (.goto 4) 3 323 := ⟨by decide +kernel, rfl⟩
theorem d_Law_323 : DC m_Law 323 (.iconst 0) 1 324 := ⟨by decide +kernel, rfl⟩
theorem d_Law_324 : DC m_Law 324 (.aload_n 0) 1 325 := ⟨by decide +kernel, rfl⟩
theorem d_Law_325 : DC m_Law 325 (.iload_n 3) 1 326 := ⟨by decide +kernel, rfl⟩
theorem d_Law_326 : DC m_Law 326 (.iconst 2) 1 327 := ⟨by decide +kernel, rfl⟩
theorem d_Law_327 : DC m_Law 327 .iadd 1 328 := ⟨by decide +kernel, rfl⟩
theorem d_Law_328 : DC m_Law 328 .iaload 1 329 := ⟨by decide +kernel, rfl⟩
theorem d_Law_329 : DC m_Law 329 (.invokevirtual 36) 3 332 := ⟨by decide +kernel, rfl⟩
theorem d_Law_332 : DC m_Law 332 (.if_icmp .eq 918) 3 335 := ⟨by decide +kernel, rfl⟩
theorem d_Law_335 : DC m_Law 335 (.iconst 0) 1 336 := ⟨by decide +kernel, rfl⟩
theorem d_Law_336 : DC m_Law 336 .ireturn 1 337 := ⟨by decide +kernel, rfl⟩
theorem d_Law_337 : DC m_Law 337 (.aload_n 1) 1 338 := ⟨by decide +kernel, rfl⟩
theorem d_Law_338 : DC m_Law 338 (.aload_n 0) 1 339 := ⟨by decide +kernel, rfl⟩
theorem d_Law_339 : DC m_Law 339 (.iload_n 3) 1 340 := ⟨by decide +kernel, rfl⟩
theorem d_Law_340 : DC m_Law 340 (.iconst 1) 1 341 := ⟨by decide +kernel, rfl⟩
theorem d_Law_341 : DC m_Law 341 .iadd 1 342 := ⟨by decide +kernel, rfl⟩
theorem d_Law_342 : DC m_Law 342 .iaload 1 343 := ⟨by decide +kernel, rfl⟩
theorem d_Law_343 : DC m_Law 343 (.ifCond .eq 7) 3 346 := ⟨by decide +kernel, rfl⟩
theorem d_Law_346 : DC m_Law 346 (.iconst 1) 1 347 := ⟨by decide +kernel, rfl⟩
theorem d_Law_347 : DC m_Law 347 (.goto 4) 3 350 := ⟨by decide +kernel, rfl⟩
theorem d_Law_350 : DC m_Law 350 (.iconst 0) 1 351 := ⟨by decide +kernel, rfl⟩
theorem d_Law_351 : DC m_Law 351 (.aload_n 0) 1 352 := ⟨by decide +kernel, rfl⟩
theorem d_Law_352 : DC m_Law 352 (.iload_n 3) 1 353 := ⟨by decide +kernel, rfl⟩
theorem d_Law_353 : DC m_Law 353 (.iconst 2) 1 354 := ⟨by decide +kernel, rfl⟩
theorem d_Law_354 : DC m_Law 354 .iadd 1 355 := ⟨by decide +kernel, rfl⟩
theorem d_Law_355 : DC m_Law 355 .iaload 1 356 := ⟨by decide +kernel, rfl⟩
theorem d_Law_356 : DC m_Law 356 (.aload_n 0) 1 357 := ⟨by decide +kernel, rfl⟩
theorem d_Law_357 : DC m_Law 357 (.iload_n 3) 1 358 := ⟨by decide +kernel, rfl⟩
theorem d_Law_358 : DC m_Law 358 (.iconst 3) 1 359 := ⟨by decide +kernel, rfl⟩
theorem d_Law_359 : DC m_Law 359 .iadd 1 360 := ⟨by decide +kernel, rfl⟩
theorem d_Law_360 : DC m_Law 360 .iaload 1 361 := ⟨by decide +kernel, rfl⟩
theorem d_Law_361 : DC m_Law 361 (.invokevirtual 37) 3 364 := ⟨by decide +kernel, rfl⟩
theorem d_Law_364 : DC m_Law 364 (.aload_n 2) 1 365 := ⟨by decide +kernel, rfl⟩
theorem d_Law_365 : DC m_Law 365 (.aload_n 0) 1 366 := ⟨by decide +kernel, rfl⟩
theorem d_Law_366 : DC m_Law 366 (.iload_n 3) 1 367 := ⟨by decide +kernel, rfl⟩
theorem d_Law_367 : DC m_Law 367 (.iconst 1) 1 368 := ⟨by decide +kernel, rfl⟩
theorem d_Law_368 : DC m_Law 368 .iadd 1 369 := ⟨by decide +kernel, rfl⟩
theorem d_Law_369 : DC m_Law 369 .iaload 1 370 := ⟨by decide +kernel, rfl⟩
theorem d_Law_370 : DC m_Law 370 (.ifCond .eq 7) 3 373 := ⟨by decide +kernel, rfl⟩
theorem d_Law_373 : DC m_Law 373 (.iconst 1) 1 374 := ⟨by decide +kernel, rfl⟩
theorem d_Law_374 : DC m_Law 374 (.goto 4) 3 377 := ⟨by decide +kernel, rfl⟩
theorem d_Law_377 : DC m_Law 377 (.iconst 0) 1 378 := ⟨by decide +kernel, rfl⟩
theorem d_Law_378 : DC m_Law 378 (.aload_n 0) 1 379 := ⟨by decide +kernel, rfl⟩
theorem d_Law_379 : DC m_Law 379 (.iload_n 3) 1 380 := ⟨by decide +kernel, rfl⟩
theorem d_Law_380 : DC m_Law 380 (.iconst 2) 1 381 := ⟨by decide +kernel, rfl⟩
theorem d_Law_381 : DC m_Law 381 .iadd 1 382 := ⟨by decide +kernel, rfl⟩
theorem d_Law_382 : DC m_Law 382 .iaload 1 383 := ⟨by decide +kernel, rfl⟩
theorem d_Law_383 : DC m_Law 383 (.aload_n 0) 1 384 := ⟨by decide +kernel, rfl⟩
theorem d_Law_384 : DC m_Law 384 (.iload_n 3) 1 385 := ⟨by decide +kernel, rfl⟩
theorem d_Law_385 : DC m_Law 385 (.iconst 3) 1 386 := ⟨by decide +kernel, rfl⟩
theorem d_Law_386 : DC m_Law 386 .iadd 1 387 := ⟨by decide +kernel, rfl⟩
theorem d_Law_387 : DC m_Law 387 .iaload 1 388 := ⟨by decide +kernel, rfl⟩
theorem d_Law_388 : DC m_Law 388 (.invokevirtual 41) 3 391 := ⟨by decide +kernel, rfl⟩
theorem d_Law_391 : DC m_Law 391 (.if_icmp .eq 859) 3 394 := ⟨by decide +kernel, rfl⟩
theorem d_Law_394 : DC m_Law 394 (.iconst 0) 1 395 := ⟨by decide +kernel, rfl⟩
theorem d_Law_395 : DC m_Law 395 .ireturn 1 396 := ⟨by decide +kernel, rfl⟩
theorem d_Law_396 : DC m_Law 396 (.aload_n 1) 1 397 := ⟨by decide +kernel, rfl⟩
theorem d_Law_397 : DC m_Law 397 (.aload_n 0) 1 398 := ⟨by decide +kernel, rfl⟩
theorem d_Law_398 : DC m_Law 398 (.iload_n 3) 1 399 := ⟨by decide +kernel, rfl⟩
theorem d_Law_399 : DC m_Law 399 (.iconst 1) 1 400 := ⟨by decide +kernel, rfl⟩
theorem d_Law_400 : DC m_Law 400 .iadd 1 401 := ⟨by decide +kernel, rfl⟩
theorem d_Law_401 : DC m_Law 401 .iaload 1 402 := ⟨by decide +kernel, rfl⟩
theorem d_Law_402 : DC m_Law 402 (.ifCond .eq 7) 3 405 := ⟨by decide +kernel, rfl⟩
theorem d_Law_405 : DC m_Law 405 (.iconst 1) 1 406 := ⟨by decide +kernel, rfl⟩
theorem d_Law_406 : DC m_Law 406 (.goto 4) 3 409 := ⟨by decide +kernel, rfl⟩
theorem d_Law_409 : DC m_Law 409 (.iconst 0) 1 410 := ⟨by decide +kernel, rfl⟩
theorem d_Law_410 : DC m_Law 410 (.aload_n 0) 1 411 := ⟨by decide +kernel, rfl⟩
theorem d_Law_411 : DC m_Law 411 (.iload_n 3) 1 412 := ⟨by decide +kernel, rfl⟩
theorem d_Law_412 : DC m_Law 412 (.iconst 2) 1 413 := ⟨by decide +kernel, rfl⟩
theorem d_Law_413 : DC m_Law 413 .iadd 1 414 := ⟨by decide +kernel, rfl⟩
theorem d_Law_414 : DC m_Law 414 .iaload 1 415 := ⟨by decide +kernel, rfl⟩
theorem d_Law_415 : DC m_Law 415 (.invokevirtual 42) 3 418 := ⟨by decide +kernel, rfl⟩
theorem d_Law_418 : DC m_Law 418 (.aload_n 2) 1 419 := ⟨by decide +kernel, rfl⟩
theorem d_Law_419 : DC m_Law 419 (.aload_n 0) 1 420 := ⟨by decide +kernel, rfl⟩
theorem d_Law_420 : DC m_Law 420 (.iload_n 3) 1 421 := ⟨by decide +kernel, rfl⟩
theorem d_Law_421 : DC m_Law 421 (.iconst 1) 1 422 := ⟨by decide +kernel, rfl⟩
theorem d_Law_422 : DC m_Law 422 .iadd 1 423 := ⟨by decide +kernel, rfl⟩
theorem d_Law_423 : DC m_Law 423 .iaload 1 424 := ⟨by decide +kernel, rfl⟩
theorem d_Law_424 : DC m_Law 424 (.ifCond .eq 7) 3 427 := ⟨by decide +kernel, rfl⟩
theorem d_Law_427 : DC m_Law 427 (.iconst 1) 1 428 := ⟨by decide +kernel, rfl⟩
theorem d_Law_428 : DC m_Law 428 (.goto 4) 3 431 := ⟨by decide +kernel, rfl⟩
theorem d_Law_431 : DC m_Law 431 (.iconst 0) 1 432 := ⟨by decide +kernel, rfl⟩
theorem d_Law_432 : DC m_Law 432 (.aload_n 0) 1 433 := ⟨by decide +kernel, rfl⟩
theorem d_Law_433 : DC m_Law 433 (.iload_n 3) 1 434 := ⟨by decide +kernel, rfl⟩
theorem d_Law_434 : DC m_Law 434 (.iconst 2) 1 435 := ⟨by decide +kernel, rfl⟩
theorem d_Law_435 : DC m_Law 435 .iadd 1 436 := ⟨by decide +kernel, rfl⟩
theorem d_Law_436 : DC m_Law 436 .iaload 1 437 := ⟨by decide +kernel, rfl⟩
theorem d_Law_437 : DC m_Law 437 (.invokevirtual 45) 3 440 := ⟨by decide +kernel, rfl⟩
theorem d_Law_440 : DC m_Law 440 (.if_icmp .eq 810) 3 443 := ⟨by decide +kernel, rfl⟩
theorem d_Law_443 : DC m_Law 443 (.iconst 0) 1 444 := ⟨by decide +kernel, rfl⟩
theorem d_Law_444 : DC m_Law 444 .ireturn 1 445 := ⟨by decide +kernel, rfl⟩
theorem d_Law_445 : DC m_Law 445 (.aload_n 1) 1 446 := ⟨by decide +kernel, rfl⟩
theorem d_Law_446 : DC m_Law 446 (.aload_n 0) 1 447 := ⟨by decide +kernel, rfl⟩
theorem d_Law_447 : DC m_Law 447 (.iload_n 3) 1 448 := ⟨by decide +kernel, rfl⟩
theorem d_Law_448 : DC m_Law 448 (.iconst 1) 1 449 := ⟨by decide +kernel, rfl⟩
theorem d_Law_449 : DC m_Law 449 .iadd 1 450 := ⟨by decide +kernel, rfl⟩
theorem d_Law_450 : DC m_Law 450 .iaload 1 451 := ⟨by decide +kernel, rfl⟩
theorem d_Law_451 : DC m_Law 451 (.ifCond .eq 7) 3 454 := ⟨by decide +kernel, rfl⟩
theorem d_Law_454 : DC m_Law 454 (.iconst 1) 1 455 := ⟨by decide +kernel, rfl⟩
theorem d_Law_455 : DC m_Law 455 (.goto 4) 3 458 := ⟨by decide +kernel, rfl⟩
theorem d_Law_458 : DC m_Law 458 (.iconst 0) 1 459 := ⟨by decide +kernel, rfl⟩
theorem d_Law_459 : DC m_Law 459 (.aload_n 0) 1 460 := ⟨by decide +kernel, rfl⟩
theorem d_Law_460 : DC m_Law 460 (.iload_n 3) 1 461 := ⟨by decide +kernel, rfl⟩
theorem d_Law_461 : DC m_Law 461 (.iconst 2) 1 462 := ⟨by decide +kernel, rfl⟩
theorem d_Law_462 : DC m_Law 462 .iadd 1 463 := ⟨by decide +kernel, rfl⟩
theorem d_Law_463 : DC m_Law 463 .iaload 1 464 := ⟨by decide +kernel, rfl⟩
theorem d_Law_464 : DC m_Law 464 (.aload_n 0) 1 465 := ⟨by decide +kernel, rfl⟩
theorem d_Law_465 : DC m_Law 465 (.iload_n 3) 1 466 := ⟨by decide +kernel, rfl⟩
theorem d_Law_466 : DC m_Law 466 (.iconst 3) 1 467 := ⟨by decide +kernel, rfl⟩
theorem d_Law_467 : DC m_Law 467 .iadd 1 468 := ⟨by decide +kernel, rfl⟩
theorem d_Law_468 : DC m_Law 468 .iaload 1 469 := ⟨by decide +kernel, rfl⟩
theorem d_Law_469 : DC m_Law 469 (.ifCond .eq 7) 3 472 := ⟨by decide +kernel, rfl⟩
theorem d_Law_472 : DC m_Law 472 (.iconst 1) 1 473 := ⟨by decide +kernel, rfl⟩
theorem d_Law_473 : DC m_Law 473 (.goto 4) 3 476 := ⟨by decide +kernel, rfl⟩
theorem d_Law_476 : DC m_Law 476 (.iconst 0) 1 477 := ⟨by decide +kernel, rfl⟩
theorem d_Law_477 : DC m_Law 477 (.invokevirtual 46) 3 480 := ⟨by decide +kernel, rfl⟩
theorem d_Law_480 : DC m_Law 480 (.aload_n 2) 1 481 := ⟨by decide +kernel, rfl⟩
theorem d_Law_481 : DC m_Law 481 (.aload_n 0) 1 482 := ⟨by decide +kernel, rfl⟩
theorem d_Law_482 : DC m_Law 482 (.iload_n 3) 1 483 := ⟨by decide +kernel, rfl⟩
theorem d_Law_483 : DC m_Law 483 (.iconst 1) 1 484 := ⟨by decide +kernel, rfl⟩
theorem d_Law_484 : DC m_Law 484 .iadd 1 485 := ⟨by decide +kernel, rfl⟩
theorem d_Law_485 : DC m_Law 485 .iaload 1 486 := ⟨by decide +kernel, rfl⟩
theorem d_Law_486 : DC m_Law 486 (.ifCond .eq 7) 3 489 := ⟨by decide +kernel, rfl⟩
theorem d_Law_489 : DC m_Law 489 (.iconst 1) 1 490 := ⟨by decide +kernel, rfl⟩
theorem d_Law_490 : DC m_Law 490 (.goto 4) 3 493 := ⟨by decide +kernel, rfl⟩
theorem d_Law_493 : DC m_Law 493 (.iconst 0) 1 494 := ⟨by decide +kernel, rfl⟩
theorem d_Law_494 : DC m_Law 494 (.aload_n 0) 1 495 := ⟨by decide +kernel, rfl⟩
theorem d_Law_495 : DC m_Law 495 (.iload_n 3) 1 496 := ⟨by decide +kernel, rfl⟩
theorem d_Law_496 : DC m_Law 496 (.iconst 2) 1 497 := ⟨by decide +kernel, rfl⟩
theorem d_Law_497 : DC m_Law 497 .iadd 1 498 := ⟨by decide +kernel, rfl⟩
theorem d_Law_498 : DC m_Law 498 .iaload 1 499 := ⟨by decide +kernel, rfl⟩
theorem d_Law_499 : DC m_Law 499 (.aload_n 0) 1 500 := ⟨by decide +kernel, rfl⟩
theorem d_Law_500 : DC m_Law 500 (.iload_n 3) 1 501 := ⟨by decide +kernel, rfl⟩
theorem d_Law_501 : DC m_Law 501 (.iconst 3) 1 502 := ⟨by decide +kernel, rfl⟩
theorem d_Law_502 : DC m_Law 502 .iadd 1 503 := ⟨by decide +kernel, rfl⟩
theorem d_Law_503 : DC m_Law 503 .iaload 1 504 := ⟨by decide +kernel, rfl⟩
theorem d_Law_504 : DC m_Law 504 (.ifCond .eq 7) 3 507 := ⟨by decide +kernel, rfl⟩
theorem d_Law_507 : DC m_Law 507 (.iconst 1) 1 508 := ⟨by decide +kernel, rfl⟩
theorem d_Law_508 : DC m_Law 508 (.goto 4) 3 511 := ⟨by decide +kernel, rfl⟩
theorem d_Law_511 : DC m_Law 511 (.iconst 0) 1 512 := ⟨by decide +kernel, rfl⟩
theorem d_Law_512 : DC m_Law 512 (.invokevirtual 50) 3 515 := ⟨by decide +kernel, rfl⟩
theorem d_Law_515 : DC m_Law 515 (.if_icmp .eq 735) 3 518 := ⟨by decide +kernel, rfl⟩
theorem d_Law_518 : DC m_Law 518 (.iconst 0) 1 519 := ⟨by decide +kernel, rfl⟩
theorem d_Law_519 : DC m_Law 519 .ireturn 1 520 := ⟨by decide +kernel, rfl⟩
theorem d_Law_520 : DC m_Law 520 (.aload_n 1) 1 521 := ⟨by decide +kernel, rfl⟩
theorem d_Law_521 : DC m_Law 521 (.aload_n 0) 1 522 := ⟨by decide +kernel, rfl⟩
theorem d_Law_522 : DC m_Law 522 (.iload_n 3) 1 523 := ⟨by decide +kernel, rfl⟩
theorem d_Law_523 : DC m_Law 523 (.iconst 1) 1 524 := ⟨by decide +kernel, rfl⟩
theorem d_Law_524 : DC m_Law 524 .iadd 1 525 := ⟨by decide +kernel, rfl⟩
theorem d_Law_525 : DC m_Law 525 .iaload 1 526 := ⟨by decide +kernel, rfl⟩
theorem d_Law_526 : DC m_Law 526 (.ifCond .eq 7) 3 529 := ⟨by decide +kernel, rfl⟩
theorem d_Law_529 : DC m_Law 529 (.iconst 1) 1 530 := ⟨by decide +kernel, rfl⟩
theorem d_Law_530 : DC m_Law 530 (.goto 4) 3 533 := ⟨by decide +kernel, rfl⟩
theorem d_Law_533 : DC m_Law 533 (.iconst 0) 1 534 := ⟨by decide +kernel, rfl⟩
theorem d_Law_534 : DC m_Law 534 (.aload_n 0) 1 535 := ⟨by decide +kernel, rfl⟩
theorem d_Law_535 : DC m_Law 535 (.iload_n 3) 1 536 := ⟨by decide +kernel, rfl⟩
theorem d_Law_536 : DC m_Law 536 (.iconst 2) 1 537 := ⟨by decide +kernel, rfl⟩
theorem d_Law_537 : DC m_Law 537 .iadd 1 538 := ⟨by decide +kernel, rfl⟩
theorem d_Law_538 : DC m_Law 538 .iaload 1 539 := ⟨by decide +kernel, rfl⟩
theorem d_Law_539 : DC m_Law 539 (.invokevirtual 51) 3 542 := ⟨by decide +kernel, rfl⟩
theorem d_Law_542 : DC m_Law 542 (.aload_n 2) 1 543 := ⟨by decide +kernel, rfl⟩
theorem d_Law_543 : DC m_Law 543 (.aload_n 0) 1 544 := ⟨by decide +kernel, rfl⟩
theorem d_Law_544 : DC m_Law 544 (.iload_n 3) 1 545 := ⟨by decide +kernel, rfl⟩
theorem d_Law_545 : DC m_Law 545 (.iconst 1) 1 546 := ⟨by decide +kernel, rfl⟩
theorem d_Law_546 : DC m_Law 546 .iadd 1 547 := ⟨by decide +kernel, rfl⟩
theorem d_Law_547 : DC m_Law 547 .iaload 1 548 := ⟨by decide +kernel, rfl⟩
theorem d_Law_548 : DC m_Law 548 (.ifCond .eq 7) 3 551 := ⟨by decide +kernel, rfl⟩
theorem d_Law_551 : DC m_Law 551 (.iconst 1) 1 552 := ⟨by decide +kernel, rfl⟩
theorem d_Law_552 : DC m_Law 552 (.goto 4) 3 555 := ⟨by decide +kernel, rfl⟩
theorem d_Law_555 : DC m_Law 555 (.iconst 0) 1 556 := ⟨by decide +kernel, rfl⟩
theorem d_Law_556 : DC m_Law 556 (.aload_n 0) 1 557 := ⟨by decide +kernel, rfl⟩
theorem d_Law_557 : DC m_Law 557 (.iload_n 3) 1 558 := ⟨by decide +kernel, rfl⟩
theorem d_Law_558 : DC m_Law 558 (.iconst 2) 1 559 := ⟨by decide +kernel, rfl⟩
theorem d_Law_559 : DC m_Law 559 .iadd 1 560 := ⟨by decide +kernel, rfl⟩
theorem d_Law_560 : DC m_Law 560 .iaload 1 561 := ⟨by decide +kernel, rfl⟩
theorem d_Law_561 : DC m_Law 561 (.invokevirtual 54) 3 564 := ⟨by decide +kernel, rfl⟩
theorem d_Law_564 : DC m_Law 564 (.if_icmp .eq 686) 3 567 := ⟨by decide +kernel, rfl⟩
theorem d_Law_567 : DC m_Law 567 (.iconst 0) 1 568 := ⟨by decide +kernel, rfl⟩
theorem d_Law_568 : DC m_Law 568 .ireturn 1 569 := ⟨by decide +kernel, rfl⟩
theorem d_Law_569 : DC m_Law 569 (.aload_n 1) 1 570 := ⟨by decide +kernel, rfl⟩
theorem d_Law_570 : DC m_Law 570 (.aload_n 0) 1 571 := ⟨by decide +kernel, rfl⟩
theorem d_Law_571 : DC m_Law 571 (.iload_n 3) 1 572 := ⟨by decide +kernel, rfl⟩
theorem d_Law_572 : DC m_Law 572 (.iconst 1) 1 573 := ⟨by decide +kernel, rfl⟩
theorem d_Law_573 : DC m_Law 573 .iadd 1 574 := ⟨by decide +kernel, rfl⟩
theorem d_Law_574 : DC m_Law 574 .iaload 1 575 := ⟨by decide +kernel, rfl⟩
theorem d_Law_575 : DC m_Law 575 (.ifCond .eq 7) 3 578 := ⟨by decide +kernel, rfl⟩
theorem d_Law_578 : DC m_Law 578 (.iconst 1) 1 579 := ⟨by decide +kernel, rfl⟩
theorem d_Law_579 : DC m_Law 579 (.goto 4) 3 582 := ⟨by decide +kernel, rfl⟩
theorem d_Law_582 : DC m_Law 582 (.iconst 0) 1 583 := ⟨by decide +kernel, rfl⟩
theorem d_Law_583 : DC m_Law 583 (.aload_n 0) 1 584 := ⟨by decide +kernel, rfl⟩
theorem d_Law_584 : DC m_Law 584 (.iload_n 3) 1 585 := ⟨by decide +kernel, rfl⟩
theorem d_Law_585 : DC m_Law 585 (.iconst 2) 1 586 := ⟨by decide +kernel, rfl⟩
theorem d_Law_586 : DC m_Law 586 .iadd 1 587 := ⟨by decide +kernel, rfl⟩
theorem d_Law_587 : DC m_Law 587 .iaload 1 588 := ⟨by decide +kernel, rfl⟩
theorem d_Law_588 : DC m_Law 588 (.invokevirtual 55) 3 591 := ⟨by decide +kernel, rfl⟩
theorem d_Law_591 : DC m_Law 591 (.aload_n 2) 1 592 := ⟨by decide +kernel, rfl⟩
theorem d_Law_592 : DC m_Law 592 (.aload_n 0) 1 593 := ⟨by decide +kernel, rfl⟩
theorem d_Law_593 : DC m_Law 593 (.iload_n 3) 1 594 := ⟨by decide +kernel, rfl⟩
theorem d_Law_594 : DC m_Law 594 (.iconst 1) 1 595 := ⟨by decide +kernel, rfl⟩
theorem d_Law_595 : DC m_Law 595 .iadd 1 596 := ⟨by decide +kernel, rfl⟩
theorem d_Law_596 : DC m_Law 596 .iaload 1 597 := ⟨by decide +kernel, rfl⟩
theorem d_Law_597 : DC m_Law 597 (.ifCond .eq 7) 3 600 := ⟨by decide +kernel, rfl⟩
theorem d_Law_600 : DC m_Law 600 (.iconst 1) 1 601 := ⟨by decide +kernel, rfl⟩
theorem d_Law_601 : DC m_Law 601 (.goto 4) 3 604 := ⟨by decide +kernel, rfl⟩
theorem d_Law_604 : DC m_Law 604 (.iconst 0) 1 605 := ⟨by decide +kernel, rfl⟩
theorem d_Law_605 : DC m_Law 605 (.aload_n 0) 1 606 := ⟨by decide +kernel, rfl⟩
theorem d_Law_606 : DC m_Law 606 (.iload_n 3) 1 607 := ⟨by decide +kernel, rfl⟩
theorem d_Law_607 : DC m_Law 607 (.iconst 2) 1 608 := ⟨by decide +kernel, rfl⟩
theorem d_Law_608 : DC m_Law 608 .iadd 1 609 := ⟨by decide +kernel, rfl⟩
theorem d_Law_609 : DC m_Law 609 .iaload 1 610 := ⟨by decide +kernel, rfl⟩
theorem d_Law_610 : DC m_Law 610 (.invokevirtual 58) 3 613 := ⟨by decide +kernel, rfl⟩
theorem d_Law_613 : DC m_Law 613 (.if_icmp .eq 637) 3 616 := ⟨by decide +kernel, rfl⟩
theorem d_Law_616 : DC m_Law 616 (.iconst 0) 1 617 := ⟨by decide +kernel, rfl⟩
theorem d_Law_617 : DC m_Law 617 .ireturn 1 618 := ⟨by decide +kernel, rfl⟩
theorem d_Law_618 : DC m_Law 618 (.aload_n 1) 1 619 := ⟨by decide +kernel, rfl⟩
theorem d_Law_619 : DC m_Law 619 (.aload_n 0) 1 620 := ⟨by decide +kernel, rfl⟩
theorem d_Law_620 : DC m_Law 620 (.iload_n 3) 1 621 := ⟨by decide +kernel, rfl⟩
theorem d_Law_621 : DC m_Law 621 (.iconst 1) 1 622 := ⟨by decide +kernel, rfl⟩
theorem d_Law_622 : DC m_Law 622 .iadd 1 623 := ⟨by decide +kernel, rfl⟩
theorem d_Law_623 : DC m_Law 623 .iaload 1 624 := ⟨by decide +kernel, rfl⟩
theorem d_Law_624 : DC m_Law 624 (.ifCond .eq 7) 3 627 := ⟨by decide +kernel, rfl⟩
theorem d_Law_627 : DC m_Law 627 (.iconst 1) 1 628 := ⟨by decide +kernel, rfl⟩
theorem d_Law_628 : DC m_Law 628 (.goto 4) 3 631 := ⟨by decide +kernel, rfl⟩
theorem d_Law_631 : DC m_Law 631 (.iconst 0) 1 632 := ⟨by decide +kernel, rfl⟩
theorem d_Law_632 : DC m_Law 632 (.aload_n 0) 1 633 := ⟨by decide +kernel, rfl⟩
theorem d_Law_633 : DC m_Law 633 (.iload_n 3) 1 634 := ⟨by decide +kernel, rfl⟩
theorem d_Law_634 : DC m_Law 634 (.iconst 2) 1 635 := ⟨by decide +kernel, rfl⟩
theorem d_Law_635 : DC m_Law 635 .iadd 1 636 := ⟨by decide +kernel, rfl⟩
theorem d_Law_636 : DC m_Law 636 .iaload 1 637 := ⟨by decide +kernel, rfl⟩
theorem d_Law_637 : DC m_Law 637 (.aload_n 0) 1 638 := ⟨by decide +kernel, rfl⟩
theorem d_Law_638 : DC m_Law 638 (.iload_n 3) 1 639 := ⟨by decide +kernel, rfl⟩
theorem d_Law_639 : DC m_Law 639 (.iconst 3) 1 640 := ⟨by decide +kernel, rfl⟩
theorem d_Law_640 : DC m_Law 640 .iadd 1 641 := ⟨by decide +kernel, rfl⟩
theorem d_Law_641 : DC m_Law 641 .iaload 1 642 := ⟨by decide +kernel, rfl⟩
theorem d_Law_642 : DC m_Law 642 (.invokevirtual 59) 3 645 := ⟨by decide +kernel, rfl⟩
theorem d_Law_645 : DC m_Law 645 (.aload_n 2) 1 646 := ⟨by decide +kernel, rfl⟩
theorem d_Law_646 : DC m_Law 646 (.aload_n 0) 1 647 := ⟨by decide +kernel, rfl⟩
theorem d_Law_647 : DC m_Law 647 (.iload_n 3) 1 648 := ⟨by decide +kernel, rfl⟩
theorem d_Law_648 : DC m_Law 648 (.iconst 1) 1 649 := ⟨by decide +kernel, rfl⟩
theorem d_Law_649 : DC m_Law 649 .iadd 1 650 := ⟨by decide +kernel, rfl⟩
theorem d_Law_650 : DC m_Law 650 .iaload 1 651 := ⟨by decide +kernel, rfl⟩
theorem d_Law_651 : DC m_Law 651 (.ifCond .eq 7) 3 654 := ⟨by decide +kernel, rfl⟩
theorem d_Law_654 : DC m_Law 654 (.iconst 1) 1 655 := ⟨by decide +kernel, rfl⟩
theorem d_Law_655 : DC m_Law 655 (.goto 4) 3 658 := ⟨by decide +kernel, rfl⟩
theorem d_Law_658 : DC m_Law 658 (.iconst 0) 1 659 := ⟨by decide +kernel, rfl⟩
theorem d_Law_659 : DC m_Law 659 (.aload_n 0) 1 660 := ⟨by decide +kernel, rfl⟩
theorem d_Law_660 : DC m_Law 660 (.iload_n 3) 1 661 := ⟨by decide +kernel, rfl⟩
theorem d_Law_661 : DC m_Law 661 (.iconst 2) 1 662 := ⟨by decide +kernel, rfl⟩
theorem d_Law_662 : DC m_Law 662 .iadd 1 663 := ⟨by decide +kernel, rfl⟩
theorem d_Law_663 : DC m_Law 663 .iaload 1 664 := ⟨by decide +kernel, rfl⟩
theorem d_Law_664 : DC m_Law 664 (.aload_n 0) 1 665 := ⟨by decide +kernel, rfl⟩
theorem d_Law_665 : DC m_Law 665 (.iload_n 3) 1 666 := ⟨by decide +kernel, rfl⟩
theorem d_Law_666 : DC m_Law 666 (.iconst 3) 1 667 := ⟨by decide +kernel, rfl⟩
theorem d_Law_667 : DC m_Law 667 .iadd 1 668 := ⟨by decide +kernel, rfl⟩
theorem d_Law_668 : DC m_Law 668 .iaload 1 669 := ⟨by decide +kernel, rfl⟩
theorem d_Law_669 : DC m_Law 669 (.invokevirtual 62) 3 672 := ⟨by decide +kernel, rfl⟩
theorem d_Law_672 : DC m_Law 672 (.if_icmp .eq 578) 3 675 := ⟨by decide +kernel, rfl⟩
theorem d_Law_675 : DC m_Law 675 (.iconst 0) 1 676 := ⟨by decide +kernel, rfl⟩
theorem d_Law_676 : DC m_Law 676 .ireturn 1 677 := ⟨by decide +kernel, rfl⟩
theorem d_Law_677 : DC m_Law 677 (.aload_n 1) 1 678 := ⟨by decide +kernel, rfl⟩
theorem d_Law_678 : DC m_Law 678 (.aload_n 0) 1 679 := ⟨by decide +kernel, rfl⟩
theorem d_Law_679 : DC m_Law 679 (.iload_n 3) 1 680 := ⟨by decide +kernel, rfl⟩
theorem d_Law_680 : DC m_Law 680 (.iconst 1) 1 681 := ⟨by decide +kernel, rfl⟩
theorem d_Law_681 : DC m_Law 681 .iadd 1 682 := ⟨by decide +kernel, rfl⟩
theorem d_Law_682 : DC m_Law 682 .iaload 1 683 := ⟨by decide +kernel, rfl⟩
theorem d_Law_683 : DC m_Law 683 (.aload_n 0) 1 684 := ⟨by decide +kernel, rfl⟩
theorem d_Law_684 : DC m_Law 684 (.iload_n 3) 1 685 := ⟨by decide +kernel, rfl⟩
theorem d_Law_685 : DC m_Law 685 (.iconst 2) 1 686 := ⟨by decide +kernel, rfl⟩
theorem d_Law_686 : DC m_Law 686 .iadd 1 687 := ⟨by decide +kernel, rfl⟩
theorem d_Law_687 : DC m_Law 687 .iaload 1 688 := ⟨by decide +kernel, rfl⟩
theorem d_Law_688 : DC m_Law 688 (.invokevirtual 63) 3 691 := ⟨by decide +kernel, rfl⟩
theorem d_Law_691 : DC m_Law 691 (.aload_n 2) 1 692 := ⟨by decide +kernel, rfl⟩
theorem d_Law_692 : DC m_Law 692 (.aload_n 0) 1 693 := ⟨by decide +kernel, rfl⟩
theorem d_Law_693 : DC m_Law 693 (.iload_n 3) 1 694 := ⟨by decide +kernel, rfl⟩
theorem d_Law_694 : DC m_Law 694 (.iconst 1) 1 695 := ⟨by decide +kernel, rfl⟩
theorem d_Law_695 : DC m_Law 695 .iadd 1 696 := ⟨by decide +kernel, rfl⟩
theorem d_Law_696 : DC m_Law 696 .iaload 1 697 := ⟨by decide +kernel, rfl⟩
theorem d_Law_697 : DC m_Law 697 (.aload_n 0) 1 698 := ⟨by decide +kernel, rfl⟩
theorem d_Law_698 : DC m_Law 698 (.iload_n 3) 1 699 := ⟨by decide +kernel, rfl⟩
theorem d_Law_699 : DC m_Law 699 (.iconst 2) 1 700 := ⟨by decide +kernel, rfl⟩
theorem d_Law_700 : DC m_Law 700 .iadd 1 701 := ⟨by decide +kernel, rfl⟩
theorem d_Law_701 : DC m_Law 701 .iaload 1 702 := ⟨by decide +kernel, rfl⟩
theorem d_Law_702 : DC m_Law 702 (.invokevirtual 67) 3 705 := ⟨by decide +kernel, rfl⟩
theorem d_Law_705 : DC m_Law 705 (.if_icmp .eq 545) 3 708 := ⟨by decide +kernel, rfl⟩
theorem d_Law_708 : DC m_Law 708 (.iconst 0) 1 709 := ⟨by decide +kernel, rfl⟩
theorem d_Law_709 : DC m_Law 709 .ireturn 1 710 := ⟨by decide +kernel, rfl⟩
theorem d_Law_710 : DC m_Law 710 (.aload_n 1) 1 711 := ⟨by decide +kernel, rfl⟩
theorem d_Law_711 : DC m_Law 711 (.invokevirtual 68) 3 714 := ⟨by decide +kernel, rfl⟩
theorem d_Law_714 : DC m_Law 714 (.aload_n 2) 1 715 := ⟨by decide +kernel, rfl⟩
theorem d_Law_715 : DC m_Law 715 (.invokevirtual 71) 3 718 := ⟨by decide +kernel, rfl⟩
theorem d_Law_718 : DC m_Law 718 (.if_icmp .eq 532) 3 721 := ⟨by decide +kernel, rfl⟩
theorem d_Law_721 : DC m_Law 721 (.iconst 0) 1 722 := ⟨by decide +kernel, rfl⟩
theorem d_Law_722 : DC m_Law 722 .ireturn 1 723 := ⟨by decide +kernel, rfl⟩
theorem d_Law_723 : DC m_Law 723 (.aload_n 1) 1 724 := ⟨by decide +kernel, rfl⟩
theorem d_Law_724 : DC m_Law 724 (.aload_n 0) 1 725 := ⟨by decide +kernel, rfl⟩
theorem d_Law_725 : DC m_Law 725 (.iload_n 3) 1 726 := ⟨by decide +kernel, rfl⟩
theorem d_Law_726 : DC m_Law 726 (.iconst 1) 1 727 := ⟨by decide +kernel, rfl⟩
theorem d_Law_727 : DC m_Law 727 .iadd 1 728 := ⟨by decide +kernel, rfl⟩
theorem d_Law_728 : DC m_Law 728 .iaload 1 729 := ⟨by decide +kernel, rfl⟩
theorem d_Law_729 : DC m_Law 729 (.aload_n 0) 1 730 := ⟨by decide +kernel, rfl⟩
theorem d_Law_730 : DC m_Law 730 (.iload_n 3) 1 731 := ⟨by decide +kernel, rfl⟩
theorem d_Law_731 : DC m_Law 731 (.iconst 2) 1 732 := ⟨by decide +kernel, rfl⟩
theorem d_Law_732 : DC m_Law 732 .iadd 1 733 := ⟨by decide +kernel, rfl⟩
theorem d_Law_733 : DC m_Law 733 .iaload 1 734 := ⟨by decide +kernel, rfl⟩
theorem d_Law_734 : DC m_Law 734 (.invokevirtual 72) 3 737 := ⟨by decide +kernel, rfl⟩
theorem d_Law_737 : DC m_Law 737 (.aload_n 2) 1 738 := ⟨by decide +kernel, rfl⟩
theorem d_Law_738 : DC m_Law 738 (.aload_n 0) 1 739 := ⟨by decide +kernel, rfl⟩
theorem d_Law_739 : DC m_Law 739 (.iload_n 3) 1 740 := ⟨by decide +kernel, rfl⟩
theorem d_Law_740 : DC m_Law 740 (.iconst 1) 1 741 := ⟨by decide +kernel, rfl⟩
theorem d_Law_741 : DC m_Law 741 .iadd 1 742 := ⟨by decide +kernel, rfl⟩
theorem d_Law_742 : DC m_Law 742 .iaload 1 743 := ⟨by decide +kernel, rfl⟩
theorem d_Law_743 : DC m_Law 743 (.aload_n 0) 1 744 := ⟨by decide +kernel, rfl⟩
theorem d_Law_744 : DC m_Law 744 (.iload_n 3) 1 745 := ⟨by decide +kernel, rfl⟩
theorem d_Law_745 : DC m_Law 745 (.iconst 2) 1 746 := ⟨by decide +kernel, rfl⟩
theorem d_Law_746 : DC m_Law 746 .iadd 1 747 := ⟨by decide +kernel, rfl⟩
theorem d_Law_747 : DC m_Law 747 .iaload 1 748 := ⟨by decide +kernel, rfl⟩
theorem d_Law_748 : DC m_Law 748 (.invokevirtual 75) 3 751 := ⟨by decide +kernel, rfl⟩
theorem d_Law_751 : DC m_Law 751 (.if_icmp .eq 499) 3 754 := ⟨by decide +kernel, rfl⟩
theorem d_Law_754 : DC m_Law 754 (.iconst 0) 1 755 := ⟨by decide +kernel, rfl⟩
theorem d_Law_755 : DC m_Law 755 .ireturn 1 756 := ⟨by decide +kernel, rfl⟩
theorem d_Law_756 : DC m_Law 756 (.aload_n 1) 1 757 := ⟨by decide +kernel, rfl⟩
theorem d_Law_757 : DC m_Law 757 (.aload_n 0) 1 758 := ⟨by decide +kernel, rfl⟩
theorem d_Law_758 : DC m_Law 758 (.iload_n 3) 1 759 := ⟨by decide +kernel, rfl⟩
theorem d_Law_759 : DC m_Law 759 (.iconst 1) 1 760 := ⟨by decide +kernel, rfl⟩
theorem d_Law_760 : DC m_Law 760 .iadd 1 761 := ⟨by decide +kernel, rfl⟩
theorem d_Law_761 : DC m_Law 761 .iaload 1 762 := ⟨by decide +kernel, rfl⟩
theorem d_Law_762 : DC m_Law 762 (.aload_n 0) 1 763 := ⟨by decide +kernel, rfl⟩
theorem d_Law_763 : DC m_Law 763 (.iload_n 3) 1 764 := ⟨by decide +kernel, rfl⟩
theorem d_Law_764 : DC m_Law 764 (.iconst 2) 1 765 := ⟨by decide +kernel, rfl⟩
theorem d_Law_765 : DC m_Law 765 .iadd 1 766 := ⟨by decide +kernel, rfl⟩
theorem d_Law_766 : DC m_Law 766 .iaload 1 767 := ⟨by decide +kernel, rfl⟩
theorem d_Law_767 : DC m_Law 767 (.invokevirtual 76) 3 770 := ⟨by decide +kernel, rfl⟩
theorem d_Law_770 : DC m_Law 770 (.aload_n 2) 1 771 := ⟨by decide +kernel, rfl⟩
theorem d_Law_771 : DC m_Law 771 (.aload_n 0) 1 772 := ⟨by decide +kernel, rfl⟩
theorem d_Law_772 : DC m_Law 772 (.iload_n 3) 1 773 := ⟨by decide +kernel, rfl⟩
theorem d_Law_773 : DC m_Law 773 (.iconst 1) 1 774 := ⟨by decide +kernel, rfl⟩
theorem d_Law_774 : DC m_Law 774 .iadd 1 775 := ⟨by decide +kernel, rfl⟩
theorem d_Law_775 : DC m_Law 775 .iaload 1 776 := ⟨by decide +kernel, rfl⟩
theorem d_Law_776 : DC m_Law 776 (.aload_n 0) 1 777 := ⟨by decide +kernel, rfl⟩
theorem d_Law_777 : DC m_Law 777 (.iload_n 3) 1 778 := ⟨by decide +kernel, rfl⟩
theorem d_Law_778 : DC m_Law 778 (.iconst 2) 1 779 := ⟨by decide +kernel, rfl⟩
theorem d_Law_779 : DC m_Law 779 .iadd 1 780 := ⟨by decide +kernel, rfl⟩
theorem d_Law_780 : DC m_Law 780 .iaload 1 781 := ⟨by decide +kernel, rfl⟩
theorem d_Law_781 : DC m_Law 781 (.invokevirtual 79) 3 784 := ⟨by decide +kernel, rfl⟩
theorem d_Law_784 : DC m_Law 784 (.if_icmp .eq 466) 3 787 := ⟨by decide +kernel, rfl⟩
theorem d_Law_787 : DC m_Law 787 (.iconst 0) 1 788 := ⟨by decide +kernel, rfl⟩
theorem d_Law_788 : DC m_Law 788 .ireturn 1 789 := ⟨by decide +kernel, rfl⟩
theorem d_Law_789 : DC m_Law 789 (.aload_n 1) 1 790 := ⟨by decide +kernel, rfl⟩
theorem d_Law_790 : DC m_Law 790 (.invokevirtual 80) 3 793 := ⟨by decide +kernel, rfl⟩
theorem d_Law_793 : DC m_Law 793 (.aload_n 2) 1 794 := ⟨by decide +kernel, rfl⟩
theorem d_Law_794 : DC m_Law 794 (.invokevirtual 83) 3 797 := ⟨by decide +kernel, rfl⟩
theorem d_Law_797 : DC m_Law 797 (.if_icmp .eq 453) 3 800 := ⟨by decide +kernel, rfl⟩
theorem d_Law_800 : DC m_Law 800 (.iconst 0) 1 801 := ⟨by decide +kernel, rfl⟩
theorem d_Law_801 : DC m_Law 801 .ireturn 1 802 := ⟨by decide +kernel, rfl⟩
theorem d_Law_802 : DC m_Law 802 (.aload_n 1) 1 803 := ⟨by decide +kernel, rfl⟩
theorem d_Law_803 : DC m_Law 803 (.aload_n 0) 1 804 := ⟨by decide +kernel, rfl⟩
theorem d_Law_804 : DC m_Law 804 (.iload_n 3) 1 805 := ⟨by decide +kernel, rfl⟩
theorem d_Law_805 : DC m_Law 805 (.iconst 1) 1 806 := ⟨by decide +kernel, rfl⟩
theorem d_Law_806 : DC m_Law 806 .iadd 1 807 := ⟨by decide +kernel, rfl⟩
theorem d_Law_807 : DC m_Law 807 .iaload 1 808 := ⟨by decide +kernel, rfl⟩
theorem d_Law_808 : DC m_Law 808 (.invokevirtual 84) 3 811 := ⟨by decide +kernel, rfl⟩
theorem d_Law_811 : DC m_Law 811 (.aload_n 2) 1 812 := ⟨by decide +kernel, rfl⟩
theorem d_Law_812 : DC m_Law 812 (.aload_n 0) 1 813 := ⟨by decide +kernel, rfl⟩
theorem d_Law_813 : DC m_Law 813 (.iload_n 3) 1 814 := ⟨by decide +kernel, rfl⟩
theorem d_Law_814 : DC m_Law 814 (.iconst 1) 1 815 := ⟨by decide +kernel, rfl⟩
theorem d_Law_815 : DC m_Law 815 .iadd 1 816 := ⟨by decide +kernel, rfl⟩
theorem d_Law_816 : DC m_Law 816 .iaload 1 817 := ⟨by decide +kernel, rfl⟩
theorem d_Law_817 : DC m_Law 817 (.invokevirtual 87) 3 820 := ⟨by decide +kernel, rfl⟩
theorem d_Law_820 : DC m_Law 820 (.if_icmp .eq 430) 3 823 := ⟨by decide +kernel, rfl⟩
theorem d_Law_823 : DC m_Law 823 (.iconst 0) 1 824 := ⟨by decide +kernel, rfl⟩
theorem d_Law_824 : DC m_Law 824 .ireturn 1 825 := ⟨by decide +kernel, rfl⟩
theorem d_Law_825 : DC m_Law 825 (.aload_n 1) 1 826 := ⟨by decide +kernel, rfl⟩
theorem d_Law_826 : DC m_Law 826 (.aload_n 0) 1 827 := ⟨by decide +kernel, rfl⟩
theorem d_Law_827 : DC m_Law 827 (.iload_n 3) 1 828 := ⟨by decide +kernel, rfl⟩
theorem d_Law_828 : DC m_Law 828 (.iconst 1) 1 829 := ⟨by decide +kernel, rfl⟩
theorem d_Law_829 : DC m_Law 829 .iadd 1 830 := ⟨by decide +kernel, rfl⟩
theorem d_Law_830 : DC m_Law 830 .iaload 1 831 := ⟨by decide +kernel, rfl⟩
theorem d_Law_831 : DC m_Law 831 (.aload_n 0) 1 832 := ⟨by decide +kernel, rfl⟩
theorem d_Law_832 : DC m_Law 832 (.iload_n 3) 1 833 := ⟨by decide +kernel, rfl⟩
theorem d_Law_833 : DC m_Law 833 (.iconst 2) 1 834 := ⟨by decide +kernel, rfl⟩
theorem d_Law_834 : DC m_Law 834 .iadd 1 835 := ⟨by decide +kernel, rfl⟩
theorem d_Law_835 : DC m_Law 835 .iaload 1 836 := ⟨by decide +kernel, rfl⟩
theorem d_Law_836 : DC m_Law 836 (.invokevirtual 88) 3 839 := ⟨by decide +kernel, rfl⟩
theorem d_Law_839 : DC m_Law 839 (.aload_n 2) 1 840 := ⟨by decide +kernel, rfl⟩
theorem d_Law_840 : DC m_Law 840 (.aload_n 0) 1 841 := ⟨by decide +kernel, rfl⟩
theorem d_Law_841 : DC m_Law 841 (.iload_n 3) 1 842 := ⟨by decide +kernel, rfl⟩
theorem d_Law_842 : DC m_Law 842 (.iconst 1) 1 843 := ⟨by decide +kernel, rfl⟩
theorem d_Law_843 : DC m_Law 843 .iadd 1 844 := ⟨by decide +kernel, rfl⟩
theorem d_Law_844 : DC m_Law 844 .iaload 1 845 := ⟨by decide +kernel, rfl⟩
theorem d_Law_845 : DC m_Law 845 (.aload_n 0) 1 846 := ⟨by decide +kernel, rfl⟩
theorem d_Law_846 : DC m_Law 846 (.iload_n 3) 1 847 := ⟨by decide +kernel, rfl⟩
theorem d_Law_847 : DC m_Law 847 (.iconst 2) 1 848 := ⟨by decide +kernel, rfl⟩
theorem d_Law_848 : DC m_Law 848 .iadd 1 849 := ⟨by decide +kernel, rfl⟩
theorem d_Law_849 : DC m_Law 849 .iaload 1 850 := ⟨by decide +kernel, rfl⟩
theorem d_Law_850 : DC m_Law 850 (.invokevirtual 91) 3 853 := ⟨by decide +kernel, rfl⟩
theorem d_Law_853 : DC m_Law 853 (.if_icmp .eq 397) 3 856 := ⟨by decide +kernel, rfl⟩
theorem d_Law_856 : DC m_Law 856 (.iconst 0) 1 857 := ⟨by decide +kernel, rfl⟩
theorem d_Law_857 : DC m_Law 857 .ireturn 1 858 := ⟨by decide +kernel, rfl⟩
theorem d_Law_858 : DC m_Law 858 (.aload_n 1) 1 859 := ⟨by decide +kernel, rfl⟩
theorem d_Law_859 : DC m_Law 859 (.aload_n 0) 1 860 := ⟨by decide +kernel, rfl⟩
theorem d_Law_860 : DC m_Law 860 (.iload_n 3) 1 861 := ⟨by decide +kernel, rfl⟩
theorem d_Law_861 : DC m_Law 861 (.iconst 1) 1 862 := ⟨by decide +kernel, rfl⟩
theorem d_Law_862 : DC m_Law 862 .iadd 1 863 := ⟨by decide +kernel, rfl⟩
theorem d_Law_863 : DC m_Law 863 .iaload 1 864 := ⟨by decide +kernel, rfl⟩
theorem d_Law_864 : DC m_Law 864 (.invokevirtual 92) 3 867 := ⟨by decide +kernel, rfl⟩
theorem d_Law_867 : DC m_Law 867 (.aload_n 2) 1 868 := ⟨by decide +kernel, rfl⟩
theorem d_Law_868 : DC m_Law 868 (.aload_n 0) 1 869 := ⟨by decide +kernel, rfl⟩
theorem d_Law_869 : DC m_Law 869 (.iload_n 3) 1 870 := ⟨by decide +kernel, rfl⟩
theorem d_Law_870 : DC m_Law 870 (.iconst 1) 1 871 := ⟨by decide +kernel, rfl⟩
theorem d_Law_871 : DC m_Law 871 .iadd 1 872 := ⟨by decide +kernel, rfl⟩
theorem d_Law_872 : DC m_Law 872 .iaload 1 873 := ⟨by decide +kernel, rfl⟩
theorem d_Law_873 : DC m_Law 873 (.invokevirtual 95) 3 876 := ⟨by decide +kernel, rfl⟩
theorem d_Law_876 : DC m_Law 876 (.if_icmp .eq 374) 3 879 := ⟨by decide +kernel, rfl⟩
theorem d_Law_879 : DC m_Law 879 (.iconst 0) 1 880 := ⟨by decide +kernel, rfl⟩
theorem d_Law_880 : DC m_Law 880 .ireturn 1 881 := ⟨by decide +kernel, rfl⟩
theorem d_Law_881 : DC m_Law 881 (.aload_n 1) 1 882 := ⟨by decide +kernel, rfl⟩
theorem d_Law_882 : DC m_Law 882 (.aload_n 0) 1 883 := ⟨by decide +kernel, rfl⟩
theorem d_Law_883 : DC m_Law 883 (.iload_n 3) 1 884 := ⟨by decide +kernel, rfl⟩
theorem d_Law_884 : DC m_Law 884 (.iconst 1) 1 885 := ⟨by decide +kernel, rfl⟩
theorem d_Law_885 : DC m_Law 885 .iadd 1 886 := ⟨by decide +kernel, rfl⟩
theorem d_Law_886 : DC m_Law 886 .iaload 1 887 := ⟨by decide +kernel, rfl⟩
theorem d_Law_887 : DC m_Law 887 (.aload_n 0) 1 888 := ⟨by decide +kernel, rfl⟩
theorem d_Law_888 : DC m_Law 888 (.iload_n 3) 1 889 := ⟨by decide +kernel, rfl⟩
theorem d_Law_889 : DC m_Law 889 (.iconst 2) 1 890 := ⟨by decide +kernel, rfl⟩
theorem d_Law_890 : DC m_Law 890 .iadd 1 891 := ⟨by decide +kernel, rfl⟩
theorem d_Law_891 : DC m_Law 891 .iaload 1 892 := ⟨by decide +kernel, rfl⟩
theorem d_Law_892 : DC m_Law 892 (.invokevirtual 96) 3 895 := ⟨by decide +kernel, rfl⟩
theorem d_Law_895 : DC m_Law 895 (.aload_n 2) 1 896 := ⟨by decide +kernel, rfl⟩
theorem d_Law_896 : DC m_Law 896 (.aload_n 0) 1 897 := ⟨by decide +kernel, rfl⟩
theorem d_Law_897 : DC m_Law 897 (.iload_n 3) 1 898 := ⟨by decide +kernel, rfl⟩
theorem d_Law_898 : DC m_Law 898 (.iconst 1) 1 899 := ⟨by decide +kernel, rfl⟩
theorem d_Law_899 : DC m_Law 899 .iadd 1 900 := ⟨by decide +kernel, rfl⟩
theorem d_Law_900 : DC m_Law 900 .iaload 1 901 := ⟨by decide +kernel, rfl⟩
theorem d_Law_901 : DC m_Law 901 (.aload_n 0) 1 902 := ⟨by decide +kernel, rfl⟩
theorem d_Law_902 : DC m_Law 902 (.iload_n 3) 1 903 := ⟨by decide +kernel, rfl⟩
theorem d_Law_903 : DC m_Law 903 (.iconst 2) 1 904 := ⟨by decide +kernel, rfl⟩
theorem d_Law_904 : DC m_Law 904 .iadd 1 905 := ⟨by decide +kernel, rfl⟩
theorem d_Law_905 : DC m_Law 905 .iaload 1 906 := ⟨by decide +kernel, rfl⟩
theorem d_Law_906 : DC m_Law 906 (.invokevirtual 99) 3 909 := ⟨by decide +kernel, rfl⟩
theorem d_Law_909 : DC m_Law 909 (.if_icmp .eq 341) 3 912 := ⟨by decide +kernel, rfl⟩
theorem d_Law_912 : DC m_Law 912 (.iconst 0) 1 913 := ⟨by decide +kernel, rfl⟩
theorem d_Law_913 : DC m_Law 913 .ireturn 1 914 := ⟨by decide +kernel, rfl⟩
theorem d_Law_914 : DC m_Law 914 (.aload_n 1) 1 915 := ⟨by decide +kernel, rfl⟩
theorem d_Law_915 : DC m_Law 915 (.aload_n 0) 1 916 := ⟨by decide +kernel, rfl⟩
theorem d_Law_916 : DC m_Law 916 (.iload_n 3) 1 917 := ⟨by decide +kernel, rfl⟩
theorem d_Law_917 : DC m_Law 917 (.iconst 1) 1 918 := ⟨by decide +kernel, rfl⟩
theorem d_Law_918 : DC m_Law 918 .iadd 1 919 := ⟨by decide +kernel, rfl⟩
theorem d_Law_919 : DC m_Law 919 .iaload 1 920 := ⟨by decide +kernel, rfl⟩
theorem d_Law_920 : DC m_Law 920 (.invokevirtual 100) 3 923 := ⟨by decide +kernel, rfl⟩
theorem d_Law_923 : DC m_Law 923 (.aload_n 2) 1 924 := ⟨by decide +kernel, rfl⟩
theorem d_Law_924 : DC m_Law 924 (.aload_n 0) 1 925 := ⟨by decide +kernel, rfl⟩
theorem d_Law_925 : DC m_Law 925 (.iload_n 3) 1 926 := ⟨by decide +kernel, rfl⟩
theorem d_Law_926 : DC m_Law 926 (.iconst 1) 1 927 := ⟨by decide +kernel, rfl⟩
theorem d_Law_927 : DC m_Law 927 .iadd 1 928 := ⟨by decide +kernel, rfl⟩
theorem d_Law_928 : DC m_Law 928 .iaload 1 929 := ⟨by decide +kernel, rfl⟩
theorem d_Law_929 : DC m_Law 929 (.invokevirtual 103) 3 932 := ⟨by decide +kernel, rfl⟩
theorem d_Law_932 : DC m_Law 932 (.if_icmp .eq 318) 3 935 := ⟨by decide +kernel, rfl⟩
theorem d_Law_935 : DC m_Law 935 (.iconst 0) 1 936 := ⟨by decide +kernel, rfl⟩
theorem d_Law_936 : DC m_Law 936 .ireturn 1 937 := ⟨by decide +kernel, rfl⟩
theorem d_Law_937 : DC m_Law 937 (.aload_n 1) 1 938 := ⟨by decide +kernel, rfl⟩
theorem d_Law_938 : DC m_Law 938 (.aload_n 0) 1 939 := ⟨by decide +kernel, rfl⟩
theorem d_Law_939 : DC m_Law 939 (.iload_n 3) 1 940 := ⟨by decide +kernel, rfl⟩
theorem d_Law_940 : DC m_Law 940 (.iconst 1) 1 941 := ⟨by decide +kernel, rfl⟩
theorem d_Law_941 : DC m_Law 941 .iadd 1 942 := ⟨by decide +kernel, rfl⟩
theorem d_Law_942 : DC m_Law 942 .iaload 1 943 := ⟨by decide +kernel, rfl⟩
theorem d_Law_943 : DC m_Law 943 (.invokevirtual 104) 3 946 := ⟨by decide +kernel, rfl⟩
theorem d_Law_946 : DC m_Law 946 (.aload_n 2) 1 947 := ⟨by decide +kernel, rfl⟩
theorem d_Law_947 : DC m_Law 947 (.aload_n 0) 1 948 := ⟨by decide +kernel, rfl⟩
theorem d_Law_948 : DC m_Law 948 (.iload_n 3) 1 949 := ⟨by decide +kernel, rfl⟩
theorem d_Law_949 : DC m_Law 949 (.iconst 1) 1 950 := ⟨by decide +kernel, rfl⟩
theorem d_Law_950 : DC m_Law 950 .iadd 1 951 := ⟨by decide +kernel, rfl⟩
theorem d_Law_951 : DC m_Law 951 .iaload 1 952 := ⟨by decide +kernel, rfl⟩
theorem d_Law_952 : DC m_Law 952 (.invokevirtual 107) 3 955 := ⟨by decide +kernel, rfl⟩
theorem d_Law_955 : DC m_Law 955 (.if_icmp .eq 295) 3 958 := ⟨by decide +kernel, rfl⟩
theorem d_Law_958 : DC m_Law 958 (.iconst 0) 1 959 := ⟨by decide +kernel, rfl⟩
theorem d_Law_959 : DC m_Law 959 .ireturn 1 960 := ⟨by decide +kernel, rfl⟩
theorem d_Law_960 : DC m_Law 960 (.aload_n 1) 1 961 := ⟨by decide +kernel, rfl⟩
theorem d_Law_961 : DC m_Law 961 (.aload_n 0) 1 962 := ⟨by decide +kernel, rfl⟩
theorem d_Law_962 : DC m_Law 962 (.iload_n 3) 1 963 := ⟨by decide +kernel, rfl⟩
theorem d_Law_963 : DC m_Law 963 (.iconst 1) 1 964 := ⟨by decide +kernel, rfl⟩
theorem d_Law_964 : DC m_Law 964 .iadd 1 965 := ⟨by decide +kernel, rfl⟩
theorem d_Law_965 : DC m_Law 965 .iaload 1 966 := ⟨by decide +kernel, rfl⟩
theorem d_Law_966 : DC m_Law 966 (.aload_n 0) 1 967 := ⟨by decide +kernel, rfl⟩
theorem d_Law_967 : DC m_Law 967 (.iload_n 3) 1 968 := ⟨by decide +kernel, rfl⟩
theorem d_Law_968 : DC m_Law 968 (.iconst 2) 1 969 := ⟨by decide +kernel, rfl⟩
theorem d_Law_969 : DC m_Law 969 .iadd 1 970 := ⟨by decide +kernel, rfl⟩
theorem d_Law_970 : DC m_Law 970 .iaload 1 971 := ⟨by decide +kernel, rfl⟩
theorem d_Law_971 : DC m_Law 971 (.aload_n 0) 1 972 := ⟨by decide +kernel, rfl⟩
theorem d_Law_972 : DC m_Law 972 (.iload_n 3) 1 973 := ⟨by decide +kernel, rfl⟩
theorem d_Law_973 : DC m_Law 973 (.iconst 3) 1 974 := ⟨by decide +kernel, rfl⟩
theorem d_Law_974 : DC m_Law 974 .iadd 1 975 := ⟨by decide +kernel, rfl⟩
theorem d_Law_975 : DC m_Law 975 .iaload 1 976 := ⟨by decide +kernel, rfl⟩
theorem d_Law_976 : DC m_Law 976 (.aload_n 0) 1 977 := ⟨by decide +kernel, rfl⟩
theorem d_Law_977 : DC m_Law 977 (.iload_n 3) 1 978 := ⟨by decide +kernel, rfl⟩
theorem d_Law_978 : DC m_Law 978 (.iconst 4) 1 979 := ⟨by decide +kernel, rfl⟩
theorem d_Law_979 : DC m_Law 979 .iadd 1 980 := ⟨by decide +kernel, rfl⟩
theorem d_Law_980 : DC m_Law 980 .iaload 1 981 := ⟨by decide +kernel, rfl⟩
theorem d_Law_981 : DC m_Law 981 (.invokevirtual 108) 3 984 := ⟨by decide +kernel, rfl⟩
theorem d_Law_984 : DC m_Law 984 (.aload_n 2) 1 985 := ⟨by decide +kernel, rfl⟩
theorem d_Law_985 : DC m_Law 985 (.aload_n 0) 1 986 := ⟨by decide +kernel, rfl⟩
theorem d_Law_986 : DC m_Law 986 (.iload_n 3) 1 987 := ⟨by decide +kernel, rfl⟩
theorem d_Law_987 : DC m_Law 987 (.iconst 1) 1 988 := ⟨by decide +kernel, rfl⟩
theorem d_Law_988 : DC m_Law 988 .iadd 1 989 := ⟨by decide +kernel, rfl⟩
theorem d_Law_989 : DC m_Law 989 .iaload 1 990 := ⟨by decide +kernel, rfl⟩
theorem d_Law_990 : DC m_Law 990 (.aload_n 0) 1 991 := ⟨by decide +kernel, rfl⟩
theorem d_Law_991 : DC m_Law 991 (.iload_n 3) 1 992 := ⟨by decide +kernel, rfl⟩
theorem d_Law_992 : DC m_Law 992 (.iconst 2) 1 993 := ⟨by decide +kernel, rfl⟩
theorem d_Law_993 : DC m_Law 993 .iadd 1 994 := ⟨by decide +kernel, rfl⟩
theorem d_Law_994 : DC m_Law 994 .iaload 1 995 := ⟨by decide +kernel, rfl⟩
theorem d_Law_995 : DC m_Law 995 (.aload_n 0) 1 996 := ⟨by decide +kernel, rfl⟩
theorem d_Law_996 : DC m_Law 996 (.iload_n 3) 1 997 := ⟨by decide +kernel, rfl⟩
theorem d_Law_997 : DC m_Law 997 (.iconst 3) 1 998 := ⟨by decide +kernel, rfl⟩
theorem d_Law_998 : DC m_Law 998 .iadd 1 999 := ⟨by decide +kernel, rfl⟩
theorem d_Law_999 : DC m_Law 999 .iaload 1 1000 := ⟨by decide +kernel, rfl⟩
theorem d_Law_1000 : DC m_Law 1000 (.aload_n 0) 1 1001 := ⟨by decide +kernel, rfl⟩
theorem d_Law_1001 : DC m_Law 1001 (.iload_n 3) 1 1002 := ⟨by decide +kernel, rfl⟩
theorem d_Law_1002 : DC m_Law 1002 (.iconst 4) 1 1003 := ⟨by decide +kernel, rfl⟩
theorem d_Law_1003 : DC m_Law 1003 .iadd 1 1004 := ⟨by decide +kernel, rfl⟩
theorem d_Law_1004 : DC m_Law 1004 .iaload 1 1005 := ⟨by decide +kernel, rfl⟩
theorem d_Law_1005 : DC m_Law 1005 (.invokevirtual 112) 3 1008 := ⟨by decide +kernel, rfl⟩
theorem d_Law_1008 : DC m_Law 1008 (.if_icmp .eq 242) 3 1011 := ⟨by decide +kernel, rfl⟩
theorem d_Law_1011 : DC m_Law 1011 (.iconst 0) 1 1012 := ⟨by decide +kernel, rfl⟩
theorem d_Law_1012 : DC m_Law 1012 .ireturn 1 1013 := ⟨by decide +kernel, rfl⟩
theorem d_Law_1013 : DC m_Law 1013 (.aload_n 1) 1 1014 := ⟨by decide +kernel, rfl⟩
theorem d_Law_1014 : DC m_Law 1014 (.aload_n 0) 1 1015 := ⟨by decide +kernel, rfl⟩
theorem d_Law_1015 : DC m_Law 1015 (.iload_n 3) 1 1016 := ⟨by decide +kernel, rfl⟩
theorem d_Law_1016 : DC m_Law 1016 (.iconst 1) 1 1017 := ⟨by decide +kernel, rfl⟩
theorem d_Law_1017 : DC m_Law 1017 .iadd 1 1018 := ⟨by decide +kernel, rfl⟩
theorem d_Law_1018 : DC m_Law 1018 .iaload 1 1019 := ⟨by decide +kernel, rfl⟩
theorem d_Law_1019 : DC m_Law 1019 (.invokevirtual 113) 3 1022 := ⟨by decide +kernel, rfl⟩
theorem d_Law_1022 : DC m_Law 1022 (.aload_n 2) 1 1023 := ⟨by decide +kernel, rfl⟩
theorem d_Law_1023 : DC m_Law 1023 (.aload_n 0) 1 1024 := ⟨by decide +kernel, rfl⟩
theorem d_Law_1024 : DC m_Law 1024 (.iload_n 3) 1 1025 := ⟨by decide +kernel, rfl⟩
theorem d_Law_1025 : DC m_Law 1025 (.iconst 1) 1 1026 := ⟨by decide +kernel, rfl⟩
theorem d_Law_1026 : DC m_Law 1026 .iadd 1 1027 := ⟨by decide +kernel, rfl⟩
theorem d_Law_1027 : DC m_Law 1027 .iaload 1 1028 := ⟨by decide +kernel, rfl⟩
theorem d_Law_1028 : DC m_Law 1028 (.invokevirtual 117) 3 1031 := ⟨by decide +kernel, rfl⟩
theorem d_Law_1031 : DC m_Law 1031 (.if_icmp .eq 219) 3 1034 := ⟨by decide +kernel, rfl⟩
theorem d_Law_1034 : DC m_Law 1034 (.iconst 0) 1 1035 := ⟨by decide +kernel, rfl⟩
theorem d_Law_1035 : DC m_Law 1035 .ireturn 1 1036 := ⟨by decide +kernel, rfl⟩
theorem d_Law_1036 : DC m_Law 1036 (.aload_n 1) 1 1037 := ⟨by decide +kernel, rfl⟩
theorem d_Law_1037 : DC m_Law 1037 (.aload_n 0) 1 1038 := ⟨by decide +kernel, rfl⟩
theorem d_Law_1038 : DC m_Law 1038 (.iload_n 3) 1 1039 := ⟨by decide +kernel, rfl⟩
theorem d_Law_1039 : DC m_Law 1039 (.iconst 1) 1 1040 := ⟨by decide +kernel, rfl⟩
theorem d_Law_1040 : DC m_Law 1040 .iadd 1 1041 := ⟨by decide +kernel, rfl⟩
theorem d_Law_1041 : DC m_Law 1041 .iaload 1 1042 := ⟨by decide +kernel, rfl⟩
theorem d_Law_1042 : DC m_Law 1042 (.invokevirtual 118) 3 1045 := ⟨by decide +kernel, rfl⟩
theorem d_Law_1045 : DC m_Law 1045 (.aload_n 2) 1 1046 := ⟨by decide +kernel, rfl⟩
theorem d_Law_1046 : DC m_Law 1046 (.aload_n 0) 1 1047 := ⟨by decide +kernel, rfl⟩
theorem d_Law_1047 : DC m_Law 1047 (.iload_n 3) 1 1048 := ⟨by decide +kernel, rfl⟩
theorem d_Law_1048 : DC m_Law 1048 (.iconst 1) 1 1049 := ⟨by decide +kernel, rfl⟩
theorem d_Law_1049 : DC m_Law 1049 .iadd 1 1050 := ⟨by decide +kernel, rfl⟩
theorem d_Law_1050 : DC m_Law 1050 .iaload 1 1051 := ⟨by decide +kernel, rfl⟩
theorem d_Law_1051 : DC m_Law 1051 (.invokevirtual 121) 3 1054 := ⟨by decide +kernel, rfl⟩
theorem d_Law_1054 : DC m_Law 1054 (.if_icmp .eq 196) 3 1057 := ⟨by decide +kernel, rfl⟩
theorem d_Law_1057 : DC m_Law 1057 (.iconst 0) 1 1058 := ⟨by decide +kernel, rfl⟩
theorem d_Law_1058 : DC m_Law 1058 .ireturn 1 1059 := ⟨by decide +kernel, rfl⟩
theorem d_Law_1059 : DC m_Law 1059 (.aload_n 1) 1 1060 := ⟨by decide +kernel, rfl⟩
theorem d_Law_1060 : DC m_Law 1060 (.invokevirtual 122) 3 1063 := ⟨by decide +kernel, rfl⟩
theorem d_Law_1063 : DC m_Law 1063 (.aload_n 2) 1 1064 := ⟨by decide +kernel, rfl⟩
theorem d_Law_1064 : DC m_Law 1064 (.invokevirtual 125) 3 1067 := ⟨by decide +kernel, rfl⟩
theorem d_Law_1067 : DC m_Law 1067 (.if_icmp .eq 183) 3 1070 := ⟨by decide +kernel, rfl⟩
theorem d_Law_1070 : DC m_Law 1070 (.iconst 0) 1 1071 := ⟨by decide +kernel, rfl⟩
theorem d_Law_1071 : DC m_Law 1071 .ireturn 1 1072 := ⟨by decide +kernel, rfl⟩
theorem d_Law_1072 : DC m_Law 1072 (.aload_n 1) 1 1073 := ⟨by decide +kernel, rfl⟩
theorem d_Law_1073 : DC m_Law 1073 (.aload_n 0) 1 1074 := ⟨by decide +kernel, rfl⟩
theorem d_Law_1074 : DC m_Law 1074 (.iload_n 3) 1 1075 := ⟨by decide +kernel, rfl⟩
theorem d_Law_1075 : DC m_Law 1075 (.iconst 1) 1 1076 := ⟨by decide +kernel, rfl⟩
theorem d_Law_1076 : DC m_Law 1076 .iadd 1 1077 := ⟨by decide +kernel, rfl⟩
theorem d_Law_1077 : DC m_Law 1077 .iaload 1 1078 := ⟨by decide +kernel, rfl⟩
theorem d_Law_1078 : DC m_Law 1078 (.aload_n 0) 1 1079 := ⟨by decide +kernel, rfl⟩
theorem d_Law_1079 : DC m_Law 1079 (.iload_n 3) 1 1080 := ⟨by decide +kernel, rfl⟩
theorem d_Law_1080 : DC m_Law 1080 (.iconst 2) 1 1081 := ⟨by decide +kernel, rfl⟩
theorem d_Law_1081 : DC m_Law 1081 .iadd 1 1082 := ⟨by decide +kernel, rfl⟩
theorem d_Law_1082 : DC m_Law 1082 .iaload 1 1083 := ⟨by decide +kernel, rfl⟩
theorem d_Law_1083 : DC m_Law 1083 (.aload_n 0) 1 1084 := ⟨by decide +kernel, rfl⟩
theorem d_Law_1084 : DC m_Law 1084 (.iload_n 3) 1 1085 := ⟨by decide +kernel, rfl⟩
theorem d_Law_1085 : DC m_Law 1085 (.iconst 3) 1 1086 := ⟨by decide +kernel, rfl⟩
theorem d_Law_1086 : DC m_Law 1086 .iadd 1 1087 := ⟨by decide +kernel, rfl⟩
theorem d_Law_1087 : DC m_Law 1087 .iaload 1 1088 := ⟨by decide +kernel, rfl⟩
theorem d_Law_1088 : DC m_Law 1088 (.invokevirtual 126) 3 1091 := ⟨by decide +kernel, rfl⟩
theorem d_Law_1091 : DC m_Law 1091 (.aload_n 2) 1 1092 := ⟨by decide +kernel, rfl⟩
theorem d_Law_1092 : DC m_Law 1092 (.aload_n 0) 1 1093 := ⟨by decide +kernel, rfl⟩
theorem d_Law_1093 : DC m_Law 1093 (.iload_n 3) 1 1094 := ⟨by decide +kernel, rfl⟩
theorem d_Law_1094 : DC m_Law 1094 (.iconst 1) 1 1095 := ⟨by decide +kernel, rfl⟩
theorem d_Law_1095 : DC m_Law 1095 .iadd 1 1096 := ⟨by decide +kernel, rfl⟩
theorem d_Law_1096 : DC m_Law 1096 .iaload 1 1097 := ⟨by decide +kernel, rfl⟩
theorem d_Law_1097 : DC m_Law 1097 (.aload_n 0) 1 1098 := ⟨by decide +kernel, rfl⟩
theorem d_Law_1098 : DC m_Law 1098 (.iload_n 3) 1 1099 := ⟨by decide +kernel, rfl⟩
theorem d_Law_1099 : DC m_Law 1099 (.iconst 2) 1 1100 := ⟨by decide +kernel, rfl⟩
theorem d_Law_1100 : DC m_Law 1100 .iadd 1 1101 := ⟨by decide +kernel, rfl⟩
theorem d_Law_1101 : DC m_Law 1101 .iaload 1 1102 := ⟨by decide +kernel, rfl⟩
theorem d_Law_1102 : DC m_Law 1102 (.aload_n 0) 1 1103 := ⟨by decide +kernel, rfl⟩
theorem d_Law_1103 : DC m_Law 1103 (.iload_n 3) 1 1104 := ⟨by decide +kernel, rfl⟩
theorem d_Law_1104 : DC m_Law 1104 (.iconst 3) 1 1105 := ⟨by decide +kernel, rfl⟩
theorem d_Law_1105 : DC m_Law 1105 .iadd 1 1106 := ⟨by decide +kernel, rfl⟩
theorem d_Law_1106 : DC m_Law 1106 .iaload 1 1107 := ⟨by decide +kernel, rfl⟩
theorem d_Law_1107 : DC m_Law 1107 (.invokevirtual 130) 3 1110 := ⟨by decide +kernel, rfl⟩
theorem d_Law_1110 : DC m_Law 1110 (.if_icmp .eq 140) 3 1113 := ⟨by decide +kernel, rfl⟩
theorem d_Law_1113 : DC m_Law 1113 (.iconst 0) 1 1114 := ⟨by decide +kernel, rfl⟩
theorem d_Law_1114 : DC m_Law 1114 .ireturn 1 1115 := ⟨by decide +kernel, rfl⟩
theorem d_Law_1115 : DC m_Law 1115 (.aload_n 1) 1 1116 := ⟨by decide +kernel, rfl⟩
theorem d_Law_1116 : DC m_Law 1116 (.aload_n 0) 1 1117 := ⟨by decide +kernel, rfl⟩
theorem d_Law_1117 : DC m_Law 1117 (.iload_n 3) 1 1118 := ⟨by decide +kernel, rfl⟩
theorem d_Law_1118 : DC m_Law 1118 (.iconst 1) 1 1119 := ⟨by decide +kernel, rfl⟩
theorem d_Law_1119 : DC m_Law 1119 .iadd 1 1120 := ⟨by decide +kernel, rfl⟩
theorem d_Law_1120 : DC m_Law 1120 .iaload 1 1121 := ⟨by decide +kernel, rfl⟩
theorem d_Law_1121 : DC m_Law 1121 (.invokevirtual 131) 3 1124 := ⟨by decide +kernel, rfl⟩
theorem d_Law_1124 : DC m_Law 1124 (.aload_n 2) 1 1125 := ⟨by decide +kernel, rfl⟩
theorem d_Law_1125 : DC m_Law 1125 (.aload_n 0) 1 1126 := ⟨by decide +kernel, rfl⟩
theorem d_Law_1126 : DC m_Law 1126 (.iload_n 3) 1 1127 := ⟨by decide +kernel, rfl⟩
theorem d_Law_1127 : DC m_Law 1127 (.iconst 1) 1 1128 := ⟨by decide +kernel, rfl⟩
theorem d_Law_1128 : DC m_Law 1128 .iadd 1 1129 := ⟨by decide +kernel, rfl⟩
theorem d_Law_1129 : DC m_Law 1129 .iaload 1 1130 := ⟨by decide +kernel, rfl⟩
theorem d_Law_1130 : DC m_Law 1130 (.invokevirtual 134) 3 1133 := ⟨by decide +kernel, rfl⟩
theorem d_Law_1133 : DC m_Law 1133 (.if_icmp .eq 117) 3 1136 := ⟨by decide +kernel, rfl⟩
theorem d_Law_1136 : DC m_Law 1136 (.iconst 0) 1 1137 := ⟨by decide +kernel, rfl⟩
theorem d_Law_1137 : DC m_Law 1137 .ireturn 1 1138 := ⟨by decide +kernel, rfl⟩
theorem d_Law_1138 : DC m_Law 1138 (.aload_n 1) 1 1139 := ⟨by decide +kernel, rfl⟩
theorem d_Law_1139 : DC m_Law 1139 (.aload_n 0) 1 1140 := ⟨by decide +kernel, rfl⟩
theorem d_Law_1140 : DC m_Law 1140 (.iload_n 3) 1 1141 := ⟨by decide +kernel, rfl⟩
theorem d_Law_1141 : DC m_Law 1141 (.iconst 1) 1 1142 := ⟨by decide +kernel, rfl⟩
theorem d_Law_1142 : DC m_Law 1142 .iadd 1 1143 := ⟨by decide +kernel, rfl⟩
theorem d_Law_1143 : DC m_Law 1143 .iaload 1 1144 := ⟨by decide +kernel, rfl⟩
theorem d_Law_1144 : DC m_Law 1144 (.invokevirtual 135) 3 1147 := ⟨by decide +kernel, rfl⟩
theorem d_Law_1147 : DC m_Law 1147 (.aload_n 2) 1 1148 := ⟨by decide +kernel, rfl⟩
theorem d_Law_1148 : DC m_Law 1148 (.aload_n 0) 1 1149 := ⟨by decide +kernel, rfl⟩
theorem d_Law_1149 : DC m_Law 1149 (.iload_n 3) 1 1150 := ⟨by decide +kernel, rfl⟩
theorem d_Law_1150 : DC m_Law 1150 (.iconst 1) 1 1151 := ⟨by decide +kernel, rfl⟩
theorem d_Law_1151 : DC m_Law 1151 .iadd 1 1152 := ⟨by decide +kernel, rfl⟩
theorem d_Law_1152 : DC m_Law 1152 .iaload 1 1153 := ⟨by decide +kernel, rfl⟩
theorem d_Law_1153 : DC m_Law 1153 (.invokevirtual 138) 3 1156 := ⟨by decide +kernel, rfl⟩
theorem d_Law_1156 : DC m_Law 1156 (.if_icmp .eq 94) 3 1159 := ⟨by decide +kernel, rfl⟩
theorem d_Law_1159 : DC m_Law 1159 (.iconst 0) 1 1160 := ⟨by decide +kernel, rfl⟩
theorem d_Law_1160 : DC m_Law 1160 .ireturn 1 1161 := ⟨by decide +kernel, rfl⟩
theorem d_Law_1161 : DC m_Law 1161 (.aload_n 1) 1 1162 := ⟨by decide +kernel, rfl⟩
theorem d_Law_1162 : DC m_Law 1162 (.aload_n 0) 1 1163 := ⟨by decide +kernel, rfl⟩
theorem d_Law_1163 : DC m_Law 1163 (.iload_n 3) 1 1164 := ⟨by decide +kernel, rfl⟩
theorem d_Law_1164 : DC m_Law 1164 (.iconst 1) 1 1165 := ⟨by decide +kernel, rfl⟩
theorem d_Law_1165 : DC m_Law 1165 .iadd 1 1166 := ⟨by decide +kernel, rfl⟩
theorem d_Law_1166 : DC m_Law 1166 .iaload 1 1167 := ⟨by decide +kernel, rfl⟩
theorem d_Law_1167 : DC m_Law 1167 (.aload_n 0) 1 1168 := ⟨by decide +kernel, rfl⟩
theorem d_Law_1168 : DC m_Law 1168 (.iload_n 3) 1 1169 := ⟨by decide +kernel, rfl⟩
theorem d_Law_1169 : DC m_Law 1169 (.iconst 2) 1 1170 := ⟨by decide +kernel, rfl⟩
theorem d_Law_1170 : DC m_Law 1170 .iadd 1 1171 := ⟨by decide +kernel, rfl⟩
theorem d_Law_1171 : DC m_Law 1171 .iaload 1 1172 := ⟨by decide +kernel, rfl⟩
theorem d_Law_1172 : DC m_Law 1172 (.invokevirtual 139) 3 1175 := ⟨by decide +kernel, rfl⟩
theorem d_Law_1175 : DC m_Law 1175 (.aload_n 2) 1 1176 := ⟨by decide +kernel, rfl⟩
theorem d_Law_1176 : DC m_Law 1176 (.aload_n 0) 1 1177 := ⟨by decide +kernel, rfl⟩
theorem d_Law_1177 : DC m_Law 1177 (.iload_n 3) 1 1178 := ⟨by decide +kernel, rfl⟩
theorem d_Law_1178 : DC m_Law 1178 (.iconst 1) 1 1179 := ⟨by decide +kernel, rfl⟩
theorem d_Law_1179 : DC m_Law 1179 .iadd 1 1180 := ⟨by decide +kernel, rfl⟩
theorem d_Law_1180 : DC m_Law 1180 .iaload 1 1181 := ⟨by decide +kernel, rfl⟩
theorem d_Law_1181 : DC m_Law 1181 (.aload_n 0) 1 1182 := ⟨by decide +kernel, rfl⟩
theorem d_Law_1182 : DC m_Law 1182 (.iload_n 3) 1 1183 := ⟨by decide +kernel, rfl⟩
theorem d_Law_1183 : DC m_Law 1183 (.iconst 2) 1 1184 := ⟨by decide +kernel, rfl⟩
theorem d_Law_1184 : DC m_Law 1184 .iadd 1 1185 := ⟨by decide +kernel, rfl⟩
theorem d_Law_1185 : DC m_Law 1185 .iaload 1 1186 := ⟨by decide +kernel, rfl⟩
theorem d_Law_1186 : DC m_Law 1186 (.invokevirtual 142) 3 1189 := ⟨by decide +kernel, rfl⟩
theorem d_Law_1189 : DC m_Law 1189 (.if_icmp .eq 61) 3 1192 := ⟨by decide +kernel, rfl⟩
theorem d_Law_1192 : DC m_Law 1192 (.iconst 0) 1 1193 := ⟨by decide +kernel, rfl⟩
theorem d_Law_1193 : DC m_Law 1193 .ireturn 1 1194 := ⟨by decide +kernel, rfl⟩
theorem d_Law_1194 : DC m_Law 1194 (.aload_n 1) 1 1195 := ⟨by decide +kernel, rfl⟩
theorem d_Law_1195 : DC m_Law 1195 (.aload_n 0) 1 1196 := ⟨by decide +kernel, rfl⟩
theorem d_Law_1196 : DC m_Law 1196 (.iload_n 3) 1 1197 := ⟨by decide +kernel, rfl⟩
theorem d_Law_1197 : DC m_Law 1197 (.iconst 1) 1 1198 := ⟨by decide +kernel, rfl⟩
theorem d_Law_1198 : DC m_Law 1198 .iadd 1 1199 := ⟨by decide +kernel, rfl⟩
theorem d_Law_1199 : DC m_Law 1199 .iaload 1 1200 := ⟨by decide +kernel, rfl⟩
theorem d_Law_1200 : DC m_Law 1200 (.aload_n 0) 1 1201 := ⟨by decide +kernel, rfl⟩
theorem d_Law_1201 : DC m_Law 1201 (.iload_n 3) 1 1202 := ⟨by decide +kernel, rfl⟩
theorem d_Law_1202 : DC m_Law 1202 (.iconst 2) 1 1203 := ⟨by decide +kernel, rfl⟩
theorem d_Law_1203 : DC m_Law 1203 .iadd 1 1204 := ⟨by decide +kernel, rfl⟩
theorem d_Law_1204 : DC m_Law 1204 .iaload 1 1205 := ⟨by decide +kernel, rfl⟩
theorem d_Law_1205 : DC m_Law 1205 (.invokevirtual 143) 3 1208 := ⟨by decide +kernel, rfl⟩
theorem d_Law_1208 : DC m_Law 1208 (.aload_n 2) 1 1209 := ⟨by decide +kernel, rfl⟩
theorem d_Law_1209 : DC m_Law 1209 (.aload_n 0) 1 1210 := ⟨by decide +kernel, rfl⟩
theorem d_Law_1210 : DC m_Law 1210 (.iload_n 3) 1 1211 := ⟨by decide +kernel, rfl⟩
theorem d_Law_1211 : DC m_Law 1211 (.iconst 1) 1 1212 := ⟨by decide +kernel, rfl⟩
theorem d_Law_1212 : DC m_Law 1212 .iadd 1 1213 := ⟨by decide +kernel, rfl⟩
theorem d_Law_1213 : DC m_Law 1213 .iaload 1 1214 := ⟨by decide +kernel, rfl⟩
theorem d_Law_1214 : DC m_Law 1214 (.aload_n 0) 1 1215 := ⟨by decide +kernel, rfl⟩
theorem d_Law_1215 : DC m_Law 1215 (.iload_n 3) 1 1216 := ⟨by decide +kernel, rfl⟩
theorem d_Law_1216 : DC m_Law 1216 (.iconst 2) 1 1217 := ⟨by decide +kernel, rfl⟩
theorem d_Law_1217 : DC m_Law 1217 .iadd 1 1218 := ⟨by decide +kernel, rfl⟩
theorem d_Law_1218 : DC m_Law 1218 .iaload 1 1219 := ⟨by decide +kernel, rfl⟩
theorem d_Law_1219 : DC m_Law 1219 (.invokevirtual 146) 3 1222 := ⟨by decide +kernel, rfl⟩
theorem d_Law_1222 : DC m_Law 1222 (.if_icmp .eq 28) 3 1225 := ⟨by decide +kernel, rfl⟩
theorem d_Law_1225 : DC m_Law 1225 (.iconst 0) 1 1226 := ⟨by decide +kernel, rfl⟩
theorem d_Law_1226 : DC m_Law 1226 .ireturn 1 1227 := ⟨by decide +kernel, rfl⟩
theorem d_Law_1227 : DC m_Law 1227 (.aload_n 1) 1 1228 := ⟨by decide +kernel, rfl⟩
theorem d_Law_1228 : DC m_Law 1228 (.aload_n 0) 1 1229 := ⟨by decide +kernel, rfl⟩
theorem d_Law_1229 : DC m_Law 1229 (.iload_n 3) 1 1230 := ⟨by decide +kernel, rfl⟩
theorem d_Law_1230 : DC m_Law 1230 (.iconst 1) 1 1231 := ⟨by decide +kernel, rfl⟩
theorem d_Law_1231 : DC m_Law 1231 .iadd 1 1232 := ⟨by decide +kernel, rfl⟩
theorem d_Law_1232 : DC m_Law 1232 .iaload 1 1233 := ⟨by decide +kernel, rfl⟩
theorem d_Law_1233 : DC m_Law 1233 (.invokevirtual 147) 3 1236 := ⟨by decide +kernel, rfl⟩
theorem d_Law_1236 : DC m_Law 1236 (.aload_n 2) 1 1237 := ⟨by decide +kernel, rfl⟩
theorem d_Law_1237 : DC m_Law 1237 (.aload_n 0) 1 1238 := ⟨by decide +kernel, rfl⟩
theorem d_Law_1238 : DC m_Law 1238 (.iload_n 3) 1 1239 := ⟨by decide +kernel, rfl⟩
theorem d_Law_1239 : DC m_Law 1239 (.iconst 1) 1 1240 := ⟨by decide +kernel, rfl⟩
theorem d_Law_1240 : DC m_Law 1240 .iadd 1 1241 := ⟨by decide +kernel, rfl⟩
theorem d_Law_1241 : DC m_Law 1241 .iaload 1 1242 := ⟨by decide +kernel, rfl⟩
theorem d_Law_1242 : DC m_Law 1242 (.invokevirtual 150) 3 1245 := ⟨by decide +kernel, rfl⟩
theorem d_Law_1245 : DC m_Law 1245 (.if_icmp .eq 5) 3 1248 := ⟨by decide +kernel, rfl⟩
theorem d_Law_1248 : DC m_Law 1248 (.iconst 0) 1 1249 := ⟨by decide +kernel, rfl⟩
theorem d_Law_1249 : DC m_Law 1249 .ireturn 1 1250 := ⟨by decide +kernel, rfl⟩
theorem d_Law_1250 : DC m_Law 1250 (.iinc 3 6) 3 1253 := ⟨by decide +kernel, rfl⟩
theorem d_Law_1253 : DC m_Law 1253 (.goto (-1235)) 3 1256 := ⟨by decide +kernel, rfl⟩
theorem d_Law_1256 : DC m_Law 1256 (.iconst 1) 1 1257 := ⟨by decide +kernel, rfl⟩
theorem d_Law_1257 : DC m_Law 1257 .ireturn 1 1258 := ⟨by decide +kernel, rfl⟩
def NF : Nat := 10000000
/-- both answer alike, and the invariant holds again -/
def SQ (Inv : MM → Prop) (f g : MM → Option (Int32 × MM)) : Prop := ∀ M, Inv M → ∃ (r : Int32) (M1 M2 : MM), f M = some (r, M1) ∧ g M1 = some (r, M2) ∧ Inv M2
/-- every call keeps the invariant, and both answer alike -/
def Steps32 (Inv : MM → Prop) : Prop :=
  (∀ (x1 : Int32) (x2 : Int32) (x3 : Int32) (x4 : Int32) (x5 : Int32), SQ Inv (f_Q_feed NF 0 x1 x2 x3 x4 x5) (f_Mo_feed NF 559 x1 x2 x3 x4 x5)) ∧
  (∀ (x1 : Int32), SQ Inv (f_Q_back NF 0 x1) (f_Mo_back NF 559 x1)) ∧
  ( SQ Inv (f_Q_read NF 0) (f_Mo_read NF 559)) ∧
  ( SQ Inv (f_Q_place NF 0) (f_Mo_place NF 559)) ∧
  (∀ (x1 : Int32) (x2 : Int32), (x1 = 0 ∨ x1 = 1) → SQ Inv (f_Q_area NF 0 x1 x2) (f_Mo_area NF 559 x1 x2)) ∧
  (∀ (x1 : Int32) (x2 : Int32) (x3 : Int32), (x1 = 0 ∨ x1 = 1) → SQ Inv (f_Q_has NF 0 x1 x2 x3) (f_Mo_has NF 559 x1 x2 x3)) ∧
  (∀ (x1 : Int32) (x2 : Int32), (x1 = 0 ∨ x1 = 1) → SQ Inv (f_Q_pieces NF 0 x1 x2) (f_Mo_pieces NF 559 x1 x2)) ∧
  (∀ (x1 : Int32) (x2 : Int32) (x3 : Int32), (x1 = 0 ∨ x1 = 1) → (x3 = 0 ∨ x3 = 1) → SQ Inv (f_Q_corners NF 0 x1 x2 x3) (f_Mo_corners NF 559 x1 x2 x3)) ∧
  (∀ (x1 : Int32) (x2 : Int32), (x1 = 0 ∨ x1 = 1) → SQ Inv (f_Q_bulges NF 0 x1 x2) (f_Mo_bulges NF 559 x1 x2)) ∧
  (∀ (x1 : Int32) (x2 : Int32), (x1 = 0 ∨ x1 = 1) → SQ Inv (f_Q_images NF 0 x1 x2) (f_Mo_images NF 559 x1 x2)) ∧
  (∀ (x1 : Int32) (x2 : Int32) (x3 : Int32), (x1 = 0 ∨ x1 = 1) → SQ Inv (f_Q_least NF 0 x1 x2 x3) (f_Mo_least NF 559 x1 x2 x3)) ∧
  (∀ (x1 : Int32) (x2 : Int32), SQ Inv (f_Q_alike NF 0 x1 x2) (f_Mo_alike NF 559 x1 x2)) ∧
  ( SQ Inv (f_Q_shows NF 0) (f_Mo_shows NF 559)) ∧
  (∀ (x1 : Int32) (x2 : Int32), SQ Inv (f_Q_fill NF 0 x1 x2) (f_Mo_fill NF 559 x1 x2)) ∧
  (∀ (x1 : Int32) (x2 : Int32), SQ Inv (f_Q_filled NF 0 x1 x2) (f_Mo_filled NF 559 x1 x2)) ∧
  ( SQ Inv (f_Q_steps NF 0) (f_Mo_steps NF 559)) ∧
  (∀ (x1 : Int32), SQ Inv (f_Q_sets NF 0 x1) (f_Mo_sets NF 559 x1)) ∧
  (∀ (x1 : Int32) (x2 : Int32), SQ Inv (f_Q_set NF 0 x1 x2) (f_Mo_set NF 559 x1 x2)) ∧
  (∀ (x1 : Int32), SQ Inv (f_Q_needed NF 0 x1) (f_Mo_needed NF 559 x1)) ∧
  (∀ (x1 : Int32) (x2 : Int32), SQ Inv (f_Q_cut NF 0 x1 x2) (f_Mo_cut_2 NF 559 x1 x2)) ∧
  (∀ (x1 : Int32), SQ Inv (f_Q_part NF 0 x1) (f_Mo_part NF 559 x1)) ∧
  (∀ (x1 : Int32), SQ Inv (f_Q_laid NF 0 x1) (f_Mo_laid NF 559 x1)) ∧
  (∀ (x1 : Int32) (x2 : Int32) (x3 : Int32) (x4 : Int32), SQ Inv (f_Q_lay NF 0 x1 x2 x3 x4) (f_Mo_lay NF 559 x1 x2 x3 x4)) ∧
  (∀ (x1 : Int32), SQ Inv (f_Q_lift NF 0 x1) (f_Mo_lift NF 559 x1)) ∧
  (∀ (x1 : Int32), SQ Inv (f_Q_covers NF 0 x1) (f_Mo_covers NF 559 x1)) ∧
  ( SQ Inv (f_Q_clashes NF 0) (f_Mo_clashes NF 559)) ∧
  (∀ (x1 : Int32) (x2 : Int32) (x3 : Int32), SQ Inv (f_Q_claim NF 0 x1 x2 x3) (f_Mo_claim NF 559 x1 x2 x3)) ∧
  (∀ (x1 : Int32), SQ Inv (f_Q_annul NF 0 x1) (f_Mo_annul NF 559 x1)) ∧
  (∀ (x1 : Int32), SQ Inv (f_Q_verdict NF 0 x1) (f_Mo_verdict NF 559 x1)) ∧
  (∀ (x1 : Int32) (x2 : Int32), SQ Inv (f_Q_first NF 0 x1 x2) (f_Mo_first NF 559 x1 x2)) ∧
  (∀ (x1 : Int32) (x2 : Int32), SQ Inv (f_Q_points NF 0 x1 x2) (f_Mo_points NF 559 x1 x2)) ∧
  (∀ (x1 : Int32), SQ Inv (f_Q_count NF 0 x1) (f_Mo_count NF 559 x1))
theorem Steps32.s0 {Inv : MM → Prop} (h : Steps32 Inv) : (∀ (x1 : Int32) (x2 : Int32) (x3 : Int32) (x4 : Int32) (x5 : Int32), SQ Inv (f_Q_feed NF 0 x1 x2 x3 x4 x5) (f_Mo_feed NF 559 x1 x2 x3 x4 x5)) := h.1
theorem Steps32.s1 {Inv : MM → Prop} (h : Steps32 Inv) : (∀ (x1 : Int32), SQ Inv (f_Q_back NF 0 x1) (f_Mo_back NF 559 x1)) := h.2.1
theorem Steps32.s2 {Inv : MM → Prop} (h : Steps32 Inv) : ( SQ Inv (f_Q_read NF 0) (f_Mo_read NF 559)) := h.2.2.1
theorem Steps32.s3 {Inv : MM → Prop} (h : Steps32 Inv) : ( SQ Inv (f_Q_place NF 0) (f_Mo_place NF 559)) := h.2.2.2.1
theorem Steps32.s4 {Inv : MM → Prop} (h : Steps32 Inv) : (∀ (x1 : Int32) (x2 : Int32), (x1 = 0 ∨ x1 = 1) → SQ Inv (f_Q_area NF 0 x1 x2) (f_Mo_area NF 559 x1 x2)) := h.2.2.2.2.1
theorem Steps32.s5 {Inv : MM → Prop} (h : Steps32 Inv) : (∀ (x1 : Int32) (x2 : Int32) (x3 : Int32), (x1 = 0 ∨ x1 = 1) → SQ Inv (f_Q_has NF 0 x1 x2 x3) (f_Mo_has NF 559 x1 x2 x3)) := h.2.2.2.2.2.1
theorem Steps32.s6 {Inv : MM → Prop} (h : Steps32 Inv) : (∀ (x1 : Int32) (x2 : Int32), (x1 = 0 ∨ x1 = 1) → SQ Inv (f_Q_pieces NF 0 x1 x2) (f_Mo_pieces NF 559 x1 x2)) := h.2.2.2.2.2.2.1
theorem Steps32.s7 {Inv : MM → Prop} (h : Steps32 Inv) : (∀ (x1 : Int32) (x2 : Int32) (x3 : Int32), (x1 = 0 ∨ x1 = 1) → (x3 = 0 ∨ x3 = 1) → SQ Inv (f_Q_corners NF 0 x1 x2 x3) (f_Mo_corners NF 559 x1 x2 x3)) := h.2.2.2.2.2.2.2.1
theorem Steps32.s8 {Inv : MM → Prop} (h : Steps32 Inv) : (∀ (x1 : Int32) (x2 : Int32), (x1 = 0 ∨ x1 = 1) → SQ Inv (f_Q_bulges NF 0 x1 x2) (f_Mo_bulges NF 559 x1 x2)) := h.2.2.2.2.2.2.2.2.1
theorem Steps32.s9 {Inv : MM → Prop} (h : Steps32 Inv) : (∀ (x1 : Int32) (x2 : Int32), (x1 = 0 ∨ x1 = 1) → SQ Inv (f_Q_images NF 0 x1 x2) (f_Mo_images NF 559 x1 x2)) := h.2.2.2.2.2.2.2.2.2.1
theorem Steps32.s10 {Inv : MM → Prop} (h : Steps32 Inv) : (∀ (x1 : Int32) (x2 : Int32) (x3 : Int32), (x1 = 0 ∨ x1 = 1) → SQ Inv (f_Q_least NF 0 x1 x2 x3) (f_Mo_least NF 559 x1 x2 x3)) := h.2.2.2.2.2.2.2.2.2.2.1
theorem Steps32.s11 {Inv : MM → Prop} (h : Steps32 Inv) : (∀ (x1 : Int32) (x2 : Int32), SQ Inv (f_Q_alike NF 0 x1 x2) (f_Mo_alike NF 559 x1 x2)) := h.2.2.2.2.2.2.2.2.2.2.2.1
theorem Steps32.s12 {Inv : MM → Prop} (h : Steps32 Inv) : ( SQ Inv (f_Q_shows NF 0) (f_Mo_shows NF 559)) := h.2.2.2.2.2.2.2.2.2.2.2.2.1
theorem Steps32.s13 {Inv : MM → Prop} (h : Steps32 Inv) : (∀ (x1 : Int32) (x2 : Int32), SQ Inv (f_Q_fill NF 0 x1 x2) (f_Mo_fill NF 559 x1 x2)) := h.2.2.2.2.2.2.2.2.2.2.2.2.2.1
theorem Steps32.s14 {Inv : MM → Prop} (h : Steps32 Inv) : (∀ (x1 : Int32) (x2 : Int32), SQ Inv (f_Q_filled NF 0 x1 x2) (f_Mo_filled NF 559 x1 x2)) := h.2.2.2.2.2.2.2.2.2.2.2.2.2.2.1
theorem Steps32.s15 {Inv : MM → Prop} (h : Steps32 Inv) : ( SQ Inv (f_Q_steps NF 0) (f_Mo_steps NF 559)) := h.2.2.2.2.2.2.2.2.2.2.2.2.2.2.2.1
theorem Steps32.s16 {Inv : MM → Prop} (h : Steps32 Inv) : (∀ (x1 : Int32), SQ Inv (f_Q_sets NF 0 x1) (f_Mo_sets NF 559 x1)) := h.2.2.2.2.2.2.2.2.2.2.2.2.2.2.2.2.1
theorem Steps32.s17 {Inv : MM → Prop} (h : Steps32 Inv) : (∀ (x1 : Int32) (x2 : Int32), SQ Inv (f_Q_set NF 0 x1 x2) (f_Mo_set NF 559 x1 x2)) := h.2.2.2.2.2.2.2.2.2.2.2.2.2.2.2.2.2.1
theorem Steps32.s18 {Inv : MM → Prop} (h : Steps32 Inv) : (∀ (x1 : Int32), SQ Inv (f_Q_needed NF 0 x1) (f_Mo_needed NF 559 x1)) := h.2.2.2.2.2.2.2.2.2.2.2.2.2.2.2.2.2.2.1
theorem Steps32.s19 {Inv : MM → Prop} (h : Steps32 Inv) : (∀ (x1 : Int32) (x2 : Int32), SQ Inv (f_Q_cut NF 0 x1 x2) (f_Mo_cut_2 NF 559 x1 x2)) := h.2.2.2.2.2.2.2.2.2.2.2.2.2.2.2.2.2.2.2.1
theorem Steps32.s20 {Inv : MM → Prop} (h : Steps32 Inv) : (∀ (x1 : Int32), SQ Inv (f_Q_part NF 0 x1) (f_Mo_part NF 559 x1)) := h.2.2.2.2.2.2.2.2.2.2.2.2.2.2.2.2.2.2.2.2.1
theorem Steps32.s21 {Inv : MM → Prop} (h : Steps32 Inv) : (∀ (x1 : Int32), SQ Inv (f_Q_laid NF 0 x1) (f_Mo_laid NF 559 x1)) := h.2.2.2.2.2.2.2.2.2.2.2.2.2.2.2.2.2.2.2.2.2.1
theorem Steps32.s22 {Inv : MM → Prop} (h : Steps32 Inv) : (∀ (x1 : Int32) (x2 : Int32) (x3 : Int32) (x4 : Int32), SQ Inv (f_Q_lay NF 0 x1 x2 x3 x4) (f_Mo_lay NF 559 x1 x2 x3 x4)) := h.2.2.2.2.2.2.2.2.2.2.2.2.2.2.2.2.2.2.2.2.2.2.1
theorem Steps32.s23 {Inv : MM → Prop} (h : Steps32 Inv) : (∀ (x1 : Int32), SQ Inv (f_Q_lift NF 0 x1) (f_Mo_lift NF 559 x1)) := h.2.2.2.2.2.2.2.2.2.2.2.2.2.2.2.2.2.2.2.2.2.2.2.1
theorem Steps32.s24 {Inv : MM → Prop} (h : Steps32 Inv) : (∀ (x1 : Int32), SQ Inv (f_Q_covers NF 0 x1) (f_Mo_covers NF 559 x1)) := h.2.2.2.2.2.2.2.2.2.2.2.2.2.2.2.2.2.2.2.2.2.2.2.2.1
theorem Steps32.s25 {Inv : MM → Prop} (h : Steps32 Inv) : ( SQ Inv (f_Q_clashes NF 0) (f_Mo_clashes NF 559)) := h.2.2.2.2.2.2.2.2.2.2.2.2.2.2.2.2.2.2.2.2.2.2.2.2.2.1
theorem Steps32.s26 {Inv : MM → Prop} (h : Steps32 Inv) : (∀ (x1 : Int32) (x2 : Int32) (x3 : Int32), SQ Inv (f_Q_claim NF 0 x1 x2 x3) (f_Mo_claim NF 559 x1 x2 x3)) := h.2.2.2.2.2.2.2.2.2.2.2.2.2.2.2.2.2.2.2.2.2.2.2.2.2.2.1
theorem Steps32.s27 {Inv : MM → Prop} (h : Steps32 Inv) : (∀ (x1 : Int32), SQ Inv (f_Q_annul NF 0 x1) (f_Mo_annul NF 559 x1)) := h.2.2.2.2.2.2.2.2.2.2.2.2.2.2.2.2.2.2.2.2.2.2.2.2.2.2.2.1
theorem Steps32.s28 {Inv : MM → Prop} (h : Steps32 Inv) : (∀ (x1 : Int32), SQ Inv (f_Q_verdict NF 0 x1) (f_Mo_verdict NF 559 x1)) := h.2.2.2.2.2.2.2.2.2.2.2.2.2.2.2.2.2.2.2.2.2.2.2.2.2.2.2.2.1
theorem Steps32.s29 {Inv : MM → Prop} (h : Steps32 Inv) : (∀ (x1 : Int32) (x2 : Int32), SQ Inv (f_Q_first NF 0 x1 x2) (f_Mo_first NF 559 x1 x2)) := h.2.2.2.2.2.2.2.2.2.2.2.2.2.2.2.2.2.2.2.2.2.2.2.2.2.2.2.2.2.1
theorem Steps32.s30 {Inv : MM → Prop} (h : Steps32 Inv) : (∀ (x1 : Int32) (x2 : Int32), SQ Inv (f_Q_points NF 0 x1 x2) (f_Mo_points NF 559 x1 x2)) := h.2.2.2.2.2.2.2.2.2.2.2.2.2.2.2.2.2.2.2.2.2.2.2.2.2.2.2.2.2.2.1
theorem Steps32.s31 {Inv : MM → Prop} (h : Steps32 Inv) : (∀ (x1 : Int32), SQ Inv (f_Q_count NF 0 x1) (f_Mo_count NF 559 x1)) := h.2.2.2.2.2.2.2.2.2.2.2.2.2.2.2.2.2.2.2.2.2.2.2.2.2.2.2.2.2.2.2
section LAWR
variable {L b : Nat} {xs : Nat → Int32}
/-- the script -/
def scr (b L : Nat) (xs : Nat → Int32) (x : QX) (s : State) (args : Array Value) : Prop := va_X b L xs s s.heap ∧ b < s.heap.size ∧ ¬ qA x b ∧ xV x 5 = .ref b ∧ args = #[Value.ref b] ∧ s.heap.size ≤ x.2.2.1
def ZL (b L : Nat) (xs : Nat → Int32) : ZT := fun x s args below t => scr b L xs x s args → lw_Z below args s t
theorem e_slen {R : Room} {k n pc p2 : Nat} {ls : Lv} {st : List Value} {M : MM} (h : DC m_Law pc .arraylength 1 p2) (nx : EVG m_Law R (ZL b L xs) k n p2 ls (.int (Int32.ofNat L) :: st) M) : EVG m_Law R (ZL b L xs) k n pc ls (.retAddr 5 :: st) M := by
  intro X p l e s m args below meth c H locs A hC hR hS hl
  obtain ⟨h, rfl⟩ := h
  by_cases hs : scr b L xs X s args
  · obtain ⟨h1, h2, h3, h4, h5, h6⟩ := hs
    show W _ _ _ _ _ _ _ _ _ _ _ _ _ _ _ (F0 m pc A (xV X 5 :: st.map (shV X)))
    rw [h4]
    exact va_slen hC.1 hC.2.1 h1 h2 h3 hS h (nx X p l e s m args below meth c H locs A hC hR hS hl)
  · intro T hT X9
    exact ⟨_, Steps.refl _, fun h9 => absurd h9 hs⟩
theorem e_sld {R : Room} {k n pc p2 : Nat} {ls : Lv} {st : List Value} {M : MM} {i : Int32} {j : Nat} (h : DC m_Law pc .iaload 1 p2) (hi : i = nI j) (hj : j < L) (hL : L ≤ 3072) (nx : EVG m_Law R (ZL b L xs) k n p2 ls (.int (xs j) :: st) M) : EVG m_Law R (ZL b L xs) k n pc ls (.int i :: .retAddr 5 :: st) M := by
  intro X p l e s m args below meth c H locs A hC hR hS hl
  obtain ⟨h, rfl⟩ := h
  subst hi
  by_cases hs : scr b L xs X s args
  · obtain ⟨h1, h2, h3, h4, h5, h6⟩ := hs
    show W _ _ _ _ _ _ _ _ _ _ _ _ _ _ _ (F0 m pc A (.int (nI j) :: xV X 5 :: st.map (shV X)))
    rw [h4]
    refine va_sld hC.1 hC.2.1 h1 h2 h3 hS (vp_in_nI hj (by omega)) h ?_
    rw [nI_clamp (by omega)]
    exact nx X p l e s m args below meth c H locs A hC hR hS hl
  · intro T hT X9
    exact ⟨_, Steps.refl _, fun h9 => absurd h9 hs⟩
theorem e_lret1 {k n pc p2 : Nat} {ls : Lv} {M : MM} (h : DC m_Law pc .ireturn 1 p2) (hk : k ≤ 600000) (hn : n ≤ 7302250) : EVG m_Law room_1 (ZL b L xs) k n pc ls [.int 1] M := by
  intro X p l e s m args below meth c H locs A hC hR hS hl
  obtain ⟨h, rfl⟩ := h
  by_cases hs : scr b L xs X s args
  · obtain ⟨h1, h2, h3, h4, h5, h6⟩ := hs
    subst h5
    have h7 : W p l e room_1 s m #[Value.ref b] below meth c H locs k n (lw_Z below #[Value.ref b] s) (F0 m pc A [.int 1]) := by
      refine va_forget (fun q hq => Nat.le_trans h6 (hS.2.2 q hq)) ?_
      exact W.widen hk hn (lw_ret hC.1 hC.2.1 hC.2.2.1 hC.2.2.2.2.2.2.2.2.1 h)
    intro T hT X9
    obtain ⟨t, a1, b1⟩ := h7 T hT X9
    exact ⟨t, a1, fun _ => b1⟩
  · intro T hT X9
    exact ⟨_, Steps.refl _, fun h9 => absurd h9 hs⟩
end LAWR
section LAWC
variable {L b i : Nat} {xs : Nat → Int32} {Inv : MM → Prop}
abbrev LSl (i : Nat) : Lv := [some (.retAddr 5), some (.ref 0), some (.ref 559), some (.int (nI i))]
theorem nI_k (i k : Nat) : nI i + nI k = nI (i + k) := nI_add i k
theorem law_c0 (hS : Steps32 Inv) (hi : i + 6 ≤ L) (hL : L ≤ 3072) (M : MM) (hM : Inv M) (nx : ∀ M2, Inv M2 → EVG m_Law room_1 (ZL b L xs) 610 174723 1250 (LSl i) [] M2) : EVG m_Law room_1 (ZL b L xs) 610 174723 176 (LSl i) [] M := by
  refine e_aload_n d_Law_176 rfl ?_
  refine e_aload_nX d_Law_177 rfl ?_
  refine e_iload_n d_Law_178 rfl ?_
  refine e_iconst (v := 1) d_Law_179 (by decide) ?_
  refine e_iadd d_Law_180 ?_
  refine e_sld (j := i + 1) d_Law_181 (nI_k i 1) (by omega) hL ?_
  refine e_aload_nX d_Law_182 rfl ?_
  refine e_iload_n d_Law_183 rfl ?_
  refine e_iconst (v := 2) d_Law_184 (by decide) ?_
  refine e_iadd d_Law_185 ?_
  refine e_sld (j := i + 2) d_Law_186 (nI_k i 2) (by omega) hL ?_
  refine e_aload_nX d_Law_187 rfl ?_
  refine e_iload_n d_Law_188 rfl ?_
  refine e_iconst (v := 3) d_Law_189 (by decide) ?_
  refine e_iadd d_Law_190 ?_
  refine e_sld (j := i + 3) d_Law_191 (nI_k i 3) (by omega) hL ?_
  refine e_aload_nX d_Law_192 rfl ?_
  refine e_iload_n d_Law_193 rfl ?_
  refine e_iconst (v := 4) d_Law_194 (by decide) ?_
  refine e_iadd d_Law_195 ?_
  refine e_sld (j := i + 4) d_Law_196 (nI_k i 4) (by omega) hL ?_
  refine e_aload_nX d_Law_197 rfl ?_
  refine e_iload_n d_Law_198 rfl ?_
  refine e_iconst (v := 5) d_Law_199 (by decide) ?_
  refine e_iadd d_Law_200 ?_
  refine e_sld (j := i + 5) d_Law_201 (nI_k i 5) (by omega) hL ?_
  obtain ⟨r, M1, M2, h1, h2, hM2⟩ := hS.s0 (xs (i + 1)) (xs (i + 2)) (xs (i + 3)) (xs (i + 4)) (xs (i + 5)) M hM
  refine e_callV (mt1 := m_Q_feed) (R1 := rm 2 0 0) (As := [.int (xs (i + 1)), .int (xs (i + 2)), .int (xs (i + 3)), .int (xs (i + 4)), .int (xs (i + 5))]) (b := 0) (st := []) (res1 := some (.int r)) (M1 := M1) d_Law_202 ml_Law_13 mv_Q_feed (t_Q_feed NF 0 (xs (i + 1)) (xs (i + 2)) (xs (i + 3)) (xs (i + 4)) (xs (i + 5)) M (r, M1) h1) rfl rfl (fc_Q_feed h1) rfl (okp rfl) (okp rfl) (okp rfl) (okp rfl) (okp rfl) ?_
  show EVG m_Law room_1 (ZL b L xs) 610 174723 205 (LSl i) [.int r] M1
  refine e_aload_n d_Law_205 rfl ?_
  refine e_aload_nX d_Law_206 rfl ?_
  refine e_iload_n d_Law_207 rfl ?_
  refine e_iconst (v := 1) d_Law_208 (by decide) ?_
  refine e_iadd d_Law_209 ?_
  refine e_sld (j := i + 1) d_Law_210 (nI_k i 1) (by omega) hL ?_
  refine e_aload_nX d_Law_211 rfl ?_
  refine e_iload_n d_Law_212 rfl ?_
  refine e_iconst (v := 2) d_Law_213 (by decide) ?_
  refine e_iadd d_Law_214 ?_
  refine e_sld (j := i + 2) d_Law_215 (nI_k i 2) (by omega) hL ?_
  refine e_aload_nX d_Law_216 rfl ?_
  refine e_iload_n d_Law_217 rfl ?_
  refine e_iconst (v := 3) d_Law_218 (by decide) ?_
  refine e_iadd d_Law_219 ?_
  refine e_sld (j := i + 3) d_Law_220 (nI_k i 3) (by omega) hL ?_
  refine e_aload_nX d_Law_221 rfl ?_
  refine e_iload_n d_Law_222 rfl ?_
  refine e_iconst (v := 4) d_Law_223 (by decide) ?_
  refine e_iadd d_Law_224 ?_
  refine e_sld (j := i + 4) d_Law_225 (nI_k i 4) (by omega) hL ?_
  refine e_aload_nX d_Law_226 rfl ?_
  refine e_iload_n d_Law_227 rfl ?_
  refine e_iconst (v := 5) d_Law_228 (by decide) ?_
  refine e_iadd d_Law_229 ?_
  refine e_sld (j := i + 5) d_Law_230 (nI_k i 5) (by omega) hL ?_
  refine e_callV (mt1 := m_Mo_feed) (R1 := rm 2 0 0) (As := [.int (xs (i + 1)), .int (xs (i + 2)), .int (xs (i + 3)), .int (xs (i + 4)), .int (xs (i + 5))]) (b := 559) (st := [.int r]) (res1 := some (.int r)) (M1 := M2) d_Law_231 ml_Law_17 mv_Mo_feed (t_Mo_feed NF 559 (xs (i + 1)) (xs (i + 2)) (xs (i + 3)) (xs (i + 4)) (xs (i + 5)) M1 (r, M2) h2) rfl rfl (fc_Mo_feed h2) rfl (okp rfl) (okp rfl) (okp rfl) (okp rfl) (okp rfl) ?_
  show EVG m_Law room_1 (ZL b L xs) 610 174723 234 (LSl i) [.int r, .int r] M2
  refine e_ic_eq 1250 d_Law_234 (by decide) (fun _ => ?_) (fun c9 => absurd rfl c9)
  exact nx _ hM2
theorem law_c1 (hS : Steps32 Inv) (hi : i + 6 ≤ L) (hL : L ≤ 3072) (M : MM) (hM : Inv M) (nx : ∀ M2, Inv M2 → EVG m_Law room_1 (ZL b L xs) 610 174723 1250 (LSl i) [] M2) : EVG m_Law room_1 (ZL b L xs) 610 174723 239 (LSl i) [] M := by
  refine e_aload_n d_Law_239 rfl ?_
  refine e_aload_nX d_Law_240 rfl ?_
  refine e_iload_n d_Law_241 rfl ?_
  refine e_iconst (v := 1) d_Law_242 (by decide) ?_
  refine e_iadd d_Law_243 ?_
  refine e_sld (j := i + 1) d_Law_244 (nI_k i 1) (by omega) hL ?_
  obtain ⟨r, M1, M2, h1, h2, hM2⟩ := hS.s1 (xs (i + 1)) M hM
  refine e_callV (mt1 := m_Q_back) (R1 := rm 1 0 0) (As := [.int (xs (i + 1))]) (b := 0) (st := []) (res1 := some (.int r)) (M1 := M1) d_Law_245 ml_Law_18 mv_Q_back (t_Q_back NF 0 (xs (i + 1)) M (r, M1) h1) rfl rfl (fc_Q_back h1) rfl (okp rfl) (okp rfl) (okp rfl) (okp rfl) (okp rfl) ?_
  show EVG m_Law room_1 (ZL b L xs) 610 174723 248 (LSl i) [.int r] M1
  refine e_aload_n d_Law_248 rfl ?_
  refine e_aload_nX d_Law_249 rfl ?_
  refine e_iload_n d_Law_250 rfl ?_
  refine e_iconst (v := 1) d_Law_251 (by decide) ?_
  refine e_iadd d_Law_252 ?_
  refine e_sld (j := i + 1) d_Law_253 (nI_k i 1) (by omega) hL ?_
  refine e_callV (mt1 := m_Mo_back) (R1 := rm 1 0 0) (As := [.int (xs (i + 1))]) (b := 559) (st := [.int r]) (res1 := some (.int r)) (M1 := M2) d_Law_254 ml_Law_22 mv_Mo_back (t_Mo_back NF 559 (xs (i + 1)) M1 (r, M2) h2) rfl rfl (fc_Mo_back h2) rfl (okp rfl) (okp rfl) (okp rfl) (okp rfl) (okp rfl) ?_
  show EVG m_Law room_1 (ZL b L xs) 610 174723 257 (LSl i) [.int r, .int r] M2
  refine e_ic_eq 1250 d_Law_257 (by decide) (fun _ => ?_) (fun c9 => absurd rfl c9)
  exact nx _ hM2
theorem law_c2 (hS : Steps32 Inv) (hi : i + 6 ≤ L) (hL : L ≤ 3072) (M : MM) (hM : Inv M) (nx : ∀ M2, Inv M2 → EVG m_Law room_1 (ZL b L xs) 610 174723 1250 (LSl i) [] M2) : EVG m_Law room_1 (ZL b L xs) 610 174723 262 (LSl i) [] M := by
  refine e_aload_n d_Law_262 rfl ?_
  obtain ⟨r, M1, M2, h1, h2, hM2⟩ := hS.s2  M hM
  refine e_callV (mt1 := m_Q_read) (R1 := rm 56 0 0) (As := []) (b := 0) (st := []) (res1 := some (.int r)) (M1 := M1) d_Law_263 ml_Law_23 mv_Q_read (t_Q_read NF 0  M (r, M1) h1) rfl rfl (fc_Q_read h1) rfl (okp rfl) (okp rfl) (okp rfl) (okp rfl) (okp rfl) ?_
  show EVG m_Law room_1 (ZL b L xs) 610 174723 266 (LSl i) [.int r] M1
  refine e_aload_n d_Law_266 rfl ?_
  refine e_callV (mt1 := m_Mo_read) (R1 := rm 8 0 0) (As := []) (b := 559) (st := [.int r]) (res1 := some (.int r)) (M1 := M2) d_Law_267 ml_Law_27 mv_Mo_read (t_Mo_read NF 559  M1 (r, M2) h2) rfl rfl (fc_Mo_read h2) rfl (okp rfl) (okp rfl) (okp rfl) (okp rfl) (okp rfl) ?_
  show EVG m_Law room_1 (ZL b L xs) 610 174723 270 (LSl i) [.int r, .int r] M2
  refine e_ic_eq 1250 d_Law_270 (by decide) (fun _ => ?_) (fun c9 => absurd rfl c9)
  exact nx _ hM2
theorem law_c3 (hS : Steps32 Inv) (hi : i + 6 ≤ L) (hL : L ≤ 3072) (M : MM) (hM : Inv M) (nx : ∀ M2, Inv M2 → EVG m_Law room_1 (ZL b L xs) 610 174723 1250 (LSl i) [] M2) : EVG m_Law room_1 (ZL b L xs) 610 174723 275 (LSl i) [] M := by
  refine e_aload_n d_Law_275 rfl ?_
  obtain ⟨r, M1, M2, h1, h2, hM2⟩ := hS.s3  M hM
  refine e_callV (mt1 := m_Q_place) (R1 := rm 1 0 0) (As := []) (b := 0) (st := []) (res1 := some (.int r)) (M1 := M1) d_Law_276 ml_Law_28 mv_Q_place (t_Q_place NF 0  M (r, M1) h1) rfl rfl (fc_Q_place h1) rfl (okp rfl) (okp rfl) (okp rfl) (okp rfl) (okp rfl) ?_
  show EVG m_Law room_1 (ZL b L xs) 610 174723 279 (LSl i) [.int r] M1
  refine e_aload_n d_Law_279 rfl ?_
  refine e_callV (mt1 := m_Mo_place) (R1 := rm 1 0 0) (As := []) (b := 559) (st := [.int r]) (res1 := some (.int r)) (M1 := M2) d_Law_280 ml_Law_31 mv_Mo_place (t_Mo_place NF 559  M1 (r, M2) h2) rfl rfl (fc_Mo_place h2) rfl (okp rfl) (okp rfl) (okp rfl) (okp rfl) (okp rfl) ?_
  show EVG m_Law room_1 (ZL b L xs) 610 174723 283 (LSl i) [.int r, .int r] M2
  refine e_ic_eq 1250 d_Law_283 (by decide) (fun _ => ?_) (fun c9 => absurd rfl c9)
  exact nx _ hM2
theorem law_c4 (hS : Steps32 Inv) (hi : i + 6 ≤ L) (hL : L ≤ 3072) (M : MM) (hM : Inv M) (nx : ∀ M2, Inv M2 → EVG m_Law room_1 (ZL b L xs) 610 174723 1250 (LSl i) [] M2) : EVG m_Law room_1 (ZL b L xs) 610 174723 288 (LSl i) [] M := by
  refine e_aload_n d_Law_288 rfl ?_
  refine e_aload_nX d_Law_289 rfl ?_
  refine e_iload_n d_Law_290 rfl ?_
  refine e_iconst (v := 1) d_Law_291 (by decide) ?_
  refine e_iadd d_Law_292 ?_
  refine e_sld (j := i + 1) d_Law_293 (nI_k i 1) (by omega) hL ?_
  by_cases c0 : (xs (i + 1)) = 0
  · refine e_if_eq 301 d_Law_294 (by decide) (fun _ => ?_) (fun c9 => absurd c0 c9)
    refine e_iconst (v := 0) d_Law_301 (by decide) ?_
    refine e_aload_nX d_Law_302 rfl ?_
    refine e_iload_n d_Law_303 rfl ?_
    refine e_iconst (v := 2) d_Law_304 (by decide) ?_
    refine e_iadd d_Law_305 ?_
    refine e_sld (j := i + 2) d_Law_306 (nI_k i 2) (by omega) hL ?_
    obtain ⟨r, M1, M2, h1, h2, hM2⟩ := hS.s4 0 (xs (i + 2)) (Or.inl rfl) M hM
    refine e_callV (mt1 := m_Q_area) (R1 := rm 2 0 0) (As := [.int 0, .int (xs (i + 2))]) (b := 0) (st := []) (res1 := some (.int r)) (M1 := M1) d_Law_307 ml_Law_32 mv_Q_area (t_Q_area NF 0 0 (xs (i + 2)) M (r, M1) h1) rfl rfl (fc_Q_area h1) rfl (okp rfl) (okp rfl) (okp rfl) (okp rfl) (okp rfl) ?_
    show EVG m_Law room_1 (ZL b L xs) 610 174723 310 (LSl i) [.int r] M1
    refine e_aload_n d_Law_310 rfl ?_
    refine e_aload_nX d_Law_311 rfl ?_
    refine e_iload_n d_Law_312 rfl ?_
    refine e_iconst (v := 1) d_Law_313 (by decide) ?_
    refine e_iadd d_Law_314 ?_
    refine e_sld (j := i + 1) d_Law_315 (nI_k i 1) (by omega) hL ?_
    refine e_if_eq 323 d_Law_316 (by decide) (fun _ => ?_) (fun c9 => absurd c0 c9)
    refine e_iconst (v := 0) d_Law_323 (by decide) ?_
    refine e_aload_nX d_Law_324 rfl ?_
    refine e_iload_n d_Law_325 rfl ?_
    refine e_iconst (v := 2) d_Law_326 (by decide) ?_
    refine e_iadd d_Law_327 ?_
    refine e_sld (j := i + 2) d_Law_328 (nI_k i 2) (by omega) hL ?_
    refine e_callV (mt1 := m_Mo_area) (R1 := rm 2 0 0) (As := [.int 0, .int (xs (i + 2))]) (b := 559) (st := [.int r]) (res1 := some (.int r)) (M1 := M2) d_Law_329 ml_Law_36 mv_Mo_area (t_Mo_area NF 559 0 (xs (i + 2)) M1 (r, M2) h2) rfl rfl (fc_Mo_area h2) rfl (okp rfl) (okp rfl) (okp rfl) (okp rfl) (okp rfl) ?_
    show EVG m_Law room_1 (ZL b L xs) 610 174723 332 (LSl i) [.int r, .int r] M2
    refine e_ic_eq 1250 d_Law_332 (by decide) (fun _ => ?_) (fun c9 => absurd rfl c9)
    exact nx _ hM2
  · refine e_if_eq 301 d_Law_294 (by decide) (fun c9 => absurd c9 c0) (fun _ => ?_)
    refine e_iconst (v := 1) d_Law_297 (by decide) ?_
    refine e_goto 302 d_Law_298 (by decide) ?_
    refine e_aload_nX d_Law_302 rfl ?_
    refine e_iload_n d_Law_303 rfl ?_
    refine e_iconst (v := 2) d_Law_304 (by decide) ?_
    refine e_iadd d_Law_305 ?_
    refine e_sld (j := i + 2) d_Law_306 (nI_k i 2) (by omega) hL ?_
    obtain ⟨r, M1, M2, h1, h2, hM2⟩ := hS.s4 1 (xs (i + 2)) (Or.inr rfl) M hM
    refine e_callV (mt1 := m_Q_area) (R1 := rm 2 0 0) (As := [.int 1, .int (xs (i + 2))]) (b := 0) (st := []) (res1 := some (.int r)) (M1 := M1) d_Law_307 ml_Law_32 mv_Q_area (t_Q_area NF 0 1 (xs (i + 2)) M (r, M1) h1) rfl rfl (fc_Q_area h1) rfl (okp rfl) (okp rfl) (okp rfl) (okp rfl) (okp rfl) ?_
    show EVG m_Law room_1 (ZL b L xs) 610 174723 310 (LSl i) [.int r] M1
    refine e_aload_n d_Law_310 rfl ?_
    refine e_aload_nX d_Law_311 rfl ?_
    refine e_iload_n d_Law_312 rfl ?_
    refine e_iconst (v := 1) d_Law_313 (by decide) ?_
    refine e_iadd d_Law_314 ?_
    refine e_sld (j := i + 1) d_Law_315 (nI_k i 1) (by omega) hL ?_
    refine e_if_eq 323 d_Law_316 (by decide) (fun c9 => absurd c9 c0) (fun _ => ?_)
    refine e_iconst (v := 1) d_Law_319 (by decide) ?_
    refine e_goto 324 d_Law_320 (by decide) ?_
    refine e_aload_nX d_Law_324 rfl ?_
    refine e_iload_n d_Law_325 rfl ?_
    refine e_iconst (v := 2) d_Law_326 (by decide) ?_
    refine e_iadd d_Law_327 ?_
    refine e_sld (j := i + 2) d_Law_328 (nI_k i 2) (by omega) hL ?_
    refine e_callV (mt1 := m_Mo_area) (R1 := rm 2 0 0) (As := [.int 1, .int (xs (i + 2))]) (b := 559) (st := [.int r]) (res1 := some (.int r)) (M1 := M2) d_Law_329 ml_Law_36 mv_Mo_area (t_Mo_area NF 559 1 (xs (i + 2)) M1 (r, M2) h2) rfl rfl (fc_Mo_area h2) rfl (okp rfl) (okp rfl) (okp rfl) (okp rfl) (okp rfl) ?_
    show EVG m_Law room_1 (ZL b L xs) 610 174723 332 (LSl i) [.int r, .int r] M2
    refine e_ic_eq 1250 d_Law_332 (by decide) (fun _ => ?_) (fun c9 => absurd rfl c9)
    exact nx _ hM2
theorem law_c5 (hS : Steps32 Inv) (hi : i + 6 ≤ L) (hL : L ≤ 3072) (M : MM) (hM : Inv M) (nx : ∀ M2, Inv M2 → EVG m_Law room_1 (ZL b L xs) 610 174723 1250 (LSl i) [] M2) : EVG m_Law room_1 (ZL b L xs) 610 174723 337 (LSl i) [] M := by
  refine e_aload_n d_Law_337 rfl ?_
  refine e_aload_nX d_Law_338 rfl ?_
  refine e_iload_n d_Law_339 rfl ?_
  refine e_iconst (v := 1) d_Law_340 (by decide) ?_
  refine e_iadd d_Law_341 ?_
  refine e_sld (j := i + 1) d_Law_342 (nI_k i 1) (by omega) hL ?_
  by_cases c0 : (xs (i + 1)) = 0
  · refine e_if_eq 350 d_Law_343 (by decide) (fun _ => ?_) (fun c9 => absurd c0 c9)
    refine e_iconst (v := 0) d_Law_350 (by decide) ?_
    refine e_aload_nX d_Law_351 rfl ?_
    refine e_iload_n d_Law_352 rfl ?_
    refine e_iconst (v := 2) d_Law_353 (by decide) ?_
    refine e_iadd d_Law_354 ?_
    refine e_sld (j := i + 2) d_Law_355 (nI_k i 2) (by omega) hL ?_
    refine e_aload_nX d_Law_356 rfl ?_
    refine e_iload_n d_Law_357 rfl ?_
    refine e_iconst (v := 3) d_Law_358 (by decide) ?_
    refine e_iadd d_Law_359 ?_
    refine e_sld (j := i + 3) d_Law_360 (nI_k i 3) (by omega) hL ?_
    obtain ⟨r, M1, M2, h1, h2, hM2⟩ := hS.s5 0 (xs (i + 2)) (xs (i + 3)) (Or.inl rfl) M hM
    refine e_callV (mt1 := m_Q_has) (R1 := rm 2 0 0) (As := [.int 0, .int (xs (i + 2)), .int (xs (i + 3))]) (b := 0) (st := []) (res1 := some (.int r)) (M1 := M1) d_Law_361 ml_Law_37 mv_Q_has (t_Q_has NF 0 0 (xs (i + 2)) (xs (i + 3)) M (r, M1) h1) rfl rfl (fc_Q_has h1) rfl (okp rfl) (okp rfl) (okp rfl) (okp rfl) (okp rfl) ?_
    show EVG m_Law room_1 (ZL b L xs) 610 174723 364 (LSl i) [.int r] M1
    refine e_aload_n d_Law_364 rfl ?_
    refine e_aload_nX d_Law_365 rfl ?_
    refine e_iload_n d_Law_366 rfl ?_
    refine e_iconst (v := 1) d_Law_367 (by decide) ?_
    refine e_iadd d_Law_368 ?_
    refine e_sld (j := i + 1) d_Law_369 (nI_k i 1) (by omega) hL ?_
    refine e_if_eq 377 d_Law_370 (by decide) (fun _ => ?_) (fun c9 => absurd c0 c9)
    refine e_iconst (v := 0) d_Law_377 (by decide) ?_
    refine e_aload_nX d_Law_378 rfl ?_
    refine e_iload_n d_Law_379 rfl ?_
    refine e_iconst (v := 2) d_Law_380 (by decide) ?_
    refine e_iadd d_Law_381 ?_
    refine e_sld (j := i + 2) d_Law_382 (nI_k i 2) (by omega) hL ?_
    refine e_aload_nX d_Law_383 rfl ?_
    refine e_iload_n d_Law_384 rfl ?_
    refine e_iconst (v := 3) d_Law_385 (by decide) ?_
    refine e_iadd d_Law_386 ?_
    refine e_sld (j := i + 3) d_Law_387 (nI_k i 3) (by omega) hL ?_
    refine e_callV (mt1 := m_Mo_has) (R1 := rm 2 0 0) (As := [.int 0, .int (xs (i + 2)), .int (xs (i + 3))]) (b := 559) (st := [.int r]) (res1 := some (.int r)) (M1 := M2) d_Law_388 ml_Law_41 mv_Mo_has (t_Mo_has NF 559 0 (xs (i + 2)) (xs (i + 3)) M1 (r, M2) h2) rfl rfl (fc_Mo_has h2) rfl (okp rfl) (okp rfl) (okp rfl) (okp rfl) (okp rfl) ?_
    show EVG m_Law room_1 (ZL b L xs) 610 174723 391 (LSl i) [.int r, .int r] M2
    refine e_ic_eq 1250 d_Law_391 (by decide) (fun _ => ?_) (fun c9 => absurd rfl c9)
    exact nx _ hM2
  · refine e_if_eq 350 d_Law_343 (by decide) (fun c9 => absurd c9 c0) (fun _ => ?_)
    refine e_iconst (v := 1) d_Law_346 (by decide) ?_
    refine e_goto 351 d_Law_347 (by decide) ?_
    refine e_aload_nX d_Law_351 rfl ?_
    refine e_iload_n d_Law_352 rfl ?_
    refine e_iconst (v := 2) d_Law_353 (by decide) ?_
    refine e_iadd d_Law_354 ?_
    refine e_sld (j := i + 2) d_Law_355 (nI_k i 2) (by omega) hL ?_
    refine e_aload_nX d_Law_356 rfl ?_
    refine e_iload_n d_Law_357 rfl ?_
    refine e_iconst (v := 3) d_Law_358 (by decide) ?_
    refine e_iadd d_Law_359 ?_
    refine e_sld (j := i + 3) d_Law_360 (nI_k i 3) (by omega) hL ?_
    obtain ⟨r, M1, M2, h1, h2, hM2⟩ := hS.s5 1 (xs (i + 2)) (xs (i + 3)) (Or.inr rfl) M hM
    refine e_callV (mt1 := m_Q_has) (R1 := rm 2 0 0) (As := [.int 1, .int (xs (i + 2)), .int (xs (i + 3))]) (b := 0) (st := []) (res1 := some (.int r)) (M1 := M1) d_Law_361 ml_Law_37 mv_Q_has (t_Q_has NF 0 1 (xs (i + 2)) (xs (i + 3)) M (r, M1) h1) rfl rfl (fc_Q_has h1) rfl (okp rfl) (okp rfl) (okp rfl) (okp rfl) (okp rfl) ?_
    show EVG m_Law room_1 (ZL b L xs) 610 174723 364 (LSl i) [.int r] M1
    refine e_aload_n d_Law_364 rfl ?_
    refine e_aload_nX d_Law_365 rfl ?_
    refine e_iload_n d_Law_366 rfl ?_
    refine e_iconst (v := 1) d_Law_367 (by decide) ?_
    refine e_iadd d_Law_368 ?_
    refine e_sld (j := i + 1) d_Law_369 (nI_k i 1) (by omega) hL ?_
    refine e_if_eq 377 d_Law_370 (by decide) (fun c9 => absurd c9 c0) (fun _ => ?_)
    refine e_iconst (v := 1) d_Law_373 (by decide) ?_
    refine e_goto 378 d_Law_374 (by decide) ?_
    refine e_aload_nX d_Law_378 rfl ?_
    refine e_iload_n d_Law_379 rfl ?_
    refine e_iconst (v := 2) d_Law_380 (by decide) ?_
    refine e_iadd d_Law_381 ?_
    refine e_sld (j := i + 2) d_Law_382 (nI_k i 2) (by omega) hL ?_
    refine e_aload_nX d_Law_383 rfl ?_
    refine e_iload_n d_Law_384 rfl ?_
    refine e_iconst (v := 3) d_Law_385 (by decide) ?_
    refine e_iadd d_Law_386 ?_
    refine e_sld (j := i + 3) d_Law_387 (nI_k i 3) (by omega) hL ?_
    refine e_callV (mt1 := m_Mo_has) (R1 := rm 2 0 0) (As := [.int 1, .int (xs (i + 2)), .int (xs (i + 3))]) (b := 559) (st := [.int r]) (res1 := some (.int r)) (M1 := M2) d_Law_388 ml_Law_41 mv_Mo_has (t_Mo_has NF 559 1 (xs (i + 2)) (xs (i + 3)) M1 (r, M2) h2) rfl rfl (fc_Mo_has h2) rfl (okp rfl) (okp rfl) (okp rfl) (okp rfl) (okp rfl) ?_
    show EVG m_Law room_1 (ZL b L xs) 610 174723 391 (LSl i) [.int r, .int r] M2
    refine e_ic_eq 1250 d_Law_391 (by decide) (fun _ => ?_) (fun c9 => absurd rfl c9)
    exact nx _ hM2
theorem law_c6 (hS : Steps32 Inv) (hi : i + 6 ≤ L) (hL : L ≤ 3072) (M : MM) (hM : Inv M) (nx : ∀ M2, Inv M2 → EVG m_Law room_1 (ZL b L xs) 610 174723 1250 (LSl i) [] M2) : EVG m_Law room_1 (ZL b L xs) 610 174723 396 (LSl i) [] M := by
  refine e_aload_n d_Law_396 rfl ?_
  refine e_aload_nX d_Law_397 rfl ?_
  refine e_iload_n d_Law_398 rfl ?_
  refine e_iconst (v := 1) d_Law_399 (by decide) ?_
  refine e_iadd d_Law_400 ?_
  refine e_sld (j := i + 1) d_Law_401 (nI_k i 1) (by omega) hL ?_
  by_cases c0 : (xs (i + 1)) = 0
  · refine e_if_eq 409 d_Law_402 (by decide) (fun _ => ?_) (fun c9 => absurd c0 c9)
    refine e_iconst (v := 0) d_Law_409 (by decide) ?_
    refine e_aload_nX d_Law_410 rfl ?_
    refine e_iload_n d_Law_411 rfl ?_
    refine e_iconst (v := 2) d_Law_412 (by decide) ?_
    refine e_iadd d_Law_413 ?_
    refine e_sld (j := i + 2) d_Law_414 (nI_k i 2) (by omega) hL ?_
    obtain ⟨r, M1, M2, h1, h2, hM2⟩ := hS.s6 0 (xs (i + 2)) (Or.inl rfl) M hM
    refine e_callV (mt1 := m_Q_pieces) (R1 := rm 5 0 0) (As := [.int 0, .int (xs (i + 2))]) (b := 0) (st := []) (res1 := some (.int r)) (M1 := M1) d_Law_415 ml_Law_42 mv_Q_pieces (t_Q_pieces NF 0 0 (xs (i + 2)) M (r, M1) h1) rfl rfl (fc_Q_pieces h1) rfl (okp rfl) (okp rfl) (okp rfl) (okp rfl) (okp rfl) ?_
    show EVG m_Law room_1 (ZL b L xs) 610 174723 418 (LSl i) [.int r] M1
    refine e_aload_n d_Law_418 rfl ?_
    refine e_aload_nX d_Law_419 rfl ?_
    refine e_iload_n d_Law_420 rfl ?_
    refine e_iconst (v := 1) d_Law_421 (by decide) ?_
    refine e_iadd d_Law_422 ?_
    refine e_sld (j := i + 1) d_Law_423 (nI_k i 1) (by omega) hL ?_
    refine e_if_eq 431 d_Law_424 (by decide) (fun _ => ?_) (fun c9 => absurd c0 c9)
    refine e_iconst (v := 0) d_Law_431 (by decide) ?_
    refine e_aload_nX d_Law_432 rfl ?_
    refine e_iload_n d_Law_433 rfl ?_
    refine e_iconst (v := 2) d_Law_434 (by decide) ?_
    refine e_iadd d_Law_435 ?_
    refine e_sld (j := i + 2) d_Law_436 (nI_k i 2) (by omega) hL ?_
    refine e_callV (mt1 := m_Mo_pieces) (R1 := rm 3 0 0) (As := [.int 0, .int (xs (i + 2))]) (b := 559) (st := [.int r]) (res1 := some (.int r)) (M1 := M2) d_Law_437 ml_Law_45 mv_Mo_pieces (t_Mo_pieces NF 559 0 (xs (i + 2)) M1 (r, M2) h2) rfl rfl (fc_Mo_pieces h2) rfl (okp rfl) (okp rfl) (okp rfl) (okp rfl) (okp rfl) ?_
    show EVG m_Law room_1 (ZL b L xs) 610 174723 440 (LSl i) [.int r, .int r] M2
    refine e_ic_eq 1250 d_Law_440 (by decide) (fun _ => ?_) (fun c9 => absurd rfl c9)
    exact nx _ hM2
  · refine e_if_eq 409 d_Law_402 (by decide) (fun c9 => absurd c9 c0) (fun _ => ?_)
    refine e_iconst (v := 1) d_Law_405 (by decide) ?_
    refine e_goto 410 d_Law_406 (by decide) ?_
    refine e_aload_nX d_Law_410 rfl ?_
    refine e_iload_n d_Law_411 rfl ?_
    refine e_iconst (v := 2) d_Law_412 (by decide) ?_
    refine e_iadd d_Law_413 ?_
    refine e_sld (j := i + 2) d_Law_414 (nI_k i 2) (by omega) hL ?_
    obtain ⟨r, M1, M2, h1, h2, hM2⟩ := hS.s6 1 (xs (i + 2)) (Or.inr rfl) M hM
    refine e_callV (mt1 := m_Q_pieces) (R1 := rm 5 0 0) (As := [.int 1, .int (xs (i + 2))]) (b := 0) (st := []) (res1 := some (.int r)) (M1 := M1) d_Law_415 ml_Law_42 mv_Q_pieces (t_Q_pieces NF 0 1 (xs (i + 2)) M (r, M1) h1) rfl rfl (fc_Q_pieces h1) rfl (okp rfl) (okp rfl) (okp rfl) (okp rfl) (okp rfl) ?_
    show EVG m_Law room_1 (ZL b L xs) 610 174723 418 (LSl i) [.int r] M1
    refine e_aload_n d_Law_418 rfl ?_
    refine e_aload_nX d_Law_419 rfl ?_
    refine e_iload_n d_Law_420 rfl ?_
    refine e_iconst (v := 1) d_Law_421 (by decide) ?_
    refine e_iadd d_Law_422 ?_
    refine e_sld (j := i + 1) d_Law_423 (nI_k i 1) (by omega) hL ?_
    refine e_if_eq 431 d_Law_424 (by decide) (fun c9 => absurd c9 c0) (fun _ => ?_)
    refine e_iconst (v := 1) d_Law_427 (by decide) ?_
    refine e_goto 432 d_Law_428 (by decide) ?_
    refine e_aload_nX d_Law_432 rfl ?_
    refine e_iload_n d_Law_433 rfl ?_
    refine e_iconst (v := 2) d_Law_434 (by decide) ?_
    refine e_iadd d_Law_435 ?_
    refine e_sld (j := i + 2) d_Law_436 (nI_k i 2) (by omega) hL ?_
    refine e_callV (mt1 := m_Mo_pieces) (R1 := rm 3 0 0) (As := [.int 1, .int (xs (i + 2))]) (b := 559) (st := [.int r]) (res1 := some (.int r)) (M1 := M2) d_Law_437 ml_Law_45 mv_Mo_pieces (t_Mo_pieces NF 559 1 (xs (i + 2)) M1 (r, M2) h2) rfl rfl (fc_Mo_pieces h2) rfl (okp rfl) (okp rfl) (okp rfl) (okp rfl) (okp rfl) ?_
    show EVG m_Law room_1 (ZL b L xs) 610 174723 440 (LSl i) [.int r, .int r] M2
    refine e_ic_eq 1250 d_Law_440 (by decide) (fun _ => ?_) (fun c9 => absurd rfl c9)
    exact nx _ hM2
theorem law_c7 (hS : Steps32 Inv) (hi : i + 6 ≤ L) (hL : L ≤ 3072) (M : MM) (hM : Inv M) (nx : ∀ M2, Inv M2 → EVG m_Law room_1 (ZL b L xs) 610 174723 1250 (LSl i) [] M2) : EVG m_Law room_1 (ZL b L xs) 610 174723 445 (LSl i) [] M := by
  refine e_aload_n d_Law_445 rfl ?_
  refine e_aload_nX d_Law_446 rfl ?_
  refine e_iload_n d_Law_447 rfl ?_
  refine e_iconst (v := 1) d_Law_448 (by decide) ?_
  refine e_iadd d_Law_449 ?_
  refine e_sld (j := i + 1) d_Law_450 (nI_k i 1) (by omega) hL ?_
  by_cases c0 : (xs (i + 1)) = 0
  · refine e_if_eq 458 d_Law_451 (by decide) (fun _ => ?_) (fun c9 => absurd c0 c9)
    refine e_iconst (v := 0) d_Law_458 (by decide) ?_
    refine e_aload_nX d_Law_459 rfl ?_
    refine e_iload_n d_Law_460 rfl ?_
    refine e_iconst (v := 2) d_Law_461 (by decide) ?_
    refine e_iadd d_Law_462 ?_
    refine e_sld (j := i + 2) d_Law_463 (nI_k i 2) (by omega) hL ?_
    refine e_aload_nX d_Law_464 rfl ?_
    refine e_iload_n d_Law_465 rfl ?_
    refine e_iconst (v := 3) d_Law_466 (by decide) ?_
    refine e_iadd d_Law_467 ?_
    refine e_sld (j := i + 3) d_Law_468 (nI_k i 3) (by omega) hL ?_
    by_cases c1 : (xs (i + 3)) = 0
    · refine e_if_eq 476 d_Law_469 (by decide) (fun _ => ?_) (fun c9 => absurd c1 c9)
      refine e_iconst (v := 0) d_Law_476 (by decide) ?_
      obtain ⟨r, M1, M2, h1, h2, hM2⟩ := hS.s7 0 (xs (i + 2)) 0 (Or.inl rfl) (Or.inl rfl) M hM
      refine e_callV (mt1 := m_Q_corners) (R1 := rm 4 0 0) (As := [.int 0, .int (xs (i + 2)), .int 0]) (b := 0) (st := []) (res1 := some (.int r)) (M1 := M1) d_Law_477 ml_Law_46 mv_Q_corners (t_Q_corners NF 0 0 (xs (i + 2)) 0 M (r, M1) h1) rfl rfl (fc_Q_corners h1) rfl (okp rfl) (okp rfl) (okp rfl) (okp rfl) (okp rfl) ?_
      show EVG m_Law room_1 (ZL b L xs) 610 174723 480 (LSl i) [.int r] M1
      refine e_aload_n d_Law_480 rfl ?_
      refine e_aload_nX d_Law_481 rfl ?_
      refine e_iload_n d_Law_482 rfl ?_
      refine e_iconst (v := 1) d_Law_483 (by decide) ?_
      refine e_iadd d_Law_484 ?_
      refine e_sld (j := i + 1) d_Law_485 (nI_k i 1) (by omega) hL ?_
      refine e_if_eq 493 d_Law_486 (by decide) (fun _ => ?_) (fun c9 => absurd c0 c9)
      refine e_iconst (v := 0) d_Law_493 (by decide) ?_
      refine e_aload_nX d_Law_494 rfl ?_
      refine e_iload_n d_Law_495 rfl ?_
      refine e_iconst (v := 2) d_Law_496 (by decide) ?_
      refine e_iadd d_Law_497 ?_
      refine e_sld (j := i + 2) d_Law_498 (nI_k i 2) (by omega) hL ?_
      refine e_aload_nX d_Law_499 rfl ?_
      refine e_iload_n d_Law_500 rfl ?_
      refine e_iconst (v := 3) d_Law_501 (by decide) ?_
      refine e_iadd d_Law_502 ?_
      refine e_sld (j := i + 3) d_Law_503 (nI_k i 3) (by omega) hL ?_
      refine e_if_eq 511 d_Law_504 (by decide) (fun _ => ?_) (fun c9 => absurd c1 c9)
      refine e_iconst (v := 0) d_Law_511 (by decide) ?_
      refine e_callV (mt1 := m_Mo_corners) (R1 := rm 3 0 0) (As := [.int 0, .int (xs (i + 2)), .int 0]) (b := 559) (st := [.int r]) (res1 := some (.int r)) (M1 := M2) d_Law_512 ml_Law_50 mv_Mo_corners (t_Mo_corners NF 559 0 (xs (i + 2)) 0 M1 (r, M2) h2) rfl rfl (fc_Mo_corners h2) rfl (okp rfl) (okp rfl) (okp rfl) (okp rfl) (okp rfl) ?_
      show EVG m_Law room_1 (ZL b L xs) 610 174723 515 (LSl i) [.int r, .int r] M2
      refine e_ic_eq 1250 d_Law_515 (by decide) (fun _ => ?_) (fun c9 => absurd rfl c9)
      exact nx _ hM2
    · refine e_if_eq 476 d_Law_469 (by decide) (fun c9 => absurd c9 c1) (fun _ => ?_)
      refine e_iconst (v := 1) d_Law_472 (by decide) ?_
      refine e_goto 477 d_Law_473 (by decide) ?_
      obtain ⟨r, M1, M2, h1, h2, hM2⟩ := hS.s7 0 (xs (i + 2)) 1 (Or.inl rfl) (Or.inr rfl) M hM
      refine e_callV (mt1 := m_Q_corners) (R1 := rm 4 0 0) (As := [.int 0, .int (xs (i + 2)), .int 1]) (b := 0) (st := []) (res1 := some (.int r)) (M1 := M1) d_Law_477 ml_Law_46 mv_Q_corners (t_Q_corners NF 0 0 (xs (i + 2)) 1 M (r, M1) h1) rfl rfl (fc_Q_corners h1) rfl (okp rfl) (okp rfl) (okp rfl) (okp rfl) (okp rfl) ?_
      show EVG m_Law room_1 (ZL b L xs) 610 174723 480 (LSl i) [.int r] M1
      refine e_aload_n d_Law_480 rfl ?_
      refine e_aload_nX d_Law_481 rfl ?_
      refine e_iload_n d_Law_482 rfl ?_
      refine e_iconst (v := 1) d_Law_483 (by decide) ?_
      refine e_iadd d_Law_484 ?_
      refine e_sld (j := i + 1) d_Law_485 (nI_k i 1) (by omega) hL ?_
      refine e_if_eq 493 d_Law_486 (by decide) (fun _ => ?_) (fun c9 => absurd c0 c9)
      refine e_iconst (v := 0) d_Law_493 (by decide) ?_
      refine e_aload_nX d_Law_494 rfl ?_
      refine e_iload_n d_Law_495 rfl ?_
      refine e_iconst (v := 2) d_Law_496 (by decide) ?_
      refine e_iadd d_Law_497 ?_
      refine e_sld (j := i + 2) d_Law_498 (nI_k i 2) (by omega) hL ?_
      refine e_aload_nX d_Law_499 rfl ?_
      refine e_iload_n d_Law_500 rfl ?_
      refine e_iconst (v := 3) d_Law_501 (by decide) ?_
      refine e_iadd d_Law_502 ?_
      refine e_sld (j := i + 3) d_Law_503 (nI_k i 3) (by omega) hL ?_
      refine e_if_eq 511 d_Law_504 (by decide) (fun c9 => absurd c9 c1) (fun _ => ?_)
      refine e_iconst (v := 1) d_Law_507 (by decide) ?_
      refine e_goto 512 d_Law_508 (by decide) ?_
      refine e_callV (mt1 := m_Mo_corners) (R1 := rm 3 0 0) (As := [.int 0, .int (xs (i + 2)), .int 1]) (b := 559) (st := [.int r]) (res1 := some (.int r)) (M1 := M2) d_Law_512 ml_Law_50 mv_Mo_corners (t_Mo_corners NF 559 0 (xs (i + 2)) 1 M1 (r, M2) h2) rfl rfl (fc_Mo_corners h2) rfl (okp rfl) (okp rfl) (okp rfl) (okp rfl) (okp rfl) ?_
      show EVG m_Law room_1 (ZL b L xs) 610 174723 515 (LSl i) [.int r, .int r] M2
      refine e_ic_eq 1250 d_Law_515 (by decide) (fun _ => ?_) (fun c9 => absurd rfl c9)
      exact nx _ hM2
  · refine e_if_eq 458 d_Law_451 (by decide) (fun c9 => absurd c9 c0) (fun _ => ?_)
    refine e_iconst (v := 1) d_Law_454 (by decide) ?_
    refine e_goto 459 d_Law_455 (by decide) ?_
    refine e_aload_nX d_Law_459 rfl ?_
    refine e_iload_n d_Law_460 rfl ?_
    refine e_iconst (v := 2) d_Law_461 (by decide) ?_
    refine e_iadd d_Law_462 ?_
    refine e_sld (j := i + 2) d_Law_463 (nI_k i 2) (by omega) hL ?_
    refine e_aload_nX d_Law_464 rfl ?_
    refine e_iload_n d_Law_465 rfl ?_
    refine e_iconst (v := 3) d_Law_466 (by decide) ?_
    refine e_iadd d_Law_467 ?_
    refine e_sld (j := i + 3) d_Law_468 (nI_k i 3) (by omega) hL ?_
    by_cases c1 : (xs (i + 3)) = 0
    · refine e_if_eq 476 d_Law_469 (by decide) (fun _ => ?_) (fun c9 => absurd c1 c9)
      refine e_iconst (v := 0) d_Law_476 (by decide) ?_
      obtain ⟨r, M1, M2, h1, h2, hM2⟩ := hS.s7 1 (xs (i + 2)) 0 (Or.inr rfl) (Or.inl rfl) M hM
      refine e_callV (mt1 := m_Q_corners) (R1 := rm 4 0 0) (As := [.int 1, .int (xs (i + 2)), .int 0]) (b := 0) (st := []) (res1 := some (.int r)) (M1 := M1) d_Law_477 ml_Law_46 mv_Q_corners (t_Q_corners NF 0 1 (xs (i + 2)) 0 M (r, M1) h1) rfl rfl (fc_Q_corners h1) rfl (okp rfl) (okp rfl) (okp rfl) (okp rfl) (okp rfl) ?_
      show EVG m_Law room_1 (ZL b L xs) 610 174723 480 (LSl i) [.int r] M1
      refine e_aload_n d_Law_480 rfl ?_
      refine e_aload_nX d_Law_481 rfl ?_
      refine e_iload_n d_Law_482 rfl ?_
      refine e_iconst (v := 1) d_Law_483 (by decide) ?_
      refine e_iadd d_Law_484 ?_
      refine e_sld (j := i + 1) d_Law_485 (nI_k i 1) (by omega) hL ?_
      refine e_if_eq 493 d_Law_486 (by decide) (fun c9 => absurd c9 c0) (fun _ => ?_)
      refine e_iconst (v := 1) d_Law_489 (by decide) ?_
      refine e_goto 494 d_Law_490 (by decide) ?_
      refine e_aload_nX d_Law_494 rfl ?_
      refine e_iload_n d_Law_495 rfl ?_
      refine e_iconst (v := 2) d_Law_496 (by decide) ?_
      refine e_iadd d_Law_497 ?_
      refine e_sld (j := i + 2) d_Law_498 (nI_k i 2) (by omega) hL ?_
      refine e_aload_nX d_Law_499 rfl ?_
      refine e_iload_n d_Law_500 rfl ?_
      refine e_iconst (v := 3) d_Law_501 (by decide) ?_
      refine e_iadd d_Law_502 ?_
      refine e_sld (j := i + 3) d_Law_503 (nI_k i 3) (by omega) hL ?_
      refine e_if_eq 511 d_Law_504 (by decide) (fun _ => ?_) (fun c9 => absurd c1 c9)
      refine e_iconst (v := 0) d_Law_511 (by decide) ?_
      refine e_callV (mt1 := m_Mo_corners) (R1 := rm 3 0 0) (As := [.int 1, .int (xs (i + 2)), .int 0]) (b := 559) (st := [.int r]) (res1 := some (.int r)) (M1 := M2) d_Law_512 ml_Law_50 mv_Mo_corners (t_Mo_corners NF 559 1 (xs (i + 2)) 0 M1 (r, M2) h2) rfl rfl (fc_Mo_corners h2) rfl (okp rfl) (okp rfl) (okp rfl) (okp rfl) (okp rfl) ?_
      show EVG m_Law room_1 (ZL b L xs) 610 174723 515 (LSl i) [.int r, .int r] M2
      refine e_ic_eq 1250 d_Law_515 (by decide) (fun _ => ?_) (fun c9 => absurd rfl c9)
      exact nx _ hM2
    · refine e_if_eq 476 d_Law_469 (by decide) (fun c9 => absurd c9 c1) (fun _ => ?_)
      refine e_iconst (v := 1) d_Law_472 (by decide) ?_
      refine e_goto 477 d_Law_473 (by decide) ?_
      obtain ⟨r, M1, M2, h1, h2, hM2⟩ := hS.s7 1 (xs (i + 2)) 1 (Or.inr rfl) (Or.inr rfl) M hM
      refine e_callV (mt1 := m_Q_corners) (R1 := rm 4 0 0) (As := [.int 1, .int (xs (i + 2)), .int 1]) (b := 0) (st := []) (res1 := some (.int r)) (M1 := M1) d_Law_477 ml_Law_46 mv_Q_corners (t_Q_corners NF 0 1 (xs (i + 2)) 1 M (r, M1) h1) rfl rfl (fc_Q_corners h1) rfl (okp rfl) (okp rfl) (okp rfl) (okp rfl) (okp rfl) ?_
      show EVG m_Law room_1 (ZL b L xs) 610 174723 480 (LSl i) [.int r] M1
      refine e_aload_n d_Law_480 rfl ?_
      refine e_aload_nX d_Law_481 rfl ?_
      refine e_iload_n d_Law_482 rfl ?_
      refine e_iconst (v := 1) d_Law_483 (by decide) ?_
      refine e_iadd d_Law_484 ?_
      refine e_sld (j := i + 1) d_Law_485 (nI_k i 1) (by omega) hL ?_
      refine e_if_eq 493 d_Law_486 (by decide) (fun c9 => absurd c9 c0) (fun _ => ?_)
      refine e_iconst (v := 1) d_Law_489 (by decide) ?_
      refine e_goto 494 d_Law_490 (by decide) ?_
      refine e_aload_nX d_Law_494 rfl ?_
      refine e_iload_n d_Law_495 rfl ?_
      refine e_iconst (v := 2) d_Law_496 (by decide) ?_
      refine e_iadd d_Law_497 ?_
      refine e_sld (j := i + 2) d_Law_498 (nI_k i 2) (by omega) hL ?_
      refine e_aload_nX d_Law_499 rfl ?_
      refine e_iload_n d_Law_500 rfl ?_
      refine e_iconst (v := 3) d_Law_501 (by decide) ?_
      refine e_iadd d_Law_502 ?_
      refine e_sld (j := i + 3) d_Law_503 (nI_k i 3) (by omega) hL ?_
      refine e_if_eq 511 d_Law_504 (by decide) (fun c9 => absurd c9 c1) (fun _ => ?_)
      refine e_iconst (v := 1) d_Law_507 (by decide) ?_
      refine e_goto 512 d_Law_508 (by decide) ?_
      refine e_callV (mt1 := m_Mo_corners) (R1 := rm 3 0 0) (As := [.int 1, .int (xs (i + 2)), .int 1]) (b := 559) (st := [.int r]) (res1 := some (.int r)) (M1 := M2) d_Law_512 ml_Law_50 mv_Mo_corners (t_Mo_corners NF 559 1 (xs (i + 2)) 1 M1 (r, M2) h2) rfl rfl (fc_Mo_corners h2) rfl (okp rfl) (okp rfl) (okp rfl) (okp rfl) (okp rfl) ?_
      show EVG m_Law room_1 (ZL b L xs) 610 174723 515 (LSl i) [.int r, .int r] M2
      refine e_ic_eq 1250 d_Law_515 (by decide) (fun _ => ?_) (fun c9 => absurd rfl c9)
      exact nx _ hM2
theorem law_c8 (hS : Steps32 Inv) (hi : i + 6 ≤ L) (hL : L ≤ 3072) (M : MM) (hM : Inv M) (nx : ∀ M2, Inv M2 → EVG m_Law room_1 (ZL b L xs) 610 174723 1250 (LSl i) [] M2) : EVG m_Law room_1 (ZL b L xs) 610 174723 520 (LSl i) [] M := by
  refine e_aload_n d_Law_520 rfl ?_
  refine e_aload_nX d_Law_521 rfl ?_
  refine e_iload_n d_Law_522 rfl ?_
  refine e_iconst (v := 1) d_Law_523 (by decide) ?_
  refine e_iadd d_Law_524 ?_
  refine e_sld (j := i + 1) d_Law_525 (nI_k i 1) (by omega) hL ?_
  by_cases c0 : (xs (i + 1)) = 0
  · refine e_if_eq 533 d_Law_526 (by decide) (fun _ => ?_) (fun c9 => absurd c0 c9)
    refine e_iconst (v := 0) d_Law_533 (by decide) ?_
    refine e_aload_nX d_Law_534 rfl ?_
    refine e_iload_n d_Law_535 rfl ?_
    refine e_iconst (v := 2) d_Law_536 (by decide) ?_
    refine e_iadd d_Law_537 ?_
    refine e_sld (j := i + 2) d_Law_538 (nI_k i 2) (by omega) hL ?_
    obtain ⟨r, M1, M2, h1, h2, hM2⟩ := hS.s8 0 (xs (i + 2)) (Or.inl rfl) M hM
    refine e_callV (mt1 := m_Q_bulges) (R1 := rm 5 0 0) (As := [.int 0, .int (xs (i + 2))]) (b := 0) (st := []) (res1 := some (.int r)) (M1 := M1) d_Law_539 ml_Law_51 mv_Q_bulges (t_Q_bulges NF 0 0 (xs (i + 2)) M (r, M1) h1) rfl rfl (fc_Q_bulges h1) rfl (okp rfl) (okp rfl) (okp rfl) (okp rfl) (okp rfl) ?_
    show EVG m_Law room_1 (ZL b L xs) 610 174723 542 (LSl i) [.int r] M1
    refine e_aload_n d_Law_542 rfl ?_
    refine e_aload_nX d_Law_543 rfl ?_
    refine e_iload_n d_Law_544 rfl ?_
    refine e_iconst (v := 1) d_Law_545 (by decide) ?_
    refine e_iadd d_Law_546 ?_
    refine e_sld (j := i + 1) d_Law_547 (nI_k i 1) (by omega) hL ?_
    refine e_if_eq 555 d_Law_548 (by decide) (fun _ => ?_) (fun c9 => absurd c0 c9)
    refine e_iconst (v := 0) d_Law_555 (by decide) ?_
    refine e_aload_nX d_Law_556 rfl ?_
    refine e_iload_n d_Law_557 rfl ?_
    refine e_iconst (v := 2) d_Law_558 (by decide) ?_
    refine e_iadd d_Law_559 ?_
    refine e_sld (j := i + 2) d_Law_560 (nI_k i 2) (by omega) hL ?_
    refine e_callV (mt1 := m_Mo_bulges) (R1 := rm 3 0 0) (As := [.int 0, .int (xs (i + 2))]) (b := 559) (st := [.int r]) (res1 := some (.int r)) (M1 := M2) d_Law_561 ml_Law_54 mv_Mo_bulges (t_Mo_bulges NF 559 0 (xs (i + 2)) M1 (r, M2) h2) rfl rfl (fc_Mo_bulges h2) rfl (okp rfl) (okp rfl) (okp rfl) (okp rfl) (okp rfl) ?_
    show EVG m_Law room_1 (ZL b L xs) 610 174723 564 (LSl i) [.int r, .int r] M2
    refine e_ic_eq 1250 d_Law_564 (by decide) (fun _ => ?_) (fun c9 => absurd rfl c9)
    exact nx _ hM2
  · refine e_if_eq 533 d_Law_526 (by decide) (fun c9 => absurd c9 c0) (fun _ => ?_)
    refine e_iconst (v := 1) d_Law_529 (by decide) ?_
    refine e_goto 534 d_Law_530 (by decide) ?_
    refine e_aload_nX d_Law_534 rfl ?_
    refine e_iload_n d_Law_535 rfl ?_
    refine e_iconst (v := 2) d_Law_536 (by decide) ?_
    refine e_iadd d_Law_537 ?_
    refine e_sld (j := i + 2) d_Law_538 (nI_k i 2) (by omega) hL ?_
    obtain ⟨r, M1, M2, h1, h2, hM2⟩ := hS.s8 1 (xs (i + 2)) (Or.inr rfl) M hM
    refine e_callV (mt1 := m_Q_bulges) (R1 := rm 5 0 0) (As := [.int 1, .int (xs (i + 2))]) (b := 0) (st := []) (res1 := some (.int r)) (M1 := M1) d_Law_539 ml_Law_51 mv_Q_bulges (t_Q_bulges NF 0 1 (xs (i + 2)) M (r, M1) h1) rfl rfl (fc_Q_bulges h1) rfl (okp rfl) (okp rfl) (okp rfl) (okp rfl) (okp rfl) ?_
    show EVG m_Law room_1 (ZL b L xs) 610 174723 542 (LSl i) [.int r] M1
    refine e_aload_n d_Law_542 rfl ?_
    refine e_aload_nX d_Law_543 rfl ?_
    refine e_iload_n d_Law_544 rfl ?_
    refine e_iconst (v := 1) d_Law_545 (by decide) ?_
    refine e_iadd d_Law_546 ?_
    refine e_sld (j := i + 1) d_Law_547 (nI_k i 1) (by omega) hL ?_
    refine e_if_eq 555 d_Law_548 (by decide) (fun c9 => absurd c9 c0) (fun _ => ?_)
    refine e_iconst (v := 1) d_Law_551 (by decide) ?_
    refine e_goto 556 d_Law_552 (by decide) ?_
    refine e_aload_nX d_Law_556 rfl ?_
    refine e_iload_n d_Law_557 rfl ?_
    refine e_iconst (v := 2) d_Law_558 (by decide) ?_
    refine e_iadd d_Law_559 ?_
    refine e_sld (j := i + 2) d_Law_560 (nI_k i 2) (by omega) hL ?_
    refine e_callV (mt1 := m_Mo_bulges) (R1 := rm 3 0 0) (As := [.int 1, .int (xs (i + 2))]) (b := 559) (st := [.int r]) (res1 := some (.int r)) (M1 := M2) d_Law_561 ml_Law_54 mv_Mo_bulges (t_Mo_bulges NF 559 1 (xs (i + 2)) M1 (r, M2) h2) rfl rfl (fc_Mo_bulges h2) rfl (okp rfl) (okp rfl) (okp rfl) (okp rfl) (okp rfl) ?_
    show EVG m_Law room_1 (ZL b L xs) 610 174723 564 (LSl i) [.int r, .int r] M2
    refine e_ic_eq 1250 d_Law_564 (by decide) (fun _ => ?_) (fun c9 => absurd rfl c9)
    exact nx _ hM2
theorem law_c9 (hS : Steps32 Inv) (hi : i + 6 ≤ L) (hL : L ≤ 3072) (M : MM) (hM : Inv M) (nx : ∀ M2, Inv M2 → EVG m_Law room_1 (ZL b L xs) 610 174723 1250 (LSl i) [] M2) : EVG m_Law room_1 (ZL b L xs) 610 174723 569 (LSl i) [] M := by
  refine e_aload_n d_Law_569 rfl ?_
  refine e_aload_nX d_Law_570 rfl ?_
  refine e_iload_n d_Law_571 rfl ?_
  refine e_iconst (v := 1) d_Law_572 (by decide) ?_
  refine e_iadd d_Law_573 ?_
  refine e_sld (j := i + 1) d_Law_574 (nI_k i 1) (by omega) hL ?_
  by_cases c0 : (xs (i + 1)) = 0
  · refine e_if_eq 582 d_Law_575 (by decide) (fun _ => ?_) (fun c9 => absurd c0 c9)
    refine e_iconst (v := 0) d_Law_582 (by decide) ?_
    refine e_aload_nX d_Law_583 rfl ?_
    refine e_iload_n d_Law_584 rfl ?_
    refine e_iconst (v := 2) d_Law_585 (by decide) ?_
    refine e_iadd d_Law_586 ?_
    refine e_sld (j := i + 2) d_Law_587 (nI_k i 2) (by omega) hL ?_
    obtain ⟨r, M1, M2, h1, h2, hM2⟩ := hS.s9 0 (xs (i + 2)) (Or.inl rfl) M hM
    refine e_callV (mt1 := m_Q_images) (R1 := rm 2 0 0) (As := [.int 0, .int (xs (i + 2))]) (b := 0) (st := []) (res1 := some (.int r)) (M1 := M1) d_Law_588 ml_Law_55 mv_Q_images (t_Q_images NF 0 0 (xs (i + 2)) M (r, M1) h1) rfl rfl (fc_Q_images h1) rfl (okp rfl) (okp rfl) (okp rfl) (okp rfl) (okp rfl) ?_
    show EVG m_Law room_1 (ZL b L xs) 610 174723 591 (LSl i) [.int r] M1
    refine e_aload_n d_Law_591 rfl ?_
    refine e_aload_nX d_Law_592 rfl ?_
    refine e_iload_n d_Law_593 rfl ?_
    refine e_iconst (v := 1) d_Law_594 (by decide) ?_
    refine e_iadd d_Law_595 ?_
    refine e_sld (j := i + 1) d_Law_596 (nI_k i 1) (by omega) hL ?_
    refine e_if_eq 604 d_Law_597 (by decide) (fun _ => ?_) (fun c9 => absurd c0 c9)
    refine e_iconst (v := 0) d_Law_604 (by decide) ?_
    refine e_aload_nX d_Law_605 rfl ?_
    refine e_iload_n d_Law_606 rfl ?_
    refine e_iconst (v := 2) d_Law_607 (by decide) ?_
    refine e_iadd d_Law_608 ?_
    refine e_sld (j := i + 2) d_Law_609 (nI_k i 2) (by omega) hL ?_
    refine e_callV (mt1 := m_Mo_images) (R1 := rm 6 0 0) (As := [.int 0, .int (xs (i + 2))]) (b := 559) (st := [.int r]) (res1 := some (.int r)) (M1 := M2) d_Law_610 ml_Law_58 mv_Mo_images (t_Mo_images NF 559 0 (xs (i + 2)) M1 (r, M2) h2) rfl rfl (fc_Mo_images h2) rfl (okp rfl) (okp rfl) (okp rfl) (okp rfl) (okp rfl) ?_
    show EVG m_Law room_1 (ZL b L xs) 610 174723 613 (LSl i) [.int r, .int r] M2
    refine e_ic_eq 1250 d_Law_613 (by decide) (fun _ => ?_) (fun c9 => absurd rfl c9)
    exact nx _ hM2
  · refine e_if_eq 582 d_Law_575 (by decide) (fun c9 => absurd c9 c0) (fun _ => ?_)
    refine e_iconst (v := 1) d_Law_578 (by decide) ?_
    refine e_goto 583 d_Law_579 (by decide) ?_
    refine e_aload_nX d_Law_583 rfl ?_
    refine e_iload_n d_Law_584 rfl ?_
    refine e_iconst (v := 2) d_Law_585 (by decide) ?_
    refine e_iadd d_Law_586 ?_
    refine e_sld (j := i + 2) d_Law_587 (nI_k i 2) (by omega) hL ?_
    obtain ⟨r, M1, M2, h1, h2, hM2⟩ := hS.s9 1 (xs (i + 2)) (Or.inr rfl) M hM
    refine e_callV (mt1 := m_Q_images) (R1 := rm 2 0 0) (As := [.int 1, .int (xs (i + 2))]) (b := 0) (st := []) (res1 := some (.int r)) (M1 := M1) d_Law_588 ml_Law_55 mv_Q_images (t_Q_images NF 0 1 (xs (i + 2)) M (r, M1) h1) rfl rfl (fc_Q_images h1) rfl (okp rfl) (okp rfl) (okp rfl) (okp rfl) (okp rfl) ?_
    show EVG m_Law room_1 (ZL b L xs) 610 174723 591 (LSl i) [.int r] M1
    refine e_aload_n d_Law_591 rfl ?_
    refine e_aload_nX d_Law_592 rfl ?_
    refine e_iload_n d_Law_593 rfl ?_
    refine e_iconst (v := 1) d_Law_594 (by decide) ?_
    refine e_iadd d_Law_595 ?_
    refine e_sld (j := i + 1) d_Law_596 (nI_k i 1) (by omega) hL ?_
    refine e_if_eq 604 d_Law_597 (by decide) (fun c9 => absurd c9 c0) (fun _ => ?_)
    refine e_iconst (v := 1) d_Law_600 (by decide) ?_
    refine e_goto 605 d_Law_601 (by decide) ?_
    refine e_aload_nX d_Law_605 rfl ?_
    refine e_iload_n d_Law_606 rfl ?_
    refine e_iconst (v := 2) d_Law_607 (by decide) ?_
    refine e_iadd d_Law_608 ?_
    refine e_sld (j := i + 2) d_Law_609 (nI_k i 2) (by omega) hL ?_
    refine e_callV (mt1 := m_Mo_images) (R1 := rm 6 0 0) (As := [.int 1, .int (xs (i + 2))]) (b := 559) (st := [.int r]) (res1 := some (.int r)) (M1 := M2) d_Law_610 ml_Law_58 mv_Mo_images (t_Mo_images NF 559 1 (xs (i + 2)) M1 (r, M2) h2) rfl rfl (fc_Mo_images h2) rfl (okp rfl) (okp rfl) (okp rfl) (okp rfl) (okp rfl) ?_
    show EVG m_Law room_1 (ZL b L xs) 610 174723 613 (LSl i) [.int r, .int r] M2
    refine e_ic_eq 1250 d_Law_613 (by decide) (fun _ => ?_) (fun c9 => absurd rfl c9)
    exact nx _ hM2
theorem law_c10 (hS : Steps32 Inv) (hi : i + 6 ≤ L) (hL : L ≤ 3072) (M : MM) (hM : Inv M) (nx : ∀ M2, Inv M2 → EVG m_Law room_1 (ZL b L xs) 610 174723 1250 (LSl i) [] M2) : EVG m_Law room_1 (ZL b L xs) 610 174723 618 (LSl i) [] M := by
  refine e_aload_n d_Law_618 rfl ?_
  refine e_aload_nX d_Law_619 rfl ?_
  refine e_iload_n d_Law_620 rfl ?_
  refine e_iconst (v := 1) d_Law_621 (by decide) ?_
  refine e_iadd d_Law_622 ?_
  refine e_sld (j := i + 1) d_Law_623 (nI_k i 1) (by omega) hL ?_
  by_cases c0 : (xs (i + 1)) = 0
  · refine e_if_eq 631 d_Law_624 (by decide) (fun _ => ?_) (fun c9 => absurd c0 c9)
    refine e_iconst (v := 0) d_Law_631 (by decide) ?_
    refine e_aload_nX d_Law_632 rfl ?_
    refine e_iload_n d_Law_633 rfl ?_
    refine e_iconst (v := 2) d_Law_634 (by decide) ?_
    refine e_iadd d_Law_635 ?_
    refine e_sld (j := i + 2) d_Law_636 (nI_k i 2) (by omega) hL ?_
    refine e_aload_nX d_Law_637 rfl ?_
    refine e_iload_n d_Law_638 rfl ?_
    refine e_iconst (v := 3) d_Law_639 (by decide) ?_
    refine e_iadd d_Law_640 ?_
    refine e_sld (j := i + 3) d_Law_641 (nI_k i 3) (by omega) hL ?_
    obtain ⟨r, M1, M2, h1, h2, hM2⟩ := hS.s10 0 (xs (i + 2)) (xs (i + 3)) (Or.inl rfl) M hM
    refine e_callV (mt1 := m_Q_least) (R1 := rm 2 0 0) (As := [.int 0, .int (xs (i + 2)), .int (xs (i + 3))]) (b := 0) (st := []) (res1 := some (.int r)) (M1 := M1) d_Law_642 ml_Law_59 mv_Q_least (t_Q_least NF 0 0 (xs (i + 2)) (xs (i + 3)) M (r, M1) h1) rfl rfl (fc_Q_least h1) rfl (okp rfl) (okp rfl) (okp rfl) (okp rfl) (okp rfl) ?_
    show EVG m_Law room_1 (ZL b L xs) 610 174723 645 (LSl i) [.int r] M1
    refine e_aload_n d_Law_645 rfl ?_
    refine e_aload_nX d_Law_646 rfl ?_
    refine e_iload_n d_Law_647 rfl ?_
    refine e_iconst (v := 1) d_Law_648 (by decide) ?_
    refine e_iadd d_Law_649 ?_
    refine e_sld (j := i + 1) d_Law_650 (nI_k i 1) (by omega) hL ?_
    refine e_if_eq 658 d_Law_651 (by decide) (fun _ => ?_) (fun c9 => absurd c0 c9)
    refine e_iconst (v := 0) d_Law_658 (by decide) ?_
    refine e_aload_nX d_Law_659 rfl ?_
    refine e_iload_n d_Law_660 rfl ?_
    refine e_iconst (v := 2) d_Law_661 (by decide) ?_
    refine e_iadd d_Law_662 ?_
    refine e_sld (j := i + 2) d_Law_663 (nI_k i 2) (by omega) hL ?_
    refine e_aload_nX d_Law_664 rfl ?_
    refine e_iload_n d_Law_665 rfl ?_
    refine e_iconst (v := 3) d_Law_666 (by decide) ?_
    refine e_iadd d_Law_667 ?_
    refine e_sld (j := i + 3) d_Law_668 (nI_k i 3) (by omega) hL ?_
    refine e_callV (mt1 := m_Mo_least) (R1 := rm 5 0 0) (As := [.int 0, .int (xs (i + 2)), .int (xs (i + 3))]) (b := 559) (st := [.int r]) (res1 := some (.int r)) (M1 := M2) d_Law_669 ml_Law_62 mv_Mo_least (t_Mo_least NF 559 0 (xs (i + 2)) (xs (i + 3)) M1 (r, M2) h2) rfl rfl (fc_Mo_least h2) rfl (okp rfl) (okp rfl) (okp rfl) (okp rfl) (okp rfl) ?_
    show EVG m_Law room_1 (ZL b L xs) 610 174723 672 (LSl i) [.int r, .int r] M2
    refine e_ic_eq 1250 d_Law_672 (by decide) (fun _ => ?_) (fun c9 => absurd rfl c9)
    exact nx _ hM2
  · refine e_if_eq 631 d_Law_624 (by decide) (fun c9 => absurd c9 c0) (fun _ => ?_)
    refine e_iconst (v := 1) d_Law_627 (by decide) ?_
    refine e_goto 632 d_Law_628 (by decide) ?_
    refine e_aload_nX d_Law_632 rfl ?_
    refine e_iload_n d_Law_633 rfl ?_
    refine e_iconst (v := 2) d_Law_634 (by decide) ?_
    refine e_iadd d_Law_635 ?_
    refine e_sld (j := i + 2) d_Law_636 (nI_k i 2) (by omega) hL ?_
    refine e_aload_nX d_Law_637 rfl ?_
    refine e_iload_n d_Law_638 rfl ?_
    refine e_iconst (v := 3) d_Law_639 (by decide) ?_
    refine e_iadd d_Law_640 ?_
    refine e_sld (j := i + 3) d_Law_641 (nI_k i 3) (by omega) hL ?_
    obtain ⟨r, M1, M2, h1, h2, hM2⟩ := hS.s10 1 (xs (i + 2)) (xs (i + 3)) (Or.inr rfl) M hM
    refine e_callV (mt1 := m_Q_least) (R1 := rm 2 0 0) (As := [.int 1, .int (xs (i + 2)), .int (xs (i + 3))]) (b := 0) (st := []) (res1 := some (.int r)) (M1 := M1) d_Law_642 ml_Law_59 mv_Q_least (t_Q_least NF 0 1 (xs (i + 2)) (xs (i + 3)) M (r, M1) h1) rfl rfl (fc_Q_least h1) rfl (okp rfl) (okp rfl) (okp rfl) (okp rfl) (okp rfl) ?_
    show EVG m_Law room_1 (ZL b L xs) 610 174723 645 (LSl i) [.int r] M1
    refine e_aload_n d_Law_645 rfl ?_
    refine e_aload_nX d_Law_646 rfl ?_
    refine e_iload_n d_Law_647 rfl ?_
    refine e_iconst (v := 1) d_Law_648 (by decide) ?_
    refine e_iadd d_Law_649 ?_
    refine e_sld (j := i + 1) d_Law_650 (nI_k i 1) (by omega) hL ?_
    refine e_if_eq 658 d_Law_651 (by decide) (fun c9 => absurd c9 c0) (fun _ => ?_)
    refine e_iconst (v := 1) d_Law_654 (by decide) ?_
    refine e_goto 659 d_Law_655 (by decide) ?_
    refine e_aload_nX d_Law_659 rfl ?_
    refine e_iload_n d_Law_660 rfl ?_
    refine e_iconst (v := 2) d_Law_661 (by decide) ?_
    refine e_iadd d_Law_662 ?_
    refine e_sld (j := i + 2) d_Law_663 (nI_k i 2) (by omega) hL ?_
    refine e_aload_nX d_Law_664 rfl ?_
    refine e_iload_n d_Law_665 rfl ?_
    refine e_iconst (v := 3) d_Law_666 (by decide) ?_
    refine e_iadd d_Law_667 ?_
    refine e_sld (j := i + 3) d_Law_668 (nI_k i 3) (by omega) hL ?_
    refine e_callV (mt1 := m_Mo_least) (R1 := rm 5 0 0) (As := [.int 1, .int (xs (i + 2)), .int (xs (i + 3))]) (b := 559) (st := [.int r]) (res1 := some (.int r)) (M1 := M2) d_Law_669 ml_Law_62 mv_Mo_least (t_Mo_least NF 559 1 (xs (i + 2)) (xs (i + 3)) M1 (r, M2) h2) rfl rfl (fc_Mo_least h2) rfl (okp rfl) (okp rfl) (okp rfl) (okp rfl) (okp rfl) ?_
    show EVG m_Law room_1 (ZL b L xs) 610 174723 672 (LSl i) [.int r, .int r] M2
    refine e_ic_eq 1250 d_Law_672 (by decide) (fun _ => ?_) (fun c9 => absurd rfl c9)
    exact nx _ hM2
theorem law_c11 (hS : Steps32 Inv) (hi : i + 6 ≤ L) (hL : L ≤ 3072) (M : MM) (hM : Inv M) (nx : ∀ M2, Inv M2 → EVG m_Law room_1 (ZL b L xs) 610 174723 1250 (LSl i) [] M2) : EVG m_Law room_1 (ZL b L xs) 610 174723 677 (LSl i) [] M := by
  refine e_aload_n d_Law_677 rfl ?_
  refine e_aload_nX d_Law_678 rfl ?_
  refine e_iload_n d_Law_679 rfl ?_
  refine e_iconst (v := 1) d_Law_680 (by decide) ?_
  refine e_iadd d_Law_681 ?_
  refine e_sld (j := i + 1) d_Law_682 (nI_k i 1) (by omega) hL ?_
  refine e_aload_nX d_Law_683 rfl ?_
  refine e_iload_n d_Law_684 rfl ?_
  refine e_iconst (v := 2) d_Law_685 (by decide) ?_
  refine e_iadd d_Law_686 ?_
  refine e_sld (j := i + 2) d_Law_687 (nI_k i 2) (by omega) hL ?_
  obtain ⟨r, M1, M2, h1, h2, hM2⟩ := hS.s11 (xs (i + 1)) (xs (i + 2)) M hM
  refine e_callV (mt1 := m_Q_alike) (R1 := rm 3 0 0) (As := [.int (xs (i + 1)), .int (xs (i + 2))]) (b := 0) (st := []) (res1 := some (.int r)) (M1 := M1) d_Law_688 ml_Law_63 mv_Q_alike (t_Q_alike NF 0 (xs (i + 1)) (xs (i + 2)) M (r, M1) h1) rfl rfl (fc_Q_alike h1) rfl (okp rfl) (okp rfl) (okp rfl) (okp rfl) (okp rfl) ?_
  show EVG m_Law room_1 (ZL b L xs) 610 174723 691 (LSl i) [.int r] M1
  refine e_aload_n d_Law_691 rfl ?_
  refine e_aload_nX d_Law_692 rfl ?_
  refine e_iload_n d_Law_693 rfl ?_
  refine e_iconst (v := 1) d_Law_694 (by decide) ?_
  refine e_iadd d_Law_695 ?_
  refine e_sld (j := i + 1) d_Law_696 (nI_k i 1) (by omega) hL ?_
  refine e_aload_nX d_Law_697 rfl ?_
  refine e_iload_n d_Law_698 rfl ?_
  refine e_iconst (v := 2) d_Law_699 (by decide) ?_
  refine e_iadd d_Law_700 ?_
  refine e_sld (j := i + 2) d_Law_701 (nI_k i 2) (by omega) hL ?_
  refine e_callV (mt1 := m_Mo_alike) (R1 := rm 6 0 0) (As := [.int (xs (i + 1)), .int (xs (i + 2))]) (b := 559) (st := [.int r]) (res1 := some (.int r)) (M1 := M2) d_Law_702 ml_Law_67 mv_Mo_alike (t_Mo_alike NF 559 (xs (i + 1)) (xs (i + 2)) M1 (r, M2) h2) rfl rfl (fc_Mo_alike h2) rfl (okp rfl) (okp rfl) (okp rfl) (okp rfl) (okp rfl) ?_
  show EVG m_Law room_1 (ZL b L xs) 610 174723 705 (LSl i) [.int r, .int r] M2
  refine e_ic_eq 1250 d_Law_705 (by decide) (fun _ => ?_) (fun c9 => absurd rfl c9)
  exact nx _ hM2
theorem law_c12 (hS : Steps32 Inv) (hi : i + 6 ≤ L) (hL : L ≤ 3072) (M : MM) (hM : Inv M) (nx : ∀ M2, Inv M2 → EVG m_Law room_1 (ZL b L xs) 610 174723 1250 (LSl i) [] M2) : EVG m_Law room_1 (ZL b L xs) 610 174723 710 (LSl i) [] M := by
  refine e_aload_n d_Law_710 rfl ?_
  obtain ⟨r, M1, M2, h1, h2, hM2⟩ := hS.s12  M hM
  refine e_callV (mt1 := m_Q_shows) (R1 := rm 3 0 0) (As := []) (b := 0) (st := []) (res1 := some (.int r)) (M1 := M1) d_Law_711 ml_Law_68 mv_Q_shows (t_Q_shows NF 0  M (r, M1) h1) rfl rfl (fc_Q_shows h1) rfl (okp rfl) (okp rfl) (okp rfl) (okp rfl) (okp rfl) ?_
  show EVG m_Law room_1 (ZL b L xs) 610 174723 714 (LSl i) [.int r] M1
  refine e_aload_n d_Law_714 rfl ?_
  refine e_callV (mt1 := m_Mo_shows) (R1 := rm 6 0 0) (As := []) (b := 559) (st := [.int r]) (res1 := some (.int r)) (M1 := M2) d_Law_715 ml_Law_71 mv_Mo_shows (t_Mo_shows NF 559  M1 (r, M2) h2) rfl rfl (fc_Mo_shows h2) rfl (okp rfl) (okp rfl) (okp rfl) (okp rfl) (okp rfl) ?_
  show EVG m_Law room_1 (ZL b L xs) 610 174723 718 (LSl i) [.int r, .int r] M2
  refine e_ic_eq 1250 d_Law_718 (by decide) (fun _ => ?_) (fun c9 => absurd rfl c9)
  exact nx _ hM2
theorem law_c13 (hS : Steps32 Inv) (hi : i + 6 ≤ L) (hL : L ≤ 3072) (M : MM) (hM : Inv M) (nx : ∀ M2, Inv M2 → EVG m_Law room_1 (ZL b L xs) 610 174723 1250 (LSl i) [] M2) : EVG m_Law room_1 (ZL b L xs) 610 174723 723 (LSl i) [] M := by
  refine e_aload_n d_Law_723 rfl ?_
  refine e_aload_nX d_Law_724 rfl ?_
  refine e_iload_n d_Law_725 rfl ?_
  refine e_iconst (v := 1) d_Law_726 (by decide) ?_
  refine e_iadd d_Law_727 ?_
  refine e_sld (j := i + 1) d_Law_728 (nI_k i 1) (by omega) hL ?_
  refine e_aload_nX d_Law_729 rfl ?_
  refine e_iload_n d_Law_730 rfl ?_
  refine e_iconst (v := 2) d_Law_731 (by decide) ?_
  refine e_iadd d_Law_732 ?_
  refine e_sld (j := i + 2) d_Law_733 (nI_k i 2) (by omega) hL ?_
  obtain ⟨r, M1, M2, h1, h2, hM2⟩ := hS.s13 (xs (i + 1)) (xs (i + 2)) M hM
  refine e_callV (mt1 := m_Q_fill) (R1 := rm 43 0 0) (As := [.int (xs (i + 1)), .int (xs (i + 2))]) (b := 0) (st := []) (res1 := some (.int r)) (M1 := M1) d_Law_734 ml_Law_72 mv_Q_fill (t_Q_fill NF 0 (xs (i + 1)) (xs (i + 2)) M (r, M1) h1) rfl rfl (fc_Q_fill h1) rfl (okp rfl) (okp rfl) (okp rfl) (okp rfl) (okp rfl) ?_
  show EVG m_Law room_1 (ZL b L xs) 610 174723 737 (LSl i) [.int r] M1
  refine e_aload_n d_Law_737 rfl ?_
  refine e_aload_nX d_Law_738 rfl ?_
  refine e_iload_n d_Law_739 rfl ?_
  refine e_iconst (v := 1) d_Law_740 (by decide) ?_
  refine e_iadd d_Law_741 ?_
  refine e_sld (j := i + 1) d_Law_742 (nI_k i 1) (by omega) hL ?_
  refine e_aload_nX d_Law_743 rfl ?_
  refine e_iload_n d_Law_744 rfl ?_
  refine e_iconst (v := 2) d_Law_745 (by decide) ?_
  refine e_iadd d_Law_746 ?_
  refine e_sld (j := i + 2) d_Law_747 (nI_k i 2) (by omega) hL ?_
  refine e_callV (mt1 := m_Mo_fill) (R1 := rm 8 0 0) (As := [.int (xs (i + 1)), .int (xs (i + 2))]) (b := 559) (st := [.int r]) (res1 := some (.int r)) (M1 := M2) d_Law_748 ml_Law_75 mv_Mo_fill (t_Mo_fill NF 559 (xs (i + 1)) (xs (i + 2)) M1 (r, M2) h2) rfl rfl (fc_Mo_fill h2) rfl (okp rfl) (okp rfl) (okp rfl) (okp rfl) (okp rfl) ?_
  show EVG m_Law room_1 (ZL b L xs) 610 174723 751 (LSl i) [.int r, .int r] M2
  refine e_ic_eq 1250 d_Law_751 (by decide) (fun _ => ?_) (fun c9 => absurd rfl c9)
  exact nx _ hM2
theorem law_c14 (hS : Steps32 Inv) (hi : i + 6 ≤ L) (hL : L ≤ 3072) (M : MM) (hM : Inv M) (nx : ∀ M2, Inv M2 → EVG m_Law room_1 (ZL b L xs) 610 174723 1250 (LSl i) [] M2) : EVG m_Law room_1 (ZL b L xs) 610 174723 756 (LSl i) [] M := by
  refine e_aload_n d_Law_756 rfl ?_
  refine e_aload_nX d_Law_757 rfl ?_
  refine e_iload_n d_Law_758 rfl ?_
  refine e_iconst (v := 1) d_Law_759 (by decide) ?_
  refine e_iadd d_Law_760 ?_
  refine e_sld (j := i + 1) d_Law_761 (nI_k i 1) (by omega) hL ?_
  refine e_aload_nX d_Law_762 rfl ?_
  refine e_iload_n d_Law_763 rfl ?_
  refine e_iconst (v := 2) d_Law_764 (by decide) ?_
  refine e_iadd d_Law_765 ?_
  refine e_sld (j := i + 2) d_Law_766 (nI_k i 2) (by omega) hL ?_
  obtain ⟨r, M1, M2, h1, h2, hM2⟩ := hS.s14 (xs (i + 1)) (xs (i + 2)) M hM
  refine e_callV (mt1 := m_Q_filled) (R1 := rm 3 0 0) (As := [.int (xs (i + 1)), .int (xs (i + 2))]) (b := 0) (st := []) (res1 := some (.int r)) (M1 := M1) d_Law_767 ml_Law_76 mv_Q_filled (t_Q_filled NF 0 (xs (i + 1)) (xs (i + 2)) M (r, M1) h1) rfl rfl (fc_Q_filled h1) rfl (okp rfl) (okp rfl) (okp rfl) (okp rfl) (okp rfl) ?_
  show EVG m_Law room_1 (ZL b L xs) 610 174723 770 (LSl i) [.int r] M1
  refine e_aload_n d_Law_770 rfl ?_
  refine e_aload_nX d_Law_771 rfl ?_
  refine e_iload_n d_Law_772 rfl ?_
  refine e_iconst (v := 1) d_Law_773 (by decide) ?_
  refine e_iadd d_Law_774 ?_
  refine e_sld (j := i + 1) d_Law_775 (nI_k i 1) (by omega) hL ?_
  refine e_aload_nX d_Law_776 rfl ?_
  refine e_iload_n d_Law_777 rfl ?_
  refine e_iconst (v := 2) d_Law_778 (by decide) ?_
  refine e_iadd d_Law_779 ?_
  refine e_sld (j := i + 2) d_Law_780 (nI_k i 2) (by omega) hL ?_
  refine e_callV (mt1 := m_Mo_filled) (R1 := rm 1 0 0) (As := [.int (xs (i + 1)), .int (xs (i + 2))]) (b := 559) (st := [.int r]) (res1 := some (.int r)) (M1 := M2) d_Law_781 ml_Law_79 mv_Mo_filled (t_Mo_filled NF 559 (xs (i + 1)) (xs (i + 2)) M1 (r, M2) h2) rfl rfl (fc_Mo_filled h2) rfl (okp rfl) (okp rfl) (okp rfl) (okp rfl) (okp rfl) ?_
  show EVG m_Law room_1 (ZL b L xs) 610 174723 784 (LSl i) [.int r, .int r] M2
  refine e_ic_eq 1250 d_Law_784 (by decide) (fun _ => ?_) (fun c9 => absurd rfl c9)
  exact nx _ hM2
theorem law_c15 (hS : Steps32 Inv) (hi : i + 6 ≤ L) (hL : L ≤ 3072) (M : MM) (hM : Inv M) (nx : ∀ M2, Inv M2 → EVG m_Law room_1 (ZL b L xs) 610 174723 1250 (LSl i) [] M2) : EVG m_Law room_1 (ZL b L xs) 610 174723 789 (LSl i) [] M := by
  refine e_aload_n d_Law_789 rfl ?_
  obtain ⟨r, M1, M2, h1, h2, hM2⟩ := hS.s15  M hM
  refine e_callV (mt1 := m_Q_steps) (R1 := rm 1 0 0) (As := []) (b := 0) (st := []) (res1 := some (.int r)) (M1 := M1) d_Law_790 ml_Law_80 mv_Q_steps (t_Q_steps NF 0  M (r, M1) h1) rfl rfl (fc_Q_steps h1) rfl (okp rfl) (okp rfl) (okp rfl) (okp rfl) (okp rfl) ?_
  show EVG m_Law room_1 (ZL b L xs) 610 174723 793 (LSl i) [.int r] M1
  refine e_aload_n d_Law_793 rfl ?_
  refine e_callV (mt1 := m_Mo_steps) (R1 := rm 1 0 0) (As := []) (b := 559) (st := [.int r]) (res1 := some (.int r)) (M1 := M2) d_Law_794 ml_Law_83 mv_Mo_steps (t_Mo_steps NF 559  M1 (r, M2) h2) rfl rfl (fc_Mo_steps h2) rfl (okp rfl) (okp rfl) (okp rfl) (okp rfl) (okp rfl) ?_
  show EVG m_Law room_1 (ZL b L xs) 610 174723 797 (LSl i) [.int r, .int r] M2
  refine e_ic_eq 1250 d_Law_797 (by decide) (fun _ => ?_) (fun c9 => absurd rfl c9)
  exact nx _ hM2
theorem law_c16 (hS : Steps32 Inv) (hi : i + 6 ≤ L) (hL : L ≤ 3072) (M : MM) (hM : Inv M) (nx : ∀ M2, Inv M2 → EVG m_Law room_1 (ZL b L xs) 610 174723 1250 (LSl i) [] M2) : EVG m_Law room_1 (ZL b L xs) 610 174723 802 (LSl i) [] M := by
  refine e_aload_n d_Law_802 rfl ?_
  refine e_aload_nX d_Law_803 rfl ?_
  refine e_iload_n d_Law_804 rfl ?_
  refine e_iconst (v := 1) d_Law_805 (by decide) ?_
  refine e_iadd d_Law_806 ?_
  refine e_sld (j := i + 1) d_Law_807 (nI_k i 1) (by omega) hL ?_
  obtain ⟨r, M1, M2, h1, h2, hM2⟩ := hS.s16 (xs (i + 1)) M hM
  refine e_callV (mt1 := m_Q_sets) (R1 := rm 44 0 0) (As := [.int (xs (i + 1))]) (b := 0) (st := []) (res1 := some (.int r)) (M1 := M1) d_Law_808 ml_Law_84 mv_Q_sets (t_Q_sets NF 0 (xs (i + 1)) M (r, M1) h1) rfl rfl (fc_Q_sets h1) rfl (okp rfl) (okp rfl) (okp rfl) (okp rfl) (okp rfl) ?_
  show EVG m_Law room_1 (ZL b L xs) 610 174723 811 (LSl i) [.int r] M1
  refine e_aload_n d_Law_811 rfl ?_
  refine e_aload_nX d_Law_812 rfl ?_
  refine e_iload_n d_Law_813 rfl ?_
  refine e_iconst (v := 1) d_Law_814 (by decide) ?_
  refine e_iadd d_Law_815 ?_
  refine e_sld (j := i + 1) d_Law_816 (nI_k i 1) (by omega) hL ?_
  refine e_callV (mt1 := m_Mo_sets) (R1 := rm 9 0 0) (As := [.int (xs (i + 1))]) (b := 559) (st := [.int r]) (res1 := some (.int r)) (M1 := M2) d_Law_817 ml_Law_87 mv_Mo_sets (t_Mo_sets NF 559 (xs (i + 1)) M1 (r, M2) h2) rfl rfl (fc_Mo_sets h2) rfl (okp rfl) (okp rfl) (okp rfl) (okp rfl) (okp rfl) ?_
  show EVG m_Law room_1 (ZL b L xs) 610 174723 820 (LSl i) [.int r, .int r] M2
  refine e_ic_eq 1250 d_Law_820 (by decide) (fun _ => ?_) (fun c9 => absurd rfl c9)
  exact nx _ hM2
theorem law_c17 (hS : Steps32 Inv) (hi : i + 6 ≤ L) (hL : L ≤ 3072) (M : MM) (hM : Inv M) (nx : ∀ M2, Inv M2 → EVG m_Law room_1 (ZL b L xs) 610 174723 1250 (LSl i) [] M2) : EVG m_Law room_1 (ZL b L xs) 610 174723 825 (LSl i) [] M := by
  refine e_aload_n d_Law_825 rfl ?_
  refine e_aload_nX d_Law_826 rfl ?_
  refine e_iload_n d_Law_827 rfl ?_
  refine e_iconst (v := 1) d_Law_828 (by decide) ?_
  refine e_iadd d_Law_829 ?_
  refine e_sld (j := i + 1) d_Law_830 (nI_k i 1) (by omega) hL ?_
  refine e_aload_nX d_Law_831 rfl ?_
  refine e_iload_n d_Law_832 rfl ?_
  refine e_iconst (v := 2) d_Law_833 (by decide) ?_
  refine e_iadd d_Law_834 ?_
  refine e_sld (j := i + 2) d_Law_835 (nI_k i 2) (by omega) hL ?_
  obtain ⟨r, M1, M2, h1, h2, hM2⟩ := hS.s17 (xs (i + 1)) (xs (i + 2)) M hM
  refine e_callV (mt1 := m_Q_set) (R1 := rm 44 0 0) (As := [.int (xs (i + 1)), .int (xs (i + 2))]) (b := 0) (st := []) (res1 := some (.int r)) (M1 := M1) d_Law_836 ml_Law_88 mv_Q_set (t_Q_set NF 0 (xs (i + 1)) (xs (i + 2)) M (r, M1) h1) rfl rfl (fc_Q_set h1) rfl (okp rfl) (okp rfl) (okp rfl) (okp rfl) (okp rfl) ?_
  show EVG m_Law room_1 (ZL b L xs) 610 174723 839 (LSl i) [.int r] M1
  refine e_aload_n d_Law_839 rfl ?_
  refine e_aload_nX d_Law_840 rfl ?_
  refine e_iload_n d_Law_841 rfl ?_
  refine e_iconst (v := 1) d_Law_842 (by decide) ?_
  refine e_iadd d_Law_843 ?_
  refine e_sld (j := i + 1) d_Law_844 (nI_k i 1) (by omega) hL ?_
  refine e_aload_nX d_Law_845 rfl ?_
  refine e_iload_n d_Law_846 rfl ?_
  refine e_iconst (v := 2) d_Law_847 (by decide) ?_
  refine e_iadd d_Law_848 ?_
  refine e_sld (j := i + 2) d_Law_849 (nI_k i 2) (by omega) hL ?_
  refine e_callV (mt1 := m_Mo_set) (R1 := rm 9 0 0) (As := [.int (xs (i + 1)), .int (xs (i + 2))]) (b := 559) (st := [.int r]) (res1 := some (.int r)) (M1 := M2) d_Law_850 ml_Law_91 mv_Mo_set (t_Mo_set NF 559 (xs (i + 1)) (xs (i + 2)) M1 (r, M2) h2) rfl rfl (fc_Mo_set h2) rfl (okp rfl) (okp rfl) (okp rfl) (okp rfl) (okp rfl) ?_
  show EVG m_Law room_1 (ZL b L xs) 610 174723 853 (LSl i) [.int r, .int r] M2
  refine e_ic_eq 1250 d_Law_853 (by decide) (fun _ => ?_) (fun c9 => absurd rfl c9)
  exact nx _ hM2
theorem law_c18 (hS : Steps32 Inv) (hi : i + 6 ≤ L) (hL : L ≤ 3072) (M : MM) (hM : Inv M) (nx : ∀ M2, Inv M2 → EVG m_Law room_1 (ZL b L xs) 610 174723 1250 (LSl i) [] M2) : EVG m_Law room_1 (ZL b L xs) 610 174723 858 (LSl i) [] M := by
  refine e_aload_n d_Law_858 rfl ?_
  refine e_aload_nX d_Law_859 rfl ?_
  refine e_iload_n d_Law_860 rfl ?_
  refine e_iconst (v := 1) d_Law_861 (by decide) ?_
  refine e_iadd d_Law_862 ?_
  refine e_sld (j := i + 1) d_Law_863 (nI_k i 1) (by omega) hL ?_
  obtain ⟨r, M1, M2, h1, h2, hM2⟩ := hS.s18 (xs (i + 1)) M hM
  refine e_callV (mt1 := m_Q_needed) (R1 := rm 44 0 0) (As := [.int (xs (i + 1))]) (b := 0) (st := []) (res1 := some (.int r)) (M1 := M1) d_Law_864 ml_Law_92 mv_Q_needed (t_Q_needed NF 0 (xs (i + 1)) M (r, M1) h1) rfl rfl (fc_Q_needed h1) rfl (okp rfl) (okp rfl) (okp rfl) (okp rfl) (okp rfl) ?_
  show EVG m_Law room_1 (ZL b L xs) 610 174723 867 (LSl i) [.int r] M1
  refine e_aload_n d_Law_867 rfl ?_
  refine e_aload_nX d_Law_868 rfl ?_
  refine e_iload_n d_Law_869 rfl ?_
  refine e_iconst (v := 1) d_Law_870 (by decide) ?_
  refine e_iadd d_Law_871 ?_
  refine e_sld (j := i + 1) d_Law_872 (nI_k i 1) (by omega) hL ?_
  refine e_callV (mt1 := m_Mo_needed) (R1 := rm 9 0 0) (As := [.int (xs (i + 1))]) (b := 559) (st := [.int r]) (res1 := some (.int r)) (M1 := M2) d_Law_873 ml_Law_95 mv_Mo_needed (t_Mo_needed NF 559 (xs (i + 1)) M1 (r, M2) h2) rfl rfl (fc_Mo_needed h2) rfl (okp rfl) (okp rfl) (okp rfl) (okp rfl) (okp rfl) ?_
  show EVG m_Law room_1 (ZL b L xs) 610 174723 876 (LSl i) [.int r, .int r] M2
  refine e_ic_eq 1250 d_Law_876 (by decide) (fun _ => ?_) (fun c9 => absurd rfl c9)
  exact nx _ hM2
theorem law_c19 (hS : Steps32 Inv) (hi : i + 6 ≤ L) (hL : L ≤ 3072) (M : MM) (hM : Inv M) (nx : ∀ M2, Inv M2 → EVG m_Law room_1 (ZL b L xs) 610 174723 1250 (LSl i) [] M2) : EVG m_Law room_1 (ZL b L xs) 610 174723 881 (LSl i) [] M := by
  refine e_aload_n d_Law_881 rfl ?_
  refine e_aload_nX d_Law_882 rfl ?_
  refine e_iload_n d_Law_883 rfl ?_
  refine e_iconst (v := 1) d_Law_884 (by decide) ?_
  refine e_iadd d_Law_885 ?_
  refine e_sld (j := i + 1) d_Law_886 (nI_k i 1) (by omega) hL ?_
  refine e_aload_nX d_Law_887 rfl ?_
  refine e_iload_n d_Law_888 rfl ?_
  refine e_iconst (v := 2) d_Law_889 (by decide) ?_
  refine e_iadd d_Law_890 ?_
  refine e_sld (j := i + 2) d_Law_891 (nI_k i 2) (by omega) hL ?_
  obtain ⟨r, M1, M2, h1, h2, hM2⟩ := hS.s19 (xs (i + 1)) (xs (i + 2)) M hM
  refine e_callV (mt1 := m_Q_cut) (R1 := rm 8 0 0) (As := [.int (xs (i + 1)), .int (xs (i + 2))]) (b := 0) (st := []) (res1 := some (.int r)) (M1 := M1) d_Law_892 ml_Law_96 mv_Q_cut (t_Q_cut NF 0 (xs (i + 1)) (xs (i + 2)) M (r, M1) h1) rfl rfl (fc_Q_cut h1) rfl (okp rfl) (okp rfl) (okp rfl) (okp rfl) (okp rfl) ?_
  show EVG m_Law room_1 (ZL b L xs) 610 174723 895 (LSl i) [.int r] M1
  refine e_aload_n d_Law_895 rfl ?_
  refine e_aload_nX d_Law_896 rfl ?_
  refine e_iload_n d_Law_897 rfl ?_
  refine e_iconst (v := 1) d_Law_898 (by decide) ?_
  refine e_iadd d_Law_899 ?_
  refine e_sld (j := i + 1) d_Law_900 (nI_k i 1) (by omega) hL ?_
  refine e_aload_nX d_Law_901 rfl ?_
  refine e_iload_n d_Law_902 rfl ?_
  refine e_iconst (v := 2) d_Law_903 (by decide) ?_
  refine e_iadd d_Law_904 ?_
  refine e_sld (j := i + 2) d_Law_905 (nI_k i 2) (by omega) hL ?_
  refine e_callV (mt1 := m_Mo_cut_2) (R1 := rm 7 0 0) (As := [.int (xs (i + 1)), .int (xs (i + 2))]) (b := 559) (st := [.int r]) (res1 := some (.int r)) (M1 := M2) d_Law_906 ml_Law_99 mv_Mo_cut_2 (t_Mo_cut_2 NF 559 (xs (i + 1)) (xs (i + 2)) M1 (r, M2) h2) rfl rfl (fc_Mo_cut_2 h2) rfl (okp rfl) (okp rfl) (okp rfl) (okp rfl) (okp rfl) ?_
  show EVG m_Law room_1 (ZL b L xs) 610 174723 909 (LSl i) [.int r, .int r] M2
  refine e_ic_eq 1250 d_Law_909 (by decide) (fun _ => ?_) (fun c9 => absurd rfl c9)
  exact nx _ hM2
theorem law_c20 (hS : Steps32 Inv) (hi : i + 6 ≤ L) (hL : L ≤ 3072) (M : MM) (hM : Inv M) (nx : ∀ M2, Inv M2 → EVG m_Law room_1 (ZL b L xs) 610 174723 1250 (LSl i) [] M2) : EVG m_Law room_1 (ZL b L xs) 610 174723 914 (LSl i) [] M := by
  refine e_aload_n d_Law_914 rfl ?_
  refine e_aload_nX d_Law_915 rfl ?_
  refine e_iload_n d_Law_916 rfl ?_
  refine e_iconst (v := 1) d_Law_917 (by decide) ?_
  refine e_iadd d_Law_918 ?_
  refine e_sld (j := i + 1) d_Law_919 (nI_k i 1) (by omega) hL ?_
  obtain ⟨r, M1, M2, h1, h2, hM2⟩ := hS.s20 (xs (i + 1)) M hM
  refine e_callV (mt1 := m_Q_part) (R1 := rm 3 0 0) (As := [.int (xs (i + 1))]) (b := 0) (st := []) (res1 := some (.int r)) (M1 := M1) d_Law_920 ml_Law_100 mv_Q_part (t_Q_part NF 0 (xs (i + 1)) M (r, M1) h1) rfl rfl (fc_Q_part h1) rfl (okp rfl) (okp rfl) (okp rfl) (okp rfl) (okp rfl) ?_
  show EVG m_Law room_1 (ZL b L xs) 610 174723 923 (LSl i) [.int r] M1
  refine e_aload_n d_Law_923 rfl ?_
  refine e_aload_nX d_Law_924 rfl ?_
  refine e_iload_n d_Law_925 rfl ?_
  refine e_iconst (v := 1) d_Law_926 (by decide) ?_
  refine e_iadd d_Law_927 ?_
  refine e_sld (j := i + 1) d_Law_928 (nI_k i 1) (by omega) hL ?_
  refine e_callV (mt1 := m_Mo_part) (R1 := rm 2 0 0) (As := [.int (xs (i + 1))]) (b := 559) (st := [.int r]) (res1 := some (.int r)) (M1 := M2) d_Law_929 ml_Law_103 mv_Mo_part (t_Mo_part NF 559 (xs (i + 1)) M1 (r, M2) h2) rfl rfl (fc_Mo_part h2) rfl (okp rfl) (okp rfl) (okp rfl) (okp rfl) (okp rfl) ?_
  show EVG m_Law room_1 (ZL b L xs) 610 174723 932 (LSl i) [.int r, .int r] M2
  refine e_ic_eq 1250 d_Law_932 (by decide) (fun _ => ?_) (fun c9 => absurd rfl c9)
  exact nx _ hM2
theorem law_c21 (hS : Steps32 Inv) (hi : i + 6 ≤ L) (hL : L ≤ 3072) (M : MM) (hM : Inv M) (nx : ∀ M2, Inv M2 → EVG m_Law room_1 (ZL b L xs) 610 174723 1250 (LSl i) [] M2) : EVG m_Law room_1 (ZL b L xs) 610 174723 937 (LSl i) [] M := by
  refine e_aload_n d_Law_937 rfl ?_
  refine e_aload_nX d_Law_938 rfl ?_
  refine e_iload_n d_Law_939 rfl ?_
  refine e_iconst (v := 1) d_Law_940 (by decide) ?_
  refine e_iadd d_Law_941 ?_
  refine e_sld (j := i + 1) d_Law_942 (nI_k i 1) (by omega) hL ?_
  obtain ⟨r, M1, M2, h1, h2, hM2⟩ := hS.s21 (xs (i + 1)) M hM
  refine e_callV (mt1 := m_Q_laid) (R1 := rm 2 0 0) (As := [.int (xs (i + 1))]) (b := 0) (st := []) (res1 := some (.int r)) (M1 := M1) d_Law_943 ml_Law_104 mv_Q_laid (t_Q_laid NF 0 (xs (i + 1)) M (r, M1) h1) rfl rfl (fc_Q_laid h1) rfl (okp rfl) (okp rfl) (okp rfl) (okp rfl) (okp rfl) ?_
  show EVG m_Law room_1 (ZL b L xs) 610 174723 946 (LSl i) [.int r] M1
  refine e_aload_n d_Law_946 rfl ?_
  refine e_aload_nX d_Law_947 rfl ?_
  refine e_iload_n d_Law_948 rfl ?_
  refine e_iconst (v := 1) d_Law_949 (by decide) ?_
  refine e_iadd d_Law_950 ?_
  refine e_sld (j := i + 1) d_Law_951 (nI_k i 1) (by omega) hL ?_
  refine e_callV (mt1 := m_Mo_laid) (R1 := rm 1 0 0) (As := [.int (xs (i + 1))]) (b := 559) (st := [.int r]) (res1 := some (.int r)) (M1 := M2) d_Law_952 ml_Law_107 mv_Mo_laid (t_Mo_laid NF 559 (xs (i + 1)) M1 (r, M2) h2) rfl rfl (fc_Mo_laid h2) rfl (okp rfl) (okp rfl) (okp rfl) (okp rfl) (okp rfl) ?_
  show EVG m_Law room_1 (ZL b L xs) 610 174723 955 (LSl i) [.int r, .int r] M2
  refine e_ic_eq 1250 d_Law_955 (by decide) (fun _ => ?_) (fun c9 => absurd rfl c9)
  exact nx _ hM2
theorem law_c22 (hS : Steps32 Inv) (hi : i + 6 ≤ L) (hL : L ≤ 3072) (M : MM) (hM : Inv M) (nx : ∀ M2, Inv M2 → EVG m_Law room_1 (ZL b L xs) 610 174723 1250 (LSl i) [] M2) : EVG m_Law room_1 (ZL b L xs) 610 174723 960 (LSl i) [] M := by
  refine e_aload_n d_Law_960 rfl ?_
  refine e_aload_nX d_Law_961 rfl ?_
  refine e_iload_n d_Law_962 rfl ?_
  refine e_iconst (v := 1) d_Law_963 (by decide) ?_
  refine e_iadd d_Law_964 ?_
  refine e_sld (j := i + 1) d_Law_965 (nI_k i 1) (by omega) hL ?_
  refine e_aload_nX d_Law_966 rfl ?_
  refine e_iload_n d_Law_967 rfl ?_
  refine e_iconst (v := 2) d_Law_968 (by decide) ?_
  refine e_iadd d_Law_969 ?_
  refine e_sld (j := i + 2) d_Law_970 (nI_k i 2) (by omega) hL ?_
  refine e_aload_nX d_Law_971 rfl ?_
  refine e_iload_n d_Law_972 rfl ?_
  refine e_iconst (v := 3) d_Law_973 (by decide) ?_
  refine e_iadd d_Law_974 ?_
  refine e_sld (j := i + 3) d_Law_975 (nI_k i 3) (by omega) hL ?_
  refine e_aload_nX d_Law_976 rfl ?_
  refine e_iload_n d_Law_977 rfl ?_
  refine e_iconst (v := 4) d_Law_978 (by decide) ?_
  refine e_iadd d_Law_979 ?_
  refine e_sld (j := i + 4) d_Law_980 (nI_k i 4) (by omega) hL ?_
  obtain ⟨r, M1, M2, h1, h2, hM2⟩ := hS.s22 (xs (i + 1)) (xs (i + 2)) (xs (i + 3)) (xs (i + 4)) M hM
  refine e_callV (mt1 := m_Q_lay) (R1 := rm 4 0 0) (As := [.int (xs (i + 1)), .int (xs (i + 2)), .int (xs (i + 3)), .int (xs (i + 4))]) (b := 0) (st := []) (res1 := some (.int r)) (M1 := M1) d_Law_981 ml_Law_108 mv_Q_lay (t_Q_lay NF 0 (xs (i + 1)) (xs (i + 2)) (xs (i + 3)) (xs (i + 4)) M (r, M1) h1) rfl rfl (fc_Q_lay h1) rfl (okp rfl) (okp rfl) (okp rfl) (okp rfl) (okp rfl) ?_
  show EVG m_Law room_1 (ZL b L xs) 610 174723 984 (LSl i) [.int r] M1
  refine e_aload_n d_Law_984 rfl ?_
  refine e_aload_nX d_Law_985 rfl ?_
  refine e_iload_n d_Law_986 rfl ?_
  refine e_iconst (v := 1) d_Law_987 (by decide) ?_
  refine e_iadd d_Law_988 ?_
  refine e_sld (j := i + 1) d_Law_989 (nI_k i 1) (by omega) hL ?_
  refine e_aload_nX d_Law_990 rfl ?_
  refine e_iload_n d_Law_991 rfl ?_
  refine e_iconst (v := 2) d_Law_992 (by decide) ?_
  refine e_iadd d_Law_993 ?_
  refine e_sld (j := i + 2) d_Law_994 (nI_k i 2) (by omega) hL ?_
  refine e_aload_nX d_Law_995 rfl ?_
  refine e_iload_n d_Law_996 rfl ?_
  refine e_iconst (v := 3) d_Law_997 (by decide) ?_
  refine e_iadd d_Law_998 ?_
  refine e_sld (j := i + 3) d_Law_999 (nI_k i 3) (by omega) hL ?_
  refine e_aload_nX d_Law_1000 rfl ?_
  refine e_iload_n d_Law_1001 rfl ?_
  refine e_iconst (v := 4) d_Law_1002 (by decide) ?_
  refine e_iadd d_Law_1003 ?_
  refine e_sld (j := i + 4) d_Law_1004 (nI_k i 4) (by omega) hL ?_
  refine e_callV (mt1 := m_Mo_lay) (R1 := rm 5 0 0) (As := [.int (xs (i + 1)), .int (xs (i + 2)), .int (xs (i + 3)), .int (xs (i + 4))]) (b := 559) (st := [.int r]) (res1 := some (.int r)) (M1 := M2) d_Law_1005 ml_Law_112 mv_Mo_lay (t_Mo_lay NF 559 (xs (i + 1)) (xs (i + 2)) (xs (i + 3)) (xs (i + 4)) M1 (r, M2) h2) rfl rfl (fc_Mo_lay h2) rfl (okp rfl) (okp rfl) (okp rfl) (okp rfl) (okp rfl) ?_
  show EVG m_Law room_1 (ZL b L xs) 610 174723 1008 (LSl i) [.int r, .int r] M2
  refine e_ic_eq 1250 d_Law_1008 (by decide) (fun _ => ?_) (fun c9 => absurd rfl c9)
  exact nx _ hM2
theorem law_c23 (hS : Steps32 Inv) (hi : i + 6 ≤ L) (hL : L ≤ 3072) (M : MM) (hM : Inv M) (nx : ∀ M2, Inv M2 → EVG m_Law room_1 (ZL b L xs) 610 174723 1250 (LSl i) [] M2) : EVG m_Law room_1 (ZL b L xs) 610 174723 1013 (LSl i) [] M := by
  refine e_aload_n d_Law_1013 rfl ?_
  refine e_aload_nX d_Law_1014 rfl ?_
  refine e_iload_n d_Law_1015 rfl ?_
  refine e_iconst (v := 1) d_Law_1016 (by decide) ?_
  refine e_iadd d_Law_1017 ?_
  refine e_sld (j := i + 1) d_Law_1018 (nI_k i 1) (by omega) hL ?_
  obtain ⟨r, M1, M2, h1, h2, hM2⟩ := hS.s23 (xs (i + 1)) M hM
  refine e_callV (mt1 := m_Q_lift) (R1 := rm 3 0 0) (As := [.int (xs (i + 1))]) (b := 0) (st := []) (res1 := some (.int r)) (M1 := M1) d_Law_1019 ml_Law_113 mv_Q_lift (t_Q_lift NF 0 (xs (i + 1)) M (r, M1) h1) rfl rfl (fc_Q_lift h1) rfl (okp rfl) (okp rfl) (okp rfl) (okp rfl) (okp rfl) ?_
  show EVG m_Law room_1 (ZL b L xs) 610 174723 1022 (LSl i) [.int r] M1
  refine e_aload_n d_Law_1022 rfl ?_
  refine e_aload_nX d_Law_1023 rfl ?_
  refine e_iload_n d_Law_1024 rfl ?_
  refine e_iconst (v := 1) d_Law_1025 (by decide) ?_
  refine e_iadd d_Law_1026 ?_
  refine e_sld (j := i + 1) d_Law_1027 (nI_k i 1) (by omega) hL ?_
  refine e_callV (mt1 := m_Mo_lift) (R1 := rm 1 0 0) (As := [.int (xs (i + 1))]) (b := 559) (st := [.int r]) (res1 := some (.int r)) (M1 := M2) d_Law_1028 ml_Law_117 mv_Mo_lift (t_Mo_lift NF 559 (xs (i + 1)) M1 (r, M2) h2) rfl rfl (fc_Mo_lift h2) rfl (okp rfl) (okp rfl) (okp rfl) (okp rfl) (okp rfl) ?_
  show EVG m_Law room_1 (ZL b L xs) 610 174723 1031 (LSl i) [.int r, .int r] M2
  refine e_ic_eq 1250 d_Law_1031 (by decide) (fun _ => ?_) (fun c9 => absurd rfl c9)
  exact nx _ hM2
theorem law_c24 (hS : Steps32 Inv) (hi : i + 6 ≤ L) (hL : L ≤ 3072) (M : MM) (hM : Inv M) (nx : ∀ M2, Inv M2 → EVG m_Law room_1 (ZL b L xs) 610 174723 1250 (LSl i) [] M2) : EVG m_Law room_1 (ZL b L xs) 610 174723 1036 (LSl i) [] M := by
  refine e_aload_n d_Law_1036 rfl ?_
  refine e_aload_nX d_Law_1037 rfl ?_
  refine e_iload_n d_Law_1038 rfl ?_
  refine e_iconst (v := 1) d_Law_1039 (by decide) ?_
  refine e_iadd d_Law_1040 ?_
  refine e_sld (j := i + 1) d_Law_1041 (nI_k i 1) (by omega) hL ?_
  obtain ⟨r, M1, M2, h1, h2, hM2⟩ := hS.s24 (xs (i + 1)) M hM
  refine e_callV (mt1 := m_Q_covers) (R1 := rm 3 0 0) (As := [.int (xs (i + 1))]) (b := 0) (st := []) (res1 := some (.int r)) (M1 := M1) d_Law_1042 ml_Law_118 mv_Q_covers (t_Q_covers NF 0 (xs (i + 1)) M (r, M1) h1) rfl rfl (fc_Q_covers h1) rfl (okp rfl) (okp rfl) (okp rfl) (okp rfl) (okp rfl) ?_
  show EVG m_Law room_1 (ZL b L xs) 610 174723 1045 (LSl i) [.int r] M1
  refine e_aload_n d_Law_1045 rfl ?_
  refine e_aload_nX d_Law_1046 rfl ?_
  refine e_iload_n d_Law_1047 rfl ?_
  refine e_iconst (v := 1) d_Law_1048 (by decide) ?_
  refine e_iadd d_Law_1049 ?_
  refine e_sld (j := i + 1) d_Law_1050 (nI_k i 1) (by omega) hL ?_
  refine e_callV (mt1 := m_Mo_covers) (R1 := rm 2 0 0) (As := [.int (xs (i + 1))]) (b := 559) (st := [.int r]) (res1 := some (.int r)) (M1 := M2) d_Law_1051 ml_Law_121 mv_Mo_covers (t_Mo_covers NF 559 (xs (i + 1)) M1 (r, M2) h2) rfl rfl (fc_Mo_covers h2) rfl (okp rfl) (okp rfl) (okp rfl) (okp rfl) (okp rfl) ?_
  show EVG m_Law room_1 (ZL b L xs) 610 174723 1054 (LSl i) [.int r, .int r] M2
  refine e_ic_eq 1250 d_Law_1054 (by decide) (fun _ => ?_) (fun c9 => absurd rfl c9)
  exact nx _ hM2
theorem law_c25 (hS : Steps32 Inv) (hi : i + 6 ≤ L) (hL : L ≤ 3072) (M : MM) (hM : Inv M) (nx : ∀ M2, Inv M2 → EVG m_Law room_1 (ZL b L xs) 610 174723 1250 (LSl i) [] M2) : EVG m_Law room_1 (ZL b L xs) 610 174723 1059 (LSl i) [] M := by
  refine e_aload_n d_Law_1059 rfl ?_
  obtain ⟨r, M1, M2, h1, h2, hM2⟩ := hS.s25  M hM
  refine e_callV (mt1 := m_Q_clashes) (R1 := rm 4 0 0) (As := []) (b := 0) (st := []) (res1 := some (.int r)) (M1 := M1) d_Law_1060 ml_Law_122 mv_Q_clashes (t_Q_clashes NF 0  M (r, M1) h1) rfl rfl (fc_Q_clashes h1) rfl (okp rfl) (okp rfl) (okp rfl) (okp rfl) (okp rfl) ?_
  show EVG m_Law room_1 (ZL b L xs) 610 174723 1063 (LSl i) [.int r] M1
  refine e_aload_n d_Law_1063 rfl ?_
  refine e_callV (mt1 := m_Mo_clashes) (R1 := rm 2 0 0) (As := []) (b := 559) (st := [.int r]) (res1 := some (.int r)) (M1 := M2) d_Law_1064 ml_Law_125 mv_Mo_clashes (t_Mo_clashes NF 559  M1 (r, M2) h2) rfl rfl (fc_Mo_clashes h2) rfl (okp rfl) (okp rfl) (okp rfl) (okp rfl) (okp rfl) ?_
  show EVG m_Law room_1 (ZL b L xs) 610 174723 1067 (LSl i) [.int r, .int r] M2
  refine e_ic_eq 1250 d_Law_1067 (by decide) (fun _ => ?_) (fun c9 => absurd rfl c9)
  exact nx _ hM2
theorem law_c26 (hS : Steps32 Inv) (hi : i + 6 ≤ L) (hL : L ≤ 3072) (M : MM) (hM : Inv M) (nx : ∀ M2, Inv M2 → EVG m_Law room_1 (ZL b L xs) 610 174723 1250 (LSl i) [] M2) : EVG m_Law room_1 (ZL b L xs) 610 174723 1072 (LSl i) [] M := by
  refine e_aload_n d_Law_1072 rfl ?_
  refine e_aload_nX d_Law_1073 rfl ?_
  refine e_iload_n d_Law_1074 rfl ?_
  refine e_iconst (v := 1) d_Law_1075 (by decide) ?_
  refine e_iadd d_Law_1076 ?_
  refine e_sld (j := i + 1) d_Law_1077 (nI_k i 1) (by omega) hL ?_
  refine e_aload_nX d_Law_1078 rfl ?_
  refine e_iload_n d_Law_1079 rfl ?_
  refine e_iconst (v := 2) d_Law_1080 (by decide) ?_
  refine e_iadd d_Law_1081 ?_
  refine e_sld (j := i + 2) d_Law_1082 (nI_k i 2) (by omega) hL ?_
  refine e_aload_nX d_Law_1083 rfl ?_
  refine e_iload_n d_Law_1084 rfl ?_
  refine e_iconst (v := 3) d_Law_1085 (by decide) ?_
  refine e_iadd d_Law_1086 ?_
  refine e_sld (j := i + 3) d_Law_1087 (nI_k i 3) (by omega) hL ?_
  obtain ⟨r, M1, M2, h1, h2, hM2⟩ := hS.s26 (xs (i + 1)) (xs (i + 2)) (xs (i + 3)) M hM
  refine e_callV (mt1 := m_Q_claim) (R1 := rm 5 0 0) (As := [.int (xs (i + 1)), .int (xs (i + 2)), .int (xs (i + 3))]) (b := 0) (st := []) (res1 := some (.int r)) (M1 := M1) d_Law_1088 ml_Law_126 mv_Q_claim (t_Q_claim NF 0 (xs (i + 1)) (xs (i + 2)) (xs (i + 3)) M (r, M1) h1) rfl rfl (fc_Q_claim h1) rfl (okp rfl) (okp rfl) (okp rfl) (okp rfl) (okp rfl) ?_
  show EVG m_Law room_1 (ZL b L xs) 610 174723 1091 (LSl i) [.int r] M1
  refine e_aload_n d_Law_1091 rfl ?_
  refine e_aload_nX d_Law_1092 rfl ?_
  refine e_iload_n d_Law_1093 rfl ?_
  refine e_iconst (v := 1) d_Law_1094 (by decide) ?_
  refine e_iadd d_Law_1095 ?_
  refine e_sld (j := i + 1) d_Law_1096 (nI_k i 1) (by omega) hL ?_
  refine e_aload_nX d_Law_1097 rfl ?_
  refine e_iload_n d_Law_1098 rfl ?_
  refine e_iconst (v := 2) d_Law_1099 (by decide) ?_
  refine e_iadd d_Law_1100 ?_
  refine e_sld (j := i + 2) d_Law_1101 (nI_k i 2) (by omega) hL ?_
  refine e_aload_nX d_Law_1102 rfl ?_
  refine e_iload_n d_Law_1103 rfl ?_
  refine e_iconst (v := 3) d_Law_1104 (by decide) ?_
  refine e_iadd d_Law_1105 ?_
  refine e_sld (j := i + 3) d_Law_1106 (nI_k i 3) (by omega) hL ?_
  refine e_callV (mt1 := m_Mo_claim) (R1 := rm 4 0 0) (As := [.int (xs (i + 1)), .int (xs (i + 2)), .int (xs (i + 3))]) (b := 559) (st := [.int r]) (res1 := some (.int r)) (M1 := M2) d_Law_1107 ml_Law_130 mv_Mo_claim (t_Mo_claim NF 559 (xs (i + 1)) (xs (i + 2)) (xs (i + 3)) M1 (r, M2) h2) rfl rfl (fc_Mo_claim h2) rfl (okp rfl) (okp rfl) (okp rfl) (okp rfl) (okp rfl) ?_
  show EVG m_Law room_1 (ZL b L xs) 610 174723 1110 (LSl i) [.int r, .int r] M2
  refine e_ic_eq 1250 d_Law_1110 (by decide) (fun _ => ?_) (fun c9 => absurd rfl c9)
  exact nx _ hM2
theorem law_c27 (hS : Steps32 Inv) (hi : i + 6 ≤ L) (hL : L ≤ 3072) (M : MM) (hM : Inv M) (nx : ∀ M2, Inv M2 → EVG m_Law room_1 (ZL b L xs) 610 174723 1250 (LSl i) [] M2) : EVG m_Law room_1 (ZL b L xs) 610 174723 1115 (LSl i) [] M := by
  refine e_aload_n d_Law_1115 rfl ?_
  refine e_aload_nX d_Law_1116 rfl ?_
  refine e_iload_n d_Law_1117 rfl ?_
  refine e_iconst (v := 1) d_Law_1118 (by decide) ?_
  refine e_iadd d_Law_1119 ?_
  refine e_sld (j := i + 1) d_Law_1120 (nI_k i 1) (by omega) hL ?_
  obtain ⟨r, M1, M2, h1, h2, hM2⟩ := hS.s27 (xs (i + 1)) M hM
  refine e_callV (mt1 := m_Q_annul) (R1 := rm 2 0 0) (As := [.int (xs (i + 1))]) (b := 0) (st := []) (res1 := some (.int r)) (M1 := M1) d_Law_1121 ml_Law_131 mv_Q_annul (t_Q_annul NF 0 (xs (i + 1)) M (r, M1) h1) rfl rfl (fc_Q_annul h1) rfl (okp rfl) (okp rfl) (okp rfl) (okp rfl) (okp rfl) ?_
  show EVG m_Law room_1 (ZL b L xs) 610 174723 1124 (LSl i) [.int r] M1
  refine e_aload_n d_Law_1124 rfl ?_
  refine e_aload_nX d_Law_1125 rfl ?_
  refine e_iload_n d_Law_1126 rfl ?_
  refine e_iconst (v := 1) d_Law_1127 (by decide) ?_
  refine e_iadd d_Law_1128 ?_
  refine e_sld (j := i + 1) d_Law_1129 (nI_k i 1) (by omega) hL ?_
  refine e_callV (mt1 := m_Mo_annul) (R1 := rm 2 0 0) (As := [.int (xs (i + 1))]) (b := 559) (st := [.int r]) (res1 := some (.int r)) (M1 := M2) d_Law_1130 ml_Law_134 mv_Mo_annul (t_Mo_annul NF 559 (xs (i + 1)) M1 (r, M2) h2) rfl rfl (fc_Mo_annul h2) rfl (okp rfl) (okp rfl) (okp rfl) (okp rfl) (okp rfl) ?_
  show EVG m_Law room_1 (ZL b L xs) 610 174723 1133 (LSl i) [.int r, .int r] M2
  refine e_ic_eq 1250 d_Law_1133 (by decide) (fun _ => ?_) (fun c9 => absurd rfl c9)
  exact nx _ hM2
theorem law_c28 (hS : Steps32 Inv) (hi : i + 6 ≤ L) (hL : L ≤ 3072) (M : MM) (hM : Inv M) (nx : ∀ M2, Inv M2 → EVG m_Law room_1 (ZL b L xs) 610 174723 1250 (LSl i) [] M2) : EVG m_Law room_1 (ZL b L xs) 610 174723 1138 (LSl i) [] M := by
  refine e_aload_n d_Law_1138 rfl ?_
  refine e_aload_nX d_Law_1139 rfl ?_
  refine e_iload_n d_Law_1140 rfl ?_
  refine e_iconst (v := 1) d_Law_1141 (by decide) ?_
  refine e_iadd d_Law_1142 ?_
  refine e_sld (j := i + 1) d_Law_1143 (nI_k i 1) (by omega) hL ?_
  obtain ⟨r, M1, M2, h1, h2, hM2⟩ := hS.s28 (xs (i + 1)) M hM
  refine e_callV (mt1 := m_Q_verdict) (R1 := rm 2 0 0) (As := [.int (xs (i + 1))]) (b := 0) (st := []) (res1 := some (.int r)) (M1 := M1) d_Law_1144 ml_Law_135 mv_Q_verdict (t_Q_verdict NF 0 (xs (i + 1)) M (r, M1) h1) rfl rfl (fc_Q_verdict h1) rfl (okp rfl) (okp rfl) (okp rfl) (okp rfl) (okp rfl) ?_
  show EVG m_Law room_1 (ZL b L xs) 610 174723 1147 (LSl i) [.int r] M1
  refine e_aload_n d_Law_1147 rfl ?_
  refine e_aload_nX d_Law_1148 rfl ?_
  refine e_iload_n d_Law_1149 rfl ?_
  refine e_iconst (v := 1) d_Law_1150 (by decide) ?_
  refine e_iadd d_Law_1151 ?_
  refine e_sld (j := i + 1) d_Law_1152 (nI_k i 1) (by omega) hL ?_
  refine e_callV (mt1 := m_Mo_verdict) (R1 := rm 2 0 0) (As := [.int (xs (i + 1))]) (b := 559) (st := [.int r]) (res1 := some (.int r)) (M1 := M2) d_Law_1153 ml_Law_138 mv_Mo_verdict (t_Mo_verdict NF 559 (xs (i + 1)) M1 (r, M2) h2) rfl rfl (fc_Mo_verdict h2) rfl (okp rfl) (okp rfl) (okp rfl) (okp rfl) (okp rfl) ?_
  show EVG m_Law room_1 (ZL b L xs) 610 174723 1156 (LSl i) [.int r, .int r] M2
  refine e_ic_eq 1250 d_Law_1156 (by decide) (fun _ => ?_) (fun c9 => absurd rfl c9)
  exact nx _ hM2
theorem law_c29 (hS : Steps32 Inv) (hi : i + 6 ≤ L) (hL : L ≤ 3072) (M : MM) (hM : Inv M) (nx : ∀ M2, Inv M2 → EVG m_Law room_1 (ZL b L xs) 610 174723 1250 (LSl i) [] M2) : EVG m_Law room_1 (ZL b L xs) 610 174723 1161 (LSl i) [] M := by
  refine e_aload_n d_Law_1161 rfl ?_
  refine e_aload_nX d_Law_1162 rfl ?_
  refine e_iload_n d_Law_1163 rfl ?_
  refine e_iconst (v := 1) d_Law_1164 (by decide) ?_
  refine e_iadd d_Law_1165 ?_
  refine e_sld (j := i + 1) d_Law_1166 (nI_k i 1) (by omega) hL ?_
  refine e_aload_nX d_Law_1167 rfl ?_
  refine e_iload_n d_Law_1168 rfl ?_
  refine e_iconst (v := 2) d_Law_1169 (by decide) ?_
  refine e_iadd d_Law_1170 ?_
  refine e_sld (j := i + 2) d_Law_1171 (nI_k i 2) (by omega) hL ?_
  obtain ⟨r, M1, M2, h1, h2, hM2⟩ := hS.s29 (xs (i + 1)) (xs (i + 2)) M hM
  refine e_callV (mt1 := m_Q_first) (R1 := rm 4 0 0) (As := [.int (xs (i + 1)), .int (xs (i + 2))]) (b := 0) (st := []) (res1 := some (.int r)) (M1 := M1) d_Law_1172 ml_Law_139 mv_Q_first (t_Q_first NF 0 (xs (i + 1)) (xs (i + 2)) M (r, M1) h1) rfl rfl (fc_Q_first h1) rfl (okp rfl) (okp rfl) (okp rfl) (okp rfl) (okp rfl) ?_
  show EVG m_Law room_1 (ZL b L xs) 610 174723 1175 (LSl i) [.int r] M1
  refine e_aload_n d_Law_1175 rfl ?_
  refine e_aload_nX d_Law_1176 rfl ?_
  refine e_iload_n d_Law_1177 rfl ?_
  refine e_iconst (v := 1) d_Law_1178 (by decide) ?_
  refine e_iadd d_Law_1179 ?_
  refine e_sld (j := i + 1) d_Law_1180 (nI_k i 1) (by omega) hL ?_
  refine e_aload_nX d_Law_1181 rfl ?_
  refine e_iload_n d_Law_1182 rfl ?_
  refine e_iconst (v := 2) d_Law_1183 (by decide) ?_
  refine e_iadd d_Law_1184 ?_
  refine e_sld (j := i + 2) d_Law_1185 (nI_k i 2) (by omega) hL ?_
  refine e_callV (mt1 := m_Mo_first) (R1 := rm 4 0 0) (As := [.int (xs (i + 1)), .int (xs (i + 2))]) (b := 559) (st := [.int r]) (res1 := some (.int r)) (M1 := M2) d_Law_1186 ml_Law_142 mv_Mo_first (t_Mo_first NF 559 (xs (i + 1)) (xs (i + 2)) M1 (r, M2) h2) rfl rfl (fc_Mo_first h2) rfl (okp rfl) (okp rfl) (okp rfl) (okp rfl) (okp rfl) ?_
  show EVG m_Law room_1 (ZL b L xs) 610 174723 1189 (LSl i) [.int r, .int r] M2
  refine e_ic_eq 1250 d_Law_1189 (by decide) (fun _ => ?_) (fun c9 => absurd rfl c9)
  exact nx _ hM2
theorem law_c30 (hS : Steps32 Inv) (hi : i + 6 ≤ L) (hL : L ≤ 3072) (M : MM) (hM : Inv M) (nx : ∀ M2, Inv M2 → EVG m_Law room_1 (ZL b L xs) 610 174723 1250 (LSl i) [] M2) : EVG m_Law room_1 (ZL b L xs) 610 174723 1194 (LSl i) [] M := by
  refine e_aload_n d_Law_1194 rfl ?_
  refine e_aload_nX d_Law_1195 rfl ?_
  refine e_iload_n d_Law_1196 rfl ?_
  refine e_iconst (v := 1) d_Law_1197 (by decide) ?_
  refine e_iadd d_Law_1198 ?_
  refine e_sld (j := i + 1) d_Law_1199 (nI_k i 1) (by omega) hL ?_
  refine e_aload_nX d_Law_1200 rfl ?_
  refine e_iload_n d_Law_1201 rfl ?_
  refine e_iconst (v := 2) d_Law_1202 (by decide) ?_
  refine e_iadd d_Law_1203 ?_
  refine e_sld (j := i + 2) d_Law_1204 (nI_k i 2) (by omega) hL ?_
  obtain ⟨r, M1, M2, h1, h2, hM2⟩ := hS.s30 (xs (i + 1)) (xs (i + 2)) M hM
  refine e_callV (mt1 := m_Q_points) (R1 := rm 5 0 0) (As := [.int (xs (i + 1)), .int (xs (i + 2))]) (b := 0) (st := []) (res1 := some (.int r)) (M1 := M1) d_Law_1205 ml_Law_143 mv_Q_points (t_Q_points NF 0 (xs (i + 1)) (xs (i + 2)) M (r, M1) h1) rfl rfl (fc_Q_points h1) rfl (okp rfl) (okp rfl) (okp rfl) (okp rfl) (okp rfl) ?_
  show EVG m_Law room_1 (ZL b L xs) 610 174723 1208 (LSl i) [.int r] M1
  refine e_aload_n d_Law_1208 rfl ?_
  refine e_aload_nX d_Law_1209 rfl ?_
  refine e_iload_n d_Law_1210 rfl ?_
  refine e_iconst (v := 1) d_Law_1211 (by decide) ?_
  refine e_iadd d_Law_1212 ?_
  refine e_sld (j := i + 1) d_Law_1213 (nI_k i 1) (by omega) hL ?_
  refine e_aload_nX d_Law_1214 rfl ?_
  refine e_iload_n d_Law_1215 rfl ?_
  refine e_iconst (v := 2) d_Law_1216 (by decide) ?_
  refine e_iadd d_Law_1217 ?_
  refine e_sld (j := i + 2) d_Law_1218 (nI_k i 2) (by omega) hL ?_
  refine e_callV (mt1 := m_Mo_points) (R1 := rm 4 0 0) (As := [.int (xs (i + 1)), .int (xs (i + 2))]) (b := 559) (st := [.int r]) (res1 := some (.int r)) (M1 := M2) d_Law_1219 ml_Law_146 mv_Mo_points (t_Mo_points NF 559 (xs (i + 1)) (xs (i + 2)) M1 (r, M2) h2) rfl rfl (fc_Mo_points h2) rfl (okp rfl) (okp rfl) (okp rfl) (okp rfl) (okp rfl) ?_
  show EVG m_Law room_1 (ZL b L xs) 610 174723 1222 (LSl i) [.int r, .int r] M2
  refine e_ic_eq 1250 d_Law_1222 (by decide) (fun _ => ?_) (fun c9 => absurd rfl c9)
  exact nx _ hM2
theorem law_c31 (hS : Steps32 Inv) (hi : i + 6 ≤ L) (hL : L ≤ 3072) (M : MM) (hM : Inv M) (nx : ∀ M2, Inv M2 → EVG m_Law room_1 (ZL b L xs) 610 174723 1250 (LSl i) [] M2) : EVG m_Law room_1 (ZL b L xs) 610 174723 1227 (LSl i) [] M := by
  refine e_aload_n d_Law_1227 rfl ?_
  refine e_aload_nX d_Law_1228 rfl ?_
  refine e_iload_n d_Law_1229 rfl ?_
  refine e_iconst (v := 1) d_Law_1230 (by decide) ?_
  refine e_iadd d_Law_1231 ?_
  refine e_sld (j := i + 1) d_Law_1232 (nI_k i 1) (by omega) hL ?_
  obtain ⟨r, M1, M2, h1, h2, hM2⟩ := hS.s31 (xs (i + 1)) M hM
  refine e_callV (mt1 := m_Q_count) (R1 := rm 4 0 0) (As := [.int (xs (i + 1))]) (b := 0) (st := []) (res1 := some (.int r)) (M1 := M1) d_Law_1233 ml_Law_147 mv_Q_count (t_Q_count NF 0 (xs (i + 1)) M (r, M1) h1) rfl rfl (fc_Q_count h1) rfl (okp rfl) (okp rfl) (okp rfl) (okp rfl) (okp rfl) ?_
  show EVG m_Law room_1 (ZL b L xs) 610 174723 1236 (LSl i) [.int r] M1
  refine e_aload_n d_Law_1236 rfl ?_
  refine e_aload_nX d_Law_1237 rfl ?_
  refine e_iload_n d_Law_1238 rfl ?_
  refine e_iconst (v := 1) d_Law_1239 (by decide) ?_
  refine e_iadd d_Law_1240 ?_
  refine e_sld (j := i + 1) d_Law_1241 (nI_k i 1) (by omega) hL ?_
  refine e_callV (mt1 := m_Mo_count) (R1 := rm 2 0 0) (As := [.int (xs (i + 1))]) (b := 559) (st := [.int r]) (res1 := some (.int r)) (M1 := M2) d_Law_1242 ml_Law_150 mv_Mo_count (t_Mo_count NF 559 (xs (i + 1)) M1 (r, M2) h2) rfl rfl (fc_Mo_count h2) rfl (okp rfl) (okp rfl) (okp rfl) (okp rfl) (okp rfl) ?_
  show EVG m_Law room_1 (ZL b L xs) 610 174723 1245 (LSl i) [.int r, .int r] M2
  refine e_ic_eq 1250 d_Law_1245 (by decide) (fun _ => ?_) (fun c9 => absurd rfl c9)
  exact nx _ hM2
end LAWC
