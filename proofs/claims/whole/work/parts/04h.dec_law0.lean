theorem d_Lw_law_0 : decode code 0 = .ok (.new 7, 3) := by decide +kernel
theorem d_Lw_law_3 : decode code 3 = .ok (.dup, 1) := by decide +kernel
theorem d_Lw_law_4 : decode code 4 = .ok (.invokespecial 9, 3) := by decide +kernel
theorem d_Lw_law_7 : decode code 7 = .ok (.astore_n 1, 1) := by decide +kernel
theorem d_Lw_law_8 : decode code 8 = .ok (.new 10, 3) := by decide +kernel
theorem d_Lw_law_11 : decode code 11 = .ok (.dup, 1) := by decide +kernel
theorem d_Lw_law_12 : decode code 12 = .ok (.invokespecial 12, 3) := by decide +kernel
theorem d_Lw_law_15 : decode code 15 = .ok (.astore_n 2, 1) := by decide +kernel
theorem d_Lw_law_16 : decode code 16 = .ok (.iconst 0, 1) := by decide +kernel
theorem d_Lw_law_17 : decode code 17 = .ok (.istore_n 3, 1) := by decide +kernel
theorem d_Lw_law_18 : decode code 18 = .ok (.iload_n 3, 1) := by decide +kernel
theorem d_Lw_law_19 : decode code 19 = .ok (.aload_n 0, 1) := by decide +kernel
theorem d_Lw_law_20 : decode code 20 = .ok (.arraylength, 1) := by decide +kernel
theorem d_Lw_law_21 : decode code 21 = .ok (.iconst 5, 1) := by decide +kernel
theorem d_Lw_law_22 : decode code 22 = .ok (.isub, 1) := by decide +kernel
theorem d_Lw_law_23 : decode code 23 = .ok (.if_icmp .gt 752, 3) := by decide +kernel
theorem d_Lw_law_26 : decode code 26 = .ok (.aload_n 0, 1) := by decide +kernel
theorem d_Lw_law_27 : decode code 27 = .ok (.iload_n 3, 1) := by decide +kernel
theorem d_Lw_law_28 : decode code 28 = .ok (.iaload, 1) := by decide +kernel
theorem d_Lw_law_29 : decode code 29 = .ok (.bipush 31, 2) := by decide +kernel
theorem d_Lw_law_31 : decode code 31 = .ok (.iand, 1) := by decide +kernel
theorem d_Lw_law_32 : decode code 32 = .ok (.tableswitch 737 0 22 #[108, 121, 144, 197, 230, 263, 286, 319, 342, 355, 388, 421, 444, 467, 500, 513, 536, 559, 582, 615, 638, 661, 704], 108) := by decide +kernel
theorem d_Lw_law_140 : decode code 140 = .ok (.aload_n 1, 1) := by decide +kernel
theorem d_Lw_law_141 : decode code 141 = .ok (.invokevirtual 13, 3) := by decide +kernel
theorem d_Lw_law_144 : decode code 144 = .ok (.aload_n 2, 1) := by decide +kernel
theorem d_Lw_law_145 : decode code 145 = .ok (.invokevirtual 17, 3) := by decide +kernel
theorem d_Lw_law_148 : decode code 148 = .ok (.if_icmp .eq 621, 3) := by decide +kernel
theorem d_Lw_law_151 : decode code 151 = .ok (.iconst 0, 1) := by decide +kernel
theorem d_Lw_law_152 : decode code 152 = .ok (.ireturn, 1) := by decide +kernel
theorem d_Lw_law_153 : decode code 153 = .ok (.aload_n 1, 1) := by decide +kernel
theorem d_Lw_law_154 : decode code 154 = .ok (.aload_n 0, 1) := by decide +kernel
theorem d_Lw_law_155 : decode code 155 = .ok (.iload_n 3, 1) := by decide +kernel
theorem d_Lw_law_156 : decode code 156 = .ok (.iconst 1, 1) := by decide +kernel
theorem d_Lw_law_157 : decode code 157 = .ok (.iadd, 1) := by decide +kernel
theorem d_Lw_law_158 : decode code 158 = .ok (.iaload, 1) := by decide +kernel
theorem d_Lw_law_159 : decode code 159 = .ok (.invokevirtual 18, 3) := by decide +kernel
theorem d_Lw_law_162 : decode code 162 = .ok (.aload_n 2, 1) := by decide +kernel
theorem d_Lw_law_163 : decode code 163 = .ok (.aload_n 0, 1) := by decide +kernel
theorem d_Lw_law_164 : decode code 164 = .ok (.iload_n 3, 1) := by decide +kernel
theorem d_Lw_law_165 : decode code 165 = .ok (.iconst 1, 1) := by decide +kernel
theorem d_Lw_law_166 : decode code 166 = .ok (.iadd, 1) := by decide +kernel
theorem d_Lw_law_167 : decode code 167 = .ok (.iaload, 1) := by decide +kernel
theorem d_Lw_law_168 : decode code 168 = .ok (.invokevirtual 22, 3) := by decide +kernel
theorem d_Lw_law_171 : decode code 171 = .ok (.if_icmp .eq 598, 3) := by decide +kernel
theorem d_Lw_law_174 : decode code 174 = .ok (.iconst 0, 1) := by decide +kernel
theorem d_Lw_law_175 : decode code 175 = .ok (.ireturn, 1) := by decide +kernel
theorem d_Lw_law_176 : decode code 176 = .ok (.aload_n 1, 1) := by decide +kernel
theorem d_Lw_law_177 : decode code 177 = .ok (.aload_n 0, 1) := by decide +kernel
theorem d_Lw_law_178 : decode code 178 = .ok (.iload_n 3, 1) := by decide +kernel
theorem d_Lw_law_179 : decode code 179 = .ok (.iconst 1, 1) := by decide +kernel
theorem d_Lw_law_180 : decode code 180 = .ok (.iadd, 1) := by decide +kernel
theorem d_Lw_law_181 : decode code 181 = .ok (.iaload, 1) := by decide +kernel
theorem d_Lw_law_182 : decode code 182 = .ok (.aload_n 0, 1) := by decide +kernel
theorem d_Lw_law_183 : decode code 183 = .ok (.iload_n 3, 1) := by decide +kernel
theorem d_Lw_law_184 : decode code 184 = .ok (.iconst 2, 1) := by decide +kernel
theorem d_Lw_law_185 : decode code 185 = .ok (.iadd, 1) := by decide +kernel
theorem d_Lw_law_186 : decode code 186 = .ok (.iaload, 1) := by decide +kernel
theorem d_Lw_law_187 : decode code 187 = .ok (.aload_n 0, 1) := by decide +kernel
theorem d_Lw_law_188 : decode code 188 = .ok (.iload_n 3, 1) := by decide +kernel
theorem d_Lw_law_189 : decode code 189 = .ok (.iconst 3, 1) := by decide +kernel
theorem d_Lw_law_190 : decode code 190 = .ok (.iadd, 1) := by decide +kernel
theorem d_Lw_law_191 : decode code 191 = .ok (.iaload, 1) := by decide +kernel
theorem d_Lw_law_192 : decode code 192 = .ok (.aload_n 0, 1) := by decide +kernel
theorem d_Lw_law_193 : decode code 193 = .ok (.iload_n 3, 1) := by decide +kernel
theorem d_Lw_law_194 : decode code 194 = .ok (.iconst 4, 1) := by decide +kernel
theorem d_Lw_law_195 : decode code 195 = .ok (.iadd, 1) := by decide +kernel
theorem d_Lw_law_196 : decode code 196 = .ok (.iaload, 1) := by decide +kernel
theorem d_Lw_law_197 : decode code 197 = .ok (.invokevirtual 23, 3) := by decide +kernel
theorem d_Lw_law_200 : decode code 200 = .ok (.aload_n 2, 1) := by decide +kernel
theorem d_Lw_law_201 : decode code 201 = .ok (.aload_n 0, 1) := by decide +kernel
theorem d_Lw_law_202 : decode code 202 = .ok (.iload_n 3, 1) := by decide +kernel
theorem d_Lw_law_203 : decode code 203 = .ok (.iconst 1, 1) := by decide +kernel
theorem d_Lw_law_204 : decode code 204 = .ok (.iadd, 1) := by decide +kernel
theorem d_Lw_law_205 : decode code 205 = .ok (.iaload, 1) := by decide +kernel
theorem d_Lw_law_206 : decode code 206 = .ok (.aload_n 0, 1) := by decide +kernel
theorem d_Lw_law_207 : decode code 207 = .ok (.iload_n 3, 1) := by decide +kernel
theorem d_Lw_law_208 : decode code 208 = .ok (.iconst 2, 1) := by decide +kernel
theorem d_Lw_law_209 : decode code 209 = .ok (.iadd, 1) := by decide +kernel
theorem d_Lw_law_210 : decode code 210 = .ok (.iaload, 1) := by decide +kernel
theorem d_Lw_law_211 : decode code 211 = .ok (.aload_n 0, 1) := by decide +kernel
theorem d_Lw_law_212 : decode code 212 = .ok (.iload_n 3, 1) := by decide +kernel
theorem d_Lw_law_213 : decode code 213 = .ok (.iconst 3, 1) := by decide +kernel
theorem d_Lw_law_214 : decode code 214 = .ok (.iadd, 1) := by decide +kernel
theorem d_Lw_law_215 : decode code 215 = .ok (.iaload, 1) := by decide +kernel
theorem d_Lw_law_216 : decode code 216 = .ok (.aload_n 0, 1) := by decide +kernel
theorem d_Lw_law_217 : decode code 217 = .ok (.iload_n 3, 1) := by decide +kernel
theorem d_Lw_law_218 : decode code 218 = .ok (.iconst 4, 1) := by decide +kernel
theorem d_Lw_law_219 : decode code 219 = .ok (.iadd, 1) := by decide +kernel
theorem d_Lw_law_220 : decode code 220 = .ok (.iaload, 1) := by decide +kernel
theorem d_Lw_law_221 : decode code 221 = .ok (.invokevirtual 27, 3) := by decide +kernel
theorem d_Lw_law_224 : decode code 224 = .ok (.if_icmp .eq 545, 3) := by decide +kernel
theorem d_Lw_law_227 : decode code 227 = .ok (.iconst 0, 1) := by decide +kernel
theorem d_Lw_law_228 : decode code 228 = .ok (.ireturn, 1) := by decide +kernel
theorem d_Lw_law_229 : decode code 229 = .ok (.aload_n 1, 1) := by decide +kernel
theorem d_Lw_law_230 : decode code 230 = .ok (.aload_n 0, 1) := by decide +kernel
theorem d_Lw_law_231 : decode code 231 = .ok (.iload_n 3, 1) := by decide +kernel
theorem d_Lw_law_232 : decode code 232 = .ok (.iconst 1, 1) := by decide +kernel
theorem d_Lw_law_233 : decode code 233 = .ok (.iadd, 1) := by decide +kernel
theorem d_Lw_law_234 : decode code 234 = .ok (.iaload, 1) := by decide +kernel
theorem d_Lw_law_235 : decode code 235 = .ok (.aload_n 0, 1) := by decide +kernel
theorem d_Lw_law_236 : decode code 236 = .ok (.iload_n 3, 1) := by decide +kernel
theorem d_Lw_law_237 : decode code 237 = .ok (.iconst 2, 1) := by decide +kernel
theorem d_Lw_law_238 : decode code 238 = .ok (.iadd, 1) := by decide +kernel
theorem d_Lw_law_239 : decode code 239 = .ok (.iaload, 1) := by decide +kernel
theorem d_Lw_law_240 : decode code 240 = .ok (.invokevirtual 28, 3) := by decide +kernel
theorem d_Lw_law_243 : decode code 243 = .ok (.aload_n 2, 1) := by decide +kernel
theorem d_Lw_law_244 : decode code 244 = .ok (.aload_n 0, 1) := by decide +kernel
theorem d_Lw_law_245 : decode code 245 = .ok (.iload_n 3, 1) := by decide +kernel
theorem d_Lw_law_246 : decode code 246 = .ok (.iconst 1, 1) := by decide +kernel
theorem d_Lw_law_247 : decode code 247 = .ok (.iadd, 1) := by decide +kernel
theorem d_Lw_law_248 : decode code 248 = .ok (.iaload, 1) := by decide +kernel
theorem d_Lw_law_249 : decode code 249 = .ok (.aload_n 0, 1) := by decide +kernel
theorem d_Lw_law_250 : decode code 250 = .ok (.iload_n 3, 1) := by decide +kernel
theorem d_Lw_law_251 : decode code 251 = .ok (.iconst 2, 1) := by decide +kernel
theorem d_Lw_law_252 : decode code 252 = .ok (.iadd, 1) := by decide +kernel
theorem d_Lw_law_253 : decode code 253 = .ok (.iaload, 1) := by decide +kernel
theorem d_Lw_law_254 : decode code 254 = .ok (.invokevirtual 32, 3) := by decide +kernel
theorem d_Lw_law_257 : decode code 257 = .ok (.if_icmp .eq 512, 3) := by decide +kernel
theorem d_Lw_law_260 : decode code 260 = .ok (.iconst 0, 1) := by decide +kernel
theorem d_Lw_law_261 : decode code 261 = .ok (.ireturn, 1) := by decide +kernel
theorem d_Lw_law_262 : decode code 262 = .ok (.aload_n 1, 1) := by decide +kernel
theorem d_Lw_law_263 : decode code 263 = .ok (.aload_n 0, 1) := by decide +kernel
theorem d_Lw_law_264 : decode code 264 = .ok (.iload_n 3, 1) := by decide +kernel
theorem d_Lw_law_265 : decode code 265 = .ok (.iconst 1, 1) := by decide +kernel
theorem d_Lw_law_266 : decode code 266 = .ok (.iadd, 1) := by decide +kernel
theorem d_Lw_law_267 : decode code 267 = .ok (.iaload, 1) := by decide +kernel
theorem d_Lw_law_268 : decode code 268 = .ok (.aload_n 0, 1) := by decide +kernel
theorem d_Lw_law_269 : decode code 269 = .ok (.iload_n 3, 1) := by decide +kernel
theorem d_Lw_law_270 : decode code 270 = .ok (.iconst 2, 1) := by decide +kernel
theorem d_Lw_law_271 : decode code 271 = .ok (.iadd, 1) := by decide +kernel
theorem d_Lw_law_272 : decode code 272 = .ok (.iaload, 1) := by decide +kernel
theorem d_Lw_law_273 : decode code 273 = .ok (.invokevirtual 33, 3) := by decide +kernel
theorem d_Lw_law_276 : decode code 276 = .ok (.aload_n 2, 1) := by decide +kernel
theorem d_Lw_law_277 : decode code 277 = .ok (.aload_n 0, 1) := by decide +kernel
theorem d_Lw_law_278 : decode code 278 = .ok (.iload_n 3, 1) := by decide +kernel
theorem d_Lw_law_279 : decode code 279 = .ok (.iconst 1, 1) := by decide +kernel
theorem d_Lw_law_280 : decode code 280 = .ok (.iadd, 1) := by decide +kernel
theorem d_Lw_law_281 : decode code 281 = .ok (.iaload, 1) := by decide +kernel
theorem d_Lw_law_282 : decode code 282 = .ok (.aload_n 0, 1) := by decide +kernel
theorem d_Lw_law_283 : decode code 283 = .ok (.iload_n 3, 1) := by decide +kernel
theorem d_Lw_law_284 : decode code 284 = .ok (.iconst 2, 1) := by decide +kernel
theorem d_Lw_law_285 : decode code 285 = .ok (.iadd, 1) := by decide +kernel
theorem d_Lw_law_286 : decode code 286 = .ok (.iaload, 1) := by decide +kernel
theorem d_Lw_law_287 : decode code 287 = .ok (.invokevirtual 36, 3) := by decide +kernel
theorem d_Lw_law_290 : decode code 290 = .ok (.if_icmp .eq 479, 3) := by decide +kernel
theorem d_Lw_law_293 : decode code 293 = .ok (.iconst 0, 1) := by decide +kernel
theorem d_Lw_law_294 : decode code 294 = .ok (.ireturn, 1) := by decide +kernel
theorem d_Lw_law_295 : decode code 295 = .ok (.aload_n 1, 1) := by decide +kernel
theorem d_Lw_law_296 : decode code 296 = .ok (.aload_n 0, 1) := by decide +kernel
theorem d_Lw_law_297 : decode code 297 = .ok (.iload_n 3, 1) := by decide +kernel
theorem d_Lw_law_298 : decode code 298 = .ok (.iconst 1, 1) := by decide +kernel
theorem d_Lw_law_299 : decode code 299 = .ok (.iadd, 1) := by decide +kernel
theorem d_Lw_law_300 : decode code 300 = .ok (.iaload, 1) := by decide +kernel
theorem d_Lw_law_301 : decode code 301 = .ok (.invokevirtual 37, 3) := by decide +kernel
theorem d_Lw_law_304 : decode code 304 = .ok (.aload_n 2, 1) := by decide +kernel
theorem d_Lw_law_305 : decode code 305 = .ok (.aload_n 0, 1) := by decide +kernel
theorem d_Lw_law_306 : decode code 306 = .ok (.iload_n 3, 1) := by decide +kernel
theorem d_Lw_law_307 : decode code 307 = .ok (.iconst 1, 1) := by decide +kernel
theorem d_Lw_law_308 : decode code 308 = .ok (.iadd, 1) := by decide +kernel
theorem d_Lw_law_309 : decode code 309 = .ok (.iaload, 1) := by decide +kernel
theorem d_Lw_law_310 : decode code 310 = .ok (.invokevirtual 40, 3) := by decide +kernel
theorem d_Lw_law_313 : decode code 313 = .ok (.if_icmp .eq 456, 3) := by decide +kernel
theorem d_Lw_law_316 : decode code 316 = .ok (.iconst 0, 1) := by decide +kernel
theorem d_Lw_law_317 : decode code 317 = .ok (.ireturn, 1) := by decide +kernel
theorem d_Lw_law_318 : decode code 318 = .ok (.aload_n 1, 1) := by decide +kernel
theorem d_Lw_law_319 : decode code 319 = .ok (.aload_n 0, 1) := by decide +kernel
theorem d_Lw_law_320 : decode code 320 = .ok (.iload_n 3, 1) := by decide +kernel
theorem d_Lw_law_321 : decode code 321 = .ok (.iconst 1, 1) := by decide +kernel
theorem d_Lw_law_322 : decode code 322 = .ok (.iadd, 1) := by decide +kernel
theorem d_Lw_law_323 : decode code 323 = .ok (.iaload, 1) := by decide +kernel
theorem d_Lw_law_324 : decode code 324 = .ok (.aload_n 0, 1) := by decide +kernel
theorem d_Lw_law_325 : decode code 325 = .ok (.iload_n 3, 1) := by decide +kernel
theorem d_Lw_law_326 : decode code 326 = .ok (.iconst 2, 1) := by decide +kernel
theorem d_Lw_law_327 : decode code 327 = .ok (.iadd, 1) := by decide +kernel
theorem d_Lw_law_328 : decode code 328 = .ok (.iaload, 1) := by decide +kernel
theorem d_Lw_law_329 : decode code 329 = .ok (.invokevirtual 41, 3) := by decide +kernel
theorem d_Lw_law_332 : decode code 332 = .ok (.aload_n 2, 1) := by decide +kernel
theorem d_Lw_law_333 : decode code 333 = .ok (.aload_n 0, 1) := by decide +kernel
theorem d_Lw_law_334 : decode code 334 = .ok (.iload_n 3, 1) := by decide +kernel
theorem d_Lw_law_335 : decode code 335 = .ok (.iconst 1, 1) := by decide +kernel
theorem d_Lw_law_336 : decode code 336 = .ok (.iadd, 1) := by decide +kernel
theorem d_Lw_law_337 : decode code 337 = .ok (.iaload, 1) := by decide +kernel
theorem d_Lw_law_338 : decode code 338 = .ok (.aload_n 0, 1) := by decide +kernel
theorem d_Lw_law_339 : decode code 339 = .ok (.iload_n 3, 1) := by decide +kernel
theorem d_Lw_law_340 : decode code 340 = .ok (.iconst 2, 1) := by decide +kernel
theorem d_Lw_law_341 : decode code 341 = .ok (.iadd, 1) := by decide +kernel
theorem d_Lw_law_342 : decode code 342 = .ok (.iaload, 1) := by decide +kernel
theorem d_Lw_law_343 : decode code 343 = .ok (.invokevirtual 44, 3) := by decide +kernel
theorem d_Lw_law_346 : decode code 346 = .ok (.if_icmp .eq 423, 3) := by decide +kernel
theorem d_Lw_law_349 : decode code 349 = .ok (.iconst 0, 1) := by decide +kernel
theorem d_Lw_law_350 : decode code 350 = .ok (.ireturn, 1) := by decide +kernel
theorem d_Lw_law_351 : decode code 351 = .ok (.aload_n 1, 1) := by decide +kernel
theorem d_Lw_law_352 : decode code 352 = .ok (.aload_n 0, 1) := by decide +kernel
theorem d_Lw_law_353 : decode code 353 = .ok (.iload_n 3, 1) := by decide +kernel
theorem d_Lw_law_354 : decode code 354 = .ok (.iconst 1, 1) := by decide +kernel
theorem d_Lw_law_355 : decode code 355 = .ok (.iadd, 1) := by decide +kernel
theorem d_Lw_law_356 : decode code 356 = .ok (.iaload, 1) := by decide +kernel
theorem d_Lw_law_357 : decode code 357 = .ok (.invokevirtual 45, 3) := by decide +kernel
theorem d_Lw_law_360 : decode code 360 = .ok (.aload_n 2, 1) := by decide +kernel
theorem d_Lw_law_361 : decode code 361 = .ok (.aload_n 0, 1) := by decide +kernel
theorem d_Lw_law_362 : decode code 362 = .ok (.iload_n 3, 1) := by decide +kernel
theorem d_Lw_law_363 : decode code 363 = .ok (.iconst 1, 1) := by decide +kernel
theorem d_Lw_law_364 : decode code 364 = .ok (.iadd, 1) := by decide +kernel
theorem d_Lw_law_365 : decode code 365 = .ok (.iaload, 1) := by decide +kernel
theorem d_Lw_law_366 : decode code 366 = .ok (.invokevirtual 48, 3) := by decide +kernel
theorem d_Lw_law_369 : decode code 369 = .ok (.if_icmp .eq 400, 3) := by decide +kernel
theorem d_Lw_law_372 : decode code 372 = .ok (.iconst 0, 1) := by decide +kernel
theorem d_Lw_law_373 : decode code 373 = .ok (.ireturn, 1) := by decide +kernel
theorem d_Lw_law_374 : decode code 374 = .ok (.aload_n 1, 1) := by decide +kernel
theorem d_Lw_law_375 : decode code 375 = .ok (.invokevirtual 49, 3) := by decide +kernel
theorem d_Lw_law_378 : decode code 378 = .ok (.aload_n 2, 1) := by decide +kernel
theorem d_Lw_law_379 : decode code 379 = .ok (.invokevirtual 52, 3) := by decide +kernel
theorem d_Lw_law_382 : decode code 382 = .ok (.if_icmp .eq 387, 3) := by decide +kernel
theorem d_Lw_law_385 : decode code 385 = .ok (.iconst 0, 1) := by decide +kernel
theorem d_Lw_law_386 : decode code 386 = .ok (.ireturn, 1) := by decide +kernel
theorem d_Lw_law_387 : decode code 387 = .ok (.aload_n 1, 1) := by decide +kernel
theorem d_Lw_law_388 : decode code 388 = .ok (.aload_n 0, 1) := by decide +kernel
theorem d_Lw_law_389 : decode code 389 = .ok (.iload_n 3, 1) := by decide +kernel
theorem d_Lw_law_390 : decode code 390 = .ok (.iconst 1, 1) := by decide +kernel
theorem d_Lw_law_391 : decode code 391 = .ok (.iadd, 1) := by decide +kernel
theorem d_Lw_law_392 : decode code 392 = .ok (.iaload, 1) := by decide +kernel
theorem d_Lw_law_393 : decode code 393 = .ok (.aload_n 0, 1) := by decide +kernel
theorem d_Lw_law_394 : decode code 394 = .ok (.iload_n 3, 1) := by decide +kernel
theorem d_Lw_law_395 : decode code 395 = .ok (.iconst 2, 1) := by decide +kernel
theorem d_Lw_law_396 : decode code 396 = .ok (.iadd, 1) := by decide +kernel
theorem d_Lw_law_397 : decode code 397 = .ok (.iaload, 1) := by decide +kernel
theorem d_Lw_law_398 : decode code 398 = .ok (.invokevirtual 53, 3) := by decide +kernel
theorem d_Lw_law_401 : decode code 401 = .ok (.aload_n 2, 1) := by decide +kernel
theorem d_Lw_law_402 : decode code 402 = .ok (.aload_n 0, 1) := by decide +kernel
theorem d_Lw_law_403 : decode code 403 = .ok (.iload_n 3, 1) := by decide +kernel
theorem d_Lw_law_404 : decode code 404 = .ok (.iconst 1, 1) := by decide +kernel
theorem d_Lw_law_405 : decode code 405 = .ok (.iadd, 1) := by decide +kernel
theorem d_Lw_law_406 : decode code 406 = .ok (.iaload, 1) := by decide +kernel
theorem d_Lw_law_407 : decode code 407 = .ok (.aload_n 0, 1) := by decide +kernel
theorem d_Lw_law_408 : decode code 408 = .ok (.iload_n 3, 1) := by decide +kernel
theorem d_Lw_law_409 : decode code 409 = .ok (.iconst 2, 1) := by decide +kernel
theorem d_Lw_law_410 : decode code 410 = .ok (.iadd, 1) := by decide +kernel
theorem d_Lw_law_411 : decode code 411 = .ok (.iaload, 1) := by decide +kernel
theorem d_Lw_law_412 : decode code 412 = .ok (.invokevirtual 56, 3) := by decide +kernel
theorem d_Lw_law_415 : decode code 415 = .ok (.if_icmp .eq 354, 3) := by decide +kernel
theorem d_Lw_law_418 : decode code 418 = .ok (.iconst 0, 1) := by decide +kernel
theorem d_Lw_law_419 : decode code 419 = .ok (.ireturn, 1) := by decide +kernel
theorem d_Lw_law_420 : decode code 420 = .ok (.aload_n 1, 1) := by decide +kernel
theorem d_Lw_law_421 : decode code 421 = .ok (.aload_n 0, 1) := by decide +kernel
theorem d_Lw_law_422 : decode code 422 = .ok (.iload_n 3, 1) := by decide +kernel
theorem d_Lw_law_423 : decode code 423 = .ok (.iconst 1, 1) := by decide +kernel
theorem d_Lw_law_424 : decode code 424 = .ok (.iadd, 1) := by decide +kernel
theorem d_Lw_law_425 : decode code 425 = .ok (.iaload, 1) := by decide +kernel
theorem d_Lw_law_426 : decode code 426 = .ok (.aload_n 0, 1) := by decide +kernel
theorem d_Lw_law_427 : decode code 427 = .ok (.iload_n 3, 1) := by decide +kernel
theorem d_Lw_law_428 : decode code 428 = .ok (.iconst 2, 1) := by decide +kernel
theorem d_Lw_law_429 : decode code 429 = .ok (.iadd, 1) := by decide +kernel
theorem d_Lw_law_430 : decode code 430 = .ok (.iaload, 1) := by decide +kernel
theorem d_Lw_law_431 : decode code 431 = .ok (.invokevirtual 57, 3) := by decide +kernel
theorem d_Lw_law_434 : decode code 434 = .ok (.aload_n 2, 1) := by decide +kernel
theorem d_Lw_law_435 : decode code 435 = .ok (.aload_n 0, 1) := by decide +kernel
theorem d_Lw_law_436 : decode code 436 = .ok (.iload_n 3, 1) := by decide +kernel
theorem d_Lw_law_437 : decode code 437 = .ok (.iconst 1, 1) := by decide +kernel
theorem d_Lw_law_438 : decode code 438 = .ok (.iadd, 1) := by decide +kernel
theorem d_Lw_law_439 : decode code 439 = .ok (.iaload, 1) := by decide +kernel
theorem d_Lw_law_440 : decode code 440 = .ok (.aload_n 0, 1) := by decide +kernel
theorem d_Lw_law_441 : decode code 441 = .ok (.iload_n 3, 1) := by decide +kernel
theorem d_Lw_law_442 : decode code 442 = .ok (.iconst 2, 1) := by decide +kernel
theorem d_Lw_law_443 : decode code 443 = .ok (.iadd, 1) := by decide +kernel
theorem d_Lw_law_444 : decode code 444 = .ok (.iaload, 1) := by decide +kernel
theorem d_Lw_law_445 : decode code 445 = .ok (.invokevirtual 60, 3) := by decide +kernel
theorem d_Lw_law_448 : decode code 448 = .ok (.if_icmp .eq 321, 3) := by decide +kernel
theorem d_Lw_law_451 : decode code 451 = .ok (.iconst 0, 1) := by decide +kernel
theorem d_Lw_law_452 : decode code 452 = .ok (.ireturn, 1) := by decide +kernel
theorem d_Lw_law_453 : decode code 453 = .ok (.aload_n 1, 1) := by decide +kernel
theorem d_Lw_law_454 : decode code 454 = .ok (.aload_n 0, 1) := by decide +kernel
theorem d_Lw_law_455 : decode code 455 = .ok (.iload_n 3, 1) := by decide +kernel
theorem d_Lw_law_456 : decode code 456 = .ok (.iconst 1, 1) := by decide +kernel
theorem d_Lw_law_457 : decode code 457 = .ok (.iadd, 1) := by decide +kernel
theorem d_Lw_law_458 : decode code 458 = .ok (.iaload, 1) := by decide +kernel
theorem d_Lw_law_459 : decode code 459 = .ok (.invokevirtual 61, 3) := by decide +kernel
theorem d_Lw_law_462 : decode code 462 = .ok (.aload_n 2, 1) := by decide +kernel
theorem d_Lw_law_463 : decode code 463 = .ok (.aload_n 0, 1) := by decide +kernel
theorem d_Lw_law_464 : decode code 464 = .ok (.iload_n 3, 1) := by decide +kernel
theorem d_Lw_law_465 : decode code 465 = .ok (.iconst 1, 1) := by decide +kernel
theorem d_Lw_law_466 : decode code 466 = .ok (.iadd, 1) := by decide +kernel
theorem d_Lw_law_467 : decode code 467 = .ok (.iaload, 1) := by decide +kernel
theorem d_Lw_law_468 : decode code 468 = .ok (.invokevirtual 64, 3) := by decide +kernel
theorem d_Lw_law_471 : decode code 471 = .ok (.if_icmp .eq 298, 3) := by decide +kernel
theorem d_Lw_law_474 : decode code 474 = .ok (.iconst 0, 1) := by decide +kernel
theorem d_Lw_law_475 : decode code 475 = .ok (.ireturn, 1) := by decide +kernel
theorem d_Lw_law_476 : decode code 476 = .ok (.aload_n 1, 1) := by decide +kernel
theorem d_Lw_law_477 : decode code 477 = .ok (.aload_n 0, 1) := by decide +kernel
theorem d_Lw_law_478 : decode code 478 = .ok (.iload_n 3, 1) := by decide +kernel
theorem d_Lw_law_479 : decode code 479 = .ok (.iconst 1, 1) := by decide +kernel
theorem d_Lw_law_480 : decode code 480 = .ok (.iadd, 1) := by decide +kernel
theorem d_Lw_law_481 : decode code 481 = .ok (.iaload, 1) := by decide +kernel
theorem d_Lw_law_482 : decode code 482 = .ok (.invokevirtual 65, 3) := by decide +kernel
theorem d_Lw_law_485 : decode code 485 = .ok (.aload_n 2, 1) := by decide +kernel
theorem d_Lw_law_486 : decode code 486 = .ok (.aload_n 0, 1) := by decide +kernel
theorem d_Lw_law_487 : decode code 487 = .ok (.iload_n 3, 1) := by decide +kernel
theorem d_Lw_law_488 : decode code 488 = .ok (.iconst 1, 1) := by decide +kernel
theorem d_Lw_law_489 : decode code 489 = .ok (.iadd, 1) := by decide +kernel
theorem d_Lw_law_490 : decode code 490 = .ok (.iaload, 1) := by decide +kernel
theorem d_Lw_law_491 : decode code 491 = .ok (.invokevirtual 68, 3) := by decide +kernel
theorem d_Lw_law_494 : decode code 494 = .ok (.if_icmp .eq 275, 3) := by decide +kernel
theorem d_Lw_law_497 : decode code 497 = .ok (.iconst 0, 1) := by decide +kernel
theorem d_Lw_law_498 : decode code 498 = .ok (.ireturn, 1) := by decide +kernel
theorem d_Lw_law_499 : decode code 499 = .ok (.aload_n 1, 1) := by decide +kernel
theorem d_Lw_law_500 : decode code 500 = .ok (.aload_n 0, 1) := by decide +kernel
theorem d_Lw_law_501 : decode code 501 = .ok (.iload_n 3, 1) := by decide +kernel
theorem d_Lw_law_502 : decode code 502 = .ok (.iconst 1, 1) := by decide +kernel
theorem d_Lw_law_503 : decode code 503 = .ok (.iadd, 1) := by decide +kernel
theorem d_Lw_law_504 : decode code 504 = .ok (.iaload, 1) := by decide +kernel
theorem d_Lw_law_505 : decode code 505 = .ok (.aload_n 0, 1) := by decide +kernel
theorem d_Lw_law_506 : decode code 506 = .ok (.iload_n 3, 1) := by decide +kernel
theorem d_Lw_law_507 : decode code 507 = .ok (.iconst 2, 1) := by decide +kernel
theorem d_Lw_law_508 : decode code 508 = .ok (.iadd, 1) := by decide +kernel
theorem d_Lw_law_509 : decode code 509 = .ok (.iaload, 1) := by decide +kernel
theorem d_Lw_law_510 : decode code 510 = .ok (.invokevirtual 69, 3) := by decide +kernel
theorem d_Lw_law_513 : decode code 513 = .ok (.aload_n 2, 1) := by decide +kernel
theorem d_Lw_law_514 : decode code 514 = .ok (.aload_n 0, 1) := by decide +kernel
theorem d_Lw_law_515 : decode code 515 = .ok (.iload_n 3, 1) := by decide +kernel
theorem d_Lw_law_516 : decode code 516 = .ok (.iconst 1, 1) := by decide +kernel
theorem d_Lw_law_517 : decode code 517 = .ok (.iadd, 1) := by decide +kernel
theorem d_Lw_law_518 : decode code 518 = .ok (.iaload, 1) := by decide +kernel
theorem d_Lw_law_519 : decode code 519 = .ok (.aload_n 0, 1) := by decide +kernel
theorem d_Lw_law_520 : decode code 520 = .ok (.iload_n 3, 1) := by decide +kernel
theorem d_Lw_law_521 : decode code 521 = .ok (.iconst 2, 1) := by decide +kernel
theorem d_Lw_law_522 : decode code 522 = .ok (.iadd, 1) := by decide +kernel
theorem d_Lw_law_523 : decode code 523 = .ok (.iaload, 1) := by decide +kernel
theorem d_Lw_law_524 : decode code 524 = .ok (.invokevirtual 72, 3) := by decide +kernel
theorem d_Lw_law_527 : decode code 527 = .ok (.if_icmp .eq 242, 3) := by decide +kernel
theorem d_Lw_law_530 : decode code 530 = .ok (.iconst 0, 1) := by decide +kernel
theorem d_Lw_law_531 : decode code 531 = .ok (.ireturn, 1) := by decide +kernel
theorem d_Lw_law_532 : decode code 532 = .ok (.aload_n 1, 1) := by decide +kernel
theorem d_Lw_law_533 : decode code 533 = .ok (.invokevirtual 73, 3) := by decide +kernel
theorem d_Lw_law_536 : decode code 536 = .ok (.aload_n 2, 1) := by decide +kernel
theorem d_Lw_law_537 : decode code 537 = .ok (.invokevirtual 76, 3) := by decide +kernel
theorem d_Lw_law_540 : decode code 540 = .ok (.if_icmp .eq 229, 3) := by decide +kernel
theorem d_Lw_law_543 : decode code 543 = .ok (.iconst 0, 1) := by decide +kernel
theorem d_Lw_law_544 : decode code 544 = .ok (.ireturn, 1) := by decide +kernel
theorem d_Lw_law_545 : decode code 545 = .ok (.aload_n 1, 1) := by decide +kernel
theorem d_Lw_law_546 : decode code 546 = .ok (.aload_n 0, 1) := by decide +kernel
theorem d_Lw_law_547 : decode code 547 = .ok (.iload_n 3, 1) := by decide +kernel
theorem d_Lw_law_548 : decode code 548 = .ok (.iconst 1, 1) := by decide +kernel
theorem d_Lw_law_549 : decode code 549 = .ok (.iadd, 1) := by decide +kernel
theorem d_Lw_law_550 : decode code 550 = .ok (.iaload, 1) := by decide +kernel
theorem d_Lw_law_551 : decode code 551 = .ok (.invokevirtual 77, 3) := by decide +kernel
theorem d_Lw_law_554 : decode code 554 = .ok (.aload_n 2, 1) := by decide +kernel
theorem d_Lw_law_555 : decode code 555 = .ok (.aload_n 0, 1) := by decide +kernel
theorem d_Lw_law_556 : decode code 556 = .ok (.iload_n 3, 1) := by decide +kernel
theorem d_Lw_law_557 : decode code 557 = .ok (.iconst 1, 1) := by decide +kernel
theorem d_Lw_law_558 : decode code 558 = .ok (.iadd, 1) := by decide +kernel
theorem d_Lw_law_559 : decode code 559 = .ok (.iaload, 1) := by decide +kernel
theorem d_Lw_law_560 : decode code 560 = .ok (.invokevirtual 80, 3) := by decide +kernel
theorem d_Lw_law_563 : decode code 563 = .ok (.if_icmp .eq 206, 3) := by decide +kernel
theorem d_Lw_law_566 : decode code 566 = .ok (.iconst 0, 1) := by decide +kernel
theorem d_Lw_law_567 : decode code 567 = .ok (.ireturn, 1) := by decide +kernel
theorem d_Lw_law_568 : decode code 568 = .ok (.aload_n 1, 1) := by decide +kernel
theorem d_Lw_law_569 : decode code 569 = .ok (.aload_n 0, 1) := by decide +kernel
theorem d_Lw_law_570 : decode code 570 = .ok (.iload_n 3, 1) := by decide +kernel
theorem d_Lw_law_571 : decode code 571 = .ok (.iconst 1, 1) := by decide +kernel
theorem d_Lw_law_572 : decode code 572 = .ok (.iadd, 1) := by decide +kernel
theorem d_Lw_law_573 : decode code 573 = .ok (.iaload, 1) := by decide +kernel
theorem d_Lw_law_574 : decode code 574 = .ok (.invokevirtual 81, 3) := by decide +kernel
theorem d_Lw_law_577 : decode code 577 = .ok (.aload_n 2, 1) := by decide +kernel
theorem d_Lw_law_578 : decode code 578 = .ok (.aload_n 0, 1) := by decide +kernel
theorem d_Lw_law_579 : decode code 579 = .ok (.iload_n 3, 1) := by decide +kernel
theorem d_Lw_law_580 : decode code 580 = .ok (.iconst 1, 1) := by decide +kernel
theorem d_Lw_law_581 : decode code 581 = .ok (.iadd, 1) := by decide +kernel
theorem d_Lw_law_582 : decode code 582 = .ok (.iaload, 1) := by decide +kernel
theorem d_Lw_law_583 : decode code 583 = .ok (.invokevirtual 85, 3) := by decide +kernel
theorem d_Lw_law_586 : decode code 586 = .ok (.if_icmp .eq 183, 3) := by decide +kernel
theorem d_Lw_law_589 : decode code 589 = .ok (.iconst 0, 1) := by decide +kernel
theorem d_Lw_law_590 : decode code 590 = .ok (.ireturn, 1) := by decide +kernel
theorem d_Lw_law_591 : decode code 591 = .ok (.aload_n 1, 1) := by decide +kernel
theorem d_Lw_law_592 : decode code 592 = .ok (.aload_n 0, 1) := by decide +kernel
theorem d_Lw_law_593 : decode code 593 = .ok (.iload_n 3, 1) := by decide +kernel
theorem d_Lw_law_594 : decode code 594 = .ok (.iconst 1, 1) := by decide +kernel
theorem d_Lw_law_595 : decode code 595 = .ok (.iadd, 1) := by decide +kernel
theorem d_Lw_law_596 : decode code 596 = .ok (.iaload, 1) := by decide +kernel
theorem d_Lw_law_597 : decode code 597 = .ok (.invokevirtual 86, 3) := by decide +kernel
theorem d_Lw_law_600 : decode code 600 = .ok (.aload_n 2, 1) := by decide +kernel
theorem d_Lw_law_601 : decode code 601 = .ok (.aload_n 0, 1) := by decide +kernel
theorem d_Lw_law_602 : decode code 602 = .ok (.iload_n 3, 1) := by decide +kernel
theorem d_Lw_law_603 : decode code 603 = .ok (.iconst 1, 1) := by decide +kernel
theorem d_Lw_law_604 : decode code 604 = .ok (.iadd, 1) := by decide +kernel
theorem d_Lw_law_605 : decode code 605 = .ok (.iaload, 1) := by decide +kernel
theorem d_Lw_law_606 : decode code 606 = .ok (.invokevirtual 89, 3) := by decide +kernel
theorem d_Lw_law_609 : decode code 609 = .ok (.if_icmp .eq 160, 3) := by decide +kernel
theorem d_Lw_law_612 : decode code 612 = .ok (.iconst 0, 1) := by decide +kernel
theorem d_Lw_law_613 : decode code 613 = .ok (.ireturn, 1) := by decide +kernel
theorem d_Lw_law_614 : decode code 614 = .ok (.aload_n 1, 1) := by decide +kernel
theorem d_Lw_law_615 : decode code 615 = .ok (.aload_n 0, 1) := by decide +kernel
theorem d_Lw_law_616 : decode code 616 = .ok (.iload_n 3, 1) := by decide +kernel
theorem d_Lw_law_617 : decode code 617 = .ok (.iconst 1, 1) := by decide +kernel
theorem d_Lw_law_618 : decode code 618 = .ok (.iadd, 1) := by decide +kernel
theorem d_Lw_law_619 : decode code 619 = .ok (.iaload, 1) := by decide +kernel
theorem d_Lw_law_620 : decode code 620 = .ok (.aload_n 0, 1) := by decide +kernel
theorem d_Lw_law_621 : decode code 621 = .ok (.iload_n 3, 1) := by decide +kernel
theorem d_Lw_law_622 : decode code 622 = .ok (.iconst 2, 1) := by decide +kernel
theorem d_Lw_law_623 : decode code 623 = .ok (.iadd, 1) := by decide +kernel
theorem d_Lw_law_624 : decode code 624 = .ok (.iaload, 1) := by decide +kernel
theorem d_Lw_law_625 : decode code 625 = .ok (.invokevirtual 90, 3) := by decide +kernel
theorem d_Lw_law_628 : decode code 628 = .ok (.aload_n 2, 1) := by decide +kernel
theorem d_Lw_law_629 : decode code 629 = .ok (.aload_n 0, 1) := by decide +kernel
theorem d_Lw_law_630 : decode code 630 = .ok (.iload_n 3, 1) := by decide +kernel
theorem d_Lw_law_631 : decode code 631 = .ok (.iconst 1, 1) := by decide +kernel
theorem d_Lw_law_632 : decode code 632 = .ok (.iadd, 1) := by decide +kernel
theorem d_Lw_law_633 : decode code 633 = .ok (.iaload, 1) := by decide +kernel
theorem d_Lw_law_634 : decode code 634 = .ok (.aload_n 0, 1) := by decide +kernel
theorem d_Lw_law_635 : decode code 635 = .ok (.iload_n 3, 1) := by decide +kernel
theorem d_Lw_law_636 : decode code 636 = .ok (.iconst 2, 1) := by decide +kernel
theorem d_Lw_law_637 : decode code 637 = .ok (.iadd, 1) := by decide +kernel
theorem d_Lw_law_638 : decode code 638 = .ok (.iaload, 1) := by decide +kernel
theorem d_Lw_law_639 : decode code 639 = .ok (.invokevirtual 93, 3) := by decide +kernel
theorem d_Lw_law_642 : decode code 642 = .ok (.if_icmp .eq 127, 3) := by decide +kernel
theorem d_Lw_law_645 : decode code 645 = .ok (.iconst 0, 1) := by decide +kernel
theorem d_Lw_law_646 : decode code 646 = .ok (.ireturn, 1) := by decide +kernel
theorem d_Lw_law_647 : decode code 647 = .ok (.aload_n 1, 1) := by decide +kernel
theorem d_Lw_law_648 : decode code 648 = .ok (.aload_n 0, 1) := by decide +kernel
theorem d_Lw_law_649 : decode code 649 = .ok (.iload_n 3, 1) := by decide +kernel
theorem d_Lw_law_650 : decode code 650 = .ok (.iconst 1, 1) := by decide +kernel
theorem d_Lw_law_651 : decode code 651 = .ok (.iadd, 1) := by decide +kernel
theorem d_Lw_law_652 : decode code 652 = .ok (.iaload, 1) := by decide +kernel
theorem d_Lw_law_653 : decode code 653 = .ok (.invokevirtual 94, 3) := by decide +kernel
theorem d_Lw_law_656 : decode code 656 = .ok (.aload_n 2, 1) := by decide +kernel
theorem d_Lw_law_657 : decode code 657 = .ok (.aload_n 0, 1) := by decide +kernel
theorem d_Lw_law_658 : decode code 658 = .ok (.iload_n 3, 1) := by decide +kernel
theorem d_Lw_law_659 : decode code 659 = .ok (.iconst 1, 1) := by decide +kernel
theorem d_Lw_law_660 : decode code 660 = .ok (.iadd, 1) := by decide +kernel
theorem d_Lw_law_661 : decode code 661 = .ok (.iaload, 1) := by decide +kernel
theorem d_Lw_law_662 : decode code 662 = .ok (.invokevirtual 97, 3) := by decide +kernel
theorem d_Lw_law_665 : decode code 665 = .ok (.if_icmp .eq 104, 3) := by decide +kernel
theorem d_Lw_law_668 : decode code 668 = .ok (.iconst 0, 1) := by decide +kernel
theorem d_Lw_law_669 : decode code 669 = .ok (.ireturn, 1) := by decide +kernel
theorem d_Lw_law_670 : decode code 670 = .ok (.aload_n 1, 1) := by decide +kernel
theorem d_Lw_law_671 : decode code 671 = .ok (.aload_n 0, 1) := by decide +kernel
theorem d_Lw_law_672 : decode code 672 = .ok (.iload_n 3, 1) := by decide +kernel
theorem d_Lw_law_673 : decode code 673 = .ok (.iconst 1, 1) := by decide +kernel
theorem d_Lw_law_674 : decode code 674 = .ok (.iadd, 1) := by decide +kernel
theorem d_Lw_law_675 : decode code 675 = .ok (.iaload, 1) := by decide +kernel
theorem d_Lw_law_676 : decode code 676 = .ok (.invokevirtual 98, 3) := by decide +kernel
theorem d_Lw_law_679 : decode code 679 = .ok (.aload_n 2, 1) := by decide +kernel
theorem d_Lw_law_680 : decode code 680 = .ok (.aload_n 0, 1) := by decide +kernel
theorem d_Lw_law_681 : decode code 681 = .ok (.iload_n 3, 1) := by decide +kernel
theorem d_Lw_law_682 : decode code 682 = .ok (.iconst 1, 1) := by decide +kernel
theorem d_Lw_law_683 : decode code 683 = .ok (.iadd, 1) := by decide +kernel
theorem d_Lw_law_684 : decode code 684 = .ok (.iaload, 1) := by decide +kernel
theorem d_Lw_law_685 : decode code 685 = .ok (.invokevirtual 101, 3) := by decide +kernel
theorem d_Lw_law_688 : decode code 688 = .ok (.if_icmp .eq 81, 3) := by decide +kernel
theorem d_Lw_law_691 : decode code 691 = .ok (.iconst 0, 1) := by decide +kernel
theorem d_Lw_law_692 : decode code 692 = .ok (.ireturn, 1) := by decide +kernel
theorem d_Lw_law_693 : decode code 693 = .ok (.aload_n 1, 1) := by decide +kernel
theorem d_Lw_law_694 : decode code 694 = .ok (.aload_n 0, 1) := by decide +kernel
theorem d_Lw_law_695 : decode code 695 = .ok (.iload_n 3, 1) := by decide +kernel
theorem d_Lw_law_696 : decode code 696 = .ok (.iconst 1, 1) := by decide +kernel
theorem d_Lw_law_697 : decode code 697 = .ok (.iadd, 1) := by decide +kernel
theorem d_Lw_law_698 : decode code 698 = .ok (.iaload, 1) := by decide +kernel
theorem d_Lw_law_699 : decode code 699 = .ok (.aload_n 0, 1) := by decide +kernel
theorem d_Lw_law_700 : decode code 700 = .ok (.iload_n 3, 1) := by decide +kernel
theorem d_Lw_law_701 : decode code 701 = .ok (.iconst 2, 1) := by decide +kernel
theorem d_Lw_law_702 : decode code 702 = .ok (.iadd, 1) := by decide +kernel
theorem d_Lw_law_703 : decode code 703 = .ok (.iaload, 1) := by decide +kernel
theorem d_Lw_law_704 : decode code 704 = .ok (.aload_n 0, 1) := by decide +kernel
theorem d_Lw_law_705 : decode code 705 = .ok (.iload_n 3, 1) := by decide +kernel
theorem d_Lw_law_706 : decode code 706 = .ok (.iconst 3, 1) := by decide +kernel
theorem d_Lw_law_707 : decode code 707 = .ok (.iadd, 1) := by decide +kernel
theorem d_Lw_law_708 : decode code 708 = .ok (.iaload, 1) := by decide +kernel
theorem d_Lw_law_709 : decode code 709 = .ok (.invokevirtual 102, 3) := by decide +kernel
theorem d_Lw_law_712 : decode code 712 = .ok (.aload_n 2, 1) := by decide +kernel
theorem d_Lw_law_713 : decode code 713 = .ok (.aload_n 0, 1) := by decide +kernel
theorem d_Lw_law_714 : decode code 714 = .ok (.iload_n 3, 1) := by decide +kernel
theorem d_Lw_law_715 : decode code 715 = .ok (.iconst 1, 1) := by decide +kernel
theorem d_Lw_law_716 : decode code 716 = .ok (.iadd, 1) := by decide +kernel
theorem d_Lw_law_717 : decode code 717 = .ok (.iaload, 1) := by decide +kernel
theorem d_Lw_law_718 : decode code 718 = .ok (.aload_n 0, 1) := by decide +kernel
theorem d_Lw_law_719 : decode code 719 = .ok (.iload_n 3, 1) := by decide +kernel
theorem d_Lw_law_720 : decode code 720 = .ok (.iconst 2, 1) := by decide +kernel
theorem d_Lw_law_721 : decode code 721 = .ok (.iadd, 1) := by decide +kernel
theorem d_Lw_law_722 : decode code 722 = .ok (.iaload, 1) := by decide +kernel
theorem d_Lw_law_723 : decode code 723 = .ok (.aload_n 0, 1) := by decide +kernel
theorem d_Lw_law_724 : decode code 724 = .ok (.iload_n 3, 1) := by decide +kernel
theorem d_Lw_law_725 : decode code 725 = .ok (.iconst 3, 1) := by decide +kernel
theorem d_Lw_law_726 : decode code 726 = .ok (.iadd, 1) := by decide +kernel
theorem d_Lw_law_727 : decode code 727 = .ok (.iaload, 1) := by decide +kernel
theorem d_Lw_law_728 : decode code 728 = .ok (.invokevirtual 106, 3) := by decide +kernel
theorem d_Lw_law_731 : decode code 731 = .ok (.if_icmp .eq 38, 3) := by decide +kernel
theorem d_Lw_law_734 : decode code 734 = .ok (.iconst 0, 1) := by decide +kernel
theorem d_Lw_law_735 : decode code 735 = .ok (.ireturn, 1) := by decide +kernel
theorem d_Lw_law_736 : decode code 736 = .ok (.aload_n 1, 1) := by decide +kernel
theorem d_Lw_law_737 : decode code 737 = .ok (.aload_n 0, 1) := by decide +kernel
theorem d_Lw_law_738 : decode code 738 = .ok (.iload_n 3, 1) := by decide +kernel
theorem d_Lw_law_739 : decode code 739 = .ok (.iconst 1, 1) := by decide +kernel
theorem d_Lw_law_740 : decode code 740 = .ok (.iadd, 1) := by decide +kernel
theorem d_Lw_law_741 : decode code 741 = .ok (.iaload, 1) := by decide +kernel
theorem d_Lw_law_742 : decode code 742 = .ok (.aload_n 0, 1) := by decide +kernel
theorem d_Lw_law_743 : decode code 743 = .ok (.iload_n 3, 1) := by decide +kernel
theorem d_Lw_law_744 : decode code 744 = .ok (.iconst 2, 1) := by decide +kernel
theorem d_Lw_law_745 : decode code 745 = .ok (.iadd, 1) := by decide +kernel
theorem d_Lw_law_746 : decode code 746 = .ok (.iaload, 1) := by decide +kernel
theorem d_Lw_law_747 : decode code 747 = .ok (.invokevirtual 107, 3) := by decide +kernel
theorem d_Lw_law_750 : decode code 750 = .ok (.aload_n 2, 1) := by decide +kernel
theorem d_Lw_law_751 : decode code 751 = .ok (.aload_n 0, 1) := by decide +kernel
theorem d_Lw_law_752 : decode code 752 = .ok (.iload_n 3, 1) := by decide +kernel
theorem d_Lw_law_753 : decode code 753 = .ok (.iconst 1, 1) := by decide +kernel
theorem d_Lw_law_754 : decode code 754 = .ok (.iadd, 1) := by decide +kernel
theorem d_Lw_law_755 : decode code 755 = .ok (.iaload, 1) := by decide +kernel
theorem d_Lw_law_756 : decode code 756 = .ok (.aload_n 0, 1) := by decide +kernel
theorem d_Lw_law_757 : decode code 757 = .ok (.iload_n 3, 1) := by decide +kernel
theorem d_Lw_law_758 : decode code 758 = .ok (.iconst 2, 1) := by decide +kernel
theorem d_Lw_law_759 : decode code 759 = .ok (.iadd, 1) := by decide +kernel
theorem d_Lw_law_760 : decode code 760 = .ok (.iaload, 1) := by decide +kernel
theorem d_Lw_law_761 : decode code 761 = .ok (.invokevirtual 110, 3) := by decide +kernel
theorem d_Lw_law_764 : decode code 764 = .ok (.if_icmp .eq 5, 3) := by decide +kernel
theorem d_Lw_law_767 : decode code 767 = .ok (.iconst 0, 1) := by decide +kernel
theorem d_Lw_law_768 : decode code 768 = .ok (.ireturn, 1) := by decide +kernel
theorem d_Lw_law_769 : decode code 769 = .ok (.iinc 3 5, 3) := by decide +kernel
theorem d_Lw_law_772 : decode code 772 = .ok (.goto (-754), 3) := by decide +kernel
theorem d_Lw_law_775 : decode code 775 = .ok (.iconst 1, 1) := by decide +kernel
theorem d_Lw_law_776 : decode code 776 = .ok (.ireturn, 1) := by decide +kernel
