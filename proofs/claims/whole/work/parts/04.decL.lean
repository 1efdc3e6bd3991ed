theorem dL_law_0 : decode bL_law 0 = .ok (.new 7, 3) := by decide +kernel
theorem dL_law_3 : decode bL_law 3 = .ok (.dup, 1) := by decide +kernel
theorem dL_law_4 : decode bL_law 4 = .ok (.invokespecial 9, 3) := by decide +kernel
theorem dL_law_7 : decode bL_law 7 = .ok (.astore_n 1, 1) := by decide +kernel
theorem dL_law_8 : decode bL_law 8 = .ok (.new 10, 3) := by decide +kernel
theorem dL_law_11 : decode bL_law 11 = .ok (.dup, 1) := by decide +kernel
theorem dL_law_12 : decode bL_law 12 = .ok (.invokespecial 12, 3) := by decide +kernel
theorem dL_law_15 : decode bL_law 15 = .ok (.astore_n 2, 1) := by decide +kernel
theorem dL_law_16 : decode bL_law 16 = .ok (.iconst 0, 1) := by decide +kernel
theorem dL_law_17 : decode bL_law 17 = .ok (.istore_n 3, 1) := by decide +kernel
theorem dL_law_18 : decode bL_law 18 = .ok (.iload_n 3, 1) := by decide +kernel
theorem dL_law_19 : decode bL_law 19 = .ok (.aload_n 0, 1) := by decide +kernel
theorem dL_law_20 : decode bL_law 20 = .ok (.arraylength, 1) := by decide +kernel
theorem dL_law_21 : decode bL_law 21 = .ok (.bipush 6, 2) := by decide +kernel
theorem dL_law_23 : decode bL_law 23 = .ok (.isub, 1) := by decide +kernel
theorem dL_law_24 : decode bL_law 24 = .ok (.if_icmp .gt 708, 3) := by decide +kernel
theorem dL_law_27 : decode bL_law 27 = .ok (.aload_n 0, 1) := by decide +kernel
theorem dL_law_28 : decode bL_law 28 = .ok (.iload_n 3, 1) := by decide +kernel
theorem dL_law_29 : decode bL_law 29 = .ok (.iaload, 1) := by decide +kernel
theorem dL_law_30 : decode bL_law 30 = .ok (.bipush 31, 2) := by decide +kernel
theorem dL_law_32 : decode bL_law 32 = .ok (.iand, 1) := by decide +kernel
theorem dL_law_33 : decode bL_law 33 = .ok (.tableswitch 693 0 17 #[87, 110, 133, 192, 235, 308, 331, 354, 367, 400, 423, 446, 479, 512, 563, 614, 647, 670], 87) := by decide +kernel
theorem dL_law_120 : decode bL_law 120 = .ok (.aload_n 1, 1) := by decide +kernel
theorem dL_law_121 : decode bL_law 121 = .ok (.aload_n 0, 1) := by decide +kernel
theorem dL_law_122 : decode bL_law 122 = .ok (.iload_n 3, 1) := by decide +kernel
theorem dL_law_123 : decode bL_law 123 = .ok (.iconst 1, 1) := by decide +kernel
theorem dL_law_124 : decode bL_law 124 = .ok (.iadd, 1) := by decide +kernel
theorem dL_law_125 : decode bL_law 125 = .ok (.iaload, 1) := by decide +kernel
theorem dL_law_126 : decode bL_law 126 = .ok (.invokevirtual 13, 3) := by decide +kernel
theorem dL_law_129 : decode bL_law 129 = .ok (.aload_n 2, 1) := by decide +kernel
theorem dL_law_130 : decode bL_law 130 = .ok (.aload_n 0, 1) := by decide +kernel
theorem dL_law_131 : decode bL_law 131 = .ok (.iload_n 3, 1) := by decide +kernel
theorem dL_law_132 : decode bL_law 132 = .ok (.iconst 1, 1) := by decide +kernel
theorem dL_law_133 : decode bL_law 133 = .ok (.iadd, 1) := by decide +kernel
theorem dL_law_134 : decode bL_law 134 = .ok (.iaload, 1) := by decide +kernel
theorem dL_law_135 : decode bL_law 135 = .ok (.invokevirtual 17, 3) := by decide +kernel
theorem dL_law_138 : decode bL_law 138 = .ok (.if_icmp .eq 588, 3) := by decide +kernel
theorem dL_law_141 : decode bL_law 141 = .ok (.iconst 0, 1) := by decide +kernel
theorem dL_law_142 : decode bL_law 142 = .ok (.ireturn, 1) := by decide +kernel
theorem dL_law_143 : decode bL_law 143 = .ok (.aload_n 1, 1) := by decide +kernel
theorem dL_law_144 : decode bL_law 144 = .ok (.aload_n 0, 1) := by decide +kernel
theorem dL_law_145 : decode bL_law 145 = .ok (.iload_n 3, 1) := by decide +kernel
theorem dL_law_146 : decode bL_law 146 = .ok (.iconst 1, 1) := by decide +kernel
theorem dL_law_147 : decode bL_law 147 = .ok (.iadd, 1) := by decide +kernel
theorem dL_law_148 : decode bL_law 148 = .ok (.iaload, 1) := by decide +kernel
theorem dL_law_149 : decode bL_law 149 = .ok (.invokevirtual 18, 3) := by decide +kernel
theorem dL_law_152 : decode bL_law 152 = .ok (.aload_n 2, 1) := by decide +kernel
theorem dL_law_153 : decode bL_law 153 = .ok (.aload_n 0, 1) := by decide +kernel
theorem dL_law_154 : decode bL_law 154 = .ok (.iload_n 3, 1) := by decide +kernel
theorem dL_law_155 : decode bL_law 155 = .ok (.iconst 1, 1) := by decide +kernel
theorem dL_law_156 : decode bL_law 156 = .ok (.iadd, 1) := by decide +kernel
theorem dL_law_157 : decode bL_law 157 = .ok (.iaload, 1) := by decide +kernel
theorem dL_law_158 : decode bL_law 158 = .ok (.invokevirtual 21, 3) := by decide +kernel
theorem dL_law_161 : decode bL_law 161 = .ok (.if_icmp .eq 565, 3) := by decide +kernel
theorem dL_law_164 : decode bL_law 164 = .ok (.iconst 0, 1) := by decide +kernel
theorem dL_law_165 : decode bL_law 165 = .ok (.ireturn, 1) := by decide +kernel
theorem dL_law_166 : decode bL_law 166 = .ok (.aload_n 1, 1) := by decide +kernel
theorem dL_law_167 : decode bL_law 167 = .ok (.aload_n 0, 1) := by decide +kernel
theorem dL_law_168 : decode bL_law 168 = .ok (.iload_n 3, 1) := by decide +kernel
theorem dL_law_169 : decode bL_law 169 = .ok (.iconst 1, 1) := by decide +kernel
theorem dL_law_170 : decode bL_law 170 = .ok (.iadd, 1) := by decide +kernel
theorem dL_law_171 : decode bL_law 171 = .ok (.iaload, 1) := by decide +kernel
theorem dL_law_172 : decode bL_law 172 = .ok (.aload_n 0, 1) := by decide +kernel
theorem dL_law_173 : decode bL_law 173 = .ok (.iload_n 3, 1) := by decide +kernel
theorem dL_law_174 : decode bL_law 174 = .ok (.iconst 2, 1) := by decide +kernel
theorem dL_law_175 : decode bL_law 175 = .ok (.iadd, 1) := by decide +kernel
theorem dL_law_176 : decode bL_law 176 = .ok (.iaload, 1) := by decide +kernel
theorem dL_law_177 : decode bL_law 177 = .ok (.aload_n 0, 1) := by decide +kernel
theorem dL_law_178 : decode bL_law 178 = .ok (.iload_n 3, 1) := by decide +kernel
theorem dL_law_179 : decode bL_law 179 = .ok (.iconst 3, 1) := by decide +kernel
theorem dL_law_180 : decode bL_law 180 = .ok (.iadd, 1) := by decide +kernel
theorem dL_law_181 : decode bL_law 181 = .ok (.iaload, 1) := by decide +kernel
theorem dL_law_182 : decode bL_law 182 = .ok (.ifCond .eq 7, 3) := by decide +kernel
theorem dL_law_185 : decode bL_law 185 = .ok (.iconst 1, 1) := by decide +kernel
theorem dL_law_186 : decode bL_law 186 = .ok (.goto 4, 3) := by decide +kernel
theorem dL_law_189 : decode bL_law 189 = .ok (.iconst 0, 1) := by decide +kernel
theorem dL_law_190 : decode bL_law 190 = .ok (.invokevirtual 22, 3) := by decide +kernel
theorem dL_law_193 : decode bL_law 193 = .ok (.aload_n 2, 1) := by decide +kernel
theorem dL_law_194 : decode bL_law 194 = .ok (.aload_n 0, 1) := by decide +kernel
theorem dL_law_195 : decode bL_law 195 = .ok (.iload_n 3, 1) := by decide +kernel
theorem dL_law_196 : decode bL_law 196 = .ok (.iconst 1, 1) := by decide +kernel
theorem dL_law_197 : decode bL_law 197 = .ok (.iadd, 1) := by decide +kernel
theorem dL_law_198 : decode bL_law 198 = .ok (.iaload, 1) := by decide +kernel
theorem dL_law_199 : decode bL_law 199 = .ok (.aload_n 0, 1) := by decide +kernel
theorem dL_law_200 : decode bL_law 200 = .ok (.iload_n 3, 1) := by decide +kernel
theorem dL_law_201 : decode bL_law 201 = .ok (.iconst 2, 1) := by decide +kernel
theorem dL_law_202 : decode bL_law 202 = .ok (.iadd, 1) := by decide +kernel
theorem dL_law_203 : decode bL_law 203 = .ok (.iaload, 1) := by decide +kernel
theorem dL_law_204 : decode bL_law 204 = .ok (.aload_n 0, 1) := by decide +kernel
theorem dL_law_205 : decode bL_law 205 = .ok (.iload_n 3, 1) := by decide +kernel
theorem dL_law_206 : decode bL_law 206 = .ok (.iconst 3, 1) := by decide +kernel
theorem dL_law_207 : decode bL_law 207 = .ok (.iadd, 1) := by decide +kernel
theorem dL_law_208 : decode bL_law 208 = .ok (.iaload, 1) := by decide +kernel
theorem dL_law_209 : decode bL_law 209 = .ok (.ifCond .eq 7, 3) := by decide +kernel
theorem dL_law_212 : decode bL_law 212 = .ok (.iconst 1, 1) := by decide +kernel
theorem dL_law_213 : decode bL_law 213 = .ok (.goto 4, 3) := by decide +kernel
theorem dL_law_216 : decode bL_law 216 = .ok (.iconst 0, 1) := by decide +kernel
theorem dL_law_217 : decode bL_law 217 = .ok (.invokevirtual 26, 3) := by decide +kernel
theorem dL_law_220 : decode bL_law 220 = .ok (.if_icmp .eq 506, 3) := by decide +kernel
theorem dL_law_223 : decode bL_law 223 = .ok (.iconst 0, 1) := by decide +kernel
theorem dL_law_224 : decode bL_law 224 = .ok (.ireturn, 1) := by decide +kernel
theorem dL_law_225 : decode bL_law 225 = .ok (.aload_n 1, 1) := by decide +kernel
theorem dL_law_226 : decode bL_law 226 = .ok (.aload_n 0, 1) := by decide +kernel
theorem dL_law_227 : decode bL_law 227 = .ok (.iload_n 3, 1) := by decide +kernel
theorem dL_law_228 : decode bL_law 228 = .ok (.iconst 1, 1) := by decide +kernel
theorem dL_law_229 : decode bL_law 229 = .ok (.iadd, 1) := by decide +kernel
theorem dL_law_230 : decode bL_law 230 = .ok (.iaload, 1) := by decide +kernel
theorem dL_law_231 : decode bL_law 231 = .ok (.aload_n 0, 1) := by decide +kernel
theorem dL_law_232 : decode bL_law 232 = .ok (.iload_n 3, 1) := by decide +kernel
theorem dL_law_233 : decode bL_law 233 = .ok (.iconst 2, 1) := by decide +kernel
theorem dL_law_234 : decode bL_law 234 = .ok (.iadd, 1) := by decide +kernel
theorem dL_law_235 : decode bL_law 235 = .ok (.iaload, 1) := by decide +kernel
theorem dL_law_236 : decode bL_law 236 = .ok (.aload_n 0, 1) := by decide +kernel
theorem dL_law_237 : decode bL_law 237 = .ok (.iload_n 3, 1) := by decide +kernel
theorem dL_law_238 : decode bL_law 238 = .ok (.iconst 3, 1) := by decide +kernel
theorem dL_law_239 : decode bL_law 239 = .ok (.iadd, 1) := by decide +kernel
theorem dL_law_240 : decode bL_law 240 = .ok (.iaload, 1) := by decide +kernel
theorem dL_law_241 : decode bL_law 241 = .ok (.invokevirtual 27, 3) := by decide +kernel
theorem dL_law_244 : decode bL_law 244 = .ok (.aload_n 2, 1) := by decide +kernel
theorem dL_law_245 : decode bL_law 245 = .ok (.aload_n 0, 1) := by decide +kernel
theorem dL_law_246 : decode bL_law 246 = .ok (.iload_n 3, 1) := by decide +kernel
theorem dL_law_247 : decode bL_law 247 = .ok (.iconst 1, 1) := by decide +kernel
theorem dL_law_248 : decode bL_law 248 = .ok (.iadd, 1) := by decide +kernel
theorem dL_law_249 : decode bL_law 249 = .ok (.iaload, 1) := by decide +kernel
theorem dL_law_250 : decode bL_law 250 = .ok (.aload_n 0, 1) := by decide +kernel
theorem dL_law_251 : decode bL_law 251 = .ok (.iload_n 3, 1) := by decide +kernel
theorem dL_law_252 : decode bL_law 252 = .ok (.iconst 2, 1) := by decide +kernel
theorem dL_law_253 : decode bL_law 253 = .ok (.iadd, 1) := by decide +kernel
theorem dL_law_254 : decode bL_law 254 = .ok (.iaload, 1) := by decide +kernel
theorem dL_law_255 : decode bL_law 255 = .ok (.aload_n 0, 1) := by decide +kernel
theorem dL_law_256 : decode bL_law 256 = .ok (.iload_n 3, 1) := by decide +kernel
theorem dL_law_257 : decode bL_law 257 = .ok (.iconst 3, 1) := by decide +kernel
theorem dL_law_258 : decode bL_law 258 = .ok (.iadd, 1) := by decide +kernel
theorem dL_law_259 : decode bL_law 259 = .ok (.iaload, 1) := by decide +kernel
theorem dL_law_260 : decode bL_law 260 = .ok (.invokevirtual 31, 3) := by decide +kernel
theorem dL_law_263 : decode bL_law 263 = .ok (.if_icmp .eq 463, 3) := by decide +kernel
theorem dL_law_266 : decode bL_law 266 = .ok (.iconst 0, 1) := by decide +kernel
theorem dL_law_267 : decode bL_law 267 = .ok (.ireturn, 1) := by decide +kernel
theorem dL_law_268 : decode bL_law 268 = .ok (.aload_n 1, 1) := by decide +kernel
theorem dL_law_269 : decode bL_law 269 = .ok (.aload_n 0, 1) := by decide +kernel
theorem dL_law_270 : decode bL_law 270 = .ok (.iload_n 3, 1) := by decide +kernel
theorem dL_law_271 : decode bL_law 271 = .ok (.iconst 1, 1) := by decide +kernel
theorem dL_law_272 : decode bL_law 272 = .ok (.iadd, 1) := by decide +kernel
theorem dL_law_273 : decode bL_law 273 = .ok (.iaload, 1) := by decide +kernel
theorem dL_law_274 : decode bL_law 274 = .ok (.aload_n 0, 1) := by decide +kernel
theorem dL_law_275 : decode bL_law 275 = .ok (.iload_n 3, 1) := by decide +kernel
theorem dL_law_276 : decode bL_law 276 = .ok (.iconst 2, 1) := by decide +kernel
theorem dL_law_277 : decode bL_law 277 = .ok (.iadd, 1) := by decide +kernel
theorem dL_law_278 : decode bL_law 278 = .ok (.iaload, 1) := by decide +kernel
theorem dL_law_279 : decode bL_law 279 = .ok (.aload_n 0, 1) := by decide +kernel
theorem dL_law_280 : decode bL_law 280 = .ok (.iload_n 3, 1) := by decide +kernel
theorem dL_law_281 : decode bL_law 281 = .ok (.iconst 3, 1) := by decide +kernel
theorem dL_law_282 : decode bL_law 282 = .ok (.iadd, 1) := by decide +kernel
theorem dL_law_283 : decode bL_law 283 = .ok (.iaload, 1) := by decide +kernel
theorem dL_law_284 : decode bL_law 284 = .ok (.aload_n 0, 1) := by decide +kernel
theorem dL_law_285 : decode bL_law 285 = .ok (.iload_n 3, 1) := by decide +kernel
theorem dL_law_286 : decode bL_law 286 = .ok (.iconst 4, 1) := by decide +kernel
theorem dL_law_287 : decode bL_law 287 = .ok (.iadd, 1) := by decide +kernel
theorem dL_law_288 : decode bL_law 288 = .ok (.iaload, 1) := by decide +kernel
theorem dL_law_289 : decode bL_law 289 = .ok (.aload_n 0, 1) := by decide +kernel
theorem dL_law_290 : decode bL_law 290 = .ok (.iload_n 3, 1) := by decide +kernel
theorem dL_law_291 : decode bL_law 291 = .ok (.iconst 5, 1) := by decide +kernel
theorem dL_law_292 : decode bL_law 292 = .ok (.iadd, 1) := by decide +kernel
theorem dL_law_293 : decode bL_law 293 = .ok (.iaload, 1) := by decide +kernel
theorem dL_law_294 : decode bL_law 294 = .ok (.i2d, 1) := by decide +kernel
theorem dL_law_295 : decode bL_law 295 = .ok (.ldc2_w 32, 3) := by decide +kernel
theorem dL_law_298 : decode bL_law 298 = .ok (.dmul, 1) := by decide +kernel
theorem dL_law_299 : decode bL_law 299 = .ok (.invokevirtual 34, 3) := by decide +kernel
theorem dL_law_302 : decode bL_law 302 = .ok (.aload_n 2, 1) := by decide +kernel
theorem dL_law_303 : decode bL_law 303 = .ok (.aload_n 0, 1) := by decide +kernel
theorem dL_law_304 : decode bL_law 304 = .ok (.iload_n 3, 1) := by decide +kernel
theorem dL_law_305 : decode bL_law 305 = .ok (.iconst 1, 1) := by decide +kernel
theorem dL_law_306 : decode bL_law 306 = .ok (.iadd, 1) := by decide +kernel
theorem dL_law_307 : decode bL_law 307 = .ok (.iaload, 1) := by decide +kernel
theorem dL_law_308 : decode bL_law 308 = .ok (.aload_n 0, 1) := by decide +kernel
theorem dL_law_309 : decode bL_law 309 = .ok (.iload_n 3, 1) := by decide +kernel
theorem dL_law_310 : decode bL_law 310 = .ok (.iconst 2, 1) := by decide +kernel
theorem dL_law_311 : decode bL_law 311 = .ok (.iadd, 1) := by decide +kernel
theorem dL_law_312 : decode bL_law 312 = .ok (.iaload, 1) := by decide +kernel
theorem dL_law_313 : decode bL_law 313 = .ok (.aload_n 0, 1) := by decide +kernel
theorem dL_law_314 : decode bL_law 314 = .ok (.iload_n 3, 1) := by decide +kernel
theorem dL_law_315 : decode bL_law 315 = .ok (.iconst 3, 1) := by decide +kernel
theorem dL_law_316 : decode bL_law 316 = .ok (.iadd, 1) := by decide +kernel
theorem dL_law_317 : decode bL_law 317 = .ok (.iaload, 1) := by decide +kernel
theorem dL_law_318 : decode bL_law 318 = .ok (.aload_n 0, 1) := by decide +kernel
theorem dL_law_319 : decode bL_law 319 = .ok (.iload_n 3, 1) := by decide +kernel
theorem dL_law_320 : decode bL_law 320 = .ok (.iconst 4, 1) := by decide +kernel
theorem dL_law_321 : decode bL_law 321 = .ok (.iadd, 1) := by decide +kernel
theorem dL_law_322 : decode bL_law 322 = .ok (.iaload, 1) := by decide +kernel
theorem dL_law_323 : decode bL_law 323 = .ok (.aload_n 0, 1) := by decide +kernel
theorem dL_law_324 : decode bL_law 324 = .ok (.iload_n 3, 1) := by decide +kernel
theorem dL_law_325 : decode bL_law 325 = .ok (.iconst 5, 1) := by decide +kernel
theorem dL_law_326 : decode bL_law 326 = .ok (.iadd, 1) := by decide +kernel
theorem dL_law_327 : decode bL_law 327 = .ok (.iaload, 1) := by decide +kernel
theorem dL_law_328 : decode bL_law 328 = .ok (.i2d, 1) := by decide +kernel
theorem dL_law_329 : decode bL_law 329 = .ok (.ldc2_w 32, 3) := by decide +kernel
theorem dL_law_332 : decode bL_law 332 = .ok (.dmul, 1) := by decide +kernel
theorem dL_law_333 : decode bL_law 333 = .ok (.invokevirtual 38, 3) := by decide +kernel
theorem dL_law_336 : decode bL_law 336 = .ok (.if_icmp .eq 390, 3) := by decide +kernel
theorem dL_law_339 : decode bL_law 339 = .ok (.iconst 0, 1) := by decide +kernel
theorem dL_law_340 : decode bL_law 340 = .ok (.ireturn, 1) := by decide +kernel
theorem dL_law_341 : decode bL_law 341 = .ok (.aload_n 1, 1) := by decide +kernel
theorem dL_law_342 : decode bL_law 342 = .ok (.aload_n 0, 1) := by decide +kernel
theorem dL_law_343 : decode bL_law 343 = .ok (.iload_n 3, 1) := by decide +kernel
theorem dL_law_344 : decode bL_law 344 = .ok (.iconst 1, 1) := by decide +kernel
theorem dL_law_345 : decode bL_law 345 = .ok (.iadd, 1) := by decide +kernel
theorem dL_law_346 : decode bL_law 346 = .ok (.iaload, 1) := by decide +kernel
theorem dL_law_347 : decode bL_law 347 = .ok (.invokevirtual 39, 3) := by decide +kernel
theorem dL_law_350 : decode bL_law 350 = .ok (.aload_n 2, 1) := by decide +kernel
theorem dL_law_351 : decode bL_law 351 = .ok (.aload_n 0, 1) := by decide +kernel
theorem dL_law_352 : decode bL_law 352 = .ok (.iload_n 3, 1) := by decide +kernel
theorem dL_law_353 : decode bL_law 353 = .ok (.iconst 1, 1) := by decide +kernel
theorem dL_law_354 : decode bL_law 354 = .ok (.iadd, 1) := by decide +kernel
theorem dL_law_355 : decode bL_law 355 = .ok (.iaload, 1) := by decide +kernel
theorem dL_law_356 : decode bL_law 356 = .ok (.invokevirtual 42, 3) := by decide +kernel
theorem dL_law_359 : decode bL_law 359 = .ok (.if_icmp .eq 367, 3) := by decide +kernel
theorem dL_law_362 : decode bL_law 362 = .ok (.iconst 0, 1) := by decide +kernel
theorem dL_law_363 : decode bL_law 363 = .ok (.ireturn, 1) := by decide +kernel
theorem dL_law_364 : decode bL_law 364 = .ok (.aload_n 1, 1) := by decide +kernel
theorem dL_law_365 : decode bL_law 365 = .ok (.aload_n 0, 1) := by decide +kernel
theorem dL_law_366 : decode bL_law 366 = .ok (.iload_n 3, 1) := by decide +kernel
theorem dL_law_367 : decode bL_law 367 = .ok (.iconst 1, 1) := by decide +kernel
theorem dL_law_368 : decode bL_law 368 = .ok (.iadd, 1) := by decide +kernel
theorem dL_law_369 : decode bL_law 369 = .ok (.iaload, 1) := by decide +kernel
theorem dL_law_370 : decode bL_law 370 = .ok (.invokevirtual 43, 3) := by decide +kernel
theorem dL_law_373 : decode bL_law 373 = .ok (.aload_n 2, 1) := by decide +kernel
theorem dL_law_374 : decode bL_law 374 = .ok (.aload_n 0, 1) := by decide +kernel
theorem dL_law_375 : decode bL_law 375 = .ok (.iload_n 3, 1) := by decide +kernel
theorem dL_law_376 : decode bL_law 376 = .ok (.iconst 1, 1) := by decide +kernel
theorem dL_law_377 : decode bL_law 377 = .ok (.iadd, 1) := by decide +kernel
theorem dL_law_378 : decode bL_law 378 = .ok (.iaload, 1) := by decide +kernel
theorem dL_law_379 : decode bL_law 379 = .ok (.invokevirtual 46, 3) := by decide +kernel
theorem dL_law_382 : decode bL_law 382 = .ok (.if_icmp .eq 344, 3) := by decide +kernel
theorem dL_law_385 : decode bL_law 385 = .ok (.iconst 0, 1) := by decide +kernel
theorem dL_law_386 : decode bL_law 386 = .ok (.ireturn, 1) := by decide +kernel
theorem dL_law_387 : decode bL_law 387 = .ok (.aload_n 1, 1) := by decide +kernel
theorem dL_law_388 : decode bL_law 388 = .ok (.invokevirtual 47, 3) := by decide +kernel
theorem dL_law_391 : decode bL_law 391 = .ok (.aload_n 2, 1) := by decide +kernel
theorem dL_law_392 : decode bL_law 392 = .ok (.invokevirtual 51, 3) := by decide +kernel
theorem dL_law_395 : decode bL_law 395 = .ok (.if_icmp .eq 331, 3) := by decide +kernel
theorem dL_law_398 : decode bL_law 398 = .ok (.iconst 0, 1) := by decide +kernel
theorem dL_law_399 : decode bL_law 399 = .ok (.ireturn, 1) := by decide +kernel
theorem dL_law_400 : decode bL_law 400 = .ok (.aload_n 1, 1) := by decide +kernel
theorem dL_law_401 : decode bL_law 401 = .ok (.aload_n 0, 1) := by decide +kernel
theorem dL_law_402 : decode bL_law 402 = .ok (.iload_n 3, 1) := by decide +kernel
theorem dL_law_403 : decode bL_law 403 = .ok (.iconst 1, 1) := by decide +kernel
theorem dL_law_404 : decode bL_law 404 = .ok (.iadd, 1) := by decide +kernel
theorem dL_law_405 : decode bL_law 405 = .ok (.iaload, 1) := by decide +kernel
theorem dL_law_406 : decode bL_law 406 = .ok (.aload_n 0, 1) := by decide +kernel
theorem dL_law_407 : decode bL_law 407 = .ok (.iload_n 3, 1) := by decide +kernel
theorem dL_law_408 : decode bL_law 408 = .ok (.iconst 2, 1) := by decide +kernel
theorem dL_law_409 : decode bL_law 409 = .ok (.iadd, 1) := by decide +kernel
theorem dL_law_410 : decode bL_law 410 = .ok (.iaload, 1) := by decide +kernel
theorem dL_law_411 : decode bL_law 411 = .ok (.invokevirtual 52, 3) := by decide +kernel
theorem dL_law_414 : decode bL_law 414 = .ok (.aload_n 2, 1) := by decide +kernel
theorem dL_law_415 : decode bL_law 415 = .ok (.aload_n 0, 1) := by decide +kernel
theorem dL_law_416 : decode bL_law 416 = .ok (.iload_n 3, 1) := by decide +kernel
theorem dL_law_417 : decode bL_law 417 = .ok (.iconst 1, 1) := by decide +kernel
theorem dL_law_418 : decode bL_law 418 = .ok (.iadd, 1) := by decide +kernel
theorem dL_law_419 : decode bL_law 419 = .ok (.iaload, 1) := by decide +kernel
theorem dL_law_420 : decode bL_law 420 = .ok (.aload_n 0, 1) := by decide +kernel
theorem dL_law_421 : decode bL_law 421 = .ok (.iload_n 3, 1) := by decide +kernel
theorem dL_law_422 : decode bL_law 422 = .ok (.iconst 2, 1) := by decide +kernel
theorem dL_law_423 : decode bL_law 423 = .ok (.iadd, 1) := by decide +kernel
theorem dL_law_424 : decode bL_law 424 = .ok (.iaload, 1) := by decide +kernel
theorem dL_law_425 : decode bL_law 425 = .ok (.invokevirtual 56, 3) := by decide +kernel
theorem dL_law_428 : decode bL_law 428 = .ok (.if_icmp .eq 298, 3) := by decide +kernel
theorem dL_law_431 : decode bL_law 431 = .ok (.iconst 0, 1) := by decide +kernel
theorem dL_law_432 : decode bL_law 432 = .ok (.ireturn, 1) := by decide +kernel
theorem dL_law_433 : decode bL_law 433 = .ok (.aload_n 1, 1) := by decide +kernel
theorem dL_law_434 : decode bL_law 434 = .ok (.aload_n 0, 1) := by decide +kernel
theorem dL_law_435 : decode bL_law 435 = .ok (.iload_n 3, 1) := by decide +kernel
theorem dL_law_436 : decode bL_law 436 = .ok (.iconst 1, 1) := by decide +kernel
theorem dL_law_437 : decode bL_law 437 = .ok (.iadd, 1) := by decide +kernel
theorem dL_law_438 : decode bL_law 438 = .ok (.iaload, 1) := by decide +kernel
theorem dL_law_439 : decode bL_law 439 = .ok (.invokevirtual 57, 3) := by decide +kernel
theorem dL_law_442 : decode bL_law 442 = .ok (.aload_n 2, 1) := by decide +kernel
theorem dL_law_443 : decode bL_law 443 = .ok (.aload_n 0, 1) := by decide +kernel
theorem dL_law_444 : decode bL_law 444 = .ok (.iload_n 3, 1) := by decide +kernel
theorem dL_law_445 : decode bL_law 445 = .ok (.iconst 1, 1) := by decide +kernel
theorem dL_law_446 : decode bL_law 446 = .ok (.iadd, 1) := by decide +kernel
theorem dL_law_447 : decode bL_law 447 = .ok (.iaload, 1) := by decide +kernel
theorem dL_law_448 : decode bL_law 448 = .ok (.invokevirtual 60, 3) := by decide +kernel
theorem dL_law_451 : decode bL_law 451 = .ok (.if_icmp .eq 275, 3) := by decide +kernel
theorem dL_law_454 : decode bL_law 454 = .ok (.iconst 0, 1) := by decide +kernel
theorem dL_law_455 : decode bL_law 455 = .ok (.ireturn, 1) := by decide +kernel
theorem dL_law_456 : decode bL_law 456 = .ok (.aload_n 1, 1) := by decide +kernel
theorem dL_law_457 : decode bL_law 457 = .ok (.aload_n 0, 1) := by decide +kernel
theorem dL_law_458 : decode bL_law 458 = .ok (.iload_n 3, 1) := by decide +kernel
theorem dL_law_459 : decode bL_law 459 = .ok (.iconst 1, 1) := by decide +kernel
theorem dL_law_460 : decode bL_law 460 = .ok (.iadd, 1) := by decide +kernel
theorem dL_law_461 : decode bL_law 461 = .ok (.iaload, 1) := by decide +kernel
theorem dL_law_462 : decode bL_law 462 = .ok (.invokevirtual 61, 3) := by decide +kernel
theorem dL_law_465 : decode bL_law 465 = .ok (.aload_n 2, 1) := by decide +kernel
theorem dL_law_466 : decode bL_law 466 = .ok (.aload_n 0, 1) := by decide +kernel
theorem dL_law_467 : decode bL_law 467 = .ok (.iload_n 3, 1) := by decide +kernel
theorem dL_law_468 : decode bL_law 468 = .ok (.iconst 1, 1) := by decide +kernel
theorem dL_law_469 : decode bL_law 469 = .ok (.iadd, 1) := by decide +kernel
theorem dL_law_470 : decode bL_law 470 = .ok (.iaload, 1) := by decide +kernel
theorem dL_law_471 : decode bL_law 471 = .ok (.invokevirtual 64, 3) := by decide +kernel
theorem dL_law_474 : decode bL_law 474 = .ok (.if_icmp .eq 252, 3) := by decide +kernel
theorem dL_law_477 : decode bL_law 477 = .ok (.iconst 0, 1) := by decide +kernel
theorem dL_law_478 : decode bL_law 478 = .ok (.ireturn, 1) := by decide +kernel
theorem dL_law_479 : decode bL_law 479 = .ok (.aload_n 1, 1) := by decide +kernel
theorem dL_law_480 : decode bL_law 480 = .ok (.aload_n 0, 1) := by decide +kernel
theorem dL_law_481 : decode bL_law 481 = .ok (.iload_n 3, 1) := by decide +kernel
theorem dL_law_482 : decode bL_law 482 = .ok (.iconst 1, 1) := by decide +kernel
theorem dL_law_483 : decode bL_law 483 = .ok (.iadd, 1) := by decide +kernel
theorem dL_law_484 : decode bL_law 484 = .ok (.iaload, 1) := by decide +kernel
theorem dL_law_485 : decode bL_law 485 = .ok (.aload_n 0, 1) := by decide +kernel
theorem dL_law_486 : decode bL_law 486 = .ok (.iload_n 3, 1) := by decide +kernel
theorem dL_law_487 : decode bL_law 487 = .ok (.iconst 2, 1) := by decide +kernel
theorem dL_law_488 : decode bL_law 488 = .ok (.iadd, 1) := by decide +kernel
theorem dL_law_489 : decode bL_law 489 = .ok (.iaload, 1) := by decide +kernel
theorem dL_law_490 : decode bL_law 490 = .ok (.invokevirtual 65, 3) := by decide +kernel
theorem dL_law_493 : decode bL_law 493 = .ok (.aload_n 2, 1) := by decide +kernel
theorem dL_law_494 : decode bL_law 494 = .ok (.aload_n 0, 1) := by decide +kernel
theorem dL_law_495 : decode bL_law 495 = .ok (.iload_n 3, 1) := by decide +kernel
theorem dL_law_496 : decode bL_law 496 = .ok (.iconst 1, 1) := by decide +kernel
theorem dL_law_497 : decode bL_law 497 = .ok (.iadd, 1) := by decide +kernel
theorem dL_law_498 : decode bL_law 498 = .ok (.iaload, 1) := by decide +kernel
theorem dL_law_499 : decode bL_law 499 = .ok (.aload_n 0, 1) := by decide +kernel
theorem dL_law_500 : decode bL_law 500 = .ok (.iload_n 3, 1) := by decide +kernel
theorem dL_law_501 : decode bL_law 501 = .ok (.iconst 2, 1) := by decide +kernel
theorem dL_law_502 : decode bL_law 502 = .ok (.iadd, 1) := by decide +kernel
theorem dL_law_503 : decode bL_law 503 = .ok (.iaload, 1) := by decide +kernel
theorem dL_law_504 : decode bL_law 504 = .ok (.invokevirtual 68, 3) := by decide +kernel
theorem dL_law_507 : decode bL_law 507 = .ok (.if_icmp .eq 219, 3) := by decide +kernel
theorem dL_law_510 : decode bL_law 510 = .ok (.iconst 0, 1) := by decide +kernel
theorem dL_law_511 : decode bL_law 511 = .ok (.ireturn, 1) := by decide +kernel
theorem dL_law_512 : decode bL_law 512 = .ok (.aload_n 1, 1) := by decide +kernel
theorem dL_law_513 : decode bL_law 513 = .ok (.aload_n 0, 1) := by decide +kernel
theorem dL_law_514 : decode bL_law 514 = .ok (.iload_n 3, 1) := by decide +kernel
theorem dL_law_515 : decode bL_law 515 = .ok (.iconst 1, 1) := by decide +kernel
theorem dL_law_516 : decode bL_law 516 = .ok (.iadd, 1) := by decide +kernel
theorem dL_law_517 : decode bL_law 517 = .ok (.iaload, 1) := by decide +kernel
theorem dL_law_518 : decode bL_law 518 = .ok (.aload_n 0, 1) := by decide +kernel
theorem dL_law_519 : decode bL_law 519 = .ok (.iload_n 3, 1) := by decide +kernel
theorem dL_law_520 : decode bL_law 520 = .ok (.iconst 2, 1) := by decide +kernel
theorem dL_law_521 : decode bL_law 521 = .ok (.iadd, 1) := by decide +kernel
theorem dL_law_522 : decode bL_law 522 = .ok (.iaload, 1) := by decide +kernel
theorem dL_law_523 : decode bL_law 523 = .ok (.invokevirtual 69, 3) := by decide +kernel
theorem dL_law_526 : decode bL_law 526 = .ok (.aload_n 2, 1) := by decide +kernel
theorem dL_law_527 : decode bL_law 527 = .ok (.aload_n 0, 1) := by decide +kernel
theorem dL_law_528 : decode bL_law 528 = .ok (.iload_n 3, 1) := by decide +kernel
theorem dL_law_529 : decode bL_law 529 = .ok (.iconst 1, 1) := by decide +kernel
theorem dL_law_530 : decode bL_law 530 = .ok (.iadd, 1) := by decide +kernel
theorem dL_law_531 : decode bL_law 531 = .ok (.iaload, 1) := by decide +kernel
theorem dL_law_532 : decode bL_law 532 = .ok (.aload_n 0, 1) := by decide +kernel
theorem dL_law_533 : decode bL_law 533 = .ok (.iload_n 3, 1) := by decide +kernel
theorem dL_law_534 : decode bL_law 534 = .ok (.iconst 2, 1) := by decide +kernel
theorem dL_law_535 : decode bL_law 535 = .ok (.iadd, 1) := by decide +kernel
theorem dL_law_536 : decode bL_law 536 = .ok (.iaload, 1) := by decide +kernel
theorem dL_law_537 : decode bL_law 537 = .ok (.invokevirtual 72, 3) := by decide +kernel
theorem dL_law_540 : decode bL_law 540 = .ok (.if_icmp .eq 186, 3) := by decide +kernel
theorem dL_law_543 : decode bL_law 543 = .ok (.iconst 0, 1) := by decide +kernel
theorem dL_law_544 : decode bL_law 544 = .ok (.ireturn, 1) := by decide +kernel
theorem dL_law_545 : decode bL_law 545 = .ok (.aload_n 1, 1) := by decide +kernel
theorem dL_law_546 : decode bL_law 546 = .ok (.aload_n 0, 1) := by decide +kernel
theorem dL_law_547 : decode bL_law 547 = .ok (.iload_n 3, 1) := by decide +kernel
theorem dL_law_548 : decode bL_law 548 = .ok (.iconst 1, 1) := by decide +kernel
theorem dL_law_549 : decode bL_law 549 = .ok (.iadd, 1) := by decide +kernel
theorem dL_law_550 : decode bL_law 550 = .ok (.iaload, 1) := by decide +kernel
theorem dL_law_551 : decode bL_law 551 = .ok (.invokevirtual 73, 3) := by decide +kernel
theorem dL_law_554 : decode bL_law 554 = .ok (.dstore 4, 2) := by decide +kernel
theorem dL_law_556 : decode bL_law 556 = .ok (.aload_n 2, 1) := by decide +kernel
theorem dL_law_557 : decode bL_law 557 = .ok (.aload_n 0, 1) := by decide +kernel
theorem dL_law_558 : decode bL_law 558 = .ok (.iload_n 3, 1) := by decide +kernel
theorem dL_law_559 : decode bL_law 559 = .ok (.iconst 1, 1) := by decide +kernel
theorem dL_law_560 : decode bL_law 560 = .ok (.iadd, 1) := by decide +kernel
theorem dL_law_561 : decode bL_law 561 = .ok (.iaload, 1) := by decide +kernel
theorem dL_law_562 : decode bL_law 562 = .ok (.invokevirtual 77, 3) := by decide +kernel
theorem dL_law_565 : decode bL_law 565 = .ok (.dstore 6, 2) := by decide +kernel
theorem dL_law_567 : decode bL_law 567 = .ok (.dload 4, 2) := by decide +kernel
theorem dL_law_569 : decode bL_law 569 = .ok (.dload 6, 2) := by decide +kernel
theorem dL_law_571 : decode bL_law 571 = .ok (.dcmp .l, 1) := by decide +kernel
theorem dL_law_572 : decode bL_law 572 = .ok (.ifCond .eq 21, 3) := by decide +kernel
theorem dL_law_575 : decode bL_law 575 = .ok (.dload 4, 2) := by decide +kernel
theorem dL_law_577 : decode bL_law 577 = .ok (.dload 4, 2) := by decide +kernel
theorem dL_law_579 : decode bL_law 579 = .ok (.dcmp .l, 1) := by decide +kernel
theorem dL_law_580 : decode bL_law 580 = .ok (.ifCond .eq 11, 3) := by decide +kernel
theorem dL_law_583 : decode bL_law 583 = .ok (.dload 6, 2) := by decide +kernel
theorem dL_law_585 : decode bL_law 585 = .ok (.dload 6, 2) := by decide +kernel
theorem dL_law_587 : decode bL_law 587 = .ok (.dcmp .l, 1) := by decide +kernel
theorem dL_law_588 : decode bL_law 588 = .ok (.ifCond .ne 5, 3) := by decide +kernel
theorem dL_law_591 : decode bL_law 591 = .ok (.iconst 0, 1) := by decide +kernel
theorem dL_law_592 : decode bL_law 592 = .ok (.ireturn, 1) := by decide +kernel
theorem dL_law_593 : decode bL_law 593 = .ok (.goto 133, 3) := by decide +kernel
theorem dL_law_596 : decode bL_law 596 = .ok (.aload_n 1, 1) := by decide +kernel
theorem dL_law_597 : decode bL_law 597 = .ok (.aload_n 0, 1) := by decide +kernel
theorem dL_law_598 : decode bL_law 598 = .ok (.iload_n 3, 1) := by decide +kernel
theorem dL_law_599 : decode bL_law 599 = .ok (.iconst 1, 1) := by decide +kernel
theorem dL_law_600 : decode bL_law 600 = .ok (.iadd, 1) := by decide +kernel
theorem dL_law_601 : decode bL_law 601 = .ok (.iaload, 1) := by decide +kernel
theorem dL_law_602 : decode bL_law 602 = .ok (.invokevirtual 78, 3) := by decide +kernel
theorem dL_law_605 : decode bL_law 605 = .ok (.dstore 4, 2) := by decide +kernel
theorem dL_law_607 : decode bL_law 607 = .ok (.aload_n 2, 1) := by decide +kernel
theorem dL_law_608 : decode bL_law 608 = .ok (.aload_n 0, 1) := by decide +kernel
theorem dL_law_609 : decode bL_law 609 = .ok (.iload_n 3, 1) := by decide +kernel
theorem dL_law_610 : decode bL_law 610 = .ok (.iconst 1, 1) := by decide +kernel
theorem dL_law_611 : decode bL_law 611 = .ok (.iadd, 1) := by decide +kernel
theorem dL_law_612 : decode bL_law 612 = .ok (.iaload, 1) := by decide +kernel
theorem dL_law_613 : decode bL_law 613 = .ok (.invokevirtual 81, 3) := by decide +kernel
theorem dL_law_616 : decode bL_law 616 = .ok (.dstore 6, 2) := by decide +kernel
theorem dL_law_618 : decode bL_law 618 = .ok (.dload 4, 2) := by decide +kernel
theorem dL_law_620 : decode bL_law 620 = .ok (.dload 6, 2) := by decide +kernel
theorem dL_law_622 : decode bL_law 622 = .ok (.dcmp .l, 1) := by decide +kernel
theorem dL_law_623 : decode bL_law 623 = .ok (.ifCond .eq 21, 3) := by decide +kernel
theorem dL_law_626 : decode bL_law 626 = .ok (.dload 4, 2) := by decide +kernel
theorem dL_law_628 : decode bL_law 628 = .ok (.dload 4, 2) := by decide +kernel
theorem dL_law_630 : decode bL_law 630 = .ok (.dcmp .l, 1) := by decide +kernel
theorem dL_law_631 : decode bL_law 631 = .ok (.ifCond .eq 11, 3) := by decide +kernel
theorem dL_law_634 : decode bL_law 634 = .ok (.dload 6, 2) := by decide +kernel
theorem dL_law_636 : decode bL_law 636 = .ok (.dload 6, 2) := by decide +kernel
theorem dL_law_638 : decode bL_law 638 = .ok (.dcmp .l, 1) := by decide +kernel
theorem dL_law_639 : decode bL_law 639 = .ok (.ifCond .ne 5, 3) := by decide +kernel
theorem dL_law_642 : decode bL_law 642 = .ok (.iconst 0, 1) := by decide +kernel
theorem dL_law_643 : decode bL_law 643 = .ok (.ireturn, 1) := by decide +kernel
theorem dL_law_644 : decode bL_law 644 = .ok (.goto 82, 3) := by decide +kernel
theorem dL_law_647 : decode bL_law 647 = .ok (.aload_n 1, 1) := by decide +kernel
theorem dL_law_648 : decode bL_law 648 = .ok (.aload_n 0, 1) := by decide +kernel
theorem dL_law_649 : decode bL_law 649 = .ok (.iload_n 3, 1) := by decide +kernel
theorem dL_law_650 : decode bL_law 650 = .ok (.iconst 1, 1) := by decide +kernel
theorem dL_law_651 : decode bL_law 651 = .ok (.iadd, 1) := by decide +kernel
theorem dL_law_652 : decode bL_law 652 = .ok (.iaload, 1) := by decide +kernel
theorem dL_law_653 : decode bL_law 653 = .ok (.aload_n 0, 1) := by decide +kernel
theorem dL_law_654 : decode bL_law 654 = .ok (.iload_n 3, 1) := by decide +kernel
theorem dL_law_655 : decode bL_law 655 = .ok (.iconst 2, 1) := by decide +kernel
theorem dL_law_656 : decode bL_law 656 = .ok (.iadd, 1) := by decide +kernel
theorem dL_law_657 : decode bL_law 657 = .ok (.iaload, 1) := by decide +kernel
theorem dL_law_658 : decode bL_law 658 = .ok (.invokevirtual 82, 3) := by decide +kernel
theorem dL_law_661 : decode bL_law 661 = .ok (.aload_n 2, 1) := by decide +kernel
theorem dL_law_662 : decode bL_law 662 = .ok (.aload_n 0, 1) := by decide +kernel
theorem dL_law_663 : decode bL_law 663 = .ok (.iload_n 3, 1) := by decide +kernel
theorem dL_law_664 : decode bL_law 664 = .ok (.iconst 1, 1) := by decide +kernel
theorem dL_law_665 : decode bL_law 665 = .ok (.iadd, 1) := by decide +kernel
theorem dL_law_666 : decode bL_law 666 = .ok (.iaload, 1) := by decide +kernel
theorem dL_law_667 : decode bL_law 667 = .ok (.aload_n 0, 1) := by decide +kernel
theorem dL_law_668 : decode bL_law 668 = .ok (.iload_n 3, 1) := by decide +kernel
theorem dL_law_669 : decode bL_law 669 = .ok (.iconst 2, 1) := by decide +kernel
theorem dL_law_670 : decode bL_law 670 = .ok (.iadd, 1) := by decide +kernel
theorem dL_law_671 : decode bL_law 671 = .ok (.iaload, 1) := by decide +kernel
theorem dL_law_672 : decode bL_law 672 = .ok (.invokevirtual 85, 3) := by decide +kernel
theorem dL_law_675 : decode bL_law 675 = .ok (.if_icmp .eq 51, 3) := by decide +kernel
theorem dL_law_678 : decode bL_law 678 = .ok (.iconst 0, 1) := by decide +kernel
theorem dL_law_679 : decode bL_law 679 = .ok (.ireturn, 1) := by decide +kernel
theorem dL_law_680 : decode bL_law 680 = .ok (.aload_n 1, 1) := by decide +kernel
theorem dL_law_681 : decode bL_law 681 = .ok (.aload_n 0, 1) := by decide +kernel
theorem dL_law_682 : decode bL_law 682 = .ok (.iload_n 3, 1) := by decide +kernel
theorem dL_law_683 : decode bL_law 683 = .ok (.iconst 1, 1) := by decide +kernel
theorem dL_law_684 : decode bL_law 684 = .ok (.iadd, 1) := by decide +kernel
theorem dL_law_685 : decode bL_law 685 = .ok (.iaload, 1) := by decide +kernel
theorem dL_law_686 : decode bL_law 686 = .ok (.invokevirtual 86, 3) := by decide +kernel
theorem dL_law_689 : decode bL_law 689 = .ok (.aload_n 2, 1) := by decide +kernel
theorem dL_law_690 : decode bL_law 690 = .ok (.aload_n 0, 1) := by decide +kernel
theorem dL_law_691 : decode bL_law 691 = .ok (.iload_n 3, 1) := by decide +kernel
theorem dL_law_692 : decode bL_law 692 = .ok (.iconst 1, 1) := by decide +kernel
theorem dL_law_693 : decode bL_law 693 = .ok (.iadd, 1) := by decide +kernel
theorem dL_law_694 : decode bL_law 694 = .ok (.iaload, 1) := by decide +kernel
theorem dL_law_695 : decode bL_law 695 = .ok (.invokevirtual 89, 3) := by decide +kernel
theorem dL_law_698 : decode bL_law 698 = .ok (.if_icmp .eq 28, 3) := by decide +kernel
theorem dL_law_701 : decode bL_law 701 = .ok (.iconst 0, 1) := by decide +kernel
theorem dL_law_702 : decode bL_law 702 = .ok (.ireturn, 1) := by decide +kernel
theorem dL_law_703 : decode bL_law 703 = .ok (.aload_n 1, 1) := by decide +kernel
theorem dL_law_704 : decode bL_law 704 = .ok (.aload_n 0, 1) := by decide +kernel
theorem dL_law_705 : decode bL_law 705 = .ok (.iload_n 3, 1) := by decide +kernel
theorem dL_law_706 : decode bL_law 706 = .ok (.iconst 1, 1) := by decide +kernel
theorem dL_law_707 : decode bL_law 707 = .ok (.iadd, 1) := by decide +kernel
theorem dL_law_708 : decode bL_law 708 = .ok (.iaload, 1) := by decide +kernel
theorem dL_law_709 : decode bL_law 709 = .ok (.invokevirtual 90, 3) := by decide +kernel
theorem dL_law_712 : decode bL_law 712 = .ok (.aload_n 2, 1) := by decide +kernel
theorem dL_law_713 : decode bL_law 713 = .ok (.aload_n 0, 1) := by decide +kernel
theorem dL_law_714 : decode bL_law 714 = .ok (.iload_n 3, 1) := by decide +kernel
theorem dL_law_715 : decode bL_law 715 = .ok (.iconst 1, 1) := by decide +kernel
theorem dL_law_716 : decode bL_law 716 = .ok (.iadd, 1) := by decide +kernel
theorem dL_law_717 : decode bL_law 717 = .ok (.iaload, 1) := by decide +kernel
theorem dL_law_718 : decode bL_law 718 = .ok (.invokevirtual 93, 3) := by decide +kernel
theorem dL_law_721 : decode bL_law 721 = .ok (.if_icmp .eq 5, 3) := by decide +kernel
theorem dL_law_724 : decode bL_law 724 = .ok (.iconst 0, 1) := by decide +kernel
theorem dL_law_725 : decode bL_law 725 = .ok (.ireturn, 1) := by decide +kernel
theorem dL_law_726 : decode bL_law 726 = .ok (.iinc 3 6, 3) := by decide +kernel
theorem dL_law_729 : decode bL_law 729 = .ok (.goto (-711), 3) := by decide +kernel
theorem dL_law_732 : decode bL_law 732 = .ok (.iconst 1, 1) := by decide +kernel
theorem dL_law_733 : decode bL_law 733 = .ok (.ireturn, 1) := by decide +kernel
