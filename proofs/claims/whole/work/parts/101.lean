/-! The reference's methods: functions and contracts. Written by wip/gen/emit.py. -/
theorem K_RX9_180 : x_KS RX9 180 M_Mo_spelled 6 := ⟨⟨(List.mem_append_right _ (List.mem_of_getElem? (i := 1520) (by decide +kernel))), (List.mem_append_right _ (List.mem_of_getElem? (i := 1522) (by decide +kernel))), (List.mem_append_right _ (List.mem_of_getElem? (i := 9) (by decide +kernel))), ⟨by decide +kernel, by decide +kernel⟩, by decide +kernel⟩, (List.mem_append_right _ (List.mem_of_getElem? (i := 1521) (by decide +kernel)))⟩
abbrev M_Mo_letters : xM := (yX9_letters, cX9_letters, 1, some .long, [])
theorem dX9_letters_0 : decode cX9_letters 0 = .ok (.iload_n 0, 1) := by decide +kernel
theorem dX9_letters_1 : decode cX9_letters 1 = .ok (.tableswitch 387 0 20 #[99, 113, 126, 140, 155, 169, 183, 196, 210, 224, 236, 250, 266, 279, 292, 305, 320, 333, 348, 362, 375], 99) := by decide +kernel
theorem dX9_letters_100 : decode cX9_letters 100 = .ok (.bipush 115, 2) := by decide +kernel
theorem dX9_letters_102 : decode cX9_letters 102 = .ok (.bipush 101, 2) := by decide +kernel
theorem dX9_letters_104 : decode cX9_letters 104 = .ok (.bipush 101, 2) := by decide +kernel
theorem dX9_letters_106 : decode cX9_letters 106 = .ok (.bipush 110, 2) := by decide +kernel
theorem dX9_letters_108 : decode cX9_letters 108 = .ok (.iconst 0, 1) := by decide +kernel
theorem dX9_letters_109 : decode cX9_letters 109 = .ok (.iconst 0, 1) := by decide +kernel
theorem dX9_letters_110 : decode cX9_letters 110 = .ok (.invokestatic 180, 3) := by decide +kernel
theorem dX9_letters_113 : decode cX9_letters 113 = .ok (.lreturn, 1) := by decide +kernel
theorem dX9_letters_114 : decode cX9_letters 114 = .ok (.bipush 119, 2) := by decide +kernel
theorem dX9_letters_116 : decode cX9_letters 116 = .ok (.bipush 97, 2) := by decide +kernel
theorem dX9_letters_118 : decode cX9_letters 118 = .ok (.bipush 115, 2) := by decide +kernel
theorem dX9_letters_120 : decode cX9_letters 120 = .ok (.iconst 0, 1) := by decide +kernel
theorem dX9_letters_121 : decode cX9_letters 121 = .ok (.iconst 0, 1) := by decide +kernel
theorem dX9_letters_122 : decode cX9_letters 122 = .ok (.iconst 0, 1) := by decide +kernel
theorem dX9_letters_123 : decode cX9_letters 123 = .ok (.invokestatic 180, 3) := by decide +kernel
theorem dX9_letters_126 : decode cX9_letters 126 = .ok (.lreturn, 1) := by decide +kernel
theorem dX9_letters_127 : decode cX9_letters 127 = .ok (.bipush 114, 2) := by decide +kernel
theorem dX9_letters_129 : decode cX9_letters 129 = .ok (.bipush 105, 2) := by decide +kernel
theorem dX9_letters_131 : decode cX9_letters 131 = .ok (.bipush 110, 2) := by decide +kernel
theorem dX9_letters_133 : decode cX9_letters 133 = .ok (.bipush 103, 2) := by decide +kernel
theorem dX9_letters_135 : decode cX9_letters 135 = .ok (.iconst 0, 1) := by decide +kernel
theorem dX9_letters_136 : decode cX9_letters 136 = .ok (.iconst 0, 1) := by decide +kernel
theorem dX9_letters_137 : decode cX9_letters 137 = .ok (.invokestatic 180, 3) := by decide +kernel
theorem dX9_letters_140 : decode cX9_letters 140 = .ok (.lreturn, 1) := by decide +kernel
theorem dX9_letters_141 : decode cX9_letters 141 = .ok (.bipush 116, 2) := by decide +kernel
theorem dX9_letters_143 : decode cX9_letters 143 = .ok (.bipush 101, 2) := by decide +kernel
theorem dX9_letters_145 : decode cX9_letters 145 = .ok (.bipush 110, 2) := by decide +kernel
theorem dX9_letters_147 : decode cX9_letters 147 = .ok (.bipush 116, 2) := by decide +kernel
theorem dX9_letters_149 : decode cX9_letters 149 = .ok (.bipush 104, 2) := by decide +kernel
theorem dX9_letters_151 : decode cX9_letters 151 = .ok (.iconst 0, 1) := by decide +kernel
theorem dX9_letters_152 : decode cX9_letters 152 = .ok (.invokestatic 180, 3) := by decide +kernel
theorem dX9_letters_155 : decode cX9_letters 155 = .ok (.lreturn, 1) := by decide +kernel
theorem dX9_letters_156 : decode cX9_letters 156 = .ok (.bipush 109, 2) := by decide +kernel
theorem dX9_letters_158 : decode cX9_letters 158 = .ok (.bipush 97, 2) := by decide +kernel
theorem dX9_letters_160 : decode cX9_letters 160 = .ok (.bipush 114, 2) := by decide +kernel
theorem dX9_letters_162 : decode cX9_letters 162 = .ok (.bipush 107, 2) := by decide +kernel
theorem dX9_letters_164 : decode cX9_letters 164 = .ok (.iconst 0, 1) := by decide +kernel
theorem dX9_letters_165 : decode cX9_letters 165 = .ok (.iconst 0, 1) := by decide +kernel
theorem dX9_letters_166 : decode cX9_letters 166 = .ok (.invokestatic 180, 3) := by decide +kernel
theorem dX9_letters_169 : decode cX9_letters 169 = .ok (.lreturn, 1) := by decide +kernel
theorem dX9_letters_170 : decode cX9_letters 170 = .ok (.bipush 105, 2) := by decide +kernel
theorem dX9_letters_172 : decode cX9_letters 172 = .ok (.bipush 110, 2) := by decide +kernel
theorem dX9_letters_174 : decode cX9_letters 174 = .ok (.bipush 99, 2) := by decide +kernel
theorem dX9_letters_176 : decode cX9_letters 176 = .ok (.bipush 104, 2) := by decide +kernel
theorem dX9_letters_178 : decode cX9_letters 178 = .ok (.iconst 0, 1) := by decide +kernel
theorem dX9_letters_179 : decode cX9_letters 179 = .ok (.iconst 0, 1) := by decide +kernel
theorem dX9_letters_180 : decode cX9_letters 180 = .ok (.invokestatic 180, 3) := by decide +kernel
theorem dX9_letters_183 : decode cX9_letters 183 = .ok (.lreturn, 1) := by decide +kernel
theorem dX9_letters_184 : decode cX9_letters 184 = .ok (.bipush 111, 2) := by decide +kernel
theorem dX9_letters_186 : decode cX9_letters 186 = .ok (.bipush 102, 2) := by decide +kernel
theorem dX9_letters_188 : decode cX9_letters 188 = .ok (.bipush 102, 2) := by decide +kernel
theorem dX9_letters_190 : decode cX9_letters 190 = .ok (.iconst 0, 1) := by decide +kernel
theorem dX9_letters_191 : decode cX9_letters 191 = .ok (.iconst 0, 1) := by decide +kernel
theorem dX9_letters_192 : decode cX9_letters 192 = .ok (.iconst 0, 1) := by decide +kernel
theorem dX9_letters_193 : decode cX9_letters 193 = .ok (.invokestatic 180, 3) := by decide +kernel
theorem dX9_letters_196 : decode cX9_letters 196 = .ok (.lreturn, 1) := by decide +kernel
theorem dX9_letters_197 : decode cX9_letters 197 = .ok (.bipush 104, 2) := by decide +kernel
theorem dX9_letters_199 : decode cX9_letters 199 = .ok (.bipush 111, 2) := by decide +kernel
theorem dX9_letters_201 : decode cX9_letters 201 = .ok (.bipush 108, 2) := by decide +kernel
theorem dX9_letters_203 : decode cX9_letters 203 = .ok (.bipush 101, 2) := by decide +kernel
theorem dX9_letters_205 : decode cX9_letters 205 = .ok (.iconst 0, 1) := by decide +kernel
theorem dX9_letters_206 : decode cX9_letters 206 = .ok (.iconst 0, 1) := by decide +kernel
theorem dX9_letters_207 : decode cX9_letters 207 = .ok (.invokestatic 180, 3) := by decide +kernel
theorem dX9_letters_210 : decode cX9_letters 210 = .ok (.lreturn, 1) := by decide +kernel
theorem dX9_letters_211 : decode cX9_letters 211 = .ok (.bipush 102, 2) := by decide +kernel
theorem dX9_letters_213 : decode cX9_letters 213 = .ok (.bipush 114, 2) := by decide +kernel
theorem dX9_letters_215 : decode cX9_letters 215 = .ok (.bipush 111, 2) := by decide +kernel
theorem dX9_letters_217 : decode cX9_letters 217 = .ok (.bipush 109, 2) := by decide +kernel
theorem dX9_letters_219 : decode cX9_letters 219 = .ok (.iconst 0, 1) := by decide +kernel
theorem dX9_letters_220 : decode cX9_letters 220 = .ok (.iconst 0, 1) := by decide +kernel
theorem dX9_letters_221 : decode cX9_letters 221 = .ok (.invokestatic 180, 3) := by decide +kernel
theorem dX9_letters_224 : decode cX9_letters 224 = .ok (.lreturn, 1) := by decide +kernel
theorem dX9_letters_225 : decode cX9_letters 225 = .ok (.bipush 103, 2) := by decide +kernel
theorem dX9_letters_227 : decode cX9_letters 227 = .ok (.bipush 111, 2) := by decide +kernel
theorem dX9_letters_229 : decode cX9_letters 229 = .ok (.iconst 0, 1) := by decide +kernel
theorem dX9_letters_230 : decode cX9_letters 230 = .ok (.iconst 0, 1) := by decide +kernel
theorem dX9_letters_231 : decode cX9_letters 231 = .ok (.iconst 0, 1) := by decide +kernel
theorem dX9_letters_232 : decode cX9_letters 232 = .ok (.iconst 0, 1) := by decide +kernel
theorem dX9_letters_233 : decode cX9_letters 233 = .ok (.invokestatic 180, 3) := by decide +kernel
theorem dX9_letters_236 : decode cX9_letters 236 = .ok (.lreturn, 1) := by decide +kernel
theorem dX9_letters_237 : decode cX9_letters 237 = .ok (.bipush 115, 2) := by decide +kernel
theorem dX9_letters_239 : decode cX9_letters 239 = .ok (.bipush 116, 2) := by decide +kernel
theorem dX9_letters_241 : decode cX9_letters 241 = .ok (.bipush 97, 2) := by decide +kernel
theorem dX9_letters_243 : decode cX9_letters 243 = .ok (.bipush 121, 2) := by decide +kernel
theorem dX9_letters_245 : decode cX9_letters 245 = .ok (.iconst 0, 1) := by decide +kernel
theorem dX9_letters_246 : decode cX9_letters 246 = .ok (.iconst 0, 1) := by decide +kernel
theorem dX9_letters_247 : decode cX9_letters 247 = .ok (.invokestatic 180, 3) := by decide +kernel
theorem dX9_letters_250 : decode cX9_letters 250 = .ok (.lreturn, 1) := by decide +kernel
theorem dX9_letters_251 : decode cX9_letters 251 = .ok (.bipush 98, 2) := by decide +kernel
theorem dX9_letters_253 : decode cX9_letters 253 = .ok (.bipush 101, 2) := by decide +kernel
theorem dX9_letters_255 : decode cX9_letters 255 = .ok (.bipush 104, 2) := by decide +kernel
theorem dX9_letters_257 : decode cX9_letters 257 = .ok (.bipush 105, 2) := by decide +kernel
theorem dX9_letters_259 : decode cX9_letters 259 = .ok (.bipush 110, 2) := by decide +kernel
theorem dX9_letters_261 : decode cX9_letters 261 = .ok (.bipush 100, 2) := by decide +kernel
theorem dX9_letters_263 : decode cX9_letters 263 = .ok (.invokestatic 180, 3) := by decide +kernel
theorem dX9_letters_266 : decode cX9_letters 266 = .ok (.lreturn, 1) := by decide +kernel
theorem dX9_letters_267 : decode cX9_letters 267 = .ok (.bipush 104, 2) := by decide +kernel
theorem dX9_letters_269 : decode cX9_letters 269 = .ok (.bipush 105, 2) := by decide +kernel
theorem dX9_letters_271 : decode cX9_letters 271 = .ok (.bipush 109, 2) := by decide +kernel
theorem dX9_letters_273 : decode cX9_letters 273 = .ok (.iconst 0, 1) := by decide +kernel
theorem dX9_letters_274 : decode cX9_letters 274 = .ok (.iconst 0, 1) := by decide +kernel
theorem dX9_letters_275 : decode cX9_letters 275 = .ok (.iconst 0, 1) := by decide +kernel
theorem dX9_letters_276 : decode cX9_letters 276 = .ok (.invokestatic 180, 3) := by decide +kernel
theorem dX9_letters_279 : decode cX9_letters 279 = .ok (.lreturn, 1) := by decide +kernel
theorem dX9_letters_280 : decode cX9_letters 280 = .ok (.bipush 104, 2) := by decide +kernel
theorem dX9_letters_282 : decode cX9_letters 282 = .ok (.bipush 101, 2) := by decide +kernel
theorem dX9_letters_284 : decode cX9_letters 284 = .ok (.bipush 114, 2) := by decide +kernel
theorem dX9_letters_286 : decode cX9_letters 286 = .ok (.iconst 0, 1) := by decide +kernel
theorem dX9_letters_287 : decode cX9_letters 287 = .ok (.iconst 0, 1) := by decide +kernel
theorem dX9_letters_288 : decode cX9_letters 288 = .ok (.iconst 0, 1) := by decide +kernel
theorem dX9_letters_289 : decode cX9_letters 289 = .ok (.invokestatic 180, 3) := by decide +kernel
theorem dX9_letters_292 : decode cX9_letters 292 = .ok (.lreturn, 1) := by decide +kernel
theorem dX9_letters_293 : decode cX9_letters 293 = .ok (.bipush 108, 2) := by decide +kernel
theorem dX9_letters_295 : decode cX9_letters 295 = .ok (.bipush 97, 2) := by decide +kernel
theorem dX9_letters_297 : decode cX9_letters 297 = .ok (.bipush 103, 2) := by decide +kernel
theorem dX9_letters_299 : decode cX9_letters 299 = .ok (.iconst 0, 1) := by decide +kernel
theorem dX9_letters_300 : decode cX9_letters 300 = .ok (.iconst 0, 1) := by decide +kernel
theorem dX9_letters_301 : decode cX9_letters 301 = .ok (.iconst 0, 1) := by decide +kernel
theorem dX9_letters_302 : decode cX9_letters 302 = .ok (.invokestatic 180, 3) := by decide +kernel
theorem dX9_letters_305 : decode cX9_letters 305 = .ok (.lreturn, 1) := by decide +kernel
theorem dX9_letters_306 : decode cX9_letters 306 = .ok (.bipush 119, 2) := by decide +kernel
theorem dX9_letters_308 : decode cX9_letters 308 = .ok (.bipush 114, 2) := by decide +kernel
theorem dX9_letters_310 : decode cX9_letters 310 = .ok (.bipush 105, 2) := by decide +kernel
theorem dX9_letters_312 : decode cX9_letters 312 = .ok (.bipush 115, 2) := by decide +kernel
theorem dX9_letters_314 : decode cX9_letters 314 = .ok (.bipush 116, 2) := by decide +kernel
theorem dX9_letters_316 : decode cX9_letters 316 = .ok (.iconst 0, 1) := by decide +kernel
theorem dX9_letters_317 : decode cX9_letters 317 = .ok (.invokestatic 180, 3) := by decide +kernel
theorem dX9_letters_320 : decode cX9_letters 320 = .ok (.lreturn, 1) := by decide +kernel
theorem dX9_letters_321 : decode cX9_letters 321 = .ok (.bipush 101, 2) := by decide +kernel
theorem dX9_letters_323 : decode cX9_letters 323 = .ok (.bipush 121, 2) := by decide +kernel
theorem dX9_letters_325 : decode cX9_letters 325 = .ok (.bipush 101, 2) := by decide +kernel
theorem dX9_letters_327 : decode cX9_letters 327 = .ok (.iconst 0, 1) := by decide +kernel
theorem dX9_letters_328 : decode cX9_letters 328 = .ok (.iconst 0, 1) := by decide +kernel
theorem dX9_letters_329 : decode cX9_letters 329 = .ok (.iconst 0, 1) := by decide +kernel
theorem dX9_letters_330 : decode cX9_letters 330 = .ok (.invokestatic 180, 3) := by decide +kernel
theorem dX9_letters_333 : decode cX9_letters 333 = .ok (.lreturn, 1) := by decide +kernel
theorem dX9_letters_334 : decode cX9_letters 334 = .ok (.bipush 115, 2) := by decide +kernel
theorem dX9_letters_336 : decode cX9_letters 336 = .ok (.bipush 104, 2) := by decide +kernel
theorem dX9_letters_338 : decode cX9_letters 338 = .ok (.bipush 111, 2) := by decide +kernel
theorem dX9_letters_340 : decode cX9_letters 340 = .ok (.bipush 119, 2) := by decide +kernel
theorem dX9_letters_342 : decode cX9_letters 342 = .ok (.bipush 115, 2) := by decide +kernel
theorem dX9_letters_344 : decode cX9_letters 344 = .ok (.iconst 0, 1) := by decide +kernel
theorem dX9_letters_345 : decode cX9_letters 345 = .ok (.invokestatic 180, 3) := by decide +kernel
theorem dX9_letters_348 : decode cX9_letters 348 = .ok (.lreturn, 1) := by decide +kernel
theorem dX9_letters_349 : decode cX9_letters 349 = .ok (.bipush 104, 2) := by decide +kernel
theorem dX9_letters_351 : decode cX9_letters 351 = .ok (.bipush 97, 2) := by decide +kernel
theorem dX9_letters_353 : decode cX9_letters 353 = .ok (.bipush 110, 2) := by decide +kernel
theorem dX9_letters_355 : decode cX9_letters 355 = .ok (.bipush 100, 2) := by decide +kernel
theorem dX9_letters_357 : decode cX9_letters 357 = .ok (.iconst 0, 1) := by decide +kernel
theorem dX9_letters_358 : decode cX9_letters 358 = .ok (.iconst 0, 1) := by decide +kernel
theorem dX9_letters_359 : decode cX9_letters 359 = .ok (.invokestatic 180, 3) := by decide +kernel
theorem dX9_letters_362 : decode cX9_letters 362 = .ok (.lreturn, 1) := by decide +kernel
theorem dX9_letters_363 : decode cX9_letters 363 = .ok (.bipush 97, 2) := by decide +kernel
theorem dX9_letters_365 : decode cX9_letters 365 = .ok (.bipush 110, 2) := by decide +kernel
theorem dX9_letters_367 : decode cX9_letters 367 = .ok (.bipush 100, 2) := by decide +kernel
theorem dX9_letters_369 : decode cX9_letters 369 = .ok (.iconst 0, 1) := by decide +kernel
theorem dX9_letters_370 : decode cX9_letters 370 = .ok (.iconst 0, 1) := by decide +kernel
theorem dX9_letters_371 : decode cX9_letters 371 = .ok (.iconst 0, 1) := by decide +kernel
theorem dX9_letters_372 : decode cX9_letters 372 = .ok (.invokestatic 180, 3) := by decide +kernel
theorem dX9_letters_375 : decode cX9_letters 375 = .ok (.lreturn, 1) := by decide +kernel
theorem dX9_letters_376 : decode cX9_letters 376 = .ok (.bipush 111, 2) := by decide +kernel
theorem dX9_letters_378 : decode cX9_letters 378 = .ok (.bipush 114, 2) := by decide +kernel
theorem dX9_letters_380 : decode cX9_letters 380 = .ok (.iconst 0, 1) := by decide +kernel
theorem dX9_letters_381 : decode cX9_letters 381 = .ok (.iconst 0, 1) := by decide +kernel
theorem dX9_letters_382 : decode cX9_letters 382 = .ok (.iconst 0, 1) := by decide +kernel
theorem dX9_letters_383 : decode cX9_letters 383 = .ok (.iconst 0, 1) := by decide +kernel
theorem dX9_letters_384 : decode cX9_letters 384 = .ok (.invokestatic 180, 3) := by decide +kernel
theorem dX9_letters_387 : decode cX9_letters 387 = .ok (.lreturn, 1) := by decide +kernel
theorem dX9_letters_388 : decode cX9_letters 388 = .ok (.bipush 110, 2) := by decide +kernel
theorem dX9_letters_390 : decode cX9_letters 390 = .ok (.bipush 111, 2) := by decide +kernel
theorem dX9_letters_392 : decode cX9_letters 392 = .ok (.bipush 116, 2) := by decide +kernel
theorem dX9_letters_394 : decode cX9_letters 394 = .ok (.iconst 0, 1) := by decide +kernel
theorem dX9_letters_395 : decode cX9_letters 395 = .ok (.iconst 0, 1) := by decide +kernel
theorem dX9_letters_396 : decode cX9_letters 396 = .ok (.iconst 0, 1) := by decide +kernel
theorem dX9_letters_397 : decode cX9_letters 397 = .ok (.invokestatic 180, 3) := by decide +kernel
theorem dX9_letters_400 : decode cX9_letters 400 = .ok (.lreturn, 1) := by decide +kernel
def f_Mo_letters (v0 : Int32) (σ : xS) : Option (Int64 × xS) :=
  if v0 = (0 : Int32) then
    (f_Mo_spelled (115 : Int32) (101 : Int32) (101 : Int32) (110 : Int32) (0 : Int32) (0 : Int32) σ).bind fun q1 =>
    some (q1.1, q1.2)
  else if v0 = (1 : Int32) then
    (f_Mo_spelled (119 : Int32) (97 : Int32) (115 : Int32) (0 : Int32) (0 : Int32) (0 : Int32) σ).bind fun q2 =>
    some (q2.1, q2.2)
  else if v0 = (2 : Int32) then
    (f_Mo_spelled (114 : Int32) (105 : Int32) (110 : Int32) (103 : Int32) (0 : Int32) (0 : Int32) σ).bind fun q3 =>
    some (q3.1, q3.2)
  else if v0 = (3 : Int32) then
    (f_Mo_spelled (116 : Int32) (101 : Int32) (110 : Int32) (116 : Int32) (104 : Int32) (0 : Int32) σ).bind fun q4 =>
    some (q4.1, q4.2)
  else if v0 = (4 : Int32) then
    (f_Mo_spelled (109 : Int32) (97 : Int32) (114 : Int32) (107 : Int32) (0 : Int32) (0 : Int32) σ).bind fun q5 =>
    some (q5.1, q5.2)
  else if v0 = (5 : Int32) then
    (f_Mo_spelled (105 : Int32) (110 : Int32) (99 : Int32) (104 : Int32) (0 : Int32) (0 : Int32) σ).bind fun q6 =>
    some (q6.1, q6.2)
  else if v0 = (6 : Int32) then
    (f_Mo_spelled (111 : Int32) (102 : Int32) (102 : Int32) (0 : Int32) (0 : Int32) (0 : Int32) σ).bind fun q7 =>
    some (q7.1, q7.2)
  else if v0 = (7 : Int32) then
    (f_Mo_spelled (104 : Int32) (111 : Int32) (108 : Int32) (101 : Int32) (0 : Int32) (0 : Int32) σ).bind fun q8 =>
    some (q8.1, q8.2)
  else if v0 = (8 : Int32) then
    (f_Mo_spelled (102 : Int32) (114 : Int32) (111 : Int32) (109 : Int32) (0 : Int32) (0 : Int32) σ).bind fun q9 =>
    some (q9.1, q9.2)
  else if v0 = (9 : Int32) then
    (f_Mo_spelled (103 : Int32) (111 : Int32) (0 : Int32) (0 : Int32) (0 : Int32) (0 : Int32) σ).bind fun q10 =>
    some (q10.1, q10.2)
  else if v0 = (10 : Int32) then
    (f_Mo_spelled (115 : Int32) (116 : Int32) (97 : Int32) (121 : Int32) (0 : Int32) (0 : Int32) σ).bind fun q11 =>
    some (q11.1, q11.2)
  else if v0 = (11 : Int32) then
    (f_Mo_spelled (98 : Int32) (101 : Int32) (104 : Int32) (105 : Int32) (110 : Int32) (100 : Int32) σ).bind fun q12 =>
    some (q12.1, q12.2)
  else if v0 = (12 : Int32) then
    (f_Mo_spelled (104 : Int32) (105 : Int32) (109 : Int32) (0 : Int32) (0 : Int32) (0 : Int32) σ).bind fun q13 =>
    some (q13.1, q13.2)
  else if v0 = (13 : Int32) then
    (f_Mo_spelled (104 : Int32) (101 : Int32) (114 : Int32) (0 : Int32) (0 : Int32) (0 : Int32) σ).bind fun q14 =>
    some (q14.1, q14.2)
  else if v0 = (14 : Int32) then
    (f_Mo_spelled (108 : Int32) (97 : Int32) (103 : Int32) (0 : Int32) (0 : Int32) (0 : Int32) σ).bind fun q15 =>
    some (q15.1, q15.2)
  else if v0 = (15 : Int32) then
    (f_Mo_spelled (119 : Int32) (114 : Int32) (105 : Int32) (115 : Int32) (116 : Int32) (0 : Int32) σ).bind fun q16 =>
    some (q16.1, q16.2)
  else if v0 = (16 : Int32) then
    (f_Mo_spelled (101 : Int32) (121 : Int32) (101 : Int32) (0 : Int32) (0 : Int32) (0 : Int32) σ).bind fun q17 =>
    some (q17.1, q17.2)
  else if v0 = (17 : Int32) then
    (f_Mo_spelled (115 : Int32) (104 : Int32) (111 : Int32) (119 : Int32) (115 : Int32) (0 : Int32) σ).bind fun q18 =>
    some (q18.1, q18.2)
  else if v0 = (18 : Int32) then
    (f_Mo_spelled (104 : Int32) (97 : Int32) (110 : Int32) (100 : Int32) (0 : Int32) (0 : Int32) σ).bind fun q19 =>
    some (q19.1, q19.2)
  else if v0 = (19 : Int32) then
    (f_Mo_spelled (97 : Int32) (110 : Int32) (100 : Int32) (0 : Int32) (0 : Int32) (0 : Int32) σ).bind fun q20 =>
    some (q20.1, q20.2)
  else if v0 = (20 : Int32) then
    (f_Mo_spelled (111 : Int32) (114 : Int32) (0 : Int32) (0 : Int32) (0 : Int32) (0 : Int32) σ).bind fun q21 =>
    some (q21.1, q21.2)
  else 
    (f_Mo_spelled (110 : Int32) (111 : Int32) (116 : Int32) (0 : Int32) (0 : Int32) (0 : Int32) σ).bind fun q22 =>
    some (q22.1, q22.2)
set_option maxHeartbeats 4000000 in
set_option maxRecDepth 100000 in
theorem c_Mo_letters {l : Launch} {s0 : State} {a0 : Array Value} {D : va_G} {cA : Nat → ClassId} {sp : Nat → Nat} (E : x_En CL l s0 a0 D cA sp) (v0 : Int32) {σ : xS} {r : Int64} {σ1 : xS} (h : f_Mo_letters v0 σ = some (r, σ1)) : zC l s0 D cA sp 1 M_Mo_letters [.int v0] σ (some (.long r)) σ1 := by
  unfold f_Mo_letters at h
  try dsimp only at h
  refine x_enter [some (.int v0)] rfl (Nat.le_of_ble_eq_true rfl) (by decide +kernel) rfl ?_
  refine x_iload_n 1 rfl 0 dX9_letters_0 rfl rfl ?_
  refine x_case (0) (fun hc0 => ?_) (fun hc0 => ?_)
  · replace h := x_ifT hc0 h
    refine x_tabIn (off := 99) 100 dX9_letters_1 (by rw [hc0]; decide) (by rw [hc0]; decide) (by rw [hc0]; rfl) (by decide) ?_
    refine x_bipush 102 rfl (v := 115) dX9_letters_100 (by decide) ?_
    refine x_bipush 104 rfl (v := 101) dX9_letters_102 (by decide) ?_
    refine x_bipush 106 rfl (v := 101) dX9_letters_104 (by decide) ?_
    refine x_bipush 108 rfl (v := 110) dX9_letters_106 (by decide) ?_
    refine x_iconst 109 rfl (v := 0) dX9_letters_108 (by decide) ?_
    refine x_iconst 110 rfl (v := 0) dX9_letters_109 (by decide) ?_
    obtain ⟨⟨q1r, q1s⟩, q1h, h⟩ := x_bind h
    try dsimp only at h
    refine z_callS E [.int _, .int _, .int _, .int _, .int _, .int _] [] dX9_letters_110 K_RX9_180 ⟨Nat.le_of_ble_eq_true rfl, Nat.le_of_ble_eq_true rfl⟩ (c_Mo_spelled E _ _ _ _ _ _ q1h) rfl rfl (Nat.le_of_ble_eq_true rfl) 113 rfl [.long _] rfl ?_
    cases h
    exact x_lret dX9_letters_113 rfl rfl rfl
  replace h := x_ifF hc0 h
  refine x_case (1) (fun hc1 => ?_) (fun hc1 => ?_)
  · replace h := x_ifT hc1 h
    refine x_tabIn (off := 113) 114 dX9_letters_1 (by rw [hc1]; decide) (by rw [hc1]; decide) (by rw [hc1]; rfl) (by decide) ?_
    refine x_bipush 116 rfl (v := 119) dX9_letters_114 (by decide) ?_
    refine x_bipush 118 rfl (v := 97) dX9_letters_116 (by decide) ?_
    refine x_bipush 120 rfl (v := 115) dX9_letters_118 (by decide) ?_
    refine x_iconst 121 rfl (v := 0) dX9_letters_120 (by decide) ?_
    refine x_iconst 122 rfl (v := 0) dX9_letters_121 (by decide) ?_
    refine x_iconst 123 rfl (v := 0) dX9_letters_122 (by decide) ?_
    obtain ⟨⟨q2r, q2s⟩, q2h, h⟩ := x_bind h
    try dsimp only at h
    refine z_callS E [.int _, .int _, .int _, .int _, .int _, .int _] [] dX9_letters_123 K_RX9_180 ⟨Nat.le_of_ble_eq_true rfl, Nat.le_of_ble_eq_true rfl⟩ (c_Mo_spelled E _ _ _ _ _ _ q2h) rfl rfl (Nat.le_of_ble_eq_true rfl) 126 rfl [.long _] rfl ?_
    cases h
    exact x_lret dX9_letters_126 rfl rfl rfl
  replace h := x_ifF hc1 h
  refine x_case (2) (fun hc2 => ?_) (fun hc2 => ?_)
  · replace h := x_ifT hc2 h
    refine x_tabIn (off := 126) 127 dX9_letters_1 (by rw [hc2]; decide) (by rw [hc2]; decide) (by rw [hc2]; rfl) (by decide) ?_
    refine x_bipush 129 rfl (v := 114) dX9_letters_127 (by decide) ?_
    refine x_bipush 131 rfl (v := 105) dX9_letters_129 (by decide) ?_
    refine x_bipush 133 rfl (v := 110) dX9_letters_131 (by decide) ?_
    refine x_bipush 135 rfl (v := 103) dX9_letters_133 (by decide) ?_
    refine x_iconst 136 rfl (v := 0) dX9_letters_135 (by decide) ?_
    refine x_iconst 137 rfl (v := 0) dX9_letters_136 (by decide) ?_
    obtain ⟨⟨q3r, q3s⟩, q3h, h⟩ := x_bind h
    try dsimp only at h
    refine z_callS E [.int _, .int _, .int _, .int _, .int _, .int _] [] dX9_letters_137 K_RX9_180 ⟨Nat.le_of_ble_eq_true rfl, Nat.le_of_ble_eq_true rfl⟩ (c_Mo_spelled E _ _ _ _ _ _ q3h) rfl rfl (Nat.le_of_ble_eq_true rfl) 140 rfl [.long _] rfl ?_
    cases h
    exact x_lret dX9_letters_140 rfl rfl rfl
  replace h := x_ifF hc2 h
  refine x_case (3) (fun hc3 => ?_) (fun hc3 => ?_)
  · replace h := x_ifT hc3 h
    refine x_tabIn (off := 140) 141 dX9_letters_1 (by rw [hc3]; decide) (by rw [hc3]; decide) (by rw [hc3]; rfl) (by decide) ?_
    refine x_bipush 143 rfl (v := 116) dX9_letters_141 (by decide) ?_
    refine x_bipush 145 rfl (v := 101) dX9_letters_143 (by decide) ?_
    refine x_bipush 147 rfl (v := 110) dX9_letters_145 (by decide) ?_
    refine x_bipush 149 rfl (v := 116) dX9_letters_147 (by decide) ?_
    refine x_bipush 151 rfl (v := 104) dX9_letters_149 (by decide) ?_
    refine x_iconst 152 rfl (v := 0) dX9_letters_151 (by decide) ?_
    obtain ⟨⟨q4r, q4s⟩, q4h, h⟩ := x_bind h
    try dsimp only at h
    refine z_callS E [.int _, .int _, .int _, .int _, .int _, .int _] [] dX9_letters_152 K_RX9_180 ⟨Nat.le_of_ble_eq_true rfl, Nat.le_of_ble_eq_true rfl⟩ (c_Mo_spelled E _ _ _ _ _ _ q4h) rfl rfl (Nat.le_of_ble_eq_true rfl) 155 rfl [.long _] rfl ?_
    cases h
    exact x_lret dX9_letters_155 rfl rfl rfl
  replace h := x_ifF hc3 h
  refine x_case (4) (fun hc4 => ?_) (fun hc4 => ?_)
  · replace h := x_ifT hc4 h
    refine x_tabIn (off := 155) 156 dX9_letters_1 (by rw [hc4]; decide) (by rw [hc4]; decide) (by rw [hc4]; rfl) (by decide) ?_
    refine x_bipush 158 rfl (v := 109) dX9_letters_156 (by decide) ?_
    refine x_bipush 160 rfl (v := 97) dX9_letters_158 (by decide) ?_
    refine x_bipush 162 rfl (v := 114) dX9_letters_160 (by decide) ?_
    refine x_bipush 164 rfl (v := 107) dX9_letters_162 (by decide) ?_
    refine x_iconst 165 rfl (v := 0) dX9_letters_164 (by decide) ?_
    refine x_iconst 166 rfl (v := 0) dX9_letters_165 (by decide) ?_
    obtain ⟨⟨q5r, q5s⟩, q5h, h⟩ := x_bind h
    try dsimp only at h
    refine z_callS E [.int _, .int _, .int _, .int _, .int _, .int _] [] dX9_letters_166 K_RX9_180 ⟨Nat.le_of_ble_eq_true rfl, Nat.le_of_ble_eq_true rfl⟩ (c_Mo_spelled E _ _ _ _ _ _ q5h) rfl rfl (Nat.le_of_ble_eq_true rfl) 169 rfl [.long _] rfl ?_
    cases h
    exact x_lret dX9_letters_169 rfl rfl rfl
  replace h := x_ifF hc4 h
  refine x_case (5) (fun hc5 => ?_) (fun hc5 => ?_)
  · replace h := x_ifT hc5 h
    refine x_tabIn (off := 169) 170 dX9_letters_1 (by rw [hc5]; decide) (by rw [hc5]; decide) (by rw [hc5]; rfl) (by decide) ?_
    refine x_bipush 172 rfl (v := 105) dX9_letters_170 (by decide) ?_
    refine x_bipush 174 rfl (v := 110) dX9_letters_172 (by decide) ?_
    refine x_bipush 176 rfl (v := 99) dX9_letters_174 (by decide) ?_
    refine x_bipush 178 rfl (v := 104) dX9_letters_176 (by decide) ?_
    refine x_iconst 179 rfl (v := 0) dX9_letters_178 (by decide) ?_
    refine x_iconst 180 rfl (v := 0) dX9_letters_179 (by decide) ?_
    obtain ⟨⟨q6r, q6s⟩, q6h, h⟩ := x_bind h
    try dsimp only at h
    refine z_callS E [.int _, .int _, .int _, .int _, .int _, .int _] [] dX9_letters_180 K_RX9_180 ⟨Nat.le_of_ble_eq_true rfl, Nat.le_of_ble_eq_true rfl⟩ (c_Mo_spelled E _ _ _ _ _ _ q6h) rfl rfl (Nat.le_of_ble_eq_true rfl) 183 rfl [.long _] rfl ?_
    cases h
    exact x_lret dX9_letters_183 rfl rfl rfl
  replace h := x_ifF hc5 h
  refine x_case (6) (fun hc6 => ?_) (fun hc6 => ?_)
  · replace h := x_ifT hc6 h
    refine x_tabIn (off := 183) 184 dX9_letters_1 (by rw [hc6]; decide) (by rw [hc6]; decide) (by rw [hc6]; rfl) (by decide) ?_
    refine x_bipush 186 rfl (v := 111) dX9_letters_184 (by decide) ?_
    refine x_bipush 188 rfl (v := 102) dX9_letters_186 (by decide) ?_
    refine x_bipush 190 rfl (v := 102) dX9_letters_188 (by decide) ?_
    refine x_iconst 191 rfl (v := 0) dX9_letters_190 (by decide) ?_
    refine x_iconst 192 rfl (v := 0) dX9_letters_191 (by decide) ?_
    refine x_iconst 193 rfl (v := 0) dX9_letters_192 (by decide) ?_
    obtain ⟨⟨q7r, q7s⟩, q7h, h⟩ := x_bind h
    try dsimp only at h
    refine z_callS E [.int _, .int _, .int _, .int _, .int _, .int _] [] dX9_letters_193 K_RX9_180 ⟨Nat.le_of_ble_eq_true rfl, Nat.le_of_ble_eq_true rfl⟩ (c_Mo_spelled E _ _ _ _ _ _ q7h) rfl rfl (Nat.le_of_ble_eq_true rfl) 196 rfl [.long _] rfl ?_
    cases h
    exact x_lret dX9_letters_196 rfl rfl rfl
  replace h := x_ifF hc6 h
  refine x_case (7) (fun hc7 => ?_) (fun hc7 => ?_)
  · replace h := x_ifT hc7 h
    refine x_tabIn (off := 196) 197 dX9_letters_1 (by rw [hc7]; decide) (by rw [hc7]; decide) (by rw [hc7]; rfl) (by decide) ?_
    refine x_bipush 199 rfl (v := 104) dX9_letters_197 (by decide) ?_
    refine x_bipush 201 rfl (v := 111) dX9_letters_199 (by decide) ?_
    refine x_bipush 203 rfl (v := 108) dX9_letters_201 (by decide) ?_
    refine x_bipush 205 rfl (v := 101) dX9_letters_203 (by decide) ?_
    refine x_iconst 206 rfl (v := 0) dX9_letters_205 (by decide) ?_
    refine x_iconst 207 rfl (v := 0) dX9_letters_206 (by decide) ?_
    obtain ⟨⟨q8r, q8s⟩, q8h, h⟩ := x_bind h
    try dsimp only at h
    refine z_callS E [.int _, .int _, .int _, .int _, .int _, .int _] [] dX9_letters_207 K_RX9_180 ⟨Nat.le_of_ble_eq_true rfl, Nat.le_of_ble_eq_true rfl⟩ (c_Mo_spelled E _ _ _ _ _ _ q8h) rfl rfl (Nat.le_of_ble_eq_true rfl) 210 rfl [.long _] rfl ?_
    cases h
    exact x_lret dX9_letters_210 rfl rfl rfl
  replace h := x_ifF hc7 h
  refine x_case (8) (fun hc8 => ?_) (fun hc8 => ?_)
  · replace h := x_ifT hc8 h
    refine x_tabIn (off := 210) 211 dX9_letters_1 (by rw [hc8]; decide) (by rw [hc8]; decide) (by rw [hc8]; rfl) (by decide) ?_
    refine x_bipush 213 rfl (v := 102) dX9_letters_211 (by decide) ?_
    refine x_bipush 215 rfl (v := 114) dX9_letters_213 (by decide) ?_
    refine x_bipush 217 rfl (v := 111) dX9_letters_215 (by decide) ?_
    refine x_bipush 219 rfl (v := 109) dX9_letters_217 (by decide) ?_
    refine x_iconst 220 rfl (v := 0) dX9_letters_219 (by decide) ?_
    refine x_iconst 221 rfl (v := 0) dX9_letters_220 (by decide) ?_
    obtain ⟨⟨q9r, q9s⟩, q9h, h⟩ := x_bind h
    try dsimp only at h
    refine z_callS E [.int _, .int _, .int _, .int _, .int _, .int _] [] dX9_letters_221 K_RX9_180 ⟨Nat.le_of_ble_eq_true rfl, Nat.le_of_ble_eq_true rfl⟩ (c_Mo_spelled E _ _ _ _ _ _ q9h) rfl rfl (Nat.le_of_ble_eq_true rfl) 224 rfl [.long _] rfl ?_
    cases h
    exact x_lret dX9_letters_224 rfl rfl rfl
  replace h := x_ifF hc8 h
  refine x_case (9) (fun hc9 => ?_) (fun hc9 => ?_)
  · replace h := x_ifT hc9 h
    refine x_tabIn (off := 224) 225 dX9_letters_1 (by rw [hc9]; decide) (by rw [hc9]; decide) (by rw [hc9]; rfl) (by decide) ?_
    refine x_bipush 227 rfl (v := 103) dX9_letters_225 (by decide) ?_
    refine x_bipush 229 rfl (v := 111) dX9_letters_227 (by decide) ?_
    refine x_iconst 230 rfl (v := 0) dX9_letters_229 (by decide) ?_
    refine x_iconst 231 rfl (v := 0) dX9_letters_230 (by decide) ?_
    refine x_iconst 232 rfl (v := 0) dX9_letters_231 (by decide) ?_
    refine x_iconst 233 rfl (v := 0) dX9_letters_232 (by decide) ?_
    obtain ⟨⟨q10r, q10s⟩, q10h, h⟩ := x_bind h
    try dsimp only at h
    refine z_callS E [.int _, .int _, .int _, .int _, .int _, .int _] [] dX9_letters_233 K_RX9_180 ⟨Nat.le_of_ble_eq_true rfl, Nat.le_of_ble_eq_true rfl⟩ (c_Mo_spelled E _ _ _ _ _ _ q10h) rfl rfl (Nat.le_of_ble_eq_true rfl) 236 rfl [.long _] rfl ?_
    cases h
    exact x_lret dX9_letters_236 rfl rfl rfl
  replace h := x_ifF hc9 h
  refine x_case (10) (fun hc10 => ?_) (fun hc10 => ?_)
  · replace h := x_ifT hc10 h
    refine x_tabIn (off := 236) 237 dX9_letters_1 (by rw [hc10]; decide) (by rw [hc10]; decide) (by rw [hc10]; rfl) (by decide) ?_
    refine x_bipush 239 rfl (v := 115) dX9_letters_237 (by decide) ?_
    refine x_bipush 241 rfl (v := 116) dX9_letters_239 (by decide) ?_
    refine x_bipush 243 rfl (v := 97) dX9_letters_241 (by decide) ?_
    refine x_bipush 245 rfl (v := 121) dX9_letters_243 (by decide) ?_
    refine x_iconst 246 rfl (v := 0) dX9_letters_245 (by decide) ?_
    refine x_iconst 247 rfl (v := 0) dX9_letters_246 (by decide) ?_
    obtain ⟨⟨q11r, q11s⟩, q11h, h⟩ := x_bind h
    try dsimp only at h
    refine z_callS E [.int _, .int _, .int _, .int _, .int _, .int _] [] dX9_letters_247 K_RX9_180 ⟨Nat.le_of_ble_eq_true rfl, Nat.le_of_ble_eq_true rfl⟩ (c_Mo_spelled E _ _ _ _ _ _ q11h) rfl rfl (Nat.le_of_ble_eq_true rfl) 250 rfl [.long _] rfl ?_
    cases h
    exact x_lret dX9_letters_250 rfl rfl rfl
  replace h := x_ifF hc10 h
  refine x_case (11) (fun hc11 => ?_) (fun hc11 => ?_)
  · replace h := x_ifT hc11 h
    refine x_tabIn (off := 250) 251 dX9_letters_1 (by rw [hc11]; decide) (by rw [hc11]; decide) (by rw [hc11]; rfl) (by decide) ?_
    refine x_bipush 253 rfl (v := 98) dX9_letters_251 (by decide) ?_
    refine x_bipush 255 rfl (v := 101) dX9_letters_253 (by decide) ?_
    refine x_bipush 257 rfl (v := 104) dX9_letters_255 (by decide) ?_
    refine x_bipush 259 rfl (v := 105) dX9_letters_257 (by decide) ?_
    refine x_bipush 261 rfl (v := 110) dX9_letters_259 (by decide) ?_
    refine x_bipush 263 rfl (v := 100) dX9_letters_261 (by decide) ?_
    obtain ⟨⟨q12r, q12s⟩, q12h, h⟩ := x_bind h
    try dsimp only at h
    refine z_callS E [.int _, .int _, .int _, .int _, .int _, .int _] [] dX9_letters_263 K_RX9_180 ⟨Nat.le_of_ble_eq_true rfl, Nat.le_of_ble_eq_true rfl⟩ (c_Mo_spelled E _ _ _ _ _ _ q12h) rfl rfl (Nat.le_of_ble_eq_true rfl) 266 rfl [.long _] rfl ?_
    cases h
    exact x_lret dX9_letters_266 rfl rfl rfl
  replace h := x_ifF hc11 h
  refine x_case (12) (fun hc12 => ?_) (fun hc12 => ?_)
  · replace h := x_ifT hc12 h
    refine x_tabIn (off := 266) 267 dX9_letters_1 (by rw [hc12]; decide) (by rw [hc12]; decide) (by rw [hc12]; rfl) (by decide) ?_
    refine x_bipush 269 rfl (v := 104) dX9_letters_267 (by decide) ?_
    refine x_bipush 271 rfl (v := 105) dX9_letters_269 (by decide) ?_
    refine x_bipush 273 rfl (v := 109) dX9_letters_271 (by decide) ?_
    refine x_iconst 274 rfl (v := 0) dX9_letters_273 (by decide) ?_
    refine x_iconst 275 rfl (v := 0) dX9_letters_274 (by decide) ?_
    refine x_iconst 276 rfl (v := 0) dX9_letters_275 (by decide) ?_
    obtain ⟨⟨q13r, q13s⟩, q13h, h⟩ := x_bind h
    try dsimp only at h
    refine z_callS E [.int _, .int _, .int _, .int _, .int _, .int _] [] dX9_letters_276 K_RX9_180 ⟨Nat.le_of_ble_eq_true rfl, Nat.le_of_ble_eq_true rfl⟩ (c_Mo_spelled E _ _ _ _ _ _ q13h) rfl rfl (Nat.le_of_ble_eq_true rfl) 279 rfl [.long _] rfl ?_
    cases h
    exact x_lret dX9_letters_279 rfl rfl rfl
  replace h := x_ifF hc12 h
  refine x_case (13) (fun hc13 => ?_) (fun hc13 => ?_)
  · replace h := x_ifT hc13 h
    refine x_tabIn (off := 279) 280 dX9_letters_1 (by rw [hc13]; decide) (by rw [hc13]; decide) (by rw [hc13]; rfl) (by decide) ?_
    refine x_bipush 282 rfl (v := 104) dX9_letters_280 (by decide) ?_
    refine x_bipush 284 rfl (v := 101) dX9_letters_282 (by decide) ?_
    refine x_bipush 286 rfl (v := 114) dX9_letters_284 (by decide) ?_
    refine x_iconst 287 rfl (v := 0) dX9_letters_286 (by decide) ?_
    refine x_iconst 288 rfl (v := 0) dX9_letters_287 (by decide) ?_
    refine x_iconst 289 rfl (v := 0) dX9_letters_288 (by decide) ?_
    obtain ⟨⟨q14r, q14s⟩, q14h, h⟩ := x_bind h
    try dsimp only at h
    refine z_callS E [.int _, .int _, .int _, .int _, .int _, .int _] [] dX9_letters_289 K_RX9_180 ⟨Nat.le_of_ble_eq_true rfl, Nat.le_of_ble_eq_true rfl⟩ (c_Mo_spelled E _ _ _ _ _ _ q14h) rfl rfl (Nat.le_of_ble_eq_true rfl) 292 rfl [.long _] rfl ?_
    cases h
    exact x_lret dX9_letters_292 rfl rfl rfl
  replace h := x_ifF hc13 h
  refine x_case (14) (fun hc14 => ?_) (fun hc14 => ?_)
  · replace h := x_ifT hc14 h
    refine x_tabIn (off := 292) 293 dX9_letters_1 (by rw [hc14]; decide) (by rw [hc14]; decide) (by rw [hc14]; rfl) (by decide) ?_
    refine x_bipush 295 rfl (v := 108) dX9_letters_293 (by decide) ?_
    refine x_bipush 297 rfl (v := 97) dX9_letters_295 (by decide) ?_
    refine x_bipush 299 rfl (v := 103) dX9_letters_297 (by decide) ?_
    refine x_iconst 300 rfl (v := 0) dX9_letters_299 (by decide) ?_
    refine x_iconst 301 rfl (v := 0) dX9_letters_300 (by decide) ?_
    refine x_iconst 302 rfl (v := 0) dX9_letters_301 (by decide) ?_
    obtain ⟨⟨q15r, q15s⟩, q15h, h⟩ := x_bind h
    try dsimp only at h
    refine z_callS E [.int _, .int _, .int _, .int _, .int _, .int _] [] dX9_letters_302 K_RX9_180 ⟨Nat.le_of_ble_eq_true rfl, Nat.le_of_ble_eq_true rfl⟩ (c_Mo_spelled E _ _ _ _ _ _ q15h) rfl rfl (Nat.le_of_ble_eq_true rfl) 305 rfl [.long _] rfl ?_
    cases h
    exact x_lret dX9_letters_305 rfl rfl rfl
  replace h := x_ifF hc14 h
  refine x_case (15) (fun hc15 => ?_) (fun hc15 => ?_)
  · replace h := x_ifT hc15 h
    refine x_tabIn (off := 305) 306 dX9_letters_1 (by rw [hc15]; decide) (by rw [hc15]; decide) (by rw [hc15]; rfl) (by decide) ?_
    refine x_bipush 308 rfl (v := 119) dX9_letters_306 (by decide) ?_
    refine x_bipush 310 rfl (v := 114) dX9_letters_308 (by decide) ?_
    refine x_bipush 312 rfl (v := 105) dX9_letters_310 (by decide) ?_
    refine x_bipush 314 rfl (v := 115) dX9_letters_312 (by decide) ?_
    refine x_bipush 316 rfl (v := 116) dX9_letters_314 (by decide) ?_
    refine x_iconst 317 rfl (v := 0) dX9_letters_316 (by decide) ?_
    obtain ⟨⟨q16r, q16s⟩, q16h, h⟩ := x_bind h
    try dsimp only at h
    refine z_callS E [.int _, .int _, .int _, .int _, .int _, .int _] [] dX9_letters_317 K_RX9_180 ⟨Nat.le_of_ble_eq_true rfl, Nat.le_of_ble_eq_true rfl⟩ (c_Mo_spelled E _ _ _ _ _ _ q16h) rfl rfl (Nat.le_of_ble_eq_true rfl) 320 rfl [.long _] rfl ?_
    cases h
    exact x_lret dX9_letters_320 rfl rfl rfl
  replace h := x_ifF hc15 h
  refine x_case (16) (fun hc16 => ?_) (fun hc16 => ?_)
  · replace h := x_ifT hc16 h
    refine x_tabIn (off := 320) 321 dX9_letters_1 (by rw [hc16]; decide) (by rw [hc16]; decide) (by rw [hc16]; rfl) (by decide) ?_
    refine x_bipush 323 rfl (v := 101) dX9_letters_321 (by decide) ?_
    refine x_bipush 325 rfl (v := 121) dX9_letters_323 (by decide) ?_
    refine x_bipush 327 rfl (v := 101) dX9_letters_325 (by decide) ?_
    refine x_iconst 328 rfl (v := 0) dX9_letters_327 (by decide) ?_
    refine x_iconst 329 rfl (v := 0) dX9_letters_328 (by decide) ?_
    refine x_iconst 330 rfl (v := 0) dX9_letters_329 (by decide) ?_
    obtain ⟨⟨q17r, q17s⟩, q17h, h⟩ := x_bind h
    try dsimp only at h
    refine z_callS E [.int _, .int _, .int _, .int _, .int _, .int _] [] dX9_letters_330 K_RX9_180 ⟨Nat.le_of_ble_eq_true rfl, Nat.le_of_ble_eq_true rfl⟩ (c_Mo_spelled E _ _ _ _ _ _ q17h) rfl rfl (Nat.le_of_ble_eq_true rfl) 333 rfl [.long _] rfl ?_
    cases h
    exact x_lret dX9_letters_333 rfl rfl rfl
  replace h := x_ifF hc16 h
  refine x_case (17) (fun hc17 => ?_) (fun hc17 => ?_)
  · replace h := x_ifT hc17 h
    refine x_tabIn (off := 333) 334 dX9_letters_1 (by rw [hc17]; decide) (by rw [hc17]; decide) (by rw [hc17]; rfl) (by decide) ?_
    refine x_bipush 336 rfl (v := 115) dX9_letters_334 (by decide) ?_
    refine x_bipush 338 rfl (v := 104) dX9_letters_336 (by decide) ?_
    refine x_bipush 340 rfl (v := 111) dX9_letters_338 (by decide) ?_
    refine x_bipush 342 rfl (v := 119) dX9_letters_340 (by decide) ?_
    refine x_bipush 344 rfl (v := 115) dX9_letters_342 (by decide) ?_
    refine x_iconst 345 rfl (v := 0) dX9_letters_344 (by decide) ?_
    obtain ⟨⟨q18r, q18s⟩, q18h, h⟩ := x_bind h
    try dsimp only at h
    refine z_callS E [.int _, .int _, .int _, .int _, .int _, .int _] [] dX9_letters_345 K_RX9_180 ⟨Nat.le_of_ble_eq_true rfl, Nat.le_of_ble_eq_true rfl⟩ (c_Mo_spelled E _ _ _ _ _ _ q18h) rfl rfl (Nat.le_of_ble_eq_true rfl) 348 rfl [.long _] rfl ?_
    cases h
    exact x_lret dX9_letters_348 rfl rfl rfl
  replace h := x_ifF hc17 h
  refine x_case (18) (fun hc18 => ?_) (fun hc18 => ?_)
  · replace h := x_ifT hc18 h
    refine x_tabIn (off := 348) 349 dX9_letters_1 (by rw [hc18]; decide) (by rw [hc18]; decide) (by rw [hc18]; rfl) (by decide) ?_
    refine x_bipush 351 rfl (v := 104) dX9_letters_349 (by decide) ?_
    refine x_bipush 353 rfl (v := 97) dX9_letters_351 (by decide) ?_
    refine x_bipush 355 rfl (v := 110) dX9_letters_353 (by decide) ?_
    refine x_bipush 357 rfl (v := 100) dX9_letters_355 (by decide) ?_
    refine x_iconst 358 rfl (v := 0) dX9_letters_357 (by decide) ?_
    refine x_iconst 359 rfl (v := 0) dX9_letters_358 (by decide) ?_
    obtain ⟨⟨q19r, q19s⟩, q19h, h⟩ := x_bind h
    try dsimp only at h
    refine z_callS E [.int _, .int _, .int _, .int _, .int _, .int _] [] dX9_letters_359 K_RX9_180 ⟨Nat.le_of_ble_eq_true rfl, Nat.le_of_ble_eq_true rfl⟩ (c_Mo_spelled E _ _ _ _ _ _ q19h) rfl rfl (Nat.le_of_ble_eq_true rfl) 362 rfl [.long _] rfl ?_
    cases h
    exact x_lret dX9_letters_362 rfl rfl rfl
  replace h := x_ifF hc18 h
  refine x_case (19) (fun hc19 => ?_) (fun hc19 => ?_)
  · replace h := x_ifT hc19 h
    refine x_tabIn (off := 362) 363 dX9_letters_1 (by rw [hc19]; decide) (by rw [hc19]; decide) (by rw [hc19]; rfl) (by decide) ?_
    refine x_bipush 365 rfl (v := 97) dX9_letters_363 (by decide) ?_
    refine x_bipush 367 rfl (v := 110) dX9_letters_365 (by decide) ?_
    refine x_bipush 369 rfl (v := 100) dX9_letters_367 (by decide) ?_
    refine x_iconst 370 rfl (v := 0) dX9_letters_369 (by decide) ?_
    refine x_iconst 371 rfl (v := 0) dX9_letters_370 (by decide) ?_
    refine x_iconst 372 rfl (v := 0) dX9_letters_371 (by decide) ?_
    obtain ⟨⟨q20r, q20s⟩, q20h, h⟩ := x_bind h
    try dsimp only at h
    refine z_callS E [.int _, .int _, .int _, .int _, .int _, .int _] [] dX9_letters_372 K_RX9_180 ⟨Nat.le_of_ble_eq_true rfl, Nat.le_of_ble_eq_true rfl⟩ (c_Mo_spelled E _ _ _ _ _ _ q20h) rfl rfl (Nat.le_of_ble_eq_true rfl) 375 rfl [.long _] rfl ?_
    cases h
    exact x_lret dX9_letters_375 rfl rfl rfl
  replace h := x_ifF hc19 h
  refine x_case (20) (fun hc20 => ?_) (fun hc20 => ?_)
  · replace h := x_ifT hc20 h
    refine x_tabIn (off := 375) 376 dX9_letters_1 (by rw [hc20]; decide) (by rw [hc20]; decide) (by rw [hc20]; rfl) (by decide) ?_
    refine x_bipush 378 rfl (v := 111) dX9_letters_376 (by decide) ?_
    refine x_bipush 380 rfl (v := 114) dX9_letters_378 (by decide) ?_
    refine x_iconst 381 rfl (v := 0) dX9_letters_380 (by decide) ?_
    refine x_iconst 382 rfl (v := 0) dX9_letters_381 (by decide) ?_
    refine x_iconst 383 rfl (v := 0) dX9_letters_382 (by decide) ?_
    refine x_iconst 384 rfl (v := 0) dX9_letters_383 (by decide) ?_
    obtain ⟨⟨q21r, q21s⟩, q21h, h⟩ := x_bind h
    try dsimp only at h
    refine z_callS E [.int _, .int _, .int _, .int _, .int _, .int _] [] dX9_letters_384 K_RX9_180 ⟨Nat.le_of_ble_eq_true rfl, Nat.le_of_ble_eq_true rfl⟩ (c_Mo_spelled E _ _ _ _ _ _ q21h) rfl rfl (Nat.le_of_ble_eq_true rfl) 387 rfl [.long _] rfl ?_
    cases h
    exact x_lret dX9_letters_387 rfl rfl rfl
  replace h := x_ifF hc20 h
  refine x_tabOut 388 dX9_letters_1 (by have g0 := x_toNe hc0 (k := 0) (by decide); have g1 := x_toNe hc1 (k := 1) (by decide); have g2 := x_toNe hc2 (k := 2) (by decide); have g3 := x_toNe hc3 (k := 3) (by decide); have g4 := x_toNe hc4 (k := 4) (by decide); have g5 := x_toNe hc5 (k := 5) (by decide); have g6 := x_toNe hc6 (k := 6) (by decide); have g7 := x_toNe hc7 (k := 7) (by decide); have g8 := x_toNe hc8 (k := 8) (by decide); have g9 := x_toNe hc9 (k := 9) (by decide); have g10 := x_toNe hc10 (k := 10) (by decide); have g11 := x_toNe hc11 (k := 11) (by decide); have g12 := x_toNe hc12 (k := 12) (by decide); have g13 := x_toNe hc13 (k := 13) (by decide); have g14 := x_toNe hc14 (k := 14) (by decide); have g15 := x_toNe hc15 (k := 15) (by decide); have g16 := x_toNe hc16 (k := 16) (by decide); have g17 := x_toNe hc17 (k := 17) (by decide); have g18 := x_toNe hc18 (k := 18) (by decide); have g19 := x_toNe hc19 (k := 19) (by decide); have g20 := x_toNe hc20 (k := 20) (by decide); omega) (by decide) ?_
  refine x_bipush 390 rfl (v := 110) dX9_letters_388 (by decide) ?_
  refine x_bipush 392 rfl (v := 111) dX9_letters_390 (by decide) ?_
  refine x_bipush 394 rfl (v := 116) dX9_letters_392 (by decide) ?_
  refine x_iconst 395 rfl (v := 0) dX9_letters_394 (by decide) ?_
  refine x_iconst 396 rfl (v := 0) dX9_letters_395 (by decide) ?_
  refine x_iconst 397 rfl (v := 0) dX9_letters_396 (by decide) ?_
  obtain ⟨⟨q22r, q22s⟩, q22h, h⟩ := x_bind h
  try dsimp only at h
  refine z_callS E [.int _, .int _, .int _, .int _, .int _, .int _] [] dX9_letters_397 K_RX9_180 ⟨Nat.le_of_ble_eq_true rfl, Nat.le_of_ble_eq_true rfl⟩ (c_Mo_spelled E _ _ _ _ _ _ q22h) rfl rfl (Nat.le_of_ble_eq_true rfl) 400 rfl [.long _] rfl ?_
  cases h
  exact x_lret dX9_letters_400 rfl rfl rfl
theorem K_RX9_184 : x_KS RX9 184 M_Mo_letters 1 := ⟨⟨(List.mem_append_right _ (List.mem_of_getElem? (i := 1517) (by decide +kernel))), (List.mem_append_right _ (List.mem_of_getElem? (i := 1519) (by decide +kernel))), (List.mem_append_right _ (List.mem_of_getElem? (i := 9) (by decide +kernel))), ⟨by decide +kernel, by decide +kernel⟩, by decide +kernel⟩, (List.mem_append_right _ (List.mem_of_getElem? (i := 1518) (by decide +kernel)))⟩
abbrev M_Mo_knownWord : xM := (yX9_knownWord, cX9_knownWord, 2, some .int, [])
theorem dX9_knownWord_0 : decode cX9_knownWord 0 = .ok (.aload_n 0, 1) := by decide +kernel
theorem dX9_knownWord_1 : decode cX9_knownWord 1 = .ok (.getfield 165, 3) := by decide +kernel
theorem dX9_knownWord_4 : decode cX9_knownWord 4 = .ok (.iconst 1, 1) := by decide +kernel
theorem dX9_knownWord_5 : decode cX9_knownWord 5 = .ok (.if_icmp .ne 12, 3) := by decide +kernel
theorem dX9_knownWord_8 : decode cX9_knownWord 8 = .ok (.aload_n 0, 1) := by decide +kernel
theorem dX9_knownWord_9 : decode cX9_knownWord 9 = .ok (.getfield 175, 3) := by decide +kernel
theorem dX9_knownWord_12 : decode cX9_knownWord 12 = .ok (.bipush 6, 2) := by decide +kernel
theorem dX9_knownWord_14 : decode cX9_knownWord 14 = .ok (.if_icmp .le 5, 3) := by decide +kernel
theorem dX9_knownWord_17 : decode cX9_knownWord 17 = .ok (.iconst (-1), 1) := by decide +kernel
theorem dX9_knownWord_18 : decode cX9_knownWord 18 = .ok (.ireturn, 1) := by decide +kernel
theorem dX9_knownWord_19 : decode cX9_knownWord 19 = .ok (.iconst 0, 1) := by decide +kernel
theorem dX9_knownWord_20 : decode cX9_knownWord 20 = .ok (.istore_n 1, 1) := by decide +kernel
theorem dX9_knownWord_21 : decode cX9_knownWord 21 = .ok (.iload_n 1, 1) := by decide +kernel
theorem dX9_knownWord_22 : decode cX9_knownWord 22 = .ok (.bipush 22, 2) := by decide +kernel
theorem dX9_knownWord_24 : decode cX9_knownWord 24 = .ok (.if_icmp .ge 23, 3) := by decide +kernel
theorem dX9_knownWord_27 : decode cX9_knownWord 27 = .ok (.iload_n 1, 1) := by decide +kernel
theorem dX9_knownWord_28 : decode cX9_knownWord 28 = .ok (.invokestatic 184, 3) := by decide +kernel
theorem dX9_knownWord_31 : decode cX9_knownWord 31 = .ok (.aload_n 0, 1) := by decide +kernel
theorem dX9_knownWord_32 : decode cX9_knownWord 32 = .ok (.getfield 155, 3) := by decide +kernel
theorem dX9_knownWord_35 : decode cX9_knownWord 35 = .ok (.lcmp, 1) := by decide +kernel
theorem dX9_knownWord_36 : decode cX9_knownWord 36 = .ok (.ifCond .ne 5, 3) := by decide +kernel
theorem dX9_knownWord_39 : decode cX9_knownWord 39 = .ok (.iload_n 1, 1) := by decide +kernel
theorem dX9_knownWord_40 : decode cX9_knownWord 40 = .ok (.ireturn, 1) := by decide +kernel
theorem dX9_knownWord_41 : decode cX9_knownWord 41 = .ok (.iinc 1 1, 3) := by decide +kernel
theorem dX9_knownWord_44 : decode cX9_knownWord 44 = .ok (.goto (-23), 3) := by decide +kernel
theorem dX9_knownWord_47 : decode cX9_knownWord 47 = .ok (.iconst (-1), 1) := by decide +kernel
theorem dX9_knownWord_48 : decode cX9_knownWord 48 = .ok (.ireturn, 1) := by decide +kernel
def f_Mo_knownWord_60_L21  (a : Int32 × xS) : Option (((Int32 × xS) ⊕ (Int32 × xS)) ⊕ (Int32 × xS)) :=
  let v1 := a.1; let σ := a.2;
  if (22 : Int32) ≤ v1 then
    some (.inl (.inr (v1, σ)))
  else
    (f_Mo_letters v1 σ).bind fun q1 =>
    if (lg_cmp q1.1 (q1.2.2 60 26)) = 0 then
      some (.inl (.inl (v1, q1.2)))
    else
      let w2 := v1 + (1 : Int32)
      some (.inr (w2, q1.2))
def f_Mo_knownWord_60  (σ : xS) : Option (Int32 × xS) :=
  if σ.1 60 21 = (1 : Int32) then
    if σ.1 60 23 ≤ (6 : Int32) then
      (x_it (f_Mo_knownWord_60_L21 ) 10000 ((0 : Int32), σ)).bind fun b3 =>
      match b3 with
      | .inl b3r => some b3r
      | .inr b3e =>
        some ((-1 : Int32), b3e.2)
    else
      some ((-1 : Int32), σ)
  else
    some ((-1 : Int32), σ)
set_option maxHeartbeats 4000000 in
set_option maxRecDepth 100000 in
theorem b_Mo_knownWord_60_L21 {l : Launch} {s0 : State} {a0 : Array Value} {D : va_G} {cA : Nat → ClassId} {sp : Nat → Nat} (E : x_En CL l s0 a0 D cA sp)  {r : Int32} {σ1 : xS} (a : Int32 × xS) (o : ((Int32 × xS) ⊕ (Int32 × xS)) ⊕ (Int32 × xS)) (h : f_Mo_knownWord_60_L21  a = some o) (hK : ∀ b, o = .inl b → (∀ q, b = .inl q → q = (r, σ1)) ∧ ∀ e, b = .inr e → zW l s0 D cA sp (zQ s0 D cA sp (some (.int r)) σ1) (x_rm 2 0 0) M_Mo_knownWord 0 0 47 [none, none] [] e.2) (hG : ∀ a', o = .inr a' → zW l s0 D cA sp (zQ s0 D cA sp (some (.int r)) σ1) (x_rm 2 0 0) M_Mo_knownWord 0 0 21 [some (.ref 60), some (.int a'.1)] [] a'.2) : zW l s0 D cA sp (zQ s0 D cA sp (some (.int r)) σ1) (x_rm 2 0 0) M_Mo_knownWord 0 0 21 [some (.ref 60), some (.int a.1)] [] a.2 := by
  obtain ⟨v1, σ⟩ := a
  unfold f_Mo_knownWord_60_L21 at h
  try dsimp only at h ⊢
  refine x_iload_n 22 rfl 1 dX9_knownWord_21 rfl rfl ?_
  refine x_bipush 24 rfl (v := 22) dX9_knownWord_22 (by decide) ?_
  refine x_icmp_ge 27 rfl 47 dX9_knownWord_24 (by decide) (fun hc => ?_) (fun hc => ?_)
  · replace h := x_ifT hc h
    cases h
    exact x_wk (x_le_n (x_le_n x_le_0)) ((hK (.inr (_, _)) rfl).2 (_, _) rfl)
  · replace h := x_ifF hc h
    refine x_iload_n 28 rfl 1 dX9_knownWord_27 rfl rfl ?_
    obtain ⟨⟨q1r, q1s⟩, q1h, h⟩ := x_bind h
    try dsimp only at h
    refine z_callS E [.int _] [] dX9_knownWord_28 K_RX9_184 ⟨Nat.le_of_ble_eq_true rfl, Nat.le_of_ble_eq_true rfl⟩ (c_Mo_letters E _ q1h) rfl rfl (Nat.le_of_ble_eq_true rfl) 31 rfl [.long _] rfl ?_
    refine x_aload_n 32 rfl 0 dX9_knownWord_31 rfl rfl ?_
    refine x_getL E dX9_knownWord_32 F_RX9_155 sh_60 35 rfl ?_
    refine x_lcmp 36 rfl dX9_knownWord_35 ?_
    refine x_if_ne 39 rfl 41 dX9_knownWord_36 (by decide) (fun hc => ?_) (fun hc => ?_)
    · replace h := x_ifF hc h
      refine x_iinc 44 rfl (1) dX9_knownWord_41 rfl (by decide) (by decide) [some (.ref 60), some (.int _)] rfl ?_
      refine x_goto 21 dX9_knownWord_44 (by decide) ?_
      cases h
      exact x_wk (x_le_s (x_le_s x_le_0)) (hG (_, _) rfl)
    · replace h := x_ifT hc h
      refine x_iload_n 40 rfl 1 dX9_knownWord_39 rfl rfl ?_
      cases h
      cases (hK (.inl (_, _)) rfl).1 (_, _) rfl
      exact x_iret dX9_knownWord_40 rfl rfl rfl
set_option maxHeartbeats 4000000 in
set_option maxRecDepth 100000 in
theorem c_Mo_knownWord_60 {l : Launch} {s0 : State} {a0 : Array Value} {D : va_G} {cA : Nat → ClassId} {sp : Nat → Nat} (E : x_En CL l s0 a0 D cA sp)  {σ : xS} {r : Int32} {σ1 : xS} (h : f_Mo_knownWord_60  σ = some (r, σ1)) : zC l s0 D cA sp 2 M_Mo_knownWord [.ref 60] σ (some (.int r)) σ1 := by
  unfold f_Mo_knownWord_60 at h
  try dsimp only at h
  refine x_enter [some (.ref 60), none] rfl (Nat.le_of_ble_eq_true rfl) (by decide +kernel) rfl ?_
  refine x_aload_n 1 rfl 0 dX9_knownWord_0 rfl rfl ?_
  refine x_getI E dX9_knownWord_1 F_RX9_165 sh_60 4 rfl ?_
  refine x_iconst 5 rfl (v := 1) dX9_knownWord_4 (by decide) ?_
  refine x_icmp_ne 8 rfl 17 dX9_knownWord_5 (by decide) (fun hc => ?_) (fun hc => ?_)
  · replace h := x_ifF hc h
    refine x_iconst 18 rfl (v := -1) dX9_knownWord_17 (by decide) ?_
    cases h
    exact x_iret dX9_knownWord_18 rfl rfl rfl
  · replace h := x_ifT hc h
    refine x_aload_n 9 rfl 0 dX9_knownWord_8 rfl rfl ?_
    refine x_getI E dX9_knownWord_9 F_RX9_175 sh_60 12 rfl ?_
    refine x_bipush 14 rfl (v := 6) dX9_knownWord_12 (by decide) ?_
    refine x_icmp_le 17 rfl 19 dX9_knownWord_14 (by decide) (fun hc => ?_) (fun hc => ?_)
    · replace h := x_ifT hc h
      refine x_iconst 20 rfl (v := 0) dX9_knownWord_19 (by decide) ?_
      refine x_istore_n 21 rfl 1 dX9_knownWord_20 rfl (by decide) [some (.ref 60), some (.int _)] rfl ?_
      obtain ⟨b3, b3h, h⟩ := x_bind h
      try dsimp only at h
      refine x_wk (x_le_s (x_le_s x_le_0)) (x_loop (fun a o h hK hG => b_Mo_knownWord_60_L21 (r := r) (σ1 := σ1) E  a o h hK hG) _ _ _ b3h ?_)
      cases b3 with
      | inl b3r =>
        try dsimp only at h
        cases h
        exact ⟨fun q e => (by cases e; rfl), fun e he => (by cases he)⟩
      | inr b3e =>
        try dsimp only at h
        refine ⟨fun q e => (by cases e), fun e he => ?_⟩
        cases he
        refine x_iconst 48 rfl (v := -1) dX9_knownWord_47 (by decide) ?_
        cases h
        exact x_iret dX9_knownWord_48 rfl rfl rfl
    · replace h := x_ifF hc h
      refine x_iconst 18 rfl (v := -1) dX9_knownWord_17 (by decide) ?_
      cases h
      exact x_iret dX9_knownWord_18 rfl rfl rfl
abbrev M_Mo_wrong : xM := (yX9_wrong, cX9_wrong, 2, none, [])
theorem dX9_wrong_0 : decode cX9_wrong 0 = .ok (.aload_n 0, 1) := by decide +kernel
theorem dX9_wrong_1 : decode cX9_wrong 1 = .ok (.getfield 188, 3) := by decide +kernel
theorem dX9_wrong_4 : decode cX9_wrong 4 = .ok (.ifCond .eq 4, 3) := by decide +kernel
theorem dX9_wrong_7 : decode cX9_wrong 7 = .ok (.return_, 1) := by decide +kernel
theorem dX9_wrong_8 : decode cX9_wrong 8 = .ok (.aload_n 0, 1) := by decide +kernel
theorem dX9_wrong_9 : decode cX9_wrong 9 = .ok (.iload_n 1, 1) := by decide +kernel
theorem dX9_wrong_10 : decode cX9_wrong 10 = .ok (.putfield 188, 3) := by decide +kernel
theorem dX9_wrong_13 : decode cX9_wrong 13 = .ok (.aload_n 0, 1) := by decide +kernel
theorem dX9_wrong_14 : decode cX9_wrong 14 = .ok (.aload_n 0, 1) := by decide +kernel
theorem dX9_wrong_15 : decode cX9_wrong 15 = .ok (.getfield 152, 3) := by decide +kernel
theorem dX9_wrong_18 : decode cX9_wrong 18 = .ok (.putfield 41, 3) := by decide +kernel
theorem dX9_wrong_21 : decode cX9_wrong 21 = .ok (.return_, 1) := by decide +kernel
def f_Mo_wrong_60 (v1 : Int32) (σ : xS) : Option (Unit × xS) :=
  if σ.1 60 16 = 0 then
    let σ1 := x_pI σ 60 16 v1
    let σ2 := x_pI σ1 60 17 (σ1.1 60 22)
    some ((), σ2)
  else
    some ((), σ)
set_option maxHeartbeats 4000000 in
set_option maxRecDepth 100000 in
theorem c_Mo_wrong_60 {l : Launch} {s0 : State} {a0 : Array Value} {D : va_G} {cA : Nat → ClassId} {sp : Nat → Nat} (E : x_En CL l s0 a0 D cA sp) (v1 : Int32) {σ : xS} {r : Unit} {σ1 : xS} (h : f_Mo_wrong_60 v1 σ = some (r, σ1)) : zC l s0 D cA sp 0 M_Mo_wrong [.ref 60, .int v1] σ none σ1 := by
  unfold f_Mo_wrong_60 at h
  try dsimp only at h
  refine x_enter [some (.ref 60), some (.int v1)] rfl (Nat.le_of_ble_eq_true rfl) (by decide +kernel) rfl ?_
  refine x_aload_n 1 rfl 0 dX9_wrong_0 rfl rfl ?_
  refine x_getI E dX9_wrong_1 F_RX9_188 sh_60 4 rfl ?_
  refine x_if_eq 7 rfl 8 dX9_wrong_4 (by decide) (fun hc => ?_) (fun hc => ?_)
  · replace h := x_ifT hc h
    refine x_aload_n 9 rfl 0 dX9_wrong_8 rfl rfl ?_
    refine x_iload_n 10 rfl 1 dX9_wrong_9 rfl rfl ?_
    refine x_putI E dX9_wrong_10 F_RX9_188 sh_60 13 rfl ?_
    refine x_aload_n 14 rfl 0 dX9_wrong_13 rfl rfl ?_
    refine x_aload_n 15 rfl 0 dX9_wrong_14 rfl rfl ?_
    refine x_getI E dX9_wrong_15 F_RX9_152 sh_60 18 rfl ?_
    refine x_putI E dX9_wrong_18 F_RX9_41 sh_60 21 rfl ?_
    cases h
    exact x_vret dX9_wrong_21 rfl rfl rfl
  · replace h := x_ifF hc h
    cases h
    exact x_vret dX9_wrong_7 rfl rfl rfl
abbrev M_Mo_isGood : xM := (yX9_isGood, cX9_isGood, 1, some .boolean, [])
theorem dX9_isGood_0 : decode cX9_isGood 0 = .ok (.aload_n 0, 1) := by decide +kernel
theorem dX9_isGood_1 : decode cX9_isGood 1 = .ok (.getfield 188, 3) := by decide +kernel
theorem dX9_isGood_4 : decode cX9_isGood 4 = .ok (.ifCond .ne 7, 3) := by decide +kernel
theorem dX9_isGood_7 : decode cX9_isGood 7 = .ok (.iconst 1, 1) := by decide +kernel
theorem dX9_isGood_8 : decode cX9_isGood 8 = .ok (.goto 4, 3) := by decide +kernel
theorem dX9_isGood_11 : decode cX9_isGood 11 = .ok (.iconst 0, 1) := by decide +kernel
theorem dX9_isGood_12 : decode cX9_isGood 12 = .ok (.ireturn, 1) := by decide +kernel
def f_Mo_isGood_60  (σ : xS) : Option (Int32 × xS) :=
  if σ.1 60 16 = 0 then
    some ((1 : Int32), σ)
  else
    some ((0 : Int32), σ)
set_option maxHeartbeats 4000000 in
set_option maxRecDepth 100000 in
theorem c_Mo_isGood_60 {l : Launch} {s0 : State} {a0 : Array Value} {D : va_G} {cA : Nat → ClassId} {sp : Nat → Nat} (E : x_En CL l s0 a0 D cA sp)  {σ : xS} {r : Int32} {σ1 : xS} (h : f_Mo_isGood_60  σ = some (r, σ1)) : zC l s0 D cA sp 0 M_Mo_isGood [.ref 60] σ (some (.int r)) σ1 := by
  unfold f_Mo_isGood_60 at h
  try dsimp only at h
  refine x_enter [some (.ref 60)] rfl (Nat.le_of_ble_eq_true rfl) (by decide +kernel) rfl ?_
  refine x_aload_n 1 rfl 0 dX9_isGood_0 rfl rfl ?_
  refine x_getI E dX9_isGood_1 F_RX9_188 sh_60 4 rfl ?_
  refine x_if_ne 7 rfl 11 dX9_isGood_4 (by decide) (fun hc => ?_) (fun hc => ?_)
  · replace h := x_ifF hc h
    refine x_iconst 12 rfl (v := 0) dX9_isGood_11 (by decide) ?_
    cases h
    exact x_zret (Or.inl rfl) dX9_isGood_12 rfl rfl rfl
  · replace h := x_ifT hc h
    refine x_iconst 8 rfl (v := 1) dX9_isGood_7 (by decide) ?_
    refine x_goto 12 dX9_isGood_8 (by decide) ?_
    cases h
    exact x_zret (Or.inr rfl) dX9_isGood_12 rfl rfl rfl
abbrev M_Mo_isSign : xM := (yX9_isSign, cX9_isSign, 2, some .boolean, [])
theorem dX9_isSign_0 : decode cX9_isSign 0 = .ok (.aload_n 0, 1) := by decide +kernel
theorem dX9_isSign_1 : decode cX9_isSign 1 = .ok (.getfield 165, 3) := by decide +kernel
theorem dX9_isSign_4 : decode cX9_isSign 4 = .ok (.iconst 3, 1) := by decide +kernel
theorem dX9_isSign_5 : decode cX9_isSign 5 = .ok (.if_icmp .ne 15, 3) := by decide +kernel
theorem dX9_isSign_8 : decode cX9_isSign 8 = .ok (.aload_n 0, 1) := by decide +kernel
theorem dX9_isSign_9 : decode cX9_isSign 9 = .ok (.getfield 162, 3) := by decide +kernel
theorem dX9_isSign_12 : decode cX9_isSign 12 = .ok (.iload_n 1, 1) := by decide +kernel
theorem dX9_isSign_13 : decode cX9_isSign 13 = .ok (.if_icmp .ne 7, 3) := by decide +kernel
theorem dX9_isSign_16 : decode cX9_isSign 16 = .ok (.iconst 1, 1) := by decide +kernel
theorem dX9_isSign_17 : decode cX9_isSign 17 = .ok (.goto 4, 3) := by decide +kernel
theorem dX9_isSign_20 : decode cX9_isSign 20 = .ok (.iconst 0, 1) := by decide +kernel
theorem dX9_isSign_21 : decode cX9_isSign 21 = .ok (.ireturn, 1) := by decide +kernel
def f_Mo_isSign_60 (v1 : Int32) (σ : xS) : Option (Int32 × xS) :=
  if σ.1 60 21 = (3 : Int32) then
    if σ.1 60 25 = v1 then
      some ((1 : Int32), σ)
    else
      some ((0 : Int32), σ)
  else
    some ((0 : Int32), σ)
set_option maxHeartbeats 4000000 in
set_option maxRecDepth 100000 in
theorem c_Mo_isSign_60 {l : Launch} {s0 : State} {a0 : Array Value} {D : va_G} {cA : Nat → ClassId} {sp : Nat → Nat} (E : x_En CL l s0 a0 D cA sp) (v1 : Int32) {σ : xS} {r : Int32} {σ1 : xS} (h : f_Mo_isSign_60 v1 σ = some (r, σ1)) : zC l s0 D cA sp 0 M_Mo_isSign [.ref 60, .int v1] σ (some (.int r)) σ1 := by
  unfold f_Mo_isSign_60 at h
  try dsimp only at h
  refine x_enter [some (.ref 60), some (.int v1)] rfl (Nat.le_of_ble_eq_true rfl) (by decide +kernel) rfl ?_
  refine x_aload_n 1 rfl 0 dX9_isSign_0 rfl rfl ?_
  refine x_getI E dX9_isSign_1 F_RX9_165 sh_60 4 rfl ?_
  refine x_iconst 5 rfl (v := 3) dX9_isSign_4 (by decide) ?_
  refine x_icmp_ne 8 rfl 20 dX9_isSign_5 (by decide) (fun hc => ?_) (fun hc => ?_)
  · replace h := x_ifF hc h
    refine x_iconst 21 rfl (v := 0) dX9_isSign_20 (by decide) ?_
    cases h
    exact x_zret (Or.inl rfl) dX9_isSign_21 rfl rfl rfl
  · replace h := x_ifT hc h
    refine x_aload_n 9 rfl 0 dX9_isSign_8 rfl rfl ?_
    refine x_getI E dX9_isSign_9 F_RX9_162 sh_60 12 rfl ?_
    refine x_iload_n 13 rfl 1 dX9_isSign_12 rfl rfl ?_
    refine x_icmp_ne 16 rfl 20 dX9_isSign_13 (by decide) (fun hc => ?_) (fun hc => ?_)
    · replace h := x_ifF hc h
      refine x_iconst 21 rfl (v := 0) dX9_isSign_20 (by decide) ?_
      cases h
      exact x_zret (Or.inl rfl) dX9_isSign_21 rfl rfl rfl
    · replace h := x_ifT hc h
      refine x_iconst 17 rfl (v := 1) dX9_isSign_16 (by decide) ?_
      refine x_goto 21 dX9_isSign_17 (by decide) ?_
      cases h
      exact x_zret (Or.inr rfl) dX9_isSign_21 rfl rfl rfl
theorem K_RX9_191 : x_KV RX9 191 M_Mo_isGood 0 := ⟨⟨(List.mem_append_right _ (List.mem_of_getElem? (i := 1532) (by decide +kernel))), (List.mem_append_right _ (List.mem_of_getElem? (i := 1535) (by decide +kernel))), (List.mem_append_right _ (List.mem_of_getElem? (i := 9) (by decide +kernel))), ⟨by decide +kernel, by decide +kernel⟩, by decide +kernel⟩, (List.mem_append_right _ (List.mem_of_getElem? (i := 1534) (by decide +kernel))), (List.mem_append_left _ (List.mem_of_getElem? (i := 56) (by decide +kernel)))⟩
theorem K_RX9_195 : x_KV RX9 195 M_Mo_goes 0 := ⟨⟨(List.mem_append_right _ (List.mem_of_getElem? (i := 1499) (by decide +kernel))), (List.mem_append_right _ (List.mem_of_getElem? (i := 1502) (by decide +kernel))), (List.mem_append_right _ (List.mem_of_getElem? (i := 9) (by decide +kernel))), ⟨by decide +kernel, by decide +kernel⟩, by decide +kernel⟩, (List.mem_append_right _ (List.mem_of_getElem? (i := 1501) (by decide +kernel))), (List.mem_append_left _ (List.mem_of_getElem? (i := 51) (by decide +kernel)))⟩
theorem K_RX9_198 : x_KV RX9 198 M_Mo_wrong 1 := ⟨⟨(List.mem_append_right _ (List.mem_of_getElem? (i := 1536) (by decide +kernel))), (List.mem_append_right _ (List.mem_of_getElem? (i := 1539) (by decide +kernel))), (List.mem_append_right _ (List.mem_of_getElem? (i := 9) (by decide +kernel))), ⟨by decide +kernel, by decide +kernel⟩, by decide +kernel⟩, (List.mem_append_right _ (List.mem_of_getElem? (i := 1538) (by decide +kernel))), (List.mem_append_left _ (List.mem_of_getElem? (i := 57) (by decide +kernel)))⟩
abbrev M_Mo_need : xM := (yX9_need, cX9_need, 2, none, [])
theorem dX9_need_0 : decode cX9_need 0 = .ok (.aload_n 0, 1) := by decide +kernel
theorem dX9_need_1 : decode cX9_need 1 = .ok (.invokevirtual 191, 3) := by decide +kernel
theorem dX9_need_4 : decode cX9_need 4 = .ok (.ifCond .ne 4, 3) := by decide +kernel
theorem dX9_need_7 : decode cX9_need 7 = .ok (.return_, 1) := by decide +kernel
theorem dX9_need_8 : decode cX9_need 8 = .ok (.iload_n 1, 1) := by decide +kernel
theorem dX9_need_9 : decode cX9_need 9 = .ok (.ifCond .eq 10, 3) := by decide +kernel
theorem dX9_need_12 : decode cX9_need 12 = .ok (.aload_n 0, 1) := by decide +kernel
theorem dX9_need_13 : decode cX9_need 13 = .ok (.invokevirtual 195, 3) := by decide +kernel
theorem dX9_need_16 : decode cX9_need 16 = .ok (.goto 8, 3) := by decide +kernel
theorem dX9_need_19 : decode cX9_need 19 = .ok (.aload_n 0, 1) := by decide +kernel
theorem dX9_need_20 : decode cX9_need 20 = .ok (.iconst 1, 1) := by decide +kernel
theorem dX9_need_21 : decode cX9_need 21 = .ok (.invokevirtual 198, 3) := by decide +kernel
theorem dX9_need_24 : decode cX9_need 24 = .ok (.return_, 1) := by decide +kernel
def f_Mo_need_60 (v1 : Int32) (σ : xS) : Option (Unit × xS) :=
  (f_Mo_isGood_60  σ).bind fun q1 =>
  if q1.1 = 0 then
    some ((), q1.2)
  else
    if v1 = 0 then
      (f_Mo_wrong_60 (1 : Int32) q1.2).bind fun q2 =>
      some ((), q2.2)
    else
      (f_Mo_goes_60  q1.2).bind fun q3 =>
      some ((), q3.2)
set_option maxHeartbeats 4000000 in
set_option maxRecDepth 100000 in
theorem c_Mo_need_60 {l : Launch} {s0 : State} {a0 : Array Value} {D : va_G} {cA : Nat → ClassId} {sp : Nat → Nat} (E : x_En CL l s0 a0 D cA sp) (v1 : Int32) {σ : xS} {r : Unit} {σ1 : xS} (h : f_Mo_need_60 v1 σ = some (r, σ1)) : zC l s0 D cA sp 2 M_Mo_need [.ref 60, .int v1] σ none σ1 := by
  unfold f_Mo_need_60 at h
  try dsimp only at h
  refine x_enter [some (.ref 60), some (.int v1)] rfl (Nat.le_of_ble_eq_true rfl) (by decide +kernel) rfl ?_
  refine x_aload_n 1 rfl 0 dX9_need_0 rfl rfl ?_
  obtain ⟨⟨q1r, q1s⟩, q1h, h⟩ := x_bind h
  try dsimp only at h
  refine z_callV E [] [] dX9_need_1 K_RX9_191 ⟨Nat.le_of_ble_eq_true rfl, Nat.le_of_ble_eq_true rfl⟩ sh_60 (by decide) rfl (c_Mo_isGood_60 E  q1h) rfl rfl (Nat.le_of_ble_eq_true rfl) 4 rfl [.int _] rfl ?_
  refine x_if_ne 7 rfl 8 dX9_need_4 (by decide) (fun hc => ?_) (fun hc => ?_)
  · replace h := x_ifF hc h
    refine x_iload_n 9 rfl 1 dX9_need_8 rfl rfl ?_
    refine x_if_eq 12 rfl 19 dX9_need_9 (by decide) (fun hc => ?_) (fun hc => ?_)
    · replace h := x_ifT hc h
      refine x_aload_n 20 rfl 0 dX9_need_19 rfl rfl ?_
      refine x_iconst 21 rfl (v := 1) dX9_need_20 (by decide) ?_
      obtain ⟨⟨q2r, q2s⟩, q2h, h⟩ := x_bind h
      try dsimp only at h
      refine z_callV E [.int _] [] dX9_need_21 K_RX9_198 ⟨Nat.le_of_ble_eq_true rfl, Nat.le_of_ble_eq_true rfl⟩ sh_60 (by decide) rfl (c_Mo_wrong_60 E _ q2h) rfl rfl (Nat.le_of_ble_eq_true rfl) 24 rfl [] rfl ?_
      cases h
      exact x_vret dX9_need_24 rfl rfl rfl
    · replace h := x_ifF hc h
      refine x_aload_n 13 rfl 0 dX9_need_12 rfl rfl ?_
      obtain ⟨⟨q3r, q3s⟩, q3h, h⟩ := x_bind h
      try dsimp only at h
      refine z_callV E [] [] dX9_need_13 K_RX9_195 ⟨Nat.le_of_ble_eq_true rfl, Nat.le_of_ble_eq_true rfl⟩ sh_60 (by decide) rfl (c_Mo_goes_60 E  q3h) rfl rfl (Nat.le_of_ble_eq_true rfl) 16 rfl [] rfl ?_
      refine x_goto 24 dX9_need_16 (by decide) ?_
      cases h
      exact x_vret dX9_need_24 rfl rfl rfl
  · replace h := x_ifT hc h
    cases h
    exact x_vret dX9_need_7 rfl rfl rfl
abbrev M_Mo_numberHere : xM := (yX9_numberHere, cX9_numberHere, 3, some .boolean, [])
theorem dX9_numberHere_0 : decode cX9_numberHere 0 = .ok (.aload_n 0, 1) := by decide +kernel
theorem dX9_numberHere_1 : decode cX9_numberHere 1 = .ok (.invokevirtual 191, 3) := by decide +kernel
theorem dX9_numberHere_4 : decode cX9_numberHere 4 = .ok (.ifCond .ne 5, 3) := by decide +kernel
theorem dX9_numberHere_7 : decode cX9_numberHere 7 = .ok (.iconst 0, 1) := by decide +kernel
theorem dX9_numberHere_8 : decode cX9_numberHere 8 = .ok (.ireturn, 1) := by decide +kernel
theorem dX9_numberHere_9 : decode cX9_numberHere 9 = .ok (.aload_n 0, 1) := by decide +kernel
theorem dX9_numberHere_10 : decode cX9_numberHere 10 = .ok (.getfield 165, 3) := by decide +kernel
theorem dX9_numberHere_13 : decode cX9_numberHere 13 = .ok (.iconst 2, 1) := by decide +kernel
theorem dX9_numberHere_14 : decode cX9_numberHere 14 = .ok (.if_icmp .eq 11, 3) := by decide +kernel
theorem dX9_numberHere_17 : decode cX9_numberHere 17 = .ok (.aload_n 0, 1) := by decide +kernel
theorem dX9_numberHere_18 : decode cX9_numberHere 18 = .ok (.iconst 1, 1) := by decide +kernel
theorem dX9_numberHere_19 : decode cX9_numberHere 19 = .ok (.invokevirtual 198, 3) := by decide +kernel
theorem dX9_numberHere_22 : decode cX9_numberHere 22 = .ok (.goto 32, 3) := by decide +kernel
theorem dX9_numberHere_25 : decode cX9_numberHere 25 = .ok (.aload_n 0, 1) := by decide +kernel
theorem dX9_numberHere_26 : decode cX9_numberHere 26 = .ok (.getfield 175, 3) := by decide +kernel
theorem dX9_numberHere_29 : decode cX9_numberHere 29 = .ok (.iconst 4, 1) := by decide +kernel
theorem dX9_numberHere_30 : decode cX9_numberHere 30 = .ok (.if_icmp .gt 19, 3) := by decide +kernel
theorem dX9_numberHere_33 : decode cX9_numberHere 33 = .ok (.aload_n 0, 1) := by decide +kernel
theorem dX9_numberHere_34 : decode cX9_numberHere 34 = .ok (.getfield 159, 3) := by decide +kernel
theorem dX9_numberHere_37 : decode cX9_numberHere 37 = .ok (.iload_n 1, 1) := by decide +kernel
theorem dX9_numberHere_38 : decode cX9_numberHere 38 = .ok (.if_icmp .lt 11, 3) := by decide +kernel
theorem dX9_numberHere_41 : decode cX9_numberHere 41 = .ok (.aload_n 0, 1) := by decide +kernel
theorem dX9_numberHere_42 : decode cX9_numberHere 42 = .ok (.getfield 159, 3) := by decide +kernel
theorem dX9_numberHere_45 : decode cX9_numberHere 45 = .ok (.iload_n 2, 1) := by decide +kernel
theorem dX9_numberHere_46 : decode cX9_numberHere 46 = .ok (.if_icmp .le 8, 3) := by decide +kernel
theorem dX9_numberHere_49 : decode cX9_numberHere 49 = .ok (.aload_n 0, 1) := by decide +kernel
theorem dX9_numberHere_50 : decode cX9_numberHere 50 = .ok (.iconst 2, 1) := by decide +kernel
theorem dX9_numberHere_51 : decode cX9_numberHere 51 = .ok (.invokevirtual 198, 3) := by decide +kernel
theorem dX9_numberHere_54 : decode cX9_numberHere 54 = .ok (.aload_n 0, 1) := by decide +kernel
theorem dX9_numberHere_55 : decode cX9_numberHere 55 = .ok (.invokevirtual 191, 3) := by decide +kernel
theorem dX9_numberHere_58 : decode cX9_numberHere 58 = .ok (.ireturn, 1) := by decide +kernel
def f_Mo_numberHere_60 (v1 : Int32) (v2 : Int32) (σ : xS) : Option (Int32 × xS) :=
  (f_Mo_isGood_60  σ).bind fun q1 =>
  if q1.1 = 0 then
    some ((0 : Int32), q1.2)
  else
    if q1.2.1 60 21 = (2 : Int32) then
      if (4 : Int32) < q1.2.1 60 23 then
        (f_Mo_wrong_60 (2 : Int32) q1.2).bind fun q2 =>
        (f_Mo_isGood_60  q2.2).bind fun q3 =>
        x_ok (q3.1 = 0 ∨ q3.1 = 1) <|
        some (q3.1, q3.2)
      else
        if q1.2.1 60 24 < v1 then
          (f_Mo_wrong_60 (2 : Int32) q1.2).bind fun q4 =>
          (f_Mo_isGood_60  q4.2).bind fun q5 =>
          x_ok (q5.1 = 0 ∨ q5.1 = 1) <|
          some (q5.1, q5.2)
        else
          if q1.2.1 60 24 ≤ v2 then
            (f_Mo_isGood_60  q1.2).bind fun q6 =>
            x_ok (q6.1 = 0 ∨ q6.1 = 1) <|
            some (q6.1, q6.2)
          else
            (f_Mo_wrong_60 (2 : Int32) q1.2).bind fun q7 =>
            (f_Mo_isGood_60  q7.2).bind fun q8 =>
            x_ok (q8.1 = 0 ∨ q8.1 = 1) <|
            some (q8.1, q8.2)
    else
      (f_Mo_wrong_60 (1 : Int32) q1.2).bind fun q9 =>
      (f_Mo_isGood_60  q9.2).bind fun q10 =>
      x_ok (q10.1 = 0 ∨ q10.1 = 1) <|
      some (q10.1, q10.2)
set_option maxHeartbeats 4000000 in
set_option maxRecDepth 100000 in
theorem c_Mo_numberHere_60 {l : Launch} {s0 : State} {a0 : Array Value} {D : va_G} {cA : Nat → ClassId} {sp : Nat → Nat} (E : x_En CL l s0 a0 D cA sp) (v1 : Int32) (v2 : Int32) {σ : xS} {r : Int32} {σ1 : xS} (h : f_Mo_numberHere_60 v1 v2 σ = some (r, σ1)) : zC l s0 D cA sp 1 M_Mo_numberHere [.ref 60, .int v1, .int v2] σ (some (.int r)) σ1 := by
  unfold f_Mo_numberHere_60 at h
  try dsimp only at h
  refine x_enter [some (.ref 60), some (.int v1), some (.int v2)] rfl (Nat.le_of_ble_eq_true rfl) (by decide +kernel) rfl ?_
  refine x_aload_n 1 rfl 0 dX9_numberHere_0 rfl rfl ?_
  obtain ⟨⟨q1r, q1s⟩, q1h, h⟩ := x_bind h
  try dsimp only at h
  refine z_callV E [] [] dX9_numberHere_1 K_RX9_191 ⟨Nat.le_of_ble_eq_true rfl, Nat.le_of_ble_eq_true rfl⟩ sh_60 (by decide) rfl (c_Mo_isGood_60 E  q1h) rfl rfl (Nat.le_of_ble_eq_true rfl) 4 rfl [.int _] rfl ?_
  refine x_if_ne 7 rfl 9 dX9_numberHere_4 (by decide) (fun hc => ?_) (fun hc => ?_)
  · replace h := x_ifF hc h
    refine x_aload_n 10 rfl 0 dX9_numberHere_9 rfl rfl ?_
    refine x_getI E dX9_numberHere_10 F_RX9_165 sh_60 13 rfl ?_
    refine x_iconst 14 rfl (v := 2) dX9_numberHere_13 (by decide) ?_
    refine x_icmp_eq 17 rfl 25 dX9_numberHere_14 (by decide) (fun hc => ?_) (fun hc => ?_)
    · replace h := x_ifT hc h
      refine x_aload_n 26 rfl 0 dX9_numberHere_25 rfl rfl ?_
      refine x_getI E dX9_numberHere_26 F_RX9_175 sh_60 29 rfl ?_
      refine x_iconst 30 rfl (v := 4) dX9_numberHere_29 (by decide) ?_
      refine x_icmp_gt 33 rfl 49 dX9_numberHere_30 (by decide) (fun hc => ?_) (fun hc => ?_)
      · replace h := x_ifT hc h
        refine x_aload_n 50 rfl 0 dX9_numberHere_49 rfl rfl ?_
        refine x_iconst 51 rfl (v := 2) dX9_numberHere_50 (by decide) ?_
        obtain ⟨⟨q2r, q2s⟩, q2h, h⟩ := x_bind h
        try dsimp only at h
        refine z_callV E [.int _] [] dX9_numberHere_51 K_RX9_198 ⟨Nat.le_of_ble_eq_true rfl, Nat.le_of_ble_eq_true rfl⟩ sh_60 (by decide) rfl (c_Mo_wrong_60 E _ q2h) rfl rfl (Nat.le_of_ble_eq_true rfl) 54 rfl [] rfl ?_
        refine x_aload_n 55 rfl 0 dX9_numberHere_54 rfl rfl ?_
        obtain ⟨⟨q3r, q3s⟩, q3h, h⟩ := x_bind h
        try dsimp only at h
        refine z_callV E [] [] dX9_numberHere_55 K_RX9_191 ⟨Nat.le_of_ble_eq_true rfl, Nat.le_of_ble_eq_true rfl⟩ sh_60 (by decide) rfl (c_Mo_isGood_60 E  q3h) rfl rfl (Nat.le_of_ble_eq_true rfl) 58 rfl [.int _] rfl ?_
        obtain ⟨hz, h⟩ := x_ift h
        cases h
        exact x_zret hz dX9_numberHere_58 rfl rfl rfl
      · replace h := x_ifF hc h
        refine x_aload_n 34 rfl 0 dX9_numberHere_33 rfl rfl ?_
        refine x_getI E dX9_numberHere_34 F_RX9_159 sh_60 37 rfl ?_
        refine x_iload_n 38 rfl 1 dX9_numberHere_37 rfl rfl ?_
        refine x_icmp_lt 41 rfl 49 dX9_numberHere_38 (by decide) (fun hc => ?_) (fun hc => ?_)
        · replace h := x_ifT hc h
          refine x_aload_n 50 rfl 0 dX9_numberHere_49 rfl rfl ?_
          refine x_iconst 51 rfl (v := 2) dX9_numberHere_50 (by decide) ?_
          obtain ⟨⟨q4r, q4s⟩, q4h, h⟩ := x_bind h
          try dsimp only at h
          refine z_callV E [.int _] [] dX9_numberHere_51 K_RX9_198 ⟨Nat.le_of_ble_eq_true rfl, Nat.le_of_ble_eq_true rfl⟩ sh_60 (by decide) rfl (c_Mo_wrong_60 E _ q4h) rfl rfl (Nat.le_of_ble_eq_true rfl) 54 rfl [] rfl ?_
          refine x_aload_n 55 rfl 0 dX9_numberHere_54 rfl rfl ?_
          obtain ⟨⟨q5r, q5s⟩, q5h, h⟩ := x_bind h
          try dsimp only at h
          refine z_callV E [] [] dX9_numberHere_55 K_RX9_191 ⟨Nat.le_of_ble_eq_true rfl, Nat.le_of_ble_eq_true rfl⟩ sh_60 (by decide) rfl (c_Mo_isGood_60 E  q5h) rfl rfl (Nat.le_of_ble_eq_true rfl) 58 rfl [.int _] rfl ?_
          obtain ⟨hz, h⟩ := x_ift h
          cases h
          exact x_zret hz dX9_numberHere_58 rfl rfl rfl
        · replace h := x_ifF hc h
          refine x_aload_n 42 rfl 0 dX9_numberHere_41 rfl rfl ?_
          refine x_getI E dX9_numberHere_42 F_RX9_159 sh_60 45 rfl ?_
          refine x_iload_n 46 rfl 2 dX9_numberHere_45 rfl rfl ?_
          refine x_icmp_le 49 rfl 54 dX9_numberHere_46 (by decide) (fun hc => ?_) (fun hc => ?_)
          · replace h := x_ifT hc h
            refine x_aload_n 55 rfl 0 dX9_numberHere_54 rfl rfl ?_
            obtain ⟨⟨q6r, q6s⟩, q6h, h⟩ := x_bind h
            try dsimp only at h
            refine z_callV E [] [] dX9_numberHere_55 K_RX9_191 ⟨Nat.le_of_ble_eq_true rfl, Nat.le_of_ble_eq_true rfl⟩ sh_60 (by decide) rfl (c_Mo_isGood_60 E  q6h) rfl rfl (Nat.le_of_ble_eq_true rfl) 58 rfl [.int _] rfl ?_
            obtain ⟨hz, h⟩ := x_ift h
            cases h
            exact x_zret hz dX9_numberHere_58 rfl rfl rfl
          · replace h := x_ifF hc h
            refine x_aload_n 50 rfl 0 dX9_numberHere_49 rfl rfl ?_
            refine x_iconst 51 rfl (v := 2) dX9_numberHere_50 (by decide) ?_
            obtain ⟨⟨q7r, q7s⟩, q7h, h⟩ := x_bind h
            try dsimp only at h
            refine z_callV E [.int _] [] dX9_numberHere_51 K_RX9_198 ⟨Nat.le_of_ble_eq_true rfl, Nat.le_of_ble_eq_true rfl⟩ sh_60 (by decide) rfl (c_Mo_wrong_60 E _ q7h) rfl rfl (Nat.le_of_ble_eq_true rfl) 54 rfl [] rfl ?_
            refine x_aload_n 55 rfl 0 dX9_numberHere_54 rfl rfl ?_
            obtain ⟨⟨q8r, q8s⟩, q8h, h⟩ := x_bind h
            try dsimp only at h
            refine z_callV E [] [] dX9_numberHere_55 K_RX9_191 ⟨Nat.le_of_ble_eq_true rfl, Nat.le_of_ble_eq_true rfl⟩ sh_60 (by decide) rfl (c_Mo_isGood_60 E  q8h) rfl rfl (Nat.le_of_ble_eq_true rfl) 58 rfl [.int _] rfl ?_
            obtain ⟨hz, h⟩ := x_ift h
            cases h
            exact x_zret hz dX9_numberHere_58 rfl rfl rfl
    · replace h := x_ifF hc h
      refine x_aload_n 18 rfl 0 dX9_numberHere_17 rfl rfl ?_
      refine x_iconst 19 rfl (v := 1) dX9_numberHere_18 (by decide) ?_
      obtain ⟨⟨q9r, q9s⟩, q9h, h⟩ := x_bind h
      try dsimp only at h
      refine z_callV E [.int _] [] dX9_numberHere_19 K_RX9_198 ⟨Nat.le_of_ble_eq_true rfl, Nat.le_of_ble_eq_true rfl⟩ sh_60 (by decide) rfl (c_Mo_wrong_60 E _ q9h) rfl rfl (Nat.le_of_ble_eq_true rfl) 22 rfl [] rfl ?_
      refine x_goto 54 dX9_numberHere_22 (by decide) ?_
      refine x_aload_n 55 rfl 0 dX9_numberHere_54 rfl rfl ?_
      obtain ⟨⟨q10r, q10s⟩, q10h, h⟩ := x_bind h
      try dsimp only at h
      refine z_callV E [] [] dX9_numberHere_55 K_RX9_191 ⟨Nat.le_of_ble_eq_true rfl, Nat.le_of_ble_eq_true rfl⟩ sh_60 (by decide) rfl (c_Mo_isGood_60 E  q10h) rfl rfl (Nat.le_of_ble_eq_true rfl) 58 rfl [.int _] rfl ?_
      obtain ⟨hz, h⟩ := x_ift h
      cases h
      exact x_zret hz dX9_numberHere_58 rfl rfl rfl
  · replace h := x_ifT hc h
    refine x_iconst 8 rfl (v := 0) dX9_numberHere_7 (by decide) ?_
    cases h
    exact x_zret (Or.inl rfl) dX9_numberHere_8 rfl rfl rfl
theorem K_RX9_201 : x_KV RX9 201 M_Mo_numberHere 2 := ⟨⟨(List.mem_append_right _ (List.mem_of_getElem? (i := 1528) (by decide +kernel))), (List.mem_append_right _ (List.mem_of_getElem? (i := 1531) (by decide +kernel))), (List.mem_append_right _ (List.mem_of_getElem? (i := 9) (by decide +kernel))), ⟨by decide +kernel, by decide +kernel⟩, by decide +kernel⟩, (List.mem_append_right _ (List.mem_of_getElem? (i := 1530) (by decide +kernel))), (List.mem_append_left _ (List.mem_of_getElem? (i := 55) (by decide +kernel)))⟩
abbrev M_Mo_number : xM := (yX9_number, cX9_number, 4, some .int, [])
theorem dX9_number_0 : decode cX9_number 0 = .ok (.aload_n 0, 1) := by decide +kernel
theorem dX9_number_1 : decode cX9_number 1 = .ok (.iload_n 1, 1) := by decide +kernel
theorem dX9_number_2 : decode cX9_number 2 = .ok (.iload_n 2, 1) := by decide +kernel
theorem dX9_number_3 : decode cX9_number 3 = .ok (.invokevirtual 201, 3) := by decide +kernel
theorem dX9_number_6 : decode cX9_number 6 = .ok (.ifCond .eq 10, 3) := by decide +kernel
theorem dX9_number_9 : decode cX9_number 9 = .ok (.aload_n 0, 1) := by decide +kernel
theorem dX9_number_10 : decode cX9_number 10 = .ok (.getfield 159, 3) := by decide +kernel
theorem dX9_number_13 : decode cX9_number 13 = .ok (.goto 4, 3) := by decide +kernel
theorem dX9_number_16 : decode cX9_number 16 = .ok (.iconst 0, 1) := by decide +kernel
theorem dX9_number_17 : decode cX9_number 17 = .ok (.istore_n 3, 1) := by decide +kernel
theorem dX9_number_18 : decode cX9_number 18 = .ok (.aload_n 0, 1) := by decide +kernel
theorem dX9_number_19 : decode cX9_number 19 = .ok (.invokevirtual 191, 3) := by decide +kernel
theorem dX9_number_22 : decode cX9_number 22 = .ok (.ifCond .eq 7, 3) := by decide +kernel
theorem dX9_number_25 : decode cX9_number 25 = .ok (.aload_n 0, 1) := by decide +kernel
theorem dX9_number_26 : decode cX9_number 26 = .ok (.invokevirtual 195, 3) := by decide +kernel
theorem dX9_number_29 : decode cX9_number 29 = .ok (.iload_n 3, 1) := by decide +kernel
theorem dX9_number_30 : decode cX9_number 30 = .ok (.ireturn, 1) := by decide +kernel
def f_Mo_number_60 (v1 : Int32) (v2 : Int32) (σ : xS) : Option (Int32 × xS) :=
  (f_Mo_numberHere_60 v1 v2 σ).bind fun q1 =>
  if q1.1 = 0 then
    (f_Mo_isGood_60  q1.2).bind fun q2 =>
    if q2.1 = 0 then
      some ((0 : Int32), q2.2)
    else
      (f_Mo_goes_60  q2.2).bind fun q3 =>
      some ((0 : Int32), q3.2)
  else
    let w4 := q1.2.1 60 24
    (f_Mo_isGood_60  q1.2).bind fun q5 =>
    if q5.1 = 0 then
      some (w4, q5.2)
    else
      (f_Mo_goes_60  q5.2).bind fun q6 =>
      some (w4, q6.2)
set_option maxHeartbeats 4000000 in
set_option maxRecDepth 100000 in
theorem c_Mo_number_60 {l : Launch} {s0 : State} {a0 : Array Value} {D : va_G} {cA : Nat → ClassId} {sp : Nat → Nat} (E : x_En CL l s0 a0 D cA sp) (v1 : Int32) (v2 : Int32) {σ : xS} {r : Int32} {σ1 : xS} (h : f_Mo_number_60 v1 v2 σ = some (r, σ1)) : zC l s0 D cA sp 2 M_Mo_number [.ref 60, .int v1, .int v2] σ (some (.int r)) σ1 := by
  unfold f_Mo_number_60 at h
  try dsimp only at h
  refine x_enter [some (.ref 60), some (.int v1), some (.int v2), none] rfl (Nat.le_of_ble_eq_true rfl) (by decide +kernel) rfl ?_
  refine x_aload_n 1 rfl 0 dX9_number_0 rfl rfl ?_
  refine x_iload_n 2 rfl 1 dX9_number_1 rfl rfl ?_
  refine x_iload_n 3 rfl 2 dX9_number_2 rfl rfl ?_
  obtain ⟨⟨q1r, q1s⟩, q1h, h⟩ := x_bind h
  try dsimp only at h
  refine z_callV E [.int _, .int _] [] dX9_number_3 K_RX9_201 ⟨Nat.le_of_ble_eq_true rfl, Nat.le_of_ble_eq_true rfl⟩ sh_60 (by decide) rfl (c_Mo_numberHere_60 E _ _ q1h) rfl rfl (Nat.le_of_ble_eq_true rfl) 6 rfl [.int _] rfl ?_
  refine x_if_eq 9 rfl 16 dX9_number_6 (by decide) (fun hc => ?_) (fun hc => ?_)
  · replace h := x_ifT hc h
    refine x_iconst 17 rfl (v := 0) dX9_number_16 (by decide) ?_
    refine x_istore_n 18 rfl 3 dX9_number_17 rfl (by decide) [some (.ref 60), some (.int _), some (.int _), some (.int _)] rfl ?_
    refine x_aload_n 19 rfl 0 dX9_number_18 rfl rfl ?_
    obtain ⟨⟨q2r, q2s⟩, q2h, h⟩ := x_bind h
    try dsimp only at h
    refine z_callV E [] [] dX9_number_19 K_RX9_191 ⟨Nat.le_of_ble_eq_true rfl, Nat.le_of_ble_eq_true rfl⟩ sh_60 (by decide) rfl (c_Mo_isGood_60 E  q2h) rfl rfl (Nat.le_of_ble_eq_true rfl) 22 rfl [.int _] rfl ?_
    refine x_if_eq 25 rfl 29 dX9_number_22 (by decide) (fun hc => ?_) (fun hc => ?_)
    · replace h := x_ifT hc h
      refine x_iload_n 30 rfl 3 dX9_number_29 rfl rfl ?_
      cases h
      exact x_iret dX9_number_30 rfl rfl rfl
    · replace h := x_ifF hc h
      refine x_aload_n 26 rfl 0 dX9_number_25 rfl rfl ?_
      obtain ⟨⟨q3r, q3s⟩, q3h, h⟩ := x_bind h
      try dsimp only at h
      refine z_callV E [] [] dX9_number_26 K_RX9_195 ⟨Nat.le_of_ble_eq_true rfl, Nat.le_of_ble_eq_true rfl⟩ sh_60 (by decide) rfl (c_Mo_goes_60 E  q3h) rfl rfl (Nat.le_of_ble_eq_true rfl) 29 rfl [] rfl ?_
      refine x_iload_n 30 rfl 3 dX9_number_29 rfl rfl ?_
      cases h
      exact x_iret dX9_number_30 rfl rfl rfl
  · replace h := x_ifF hc h
    refine x_aload_n 10 rfl 0 dX9_number_9 rfl rfl ?_
    refine x_getI E dX9_number_10 F_RX9_159 sh_60 13 rfl ?_
    refine x_goto 17 dX9_number_13 (by decide) ?_
    refine x_istore_n 18 rfl 3 dX9_number_17 rfl (by decide) [some (.ref 60), some (.int _), some (.int _), some (.int _)] rfl ?_
    refine x_aload_n 19 rfl 0 dX9_number_18 rfl rfl ?_
    obtain ⟨⟨q5r, q5s⟩, q5h, h⟩ := x_bind h
    try dsimp only at h
    refine z_callV E [] [] dX9_number_19 K_RX9_191 ⟨Nat.le_of_ble_eq_true rfl, Nat.le_of_ble_eq_true rfl⟩ sh_60 (by decide) rfl (c_Mo_isGood_60 E  q5h) rfl rfl (Nat.le_of_ble_eq_true rfl) 22 rfl [.int _] rfl ?_
    refine x_if_eq 25 rfl 29 dX9_number_22 (by decide) (fun hc => ?_) (fun hc => ?_)
    · replace h := x_ifT hc h
      refine x_iload_n 30 rfl 3 dX9_number_29 rfl rfl ?_
      cases h
      exact x_iret dX9_number_30 rfl rfl rfl
    · replace h := x_ifF hc h
      refine x_aload_n 26 rfl 0 dX9_number_25 rfl rfl ?_
      obtain ⟨⟨q6r, q6s⟩, q6h, h⟩ := x_bind h
      try dsimp only at h
      refine z_callV E [] [] dX9_number_26 K_RX9_195 ⟨Nat.le_of_ble_eq_true rfl, Nat.le_of_ble_eq_true rfl⟩ sh_60 (by decide) rfl (c_Mo_goes_60 E  q6h) rfl rfl (Nat.le_of_ble_eq_true rfl) 29 rfl [] rfl ?_
      refine x_iload_n 30 rfl 3 dX9_number_29 rfl rfl ?_
      cases h
      exact x_iret dX9_number_30 rfl rfl rfl
abbrev M_Mo_puts : xM := (yX9_puts, cX9_puts, 2, none, [])
theorem dX9_puts_0 : decode cX9_puts 0 = .ok (.aload_n 0, 1) := by decide +kernel
theorem dX9_puts_1 : decode cX9_puts 1 = .ok (.getfield 68, 3) := by decide +kernel
theorem dX9_puts_4 : decode cX9_puts 4 = .ok (.aload_n 0, 1) := by decide +kernel
theorem dX9_puts_5 : decode cX9_puts 5 = .ok (.getfield 205, 3) := by decide +kernel
theorem dX9_puts_8 : decode cX9_puts 8 = .ok (.iload_n 1, 1) := by decide +kernel
theorem dX9_puts_9 : decode cX9_puts 9 = .ok (.iastore, 1) := by decide +kernel
theorem dX9_puts_10 : decode cX9_puts 10 = .ok (.aload_n 0, 1) := by decide +kernel
theorem dX9_puts_11 : decode cX9_puts 11 = .ok (.dup, 1) := by decide +kernel
theorem dX9_puts_12 : decode cX9_puts 12 = .ok (.getfield 205, 3) := by decide +kernel
theorem dX9_puts_15 : decode cX9_puts 15 = .ok (.iconst 1, 1) := by decide +kernel
theorem dX9_puts_16 : decode cX9_puts 16 = .ok (.iadd, 1) := by decide +kernel
theorem dX9_puts_17 : decode cX9_puts 17 = .ok (.putfield 205, 3) := by decide +kernel
theorem dX9_puts_20 : decode cX9_puts 20 = .ok (.return_, 1) := by decide +kernel
def f_Mo_puts_60 (v1 : Int32) (σ : xS) : Option (Unit × xS) :=
  if σ.1 60 40 < 0 ∨ 4200 ≤ (σ.1 60 40).toNatClampNeg then none else
  let σ1 := x_pI σ 76 (σ.1 60 40).toNatClampNeg v1
  let σ2 := x_pI σ1 60 40 (σ1.1 60 40 + (1 : Int32))
  some ((), σ2)
set_option maxHeartbeats 4000000 in
set_option maxRecDepth 100000 in
theorem c_Mo_puts_60 {l : Launch} {s0 : State} {a0 : Array Value} {D : va_G} {cA : Nat → ClassId} {sp : Nat → Nat} (E : x_En CL l s0 a0 D cA sp) (v1 : Int32) {σ : xS} {r : Unit} {σ1 : xS} (h : f_Mo_puts_60 v1 σ = some (r, σ1)) : zC l s0 D cA sp 0 M_Mo_puts [.ref 60, .int v1] σ none σ1 := by
  unfold f_Mo_puts_60 at h
  try dsimp only at h
  refine x_enter [some (.ref 60), some (.int v1)] rfl (Nat.le_of_ble_eq_true rfl) (by decide +kernel) rfl ?_
  refine x_aload_n 1 rfl 0 dX9_puts_0 rfl rfl ?_
  refine x_getR E dX9_puts_1 F_RX9_68 sh_60 rf_60_50 4 rfl ?_
  refine x_aload_n 5 rfl 0 dX9_puts_4 rfl rfl ?_
  refine x_getI E dX9_puts_5 F_RX9_205 sh_60 8 rfl ?_
  refine x_iload_n 9 rfl 1 dX9_puts_8 rfl rfl ?_
  obtain ⟨hz, h⟩ := x_ifn h
  refine x_iast E dX9_puts_9 sh_76 _ rfl hz 10 rfl ?_
  refine x_aload_n 11 rfl 0 dX9_puts_10 rfl rfl ?_
  refine x_dup 12 rfl dX9_puts_11 rfl ?_
  refine x_getI E dX9_puts_12 F_RX9_205 sh_60 15 rfl ?_
  refine x_iconst 16 rfl (v := 1) dX9_puts_15 (by decide) ?_
  refine x_iadd 17 rfl dX9_puts_16 ?_
  refine x_putI E dX9_puts_17 F_RX9_205 sh_60 20 rfl ?_
  cases h
  exact x_vret dX9_puts_20 rfl rfl rfl
abbrev M_Mo_isOpen : xM := (yX9_isOpen, cX9_isOpen, 1, some .boolean, [])
theorem dX9_isOpen_0 : decode cX9_isOpen 0 = .ok (.iload_n 0, 1) := by decide +kernel
theorem dX9_isOpen_1 : decode cX9_isOpen 1 = .ok (.bipush 14, 2) := by decide +kernel
theorem dX9_isOpen_3 : decode cX9_isOpen 3 = .ok (.if_icmp .lt 7, 3) := by decide +kernel
theorem dX9_isOpen_6 : decode cX9_isOpen 6 = .ok (.iconst 1, 1) := by decide +kernel
theorem dX9_isOpen_7 : decode cX9_isOpen 7 = .ok (.goto 4, 3) := by decide +kernel
theorem dX9_isOpen_10 : decode cX9_isOpen 10 = .ok (.iconst 0, 1) := by decide +kernel
theorem dX9_isOpen_11 : decode cX9_isOpen 11 = .ok (.ireturn, 1) := by decide +kernel
def f_Mo_isOpen (v0 : Int32) (σ : xS) : Option (Int32 × xS) :=
  if v0 < (14 : Int32) then
    some ((0 : Int32), σ)
  else
    some ((1 : Int32), σ)
set_option maxHeartbeats 4000000 in
set_option maxRecDepth 100000 in
theorem c_Mo_isOpen {l : Launch} {s0 : State} {a0 : Array Value} {D : va_G} {cA : Nat → ClassId} {sp : Nat → Nat} (E : x_En CL l s0 a0 D cA sp) (v0 : Int32) {σ : xS} {r : Int32} {σ1 : xS} (h : f_Mo_isOpen v0 σ = some (r, σ1)) : zC l s0 D cA sp 0 M_Mo_isOpen [.int v0] σ (some (.int r)) σ1 := by
  unfold f_Mo_isOpen at h
  try dsimp only at h
  refine x_enter [some (.int v0)] rfl (Nat.le_of_ble_eq_true rfl) (by decide +kernel) rfl ?_
  refine x_iload_n 1 rfl 0 dX9_isOpen_0 rfl rfl ?_
  refine x_bipush 3 rfl (v := 14) dX9_isOpen_1 (by decide) ?_
  refine x_icmp_lt 6 rfl 10 dX9_isOpen_3 (by decide) (fun hc => ?_) (fun hc => ?_)
  · replace h := x_ifT hc h
    refine x_iconst 11 rfl (v := 0) dX9_isOpen_10 (by decide) ?_
    cases h
    exact x_zret (Or.inl rfl) dX9_isOpen_11 rfl rfl rfl
  · replace h := x_ifF hc h
    refine x_iconst 7 rfl (v := 1) dX9_isOpen_6 (by decide) ?_
    refine x_goto 11 dX9_isOpen_7 (by decide) ?_
    cases h
    exact x_zret (Or.inr rfl) dX9_isOpen_11 rfl rfl rfl
abbrev M_Mo_strength : xM := (yX9_strength, cX9_strength, 1, some .int, [])
theorem dX9_strength_0 : decode cX9_strength 0 = .ok (.iload_n 0, 1) := by decide +kernel
theorem dX9_strength_1 : decode cX9_strength 1 = .ok (.iconst 5, 1) := by decide +kernel
theorem dX9_strength_2 : decode cX9_strength 2 = .ok (.if_icmp .ne 7, 3) := by decide +kernel
theorem dX9_strength_5 : decode cX9_strength 5 = .ok (.iconst 1, 1) := by decide +kernel
theorem dX9_strength_6 : decode cX9_strength 6 = .ok (.goto 55, 3) := by decide +kernel
theorem dX9_strength_9 : decode cX9_strength 9 = .ok (.iload_n 0, 1) := by decide +kernel
theorem dX9_strength_10 : decode cX9_strength 10 = .ok (.iconst 4, 1) := by decide +kernel
theorem dX9_strength_11 : decode cX9_strength 11 = .ok (.if_icmp .ne 7, 3) := by decide +kernel
theorem dX9_strength_14 : decode cX9_strength 14 = .ok (.iconst 2, 1) := by decide +kernel
theorem dX9_strength_15 : decode cX9_strength 15 = .ok (.goto 46, 3) := by decide +kernel
theorem dX9_strength_18 : decode cX9_strength 18 = .ok (.iload_n 0, 1) := by decide +kernel
theorem dX9_strength_19 : decode cX9_strength 19 = .ok (.iconst 3, 1) := by decide +kernel
theorem dX9_strength_20 : decode cX9_strength 20 = .ok (.if_icmp .ne 7, 3) := by decide +kernel
theorem dX9_strength_23 : decode cX9_strength 23 = .ok (.iconst 3, 1) := by decide +kernel
theorem dX9_strength_24 : decode cX9_strength 24 = .ok (.goto 37, 3) := by decide +kernel
theorem dX9_strength_27 : decode cX9_strength 27 = .ok (.iload_n 0, 1) := by decide +kernel
theorem dX9_strength_28 : decode cX9_strength 28 = .ok (.bipush 6, 2) := by decide +kernel
theorem dX9_strength_30 : decode cX9_strength 30 = .ok (.if_icmp .eq 9, 3) := by decide +kernel
theorem dX9_strength_33 : decode cX9_strength 33 = .ok (.iload_n 0, 1) := by decide +kernel
theorem dX9_strength_34 : decode cX9_strength 34 = .ok (.bipush 7, 2) := by decide +kernel
theorem dX9_strength_36 : decode cX9_strength 36 = .ok (.if_icmp .ne 7, 3) := by decide +kernel
theorem dX9_strength_39 : decode cX9_strength 39 = .ok (.iconst 4, 1) := by decide +kernel
theorem dX9_strength_40 : decode cX9_strength 40 = .ok (.goto 21, 3) := by decide +kernel
theorem dX9_strength_43 : decode cX9_strength 43 = .ok (.iload_n 0, 1) := by decide +kernel
theorem dX9_strength_44 : decode cX9_strength 44 = .ok (.bipush 8, 2) := by decide +kernel
theorem dX9_strength_46 : decode cX9_strength 46 = .ok (.if_icmp .eq 9, 3) := by decide +kernel
theorem dX9_strength_49 : decode cX9_strength 49 = .ok (.iload_n 0, 1) := by decide +kernel
theorem dX9_strength_50 : decode cX9_strength 50 = .ok (.bipush 9, 2) := by decide +kernel
theorem dX9_strength_52 : decode cX9_strength 52 = .ok (.if_icmp .ne 7, 3) := by decide +kernel
theorem dX9_strength_55 : decode cX9_strength 55 = .ok (.iconst 5, 1) := by decide +kernel
theorem dX9_strength_56 : decode cX9_strength 56 = .ok (.goto 5, 3) := by decide +kernel
theorem dX9_strength_59 : decode cX9_strength 59 = .ok (.bipush 6, 2) := by decide +kernel
theorem dX9_strength_61 : decode cX9_strength 61 = .ok (.ireturn, 1) := by decide +kernel
def f_Mo_strength (v0 : Int32) (σ : xS) : Option (Int32 × xS) :=
  if v0 = (5 : Int32) then
    some ((1 : Int32), σ)
  else
    if v0 = (4 : Int32) then
      some ((2 : Int32), σ)
    else
      if v0 = (3 : Int32) then
        some ((3 : Int32), σ)
      else
        if v0 = (6 : Int32) then
          some ((4 : Int32), σ)
        else
          if v0 = (7 : Int32) then
            some ((4 : Int32), σ)
          else
            if v0 = (8 : Int32) then
              some ((5 : Int32), σ)
            else
              if v0 = (9 : Int32) then
                some ((5 : Int32), σ)
              else
                some ((6 : Int32), σ)
set_option maxHeartbeats 4000000 in
set_option maxRecDepth 100000 in
theorem c_Mo_strength {l : Launch} {s0 : State} {a0 : Array Value} {D : va_G} {cA : Nat → ClassId} {sp : Nat → Nat} (E : x_En CL l s0 a0 D cA sp) (v0 : Int32) {σ : xS} {r : Int32} {σ1 : xS} (h : f_Mo_strength v0 σ = some (r, σ1)) : zC l s0 D cA sp 0 M_Mo_strength [.int v0] σ (some (.int r)) σ1 := by
  unfold f_Mo_strength at h
  try dsimp only at h
  refine x_enter [some (.int v0)] rfl (Nat.le_of_ble_eq_true rfl) (by decide +kernel) rfl ?_
  refine x_iload_n 1 rfl 0 dX9_strength_0 rfl rfl ?_
  refine x_iconst 2 rfl (v := 5) dX9_strength_1 (by decide) ?_
  refine x_icmp_ne 5 rfl 9 dX9_strength_2 (by decide) (fun hc => ?_) (fun hc => ?_)
  · replace h := x_ifF hc h
    refine x_iload_n 10 rfl 0 dX9_strength_9 rfl rfl ?_
    refine x_iconst 11 rfl (v := 4) dX9_strength_10 (by decide) ?_
    refine x_icmp_ne 14 rfl 18 dX9_strength_11 (by decide) (fun hc => ?_) (fun hc => ?_)
    · replace h := x_ifF hc h
      refine x_iload_n 19 rfl 0 dX9_strength_18 rfl rfl ?_
      refine x_iconst 20 rfl (v := 3) dX9_strength_19 (by decide) ?_
      refine x_icmp_ne 23 rfl 27 dX9_strength_20 (by decide) (fun hc => ?_) (fun hc => ?_)
      · replace h := x_ifF hc h
        refine x_iload_n 28 rfl 0 dX9_strength_27 rfl rfl ?_
        refine x_bipush 30 rfl (v := 6) dX9_strength_28 (by decide) ?_
        refine x_icmp_eq 33 rfl 39 dX9_strength_30 (by decide) (fun hc => ?_) (fun hc => ?_)
        · replace h := x_ifT hc h
          refine x_iconst 40 rfl (v := 4) dX9_strength_39 (by decide) ?_
          refine x_goto 61 dX9_strength_40 (by decide) ?_
          cases h
          exact x_iret dX9_strength_61 rfl rfl rfl
        · replace h := x_ifF hc h
          refine x_iload_n 34 rfl 0 dX9_strength_33 rfl rfl ?_
          refine x_bipush 36 rfl (v := 7) dX9_strength_34 (by decide) ?_
          refine x_icmp_ne 39 rfl 43 dX9_strength_36 (by decide) (fun hc => ?_) (fun hc => ?_)
          · replace h := x_ifF hc h
            refine x_iload_n 44 rfl 0 dX9_strength_43 rfl rfl ?_
            refine x_bipush 46 rfl (v := 8) dX9_strength_44 (by decide) ?_
            refine x_icmp_eq 49 rfl 55 dX9_strength_46 (by decide) (fun hc => ?_) (fun hc => ?_)
            · replace h := x_ifT hc h
              refine x_iconst 56 rfl (v := 5) dX9_strength_55 (by decide) ?_
              refine x_goto 61 dX9_strength_56 (by decide) ?_
              cases h
              exact x_iret dX9_strength_61 rfl rfl rfl
            · replace h := x_ifF hc h
              refine x_iload_n 50 rfl 0 dX9_strength_49 rfl rfl ?_
              refine x_bipush 52 rfl (v := 9) dX9_strength_50 (by decide) ?_
              refine x_icmp_ne 55 rfl 59 dX9_strength_52 (by decide) (fun hc => ?_) (fun hc => ?_)
              · replace h := x_ifF hc h
                refine x_bipush 61 rfl (v := 6) dX9_strength_59 (by decide) ?_
                cases h
                exact x_iret dX9_strength_61 rfl rfl rfl
              · replace h := x_ifT hc h
                refine x_iconst 56 rfl (v := 5) dX9_strength_55 (by decide) ?_
                refine x_goto 61 dX9_strength_56 (by decide) ?_
                cases h
                exact x_iret dX9_strength_61 rfl rfl rfl
          · replace h := x_ifT hc h
            refine x_iconst 40 rfl (v := 4) dX9_strength_39 (by decide) ?_
            refine x_goto 61 dX9_strength_40 (by decide) ?_
            cases h
            exact x_iret dX9_strength_61 rfl rfl rfl
      · replace h := x_ifT hc h
        refine x_iconst 24 rfl (v := 3) dX9_strength_23 (by decide) ?_
        refine x_goto 61 dX9_strength_24 (by decide) ?_
        cases h
        exact x_iret dX9_strength_61 rfl rfl rfl
    · replace h := x_ifT hc h
      refine x_iconst 15 rfl (v := 2) dX9_strength_14 (by decide) ?_
      refine x_goto 61 dX9_strength_15 (by decide) ?_
      cases h
      exact x_iret dX9_strength_61 rfl rfl rfl
  · replace h := x_ifT hc h
    refine x_iconst 6 rfl (v := 1) dX9_strength_5 (by decide) ?_
    refine x_goto 61 dX9_strength_6 (by decide) ?_
    cases h
    exact x_iret dX9_strength_61 rfl rfl rfl
theorem K_RX9_211 : x_KS RX9 211 M_Mo_isOpen 1 := ⟨⟨(List.mem_append_right _ (List.mem_of_getElem? (i := 1596) (by decide +kernel))), (List.mem_append_right _ (List.mem_of_getElem? (i := 1598) (by decide +kernel))), (List.mem_append_right _ (List.mem_of_getElem? (i := 9) (by decide +kernel))), ⟨by decide +kernel, by decide +kernel⟩, by decide +kernel⟩, (List.mem_append_right _ (List.mem_of_getElem? (i := 1597) (by decide +kernel)))⟩
theorem K_RX9_214 : x_KS RX9 214 M_Mo_strength 1 := ⟨⟨(List.mem_append_right _ (List.mem_of_getElem? (i := 1599) (by decide +kernel))), (List.mem_append_right _ (List.mem_of_getElem? (i := 1601) (by decide +kernel))), (List.mem_append_right _ (List.mem_of_getElem? (i := 9) (by decide +kernel))), ⟨by decide +kernel, by decide +kernel⟩, by decide +kernel⟩, (List.mem_append_right _ (List.mem_of_getElem? (i := 1600) (by decide +kernel)))⟩
theorem K_RX9_217 : x_KV RX9 217 M_Mo_puts 1 := ⟨⟨(List.mem_append_right _ (List.mem_of_getElem? (i := 1588) (by decide +kernel))), (List.mem_append_right _ (List.mem_of_getElem? (i := 1591) (by decide +kernel))), (List.mem_append_right _ (List.mem_of_getElem? (i := 9) (by decide +kernel))), ⟨by decide +kernel, by decide +kernel⟩, by decide +kernel⟩, (List.mem_append_right _ (List.mem_of_getElem? (i := 1590) (by decide +kernel))), (List.mem_append_left _ (List.mem_of_getElem? (i := 70) (by decide +kernel)))⟩
abbrev M_Mo_drops : xM := (yX9_drops, cX9_drops, 2, none, [])
theorem dX9_drops_0 : decode cX9_drops 0 = .ok (.aload_n 0, 1) := by decide +kernel
theorem dX9_drops_1 : decode cX9_drops 1 = .ok (.getfield 208, 3) := by decide +kernel
theorem dX9_drops_4 : decode cX9_drops 4 = .ok (.ifCond .le 64, 3) := by decide +kernel
theorem dX9_drops_7 : decode cX9_drops 7 = .ok (.aload_n 0, 1) := by decide +kernel
theorem dX9_drops_8 : decode cX9_drops 8 = .ok (.getfield 71, 3) := by decide +kernel
theorem dX9_drops_11 : decode cX9_drops 11 = .ok (.aload_n 0, 1) := by decide +kernel
theorem dX9_drops_12 : decode cX9_drops 12 = .ok (.getfield 208, 3) := by decide +kernel
theorem dX9_drops_15 : decode cX9_drops 15 = .ok (.iconst 1, 1) := by decide +kernel
theorem dX9_drops_16 : decode cX9_drops 16 = .ok (.isub, 1) := by decide +kernel
theorem dX9_drops_17 : decode cX9_drops 17 = .ok (.iaload, 1) := by decide +kernel
theorem dX9_drops_18 : decode cX9_drops 18 = .ok (.invokestatic 211, 3) := by decide +kernel
theorem dX9_drops_21 : decode cX9_drops 21 = .ok (.ifCond .ne 47, 3) := by decide +kernel
theorem dX9_drops_24 : decode cX9_drops 24 = .ok (.aload_n 0, 1) := by decide +kernel
theorem dX9_drops_25 : decode cX9_drops 25 = .ok (.getfield 71, 3) := by decide +kernel
theorem dX9_drops_28 : decode cX9_drops 28 = .ok (.aload_n 0, 1) := by decide +kernel
theorem dX9_drops_29 : decode cX9_drops 29 = .ok (.getfield 208, 3) := by decide +kernel
theorem dX9_drops_32 : decode cX9_drops 32 = .ok (.iconst 1, 1) := by decide +kernel
theorem dX9_drops_33 : decode cX9_drops 33 = .ok (.isub, 1) := by decide +kernel
theorem dX9_drops_34 : decode cX9_drops 34 = .ok (.iaload, 1) := by decide +kernel
theorem dX9_drops_35 : decode cX9_drops 35 = .ok (.invokestatic 214, 3) := by decide +kernel
theorem dX9_drops_38 : decode cX9_drops 38 = .ok (.iload_n 1, 1) := by decide +kernel
theorem dX9_drops_39 : decode cX9_drops 39 = .ok (.if_icmp .lt 29, 3) := by decide +kernel
theorem dX9_drops_42 : decode cX9_drops 42 = .ok (.aload_n 0, 1) := by decide +kernel
theorem dX9_drops_43 : decode cX9_drops 43 = .ok (.dup, 1) := by decide +kernel
theorem dX9_drops_44 : decode cX9_drops 44 = .ok (.getfield 208, 3) := by decide +kernel
theorem dX9_drops_47 : decode cX9_drops 47 = .ok (.iconst 1, 1) := by decide +kernel
theorem dX9_drops_48 : decode cX9_drops 48 = .ok (.isub, 1) := by decide +kernel
theorem dX9_drops_49 : decode cX9_drops 49 = .ok (.putfield 208, 3) := by decide +kernel
theorem dX9_drops_52 : decode cX9_drops 52 = .ok (.aload_n 0, 1) := by decide +kernel
theorem dX9_drops_53 : decode cX9_drops 53 = .ok (.aload_n 0, 1) := by decide +kernel
theorem dX9_drops_54 : decode cX9_drops 54 = .ok (.getfield 71, 3) := by decide +kernel
theorem dX9_drops_57 : decode cX9_drops 57 = .ok (.aload_n 0, 1) := by decide +kernel
theorem dX9_drops_58 : decode cX9_drops 58 = .ok (.getfield 208, 3) := by decide +kernel
theorem dX9_drops_61 : decode cX9_drops 61 = .ok (.iaload, 1) := by decide +kernel
theorem dX9_drops_62 : decode cX9_drops 62 = .ok (.invokevirtual 217, 3) := by decide +kernel
theorem dX9_drops_65 : decode cX9_drops 65 = .ok (.goto (-65), 3) := by decide +kernel
theorem dX9_drops_68 : decode cX9_drops 68 = .ok (.return_, 1) := by decide +kernel
def f_Mo_drops_60_L0 (v1 : Int32) (a : xS) : Option ((xS) ⊕ (xS)) :=
   let σ := a;
  if σ.1 60 41 ≤ 0 then
    some (.inl σ)
  else
    if (σ.1 60 41 - (1 : Int32)) < 0 ∨ 950 ≤ (σ.1 60 41 - (1 : Int32)).toNatClampNeg then none else
    (f_Mo_isOpen (σ.1 77 (σ.1 60 41 - (1 : Int32)).toNatClampNeg) σ).bind fun q1 =>
    if q1.1 = 0 then
      if (q1.2.1 60 41 - (1 : Int32)) < 0 ∨ 950 ≤ (q1.2.1 60 41 - (1 : Int32)).toNatClampNeg then none else
      (f_Mo_strength (q1.2.1 77 (q1.2.1 60 41 - (1 : Int32)).toNatClampNeg) q1.2).bind fun q2 =>
      if q2.1 < v1 then
        some (.inl q2.2)
      else
        let σ3 := x_pI q2.2 60 41 (q2.2.1 60 41 - (1 : Int32))
        if σ3.1 60 41 < 0 ∨ 950 ≤ (σ3.1 60 41).toNatClampNeg then none else
        (f_Mo_puts_60 (σ3.1 77 (σ3.1 60 41).toNatClampNeg) σ3).bind fun q4 =>
        some (.inr q4.2)
    else
      some (.inl q1.2)
def f_Mo_drops_60 (v1 : Int32) (σ : xS) : Option (Unit × xS) :=
  (x_it (f_Mo_drops_60_L0 v1) 10000 σ).bind fun b5 =>
  some ((), b5)
set_option maxHeartbeats 4000000 in
set_option maxRecDepth 100000 in
theorem b_Mo_drops_60_L0 {l : Launch} {s0 : State} {a0 : Array Value} {D : va_G} {cA : Nat → ClassId} {sp : Nat → Nat} (E : x_En CL l s0 a0 D cA sp) (v1 : Int32) {r : Unit} {σ1 : xS} (a : xS) (o : (xS) ⊕ (xS)) (h : f_Mo_drops_60_L0 v1 a = some o) (hK : ∀ b, o = .inl b → zW l s0 D cA sp (zQ s0 D cA sp none σ1) (x_rm 1 0 0) M_Mo_drops 0 0 68 [none, none] [] b) (hG : ∀ a', o = .inr a' → zW l s0 D cA sp (zQ s0 D cA sp none σ1) (x_rm 1 0 0) M_Mo_drops 0 0 0 [some (.ref 60), some (.int v1)] [] a') : zW l s0 D cA sp (zQ s0 D cA sp none σ1) (x_rm 1 0 0) M_Mo_drops 0 0 0 [some (.ref 60), some (.int v1)] [] a := by
  obtain ⟨σ, rfl⟩ : ∃ z, z = a := ⟨_, rfl⟩
  unfold f_Mo_drops_60_L0 at h
  try dsimp only at h ⊢
  refine x_aload_n 1 rfl 0 dX9_drops_0 rfl rfl ?_
  refine x_getI E dX9_drops_1 F_RX9_208 sh_60 4 rfl ?_
  refine x_if_le 7 rfl 68 dX9_drops_4 (by decide) (fun hc => ?_) (fun hc => ?_)
  · replace h := x_ifT hc h
    cases h
    exact x_wk (x_le_n (x_le_n x_le_0)) (hK _ rfl)
  · replace h := x_ifF hc h
    refine x_aload_n 8 rfl 0 dX9_drops_7 rfl rfl ?_
    refine x_getR E dX9_drops_8 F_RX9_71 sh_60 rf_60_51 11 rfl ?_
    refine x_aload_n 12 rfl 0 dX9_drops_11 rfl rfl ?_
    refine x_getI E dX9_drops_12 F_RX9_208 sh_60 15 rfl ?_
    refine x_iconst 16 rfl (v := 1) dX9_drops_15 (by decide) ?_
    refine x_isub 17 rfl dX9_drops_16 ?_
    obtain ⟨hz, h⟩ := x_ifn h
    refine x_iald E dX9_drops_17 sh_77 _ rfl hz 18 rfl ?_
    obtain ⟨⟨q1r, q1s⟩, q1h, h⟩ := x_bind h
    try dsimp only at h
    refine z_callS E [.int _] [] dX9_drops_18 K_RX9_211 ⟨Nat.le_of_ble_eq_true rfl, Nat.le_of_ble_eq_true rfl⟩ (c_Mo_isOpen E _ q1h) rfl rfl (Nat.le_of_ble_eq_true rfl) 21 rfl [.int _] rfl ?_
    refine x_if_ne 24 rfl 68 dX9_drops_21 (by decide) (fun hc => ?_) (fun hc => ?_)
    · replace h := x_ifF hc h
      cases h
      exact x_wk (x_le_n (x_le_n x_le_0)) (hK _ rfl)
    · replace h := x_ifT hc h
      refine x_aload_n 25 rfl 0 dX9_drops_24 rfl rfl ?_
      refine x_getR E dX9_drops_25 F_RX9_71 sh_60 rf_60_51 28 rfl ?_
      refine x_aload_n 29 rfl 0 dX9_drops_28 rfl rfl ?_
      refine x_getI E dX9_drops_29 F_RX9_208 sh_60 32 rfl ?_
      refine x_iconst 33 rfl (v := 1) dX9_drops_32 (by decide) ?_
      refine x_isub 34 rfl dX9_drops_33 ?_
      obtain ⟨hz, h⟩ := x_ifn h
      refine x_iald E dX9_drops_34 sh_77 _ rfl hz 35 rfl ?_
      obtain ⟨⟨q2r, q2s⟩, q2h, h⟩ := x_bind h
      try dsimp only at h
      refine z_callS E [.int _] [] dX9_drops_35 K_RX9_214 ⟨Nat.le_of_ble_eq_true rfl, Nat.le_of_ble_eq_true rfl⟩ (c_Mo_strength E _ q2h) rfl rfl (Nat.le_of_ble_eq_true rfl) 38 rfl [.int _] rfl ?_
      refine x_iload_n 39 rfl 1 dX9_drops_38 rfl rfl ?_
      refine x_icmp_lt 42 rfl 68 dX9_drops_39 (by decide) (fun hc => ?_) (fun hc => ?_)
      · replace h := x_ifT hc h
        cases h
        exact x_wk (x_le_n (x_le_n x_le_0)) (hK _ rfl)
      · replace h := x_ifF hc h
        refine x_aload_n 43 rfl 0 dX9_drops_42 rfl rfl ?_
        refine x_dup 44 rfl dX9_drops_43 rfl ?_
        refine x_getI E dX9_drops_44 F_RX9_208 sh_60 47 rfl ?_
        refine x_iconst 48 rfl (v := 1) dX9_drops_47 (by decide) ?_
        refine x_isub 49 rfl dX9_drops_48 ?_
        refine x_putI E dX9_drops_49 F_RX9_208 sh_60 52 rfl ?_
        refine x_aload_n 53 rfl 0 dX9_drops_52 rfl rfl ?_
        refine x_aload_n 54 rfl 0 dX9_drops_53 rfl rfl ?_
        refine x_getR E dX9_drops_54 F_RX9_71 sh_60 rf_60_51 57 rfl ?_
        refine x_aload_n 58 rfl 0 dX9_drops_57 rfl rfl ?_
        refine x_getI E dX9_drops_58 F_RX9_208 sh_60 61 rfl ?_
        obtain ⟨hz, h⟩ := x_ifn h
        refine x_iald E dX9_drops_61 sh_77 _ rfl hz 62 rfl ?_
        obtain ⟨⟨q4r, q4s⟩, q4h, h⟩ := x_bind h
        try dsimp only at h
        refine z_callV E [.int _] [] dX9_drops_62 K_RX9_217 ⟨Nat.le_of_ble_eq_true rfl, Nat.le_of_ble_eq_true rfl⟩ sh_60 (by decide) rfl (c_Mo_puts_60 E _ q4h) rfl rfl (Nat.le_of_ble_eq_true rfl) 65 rfl [] rfl ?_
        refine x_goto 0 dX9_drops_65 (by decide) ?_
        cases h
        exact x_wk (x_le_s (x_le_s x_le_0)) (hG _ rfl)
set_option maxHeartbeats 4000000 in
set_option maxRecDepth 100000 in
theorem c_Mo_drops_60 {l : Launch} {s0 : State} {a0 : Array Value} {D : va_G} {cA : Nat → ClassId} {sp : Nat → Nat} (E : x_En CL l s0 a0 D cA sp) (v1 : Int32) {σ : xS} {r : Unit} {σ1 : xS} (h : f_Mo_drops_60 v1 σ = some (r, σ1)) : zC l s0 D cA sp 1 M_Mo_drops [.ref 60, .int v1] σ none σ1 := by
  unfold f_Mo_drops_60 at h
  try dsimp only at h
  refine x_enter [some (.ref 60), some (.int v1)] rfl (Nat.le_of_ble_eq_true rfl) (by decide +kernel) rfl ?_
  obtain ⟨b5, b5h, h⟩ := x_bind h
  try dsimp only at h
  refine x_wk (x_le_s (x_le_s x_le_0)) (x_loop (fun a o h hK hG => b_Mo_drops_60_L0 (r := r) (σ1 := σ1) E _ a o h hK hG) _ _ _ b5h ?_)
  cases h
  exact x_vret dX9_drops_68 rfl rfl rfl
