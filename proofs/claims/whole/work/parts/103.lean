/-! The reference's methods: functions and contracts. Written by wip/gen/emit.py. -/
theorem K_RX9_248 : x_KV RX9 248 M_Mo_operand 1 := ⟨⟨(List.mem_append_right _ (List.mem_of_getElem? (i := 1576) (by decide +kernel))), (List.mem_append_right _ (List.mem_of_getElem? (i := 1579) (by decide +kernel))), (List.mem_append_right _ (List.mem_of_getElem? (i := 9) (by decide +kernel))), ⟨by decide +kernel, by decide +kernel⟩, by decide +kernel⟩, (List.mem_append_right _ (List.mem_of_getElem? (i := 1578) (by decide +kernel))), (List.mem_append_left _ (List.mem_of_getElem? (i := 67) (by decide +kernel)))⟩
theorem K_RX9_252 : x_KV RX9 252 M_Mo_isOpened 0 := ⟨⟨(List.mem_append_right _ (List.mem_of_getElem? (i := 1602) (by decide +kernel))), (List.mem_append_right _ (List.mem_of_getElem? (i := 1605) (by decide +kernel))), (List.mem_append_right _ (List.mem_of_getElem? (i := 9) (by decide +kernel))), ⟨by decide +kernel, by decide +kernel⟩, by decide +kernel⟩, (List.mem_append_right _ (List.mem_of_getElem? (i := 1604) (by decide +kernel))), (List.mem_append_left _ (List.mem_of_getElem? (i := 72) (by decide +kernel)))⟩
theorem K_RX9_255 : x_KV RX9 255 M_Mo_closes 0 := ⟨⟨(List.mem_append_right _ (List.mem_of_getElem? (i := 1606) (by decide +kernel))), (List.mem_append_right _ (List.mem_of_getElem? (i := 1609) (by decide +kernel))), (List.mem_append_right _ (List.mem_of_getElem? (i := 9) (by decide +kernel))), ⟨by decide +kernel, by decide +kernel⟩, by decide +kernel⟩, (List.mem_append_right _ (List.mem_of_getElem? (i := 1608) (by decide +kernel))), (List.mem_append_left _ (List.mem_of_getElem? (i := 73) (by decide +kernel)))⟩
abbrev M_Mo_expression : xM := (yX9_expression, cX9_expression, 5, none, [])
theorem dX9_expression_0 : decode cX9_expression 0 = .ok (.aload_n 0, 1) := by decide +kernel
theorem dX9_expression_1 : decode cX9_expression 1 = .ok (.invokevirtual 191, 3) := by decide +kernel
theorem dX9_expression_4 : decode cX9_expression 4 = .ok (.ifCond .ne 4, 3) := by decide +kernel
theorem dX9_expression_7 : decode cX9_expression 7 = .ok (.return_, 1) := by decide +kernel
theorem dX9_expression_8 : decode cX9_expression 8 = .ok (.aload_n 0, 1) := by decide +kernel
theorem dX9_expression_9 : decode cX9_expression 9 = .ok (.iload_n 1, 1) := by decide +kernel
theorem dX9_expression_10 : decode cX9_expression 10 = .ok (.putfield 224, 3) := by decide +kernel
theorem dX9_expression_13 : decode cX9_expression 13 = .ok (.aload_n 0, 1) := by decide +kernel
theorem dX9_expression_14 : decode cX9_expression 14 = .ok (.iload_n 2, 1) := by decide +kernel
theorem dX9_expression_15 : decode cX9_expression 15 = .ok (.putfield 227, 3) := by decide +kernel
theorem dX9_expression_18 : decode cX9_expression 18 = .ok (.aload_n 0, 1) := by decide +kernel
theorem dX9_expression_19 : decode cX9_expression 19 = .ok (.iconst 0, 1) := by decide +kernel
theorem dX9_expression_20 : decode cX9_expression 20 = .ok (.putfield 208, 3) := by decide +kernel
theorem dX9_expression_23 : decode cX9_expression 23 = .ok (.aload_n 0, 1) := by decide +kernel
theorem dX9_expression_24 : decode cX9_expression 24 = .ok (.iconst 0, 1) := by decide +kernel
theorem dX9_expression_25 : decode cX9_expression 25 = .ok (.putfield 230, 3) := by decide +kernel
theorem dX9_expression_28 : decode cX9_expression 28 = .ok (.aload_n 0, 1) := by decide +kernel
theorem dX9_expression_29 : decode cX9_expression 29 = .ok (.invokevirtual 239, 3) := by decide +kernel
theorem dX9_expression_32 : decode cX9_expression 32 = .ok (.aload_n 0, 1) := by decide +kernel
theorem dX9_expression_33 : decode cX9_expression 33 = .ok (.iconst 1, 1) := by decide +kernel
theorem dX9_expression_34 : decode cX9_expression 34 = .ok (.invokevirtual 248, 3) := by decide +kernel
theorem dX9_expression_37 : decode cX9_expression 37 = .ok (.iconst 1, 1) := by decide +kernel
theorem dX9_expression_38 : decode cX9_expression 38 = .ok (.istore_n 3, 1) := by decide +kernel
theorem dX9_expression_39 : decode cX9_expression 39 = .ok (.iload_n 3, 1) := by decide +kernel
theorem dX9_expression_40 : decode cX9_expression 40 = .ok (.ifCond .eq 300, 3) := by decide +kernel
theorem dX9_expression_43 : decode cX9_expression 43 = .ok (.aload_n 0, 1) := by decide +kernel
theorem dX9_expression_44 : decode cX9_expression 44 = .ok (.invokevirtual 191, 3) := by decide +kernel
theorem dX9_expression_47 : decode cX9_expression 47 = .ok (.ifCond .eq 293, 3) := by decide +kernel
theorem dX9_expression_50 : decode cX9_expression 50 = .ok (.aload_n 0, 1) := by decide +kernel
theorem dX9_expression_51 : decode cX9_expression 51 = .ok (.invokevirtual 220, 3) := by decide +kernel
theorem dX9_expression_54 : decode cX9_expression 54 = .ok (.istore 4, 2) := by decide +kernel
theorem dX9_expression_56 : decode cX9_expression 56 = .ok (.iload 4, 2) := by decide +kernel
theorem dX9_expression_58 : decode cX9_expression 58 = .ok (.bipush 19, 2) := by decide +kernel
theorem dX9_expression_60 : decode cX9_expression 60 = .ok (.if_icmp .eq 10, 3) := by decide +kernel
theorem dX9_expression_63 : decode cX9_expression 63 = .ok (.iload 4, 2) := by decide +kernel
theorem dX9_expression_65 : decode cX9_expression 65 = .ok (.bipush 20, 2) := by decide +kernel
theorem dX9_expression_67 : decode cX9_expression 67 = .ok (.if_icmp .ne 57, 3) := by decide +kernel
theorem dX9_expression_70 : decode cX9_expression 70 = .ok (.aload_n 0, 1) := by decide +kernel
theorem dX9_expression_71 : decode cX9_expression 71 = .ok (.iload 4, 2) := by decide +kernel
theorem dX9_expression_73 : decode cX9_expression 73 = .ok (.bipush 19, 2) := by decide +kernel
theorem dX9_expression_75 : decode cX9_expression 75 = .ok (.if_icmp .ne 7, 3) := by decide +kernel
theorem dX9_expression_78 : decode cX9_expression 78 = .ok (.iconst 2, 1) := by decide +kernel
theorem dX9_expression_79 : decode cX9_expression 79 = .ok (.goto 4, 3) := by decide +kernel
theorem dX9_expression_82 : decode cX9_expression 82 = .ok (.iconst 1, 1) := by decide +kernel
theorem dX9_expression_83 : decode cX9_expression 83 = .ok (.invokevirtual 245, 3) := by decide +kernel
theorem dX9_expression_86 : decode cX9_expression 86 = .ok (.aload_n 0, 1) := by decide +kernel
theorem dX9_expression_87 : decode cX9_expression 87 = .ok (.iload 4, 2) := by decide +kernel
theorem dX9_expression_89 : decode cX9_expression 89 = .ok (.bipush 19, 2) := by decide +kernel
theorem dX9_expression_91 : decode cX9_expression 91 = .ok (.if_icmp .ne 7, 3) := by decide +kernel
theorem dX9_expression_94 : decode cX9_expression 94 = .ok (.iconst 4, 1) := by decide +kernel
theorem dX9_expression_95 : decode cX9_expression 95 = .ok (.goto 4, 3) := by decide +kernel
theorem dX9_expression_98 : decode cX9_expression 98 = .ok (.iconst 5, 1) := by decide +kernel
theorem dX9_expression_99 : decode cX9_expression 99 = .ok (.invokevirtual 236, 3) := by decide +kernel
theorem dX9_expression_102 : decode cX9_expression 102 = .ok (.aload_n 0, 1) := by decide +kernel
theorem dX9_expression_103 : decode cX9_expression 103 = .ok (.getfield 74, 3) := by decide +kernel
theorem dX9_expression_106 : decode cX9_expression 106 = .ok (.aload_n 0, 1) := by decide +kernel
theorem dX9_expression_107 : decode cX9_expression 107 = .ok (.getfield 230, 3) := by decide +kernel
theorem dX9_expression_110 : decode cX9_expression 110 = .ok (.iconst 0, 1) := by decide +kernel
theorem dX9_expression_111 : decode cX9_expression 111 = .ok (.bastore, 1) := by decide +kernel
theorem dX9_expression_112 : decode cX9_expression 112 = .ok (.aload_n 0, 1) := by decide +kernel
theorem dX9_expression_113 : decode cX9_expression 113 = .ok (.invokevirtual 195, 3) := by decide +kernel
theorem dX9_expression_116 : decode cX9_expression 116 = .ok (.aload_n 0, 1) := by decide +kernel
theorem dX9_expression_117 : decode cX9_expression 117 = .ok (.iconst 1, 1) := by decide +kernel
theorem dX9_expression_118 : decode cX9_expression 118 = .ok (.invokevirtual 248, 3) := by decide +kernel
theorem dX9_expression_121 : decode cX9_expression 121 = .ok (.goto 216, 3) := by decide +kernel
theorem dX9_expression_124 : decode cX9_expression 124 = .ok (.aload_n 0, 1) := by decide +kernel
theorem dX9_expression_125 : decode cX9_expression 125 = .ok (.bipush 60, 2) := by decide +kernel
theorem dX9_expression_127 : decode cX9_expression 127 = .ok (.invokevirtual 233, 3) := by decide +kernel
theorem dX9_expression_130 : decode cX9_expression 130 = .ok (.ifCond .ne 12, 3) := by decide +kernel
theorem dX9_expression_133 : decode cX9_expression 133 = .ok (.aload_n 0, 1) := by decide +kernel
theorem dX9_expression_134 : decode cX9_expression 134 = .ok (.bipush 61, 2) := by decide +kernel
theorem dX9_expression_136 : decode cX9_expression 136 = .ok (.invokevirtual 233, 3) := by decide +kernel
theorem dX9_expression_139 : decode cX9_expression 139 = .ok (.ifCond .eq 62, 3) := by decide +kernel
theorem dX9_expression_142 : decode cX9_expression 142 = .ok (.aload_n 0, 1) := by decide +kernel
theorem dX9_expression_143 : decode cX9_expression 143 = .ok (.getfield 74, 3) := by decide +kernel
theorem dX9_expression_146 : decode cX9_expression 146 = .ok (.aload_n 0, 1) := by decide +kernel
theorem dX9_expression_147 : decode cX9_expression 147 = .ok (.getfield 230, 3) := by decide +kernel
theorem dX9_expression_150 : decode cX9_expression 150 = .ok (.baload, 1) := by decide +kernel
theorem dX9_expression_151 : decode cX9_expression 151 = .ok (.ifCond .ne 50, 3) := by decide +kernel
theorem dX9_expression_154 : decode cX9_expression 154 = .ok (.aload_n 0, 1) := by decide +kernel
theorem dX9_expression_155 : decode cX9_expression 155 = .ok (.iconst 4, 1) := by decide +kernel
theorem dX9_expression_156 : decode cX9_expression 156 = .ok (.invokevirtual 245, 3) := by decide +kernel
theorem dX9_expression_159 : decode cX9_expression 159 = .ok (.aload_n 0, 1) := by decide +kernel
theorem dX9_expression_160 : decode cX9_expression 160 = .ok (.aload_n 0, 1) := by decide +kernel
theorem dX9_expression_161 : decode cX9_expression 161 = .ok (.bipush 60, 2) := by decide +kernel
theorem dX9_expression_163 : decode cX9_expression 163 = .ok (.invokevirtual 233, 3) := by decide +kernel
theorem dX9_expression_166 : decode cX9_expression 166 = .ok (.ifCond .eq 8, 3) := by decide +kernel
theorem dX9_expression_169 : decode cX9_expression 169 = .ok (.bipush 6, 2) := by decide +kernel
theorem dX9_expression_171 : decode cX9_expression 171 = .ok (.goto 5, 3) := by decide +kernel
theorem dX9_expression_174 : decode cX9_expression 174 = .ok (.bipush 7, 2) := by decide +kernel
theorem dX9_expression_176 : decode cX9_expression 176 = .ok (.invokevirtual 236, 3) := by decide +kernel
theorem dX9_expression_179 : decode cX9_expression 179 = .ok (.aload_n 0, 1) := by decide +kernel
theorem dX9_expression_180 : decode cX9_expression 180 = .ok (.getfield 74, 3) := by decide +kernel
theorem dX9_expression_183 : decode cX9_expression 183 = .ok (.aload_n 0, 1) := by decide +kernel
theorem dX9_expression_184 : decode cX9_expression 184 = .ok (.getfield 230, 3) := by decide +kernel
theorem dX9_expression_187 : decode cX9_expression 187 = .ok (.iconst 1, 1) := by decide +kernel
theorem dX9_expression_188 : decode cX9_expression 188 = .ok (.bastore, 1) := by decide +kernel
theorem dX9_expression_189 : decode cX9_expression 189 = .ok (.aload_n 0, 1) := by decide +kernel
theorem dX9_expression_190 : decode cX9_expression 190 = .ok (.invokevirtual 195, 3) := by decide +kernel
theorem dX9_expression_193 : decode cX9_expression 193 = .ok (.aload_n 0, 1) := by decide +kernel
theorem dX9_expression_194 : decode cX9_expression 194 = .ok (.iconst 0, 1) := by decide +kernel
theorem dX9_expression_195 : decode cX9_expression 195 = .ok (.invokevirtual 248, 3) := by decide +kernel
theorem dX9_expression_198 : decode cX9_expression 198 = .ok (.goto 139, 3) := by decide +kernel
theorem dX9_expression_201 : decode cX9_expression 201 = .ok (.aload_n 0, 1) := by decide +kernel
theorem dX9_expression_202 : decode cX9_expression 202 = .ok (.bipush 43, 2) := by decide +kernel
theorem dX9_expression_204 : decode cX9_expression 204 = .ok (.invokevirtual 233, 3) := by decide +kernel
theorem dX9_expression_207 : decode cX9_expression 207 = .ok (.ifCond .ne 12, 3) := by decide +kernel
theorem dX9_expression_210 : decode cX9_expression 210 = .ok (.aload_n 0, 1) := by decide +kernel
theorem dX9_expression_211 : decode cX9_expression 211 = .ok (.bipush 45, 2) := by decide +kernel
theorem dX9_expression_213 : decode cX9_expression 213 = .ok (.invokevirtual 233, 3) := by decide +kernel
theorem dX9_expression_216 : decode cX9_expression 216 = .ok (.ifCond .eq 40, 3) := by decide +kernel
theorem dX9_expression_219 : decode cX9_expression 219 = .ok (.aload_n 0, 1) := by decide +kernel
theorem dX9_expression_220 : decode cX9_expression 220 = .ok (.iconst 5, 1) := by decide +kernel
theorem dX9_expression_221 : decode cX9_expression 221 = .ok (.invokevirtual 245, 3) := by decide +kernel
theorem dX9_expression_224 : decode cX9_expression 224 = .ok (.aload_n 0, 1) := by decide +kernel
theorem dX9_expression_225 : decode cX9_expression 225 = .ok (.aload_n 0, 1) := by decide +kernel
theorem dX9_expression_226 : decode cX9_expression 226 = .ok (.bipush 43, 2) := by decide +kernel
theorem dX9_expression_228 : decode cX9_expression 228 = .ok (.invokevirtual 233, 3) := by decide +kernel
theorem dX9_expression_231 : decode cX9_expression 231 = .ok (.ifCond .eq 8, 3) := by decide +kernel
theorem dX9_expression_234 : decode cX9_expression 234 = .ok (.bipush 8, 2) := by decide +kernel
theorem dX9_expression_236 : decode cX9_expression 236 = .ok (.goto 5, 3) := by decide +kernel
theorem dX9_expression_239 : decode cX9_expression 239 = .ok (.bipush 9, 2) := by decide +kernel
theorem dX9_expression_241 : decode cX9_expression 241 = .ok (.invokevirtual 236, 3) := by decide +kernel
theorem dX9_expression_244 : decode cX9_expression 244 = .ok (.aload_n 0, 1) := by decide +kernel
theorem dX9_expression_245 : decode cX9_expression 245 = .ok (.invokevirtual 195, 3) := by decide +kernel
theorem dX9_expression_248 : decode cX9_expression 248 = .ok (.aload_n 0, 1) := by decide +kernel
theorem dX9_expression_249 : decode cX9_expression 249 = .ok (.iconst 0, 1) := by decide +kernel
theorem dX9_expression_250 : decode cX9_expression 250 = .ok (.invokevirtual 248, 3) := by decide +kernel
theorem dX9_expression_253 : decode cX9_expression 253 = .ok (.goto 84, 3) := by decide +kernel
theorem dX9_expression_256 : decode cX9_expression 256 = .ok (.aload_n 0, 1) := by decide +kernel
theorem dX9_expression_257 : decode cX9_expression 257 = .ok (.bipush 42, 2) := by decide +kernel
theorem dX9_expression_259 : decode cX9_expression 259 = .ok (.invokevirtual 233, 3) := by decide +kernel
theorem dX9_expression_262 : decode cX9_expression 262 = .ok (.ifCond .ne 12, 3) := by decide +kernel
theorem dX9_expression_265 : decode cX9_expression 265 = .ok (.aload_n 0, 1) := by decide +kernel
theorem dX9_expression_266 : decode cX9_expression 266 = .ok (.bipush 47, 2) := by decide +kernel
theorem dX9_expression_268 : decode cX9_expression 268 = .ok (.invokevirtual 233, 3) := by decide +kernel
theorem dX9_expression_271 : decode cX9_expression 271 = .ok (.ifCond .eq 41, 3) := by decide +kernel
theorem dX9_expression_274 : decode cX9_expression 274 = .ok (.aload_n 0, 1) := by decide +kernel
theorem dX9_expression_275 : decode cX9_expression 275 = .ok (.bipush 6, 2) := by decide +kernel
theorem dX9_expression_277 : decode cX9_expression 277 = .ok (.invokevirtual 245, 3) := by decide +kernel
theorem dX9_expression_280 : decode cX9_expression 280 = .ok (.aload_n 0, 1) := by decide +kernel
theorem dX9_expression_281 : decode cX9_expression 281 = .ok (.aload_n 0, 1) := by decide +kernel
theorem dX9_expression_282 : decode cX9_expression 282 = .ok (.bipush 42, 2) := by decide +kernel
theorem dX9_expression_284 : decode cX9_expression 284 = .ok (.invokevirtual 233, 3) := by decide +kernel
theorem dX9_expression_287 : decode cX9_expression 287 = .ok (.ifCond .eq 8, 3) := by decide +kernel
theorem dX9_expression_290 : decode cX9_expression 290 = .ok (.bipush 10, 2) := by decide +kernel
theorem dX9_expression_292 : decode cX9_expression 292 = .ok (.goto 5, 3) := by decide +kernel
theorem dX9_expression_295 : decode cX9_expression 295 = .ok (.bipush 11, 2) := by decide +kernel
theorem dX9_expression_297 : decode cX9_expression 297 = .ok (.invokevirtual 236, 3) := by decide +kernel
theorem dX9_expression_300 : decode cX9_expression 300 = .ok (.aload_n 0, 1) := by decide +kernel
theorem dX9_expression_301 : decode cX9_expression 301 = .ok (.invokevirtual 195, 3) := by decide +kernel
theorem dX9_expression_304 : decode cX9_expression 304 = .ok (.aload_n 0, 1) := by decide +kernel
theorem dX9_expression_305 : decode cX9_expression 305 = .ok (.iconst 0, 1) := by decide +kernel
theorem dX9_expression_306 : decode cX9_expression 306 = .ok (.invokevirtual 248, 3) := by decide +kernel
theorem dX9_expression_309 : decode cX9_expression 309 = .ok (.goto 28, 3) := by decide +kernel
theorem dX9_expression_312 : decode cX9_expression 312 = .ok (.aload_n 0, 1) := by decide +kernel
theorem dX9_expression_313 : decode cX9_expression 313 = .ok (.bipush 41, 2) := by decide +kernel
theorem dX9_expression_315 : decode cX9_expression 315 = .ok (.invokevirtual 233, 3) := by decide +kernel
theorem dX9_expression_318 : decode cX9_expression 318 = .ok (.ifCond .eq 17, 3) := by decide +kernel
theorem dX9_expression_321 : decode cX9_expression 321 = .ok (.aload_n 0, 1) := by decide +kernel
theorem dX9_expression_322 : decode cX9_expression 322 = .ok (.invokevirtual 252, 3) := by decide +kernel
theorem dX9_expression_325 : decode cX9_expression 325 = .ok (.ifCond .eq 10, 3) := by decide +kernel
theorem dX9_expression_328 : decode cX9_expression 328 = .ok (.aload_n 0, 1) := by decide +kernel
theorem dX9_expression_329 : decode cX9_expression 329 = .ok (.invokevirtual 255, 3) := by decide +kernel
theorem dX9_expression_332 : decode cX9_expression 332 = .ok (.goto 5, 3) := by decide +kernel
theorem dX9_expression_335 : decode cX9_expression 335 = .ok (.iconst 0, 1) := by decide +kernel
theorem dX9_expression_336 : decode cX9_expression 336 = .ok (.istore_n 3, 1) := by decide +kernel
theorem dX9_expression_337 : decode cX9_expression 337 = .ok (.goto (-298), 3) := by decide +kernel
theorem dX9_expression_340 : decode cX9_expression 340 = .ok (.aload_n 0, 1) := by decide +kernel
theorem dX9_expression_341 : decode cX9_expression 341 = .ok (.invokevirtual 191, 3) := by decide +kernel
theorem dX9_expression_344 : decode cX9_expression 344 = .ok (.ifCond .eq 16, 3) := by decide +kernel
theorem dX9_expression_347 : decode cX9_expression 347 = .ok (.aload_n 0, 1) := by decide +kernel
theorem dX9_expression_348 : decode cX9_expression 348 = .ok (.getfield 230, 3) := by decide +kernel
theorem dX9_expression_351 : decode cX9_expression 351 = .ok (.iconst 1, 1) := by decide +kernel
theorem dX9_expression_352 : decode cX9_expression 352 = .ok (.if_icmp .le 8, 3) := by decide +kernel
theorem dX9_expression_355 : decode cX9_expression 355 = .ok (.aload_n 0, 1) := by decide +kernel
theorem dX9_expression_356 : decode cX9_expression 356 = .ok (.iconst 1, 1) := by decide +kernel
theorem dX9_expression_357 : decode cX9_expression 357 = .ok (.invokevirtual 198, 3) := by decide +kernel
theorem dX9_expression_360 : decode cX9_expression 360 = .ok (.aload_n 0, 1) := by decide +kernel
theorem dX9_expression_361 : decode cX9_expression 361 = .ok (.iconst 0, 1) := by decide +kernel
theorem dX9_expression_362 : decode cX9_expression 362 = .ok (.invokevirtual 245, 3) := by decide +kernel
theorem dX9_expression_365 : decode cX9_expression 365 = .ok (.aload_n 0, 1) := by decide +kernel
theorem dX9_expression_366 : decode cX9_expression 366 = .ok (.iconst 0, 1) := by decide +kernel
theorem dX9_expression_367 : decode cX9_expression 367 = .ok (.invokevirtual 217, 3) := by decide +kernel
theorem dX9_expression_370 : decode cX9_expression 370 = .ok (.return_, 1) := by decide +kernel
def f_Mo_expression_60_J274 (v3 : Int32) (σ : xS) : Option ((Int32 × xS) ⊕ (Int32 × xS)) :=
  (f_Mo_drops_60 (6 : Int32) σ).bind fun q1 =>
  (f_Mo_isSign_60 (42 : Int32) q1.2).bind fun q2 =>
  if q2.1 = 0 then
    (f_Mo_waitsFor_60 (11 : Int32) q2.2).bind fun q3 =>
    (f_Mo_goes_60  q3.2).bind fun q4 =>
    (f_Mo_operand_60 (0 : Int32) q4.2).bind fun q5 =>
    some (.inr (v3, q5.2))
  else
    (f_Mo_waitsFor_60 (10 : Int32) q2.2).bind fun q6 =>
    (f_Mo_goes_60  q6.2).bind fun q7 =>
    (f_Mo_operand_60 (0 : Int32) q7.2).bind fun q8 =>
    some (.inr (v3, q8.2))
def f_Mo_expression_60_J219 (v3 : Int32) (σ : xS) : Option ((Int32 × xS) ⊕ (Int32 × xS)) :=
  (f_Mo_drops_60 (5 : Int32) σ).bind fun q9 =>
  (f_Mo_isSign_60 (43 : Int32) q9.2).bind fun q10 =>
  if q10.1 = 0 then
    (f_Mo_waitsFor_60 (9 : Int32) q10.2).bind fun q11 =>
    (f_Mo_goes_60  q11.2).bind fun q12 =>
    (f_Mo_operand_60 (0 : Int32) q12.2).bind fun q13 =>
    some (.inr (v3, q13.2))
  else
    (f_Mo_waitsFor_60 (8 : Int32) q10.2).bind fun q14 =>
    (f_Mo_goes_60  q14.2).bind fun q15 =>
    (f_Mo_operand_60 (0 : Int32) q15.2).bind fun q16 =>
    some (.inr (v3, q16.2))
def f_Mo_expression_60_J201 (v3 : Int32) (σ : xS) : Option ((Int32 × xS) ⊕ (Int32 × xS)) :=
  (f_Mo_isSign_60 (43 : Int32) σ).bind fun q17 =>
  if q17.1 = 0 then
    (f_Mo_isSign_60 (45 : Int32) q17.2).bind fun q18 =>
    if q18.1 = 0 then
      (f_Mo_isSign_60 (42 : Int32) q18.2).bind fun q19 =>
      if q19.1 = 0 then
        (f_Mo_isSign_60 (47 : Int32) q19.2).bind fun q20 =>
        if q20.1 = 0 then
          (f_Mo_isSign_60 (41 : Int32) q20.2).bind fun q21 =>
          if q21.1 = 0 then
            some (.inr ((0 : Int32), q21.2))
          else
            (f_Mo_isOpened_60  q21.2).bind fun q22 =>
            if q22.1 = 0 then
              some (.inr ((0 : Int32), q22.2))
            else
              (f_Mo_closes_60  q22.2).bind fun q23 =>
              some (.inr (v3, q23.2))
        else
          f_Mo_expression_60_J274 v3 q20.2
      else
        f_Mo_expression_60_J274 v3 q19.2
    else
      f_Mo_expression_60_J219 v3 q18.2
  else
    f_Mo_expression_60_J219 v3 q17.2
def f_Mo_expression_60_J176 (v3 : Int32) (y1 : Int32) (σ : xS) : Option ((Int32 × xS) ⊕ (Int32 × xS)) :=
  (f_Mo_waitsFor_60 y1 σ).bind fun q24 =>
  if q24.2.1 60 42 < 0 ∨ 9 ≤ (q24.2.1 60 42).toNatClampNeg then none else
  let σ25 := x_pI q24.2 78 (q24.2.1 60 42).toNatClampNeg (1 : Int32)
  (f_Mo_goes_60  σ25).bind fun q26 =>
  (f_Mo_operand_60 (0 : Int32) q26.2).bind fun q27 =>
  some (.inr (v3, q27.2))
def f_Mo_expression_60_J142 (v3 : Int32) (σ : xS) : Option ((Int32 × xS) ⊕ (Int32 × xS)) :=
  if σ.1 60 42 < 0 ∨ 9 ≤ (σ.1 60 42).toNatClampNeg then none else
  if σ.1 78 (σ.1 60 42).toNatClampNeg = 0 then
    (f_Mo_drops_60 (4 : Int32) σ).bind fun q28 =>
    (f_Mo_isSign_60 (60 : Int32) q28.2).bind fun q29 =>
    if q29.1 = 0 then
      f_Mo_expression_60_J176 v3 (7 : Int32) q29.2
    else
      f_Mo_expression_60_J176 v3 (6 : Int32) q29.2
  else
    f_Mo_expression_60_J201 v3 σ
def f_Mo_expression_60_J99 (v3 : Int32) (y1 : Int32) (σ : xS) : Option ((Int32 × xS) ⊕ (Int32 × xS)) :=
  (f_Mo_waitsFor_60 y1 σ).bind fun q30 =>
  if q30.2.1 60 42 < 0 ∨ 9 ≤ (q30.2.1 60 42).toNatClampNeg then none else
  let σ31 := x_pI q30.2 78 (q30.2.1 60 42).toNatClampNeg (0 : Int32)
  (f_Mo_goes_60  σ31).bind fun q32 =>
  (f_Mo_operand_60 (1 : Int32) q32.2).bind fun q33 =>
  some (.inr (v3, q33.2))
def f_Mo_expression_60_J83 (v3 : Int32) (v4 : Int32) (y1 : Int32) (σ : xS) : Option ((Int32 × xS) ⊕ (Int32 × xS)) :=
  (f_Mo_drops_60 y1 σ).bind fun q34 =>
  if v4 = (19 : Int32) then
    f_Mo_expression_60_J99 v3 (4 : Int32) q34.2
  else
    f_Mo_expression_60_J99 v3 (5 : Int32) q34.2
def f_Mo_expression_60_J70 (v3 : Int32) (v4 : Int32) (σ : xS) : Option ((Int32 × xS) ⊕ (Int32 × xS)) :=
  if v4 = (19 : Int32) then
    f_Mo_expression_60_J83 v3 v4 (2 : Int32) σ
  else
    f_Mo_expression_60_J83 v3 v4 (1 : Int32) σ
def f_Mo_expression_60_L39  (a : Int32 × xS) : Option ((Int32 × xS) ⊕ (Int32 × xS)) :=
  let v3 := a.1; let σ := a.2;
  if v3 = 0 then
    some (.inl (v3, σ))
  else
    (f_Mo_isGood_60  σ).bind fun q35 =>
    if q35.1 = 0 then
      some (.inl (v3, q35.2))
    else
      (f_Mo_knownWord_60  q35.2).bind fun q36 =>
      let w37 := q36.1
      if w37 = (19 : Int32) then
        f_Mo_expression_60_J70 v3 w37 q36.2
      else
        if w37 = (20 : Int32) then
          f_Mo_expression_60_J70 v3 w37 q36.2
        else
          (f_Mo_isSign_60 (60 : Int32) q36.2).bind fun q38 =>
          if q38.1 = 0 then
            (f_Mo_isSign_60 (61 : Int32) q38.2).bind fun q39 =>
            if q39.1 = 0 then
              f_Mo_expression_60_J201 v3 q39.2
            else
              f_Mo_expression_60_J142 v3 q39.2
          else
            f_Mo_expression_60_J142 v3 q38.2
def f_Mo_expression_60_J340  (σ : xS) : Option (Unit × xS) :=
  (f_Mo_isGood_60  σ).bind fun q40 =>
  if q40.1 = 0 then
    (f_Mo_drops_60 (0 : Int32) q40.2).bind fun q41 =>
    (f_Mo_puts_60 (0 : Int32) q41.2).bind fun q42 =>
    some ((), q42.2)
  else
    if q40.2.1 60 42 ≤ (1 : Int32) then
      (f_Mo_drops_60 (0 : Int32) q40.2).bind fun q43 =>
      (f_Mo_puts_60 (0 : Int32) q43.2).bind fun q44 =>
      some ((), q44.2)
    else
      (f_Mo_wrong_60 (1 : Int32) q40.2).bind fun q45 =>
      (f_Mo_drops_60 (0 : Int32) q45.2).bind fun q46 =>
      (f_Mo_puts_60 (0 : Int32) q46.2).bind fun q47 =>
      some ((), q47.2)
def f_Mo_expression_60 (v1 : Int32) (v2 : Int32) (σ : xS) : Option (Unit × xS) :=
  (f_Mo_isGood_60  σ).bind fun q48 =>
  if q48.1 = 0 then
    some ((), q48.2)
  else
    let σ49 := x_pI q48.2 60 38 v1
    let σ50 := x_pI σ49 60 39 v2
    let σ51 := x_pI σ50 60 41 (0 : Int32)
    let σ52 := x_pI σ51 60 42 (0 : Int32)
    (f_Mo_deeper_60  σ52).bind fun q53 =>
    (f_Mo_operand_60 (1 : Int32) q53.2).bind fun q54 =>
    (x_it (f_Mo_expression_60_L39 ) 10000 ((1 : Int32), q54.2)).bind fun b55 =>
    f_Mo_expression_60_J340  b55.2
set_option maxHeartbeats 4000000 in
set_option maxRecDepth 100000 in
theorem j_Mo_expression_60_J274 {l : Launch} {s0 : State} {a0 : Array Value} {D : va_G} {cA : Nat → ClassId} {sp : Nat → Nat} (E : x_En CL l s0 a0 D cA sp) (v3 : Int32)  (σ : xS) {r : Unit} {σ1 : xS} (o : (Int32 × xS) ⊕ (Int32 × xS)) (h : f_Mo_expression_60_J274 v3 σ = some o) (hK : ∀ b, o = .inl b → zW l s0 D cA sp (zQ s0 D cA sp none σ1) (x_rm 5 0 0) M_Mo_expression 0 0 340 [some (.ref 60), none, none, none, none] [] b.2) (hG : ∀ a', o = .inr a' → zW l s0 D cA sp (zQ s0 D cA sp none σ1) (x_rm 5 0 0) M_Mo_expression 0 0 39 [some (.ref 60), none, none, some (.int a'.1), none] [] a'.2) : zW l s0 D cA sp (zQ s0 D cA sp none σ1) (x_rm 5 0 0) M_Mo_expression 0 0 274 [some (.ref 60), none, none, some (.int v3), none] [] σ := by
  unfold f_Mo_expression_60_J274 at h
  try dsimp only at h
  refine x_aload_n 275 rfl 0 dX9_expression_274 rfl rfl ?_
  refine x_bipush 277 rfl (v := 6) dX9_expression_275 (by decide) ?_
  obtain ⟨⟨q1r, q1s⟩, q1h, h⟩ := x_bind h
  try dsimp only at h
  refine z_callV E [.int _] [] dX9_expression_277 K_RX9_245 ⟨Nat.le_of_ble_eq_true rfl, Nat.le_of_ble_eq_true rfl⟩ sh_60 (by decide) rfl (c_Mo_drops_60 E _ q1h) rfl rfl (Nat.le_of_ble_eq_true rfl) 280 rfl [] rfl ?_
  refine x_aload_n 281 rfl 0 dX9_expression_280 rfl rfl ?_
  refine x_aload_n 282 rfl 0 dX9_expression_281 rfl rfl ?_
  refine x_bipush 284 rfl (v := 42) dX9_expression_282 (by decide) ?_
  obtain ⟨⟨q2r, q2s⟩, q2h, h⟩ := x_bind h
  try dsimp only at h
  refine z_callV E [.int _] [.ref 60] dX9_expression_284 K_RX9_233 ⟨Nat.le_of_ble_eq_true rfl, Nat.le_of_ble_eq_true rfl⟩ sh_60 (by decide) rfl (c_Mo_isSign_60 E _ q2h) rfl rfl (Nat.le_of_ble_eq_true rfl) 287 rfl [.int _, .ref 60] rfl ?_
  refine x_if_eq 290 rfl 295 dX9_expression_287 (by decide) (fun hc => ?_) (fun hc => ?_)
  · replace h := x_ifT hc h
    refine x_bipush 297 rfl (v := 11) dX9_expression_295 (by decide) ?_
    obtain ⟨⟨q3r, q3s⟩, q3h, h⟩ := x_bind h
    try dsimp only at h
    refine z_callV E [.int _] [] dX9_expression_297 K_RX9_236 ⟨Nat.le_of_ble_eq_true rfl, Nat.le_of_ble_eq_true rfl⟩ sh_60 (by decide) rfl (c_Mo_waitsFor_60 E _ q3h) rfl rfl (Nat.le_of_ble_eq_true rfl) 300 rfl [] rfl ?_
    refine x_aload_n 301 rfl 0 dX9_expression_300 rfl rfl ?_
    obtain ⟨⟨q4r, q4s⟩, q4h, h⟩ := x_bind h
    try dsimp only at h
    refine z_callV E [] [] dX9_expression_301 K_RX9_195 ⟨Nat.le_of_ble_eq_true rfl, Nat.le_of_ble_eq_true rfl⟩ sh_60 (by decide) rfl (c_Mo_goes_60 E  q4h) rfl rfl (Nat.le_of_ble_eq_true rfl) 304 rfl [] rfl ?_
    refine x_aload_n 305 rfl 0 dX9_expression_304 rfl rfl ?_
    refine x_iconst 306 rfl (v := 0) dX9_expression_305 (by decide) ?_
    obtain ⟨⟨q5r, q5s⟩, q5h, h⟩ := x_bind h
    try dsimp only at h
    refine z_callV E [.int _] [] dX9_expression_306 K_RX9_248 ⟨Nat.le_of_ble_eq_true rfl, Nat.le_of_ble_eq_true rfl⟩ sh_60 (by decide) rfl (c_Mo_operand_60 E _ q5h) rfl rfl (Nat.le_of_ble_eq_true rfl) 309 rfl [] rfl ?_
    refine x_goto 337 dX9_expression_309 (by decide) ?_
    refine x_goto 39 dX9_expression_337 (by decide) ?_
    cases h
    exact x_wk (x_le_s (x_le_n (x_le_n (x_le_s (x_le_n x_le_0))))) (hG (_, _) rfl)
  · replace h := x_ifF hc h
    refine x_bipush 292 rfl (v := 10) dX9_expression_290 (by decide) ?_
    refine x_goto 297 dX9_expression_292 (by decide) ?_
    obtain ⟨⟨q6r, q6s⟩, q6h, h⟩ := x_bind h
    try dsimp only at h
    refine z_callV E [.int _] [] dX9_expression_297 K_RX9_236 ⟨Nat.le_of_ble_eq_true rfl, Nat.le_of_ble_eq_true rfl⟩ sh_60 (by decide) rfl (c_Mo_waitsFor_60 E _ q6h) rfl rfl (Nat.le_of_ble_eq_true rfl) 300 rfl [] rfl ?_
    refine x_aload_n 301 rfl 0 dX9_expression_300 rfl rfl ?_
    obtain ⟨⟨q7r, q7s⟩, q7h, h⟩ := x_bind h
    try dsimp only at h
    refine z_callV E [] [] dX9_expression_301 K_RX9_195 ⟨Nat.le_of_ble_eq_true rfl, Nat.le_of_ble_eq_true rfl⟩ sh_60 (by decide) rfl (c_Mo_goes_60 E  q7h) rfl rfl (Nat.le_of_ble_eq_true rfl) 304 rfl [] rfl ?_
    refine x_aload_n 305 rfl 0 dX9_expression_304 rfl rfl ?_
    refine x_iconst 306 rfl (v := 0) dX9_expression_305 (by decide) ?_
    obtain ⟨⟨q8r, q8s⟩, q8h, h⟩ := x_bind h
    try dsimp only at h
    refine z_callV E [.int _] [] dX9_expression_306 K_RX9_248 ⟨Nat.le_of_ble_eq_true rfl, Nat.le_of_ble_eq_true rfl⟩ sh_60 (by decide) rfl (c_Mo_operand_60 E _ q8h) rfl rfl (Nat.le_of_ble_eq_true rfl) 309 rfl [] rfl ?_
    refine x_goto 337 dX9_expression_309 (by decide) ?_
    refine x_goto 39 dX9_expression_337 (by decide) ?_
    cases h
    exact x_wk (x_le_s (x_le_n (x_le_n (x_le_s (x_le_n x_le_0))))) (hG (_, _) rfl)
set_option maxHeartbeats 4000000 in
set_option maxRecDepth 100000 in
theorem j_Mo_expression_60_J219 {l : Launch} {s0 : State} {a0 : Array Value} {D : va_G} {cA : Nat → ClassId} {sp : Nat → Nat} (E : x_En CL l s0 a0 D cA sp) (v3 : Int32)  (σ : xS) {r : Unit} {σ1 : xS} (o : (Int32 × xS) ⊕ (Int32 × xS)) (h : f_Mo_expression_60_J219 v3 σ = some o) (hK : ∀ b, o = .inl b → zW l s0 D cA sp (zQ s0 D cA sp none σ1) (x_rm 5 0 0) M_Mo_expression 0 0 340 [some (.ref 60), none, none, none, none] [] b.2) (hG : ∀ a', o = .inr a' → zW l s0 D cA sp (zQ s0 D cA sp none σ1) (x_rm 5 0 0) M_Mo_expression 0 0 39 [some (.ref 60), none, none, some (.int a'.1), none] [] a'.2) : zW l s0 D cA sp (zQ s0 D cA sp none σ1) (x_rm 5 0 0) M_Mo_expression 0 0 219 [some (.ref 60), none, none, some (.int v3), none] [] σ := by
  unfold f_Mo_expression_60_J219 at h
  try dsimp only at h
  refine x_aload_n 220 rfl 0 dX9_expression_219 rfl rfl ?_
  refine x_iconst 221 rfl (v := 5) dX9_expression_220 (by decide) ?_
  obtain ⟨⟨q9r, q9s⟩, q9h, h⟩ := x_bind h
  try dsimp only at h
  refine z_callV E [.int _] [] dX9_expression_221 K_RX9_245 ⟨Nat.le_of_ble_eq_true rfl, Nat.le_of_ble_eq_true rfl⟩ sh_60 (by decide) rfl (c_Mo_drops_60 E _ q9h) rfl rfl (Nat.le_of_ble_eq_true rfl) 224 rfl [] rfl ?_
  refine x_aload_n 225 rfl 0 dX9_expression_224 rfl rfl ?_
  refine x_aload_n 226 rfl 0 dX9_expression_225 rfl rfl ?_
  refine x_bipush 228 rfl (v := 43) dX9_expression_226 (by decide) ?_
  obtain ⟨⟨q10r, q10s⟩, q10h, h⟩ := x_bind h
  try dsimp only at h
  refine z_callV E [.int _] [.ref 60] dX9_expression_228 K_RX9_233 ⟨Nat.le_of_ble_eq_true rfl, Nat.le_of_ble_eq_true rfl⟩ sh_60 (by decide) rfl (c_Mo_isSign_60 E _ q10h) rfl rfl (Nat.le_of_ble_eq_true rfl) 231 rfl [.int _, .ref 60] rfl ?_
  refine x_if_eq 234 rfl 239 dX9_expression_231 (by decide) (fun hc => ?_) (fun hc => ?_)
  · replace h := x_ifT hc h
    refine x_bipush 241 rfl (v := 9) dX9_expression_239 (by decide) ?_
    obtain ⟨⟨q11r, q11s⟩, q11h, h⟩ := x_bind h
    try dsimp only at h
    refine z_callV E [.int _] [] dX9_expression_241 K_RX9_236 ⟨Nat.le_of_ble_eq_true rfl, Nat.le_of_ble_eq_true rfl⟩ sh_60 (by decide) rfl (c_Mo_waitsFor_60 E _ q11h) rfl rfl (Nat.le_of_ble_eq_true rfl) 244 rfl [] rfl ?_
    refine x_aload_n 245 rfl 0 dX9_expression_244 rfl rfl ?_
    obtain ⟨⟨q12r, q12s⟩, q12h, h⟩ := x_bind h
    try dsimp only at h
    refine z_callV E [] [] dX9_expression_245 K_RX9_195 ⟨Nat.le_of_ble_eq_true rfl, Nat.le_of_ble_eq_true rfl⟩ sh_60 (by decide) rfl (c_Mo_goes_60 E  q12h) rfl rfl (Nat.le_of_ble_eq_true rfl) 248 rfl [] rfl ?_
    refine x_aload_n 249 rfl 0 dX9_expression_248 rfl rfl ?_
    refine x_iconst 250 rfl (v := 0) dX9_expression_249 (by decide) ?_
    obtain ⟨⟨q13r, q13s⟩, q13h, h⟩ := x_bind h
    try dsimp only at h
    refine z_callV E [.int _] [] dX9_expression_250 K_RX9_248 ⟨Nat.le_of_ble_eq_true rfl, Nat.le_of_ble_eq_true rfl⟩ sh_60 (by decide) rfl (c_Mo_operand_60 E _ q13h) rfl rfl (Nat.le_of_ble_eq_true rfl) 253 rfl [] rfl ?_
    refine x_goto 337 dX9_expression_253 (by decide) ?_
    refine x_goto 39 dX9_expression_337 (by decide) ?_
    cases h
    exact x_wk (x_le_s (x_le_n (x_le_n (x_le_s (x_le_n x_le_0))))) (hG (_, _) rfl)
  · replace h := x_ifF hc h
    refine x_bipush 236 rfl (v := 8) dX9_expression_234 (by decide) ?_
    refine x_goto 241 dX9_expression_236 (by decide) ?_
    obtain ⟨⟨q14r, q14s⟩, q14h, h⟩ := x_bind h
    try dsimp only at h
    refine z_callV E [.int _] [] dX9_expression_241 K_RX9_236 ⟨Nat.le_of_ble_eq_true rfl, Nat.le_of_ble_eq_true rfl⟩ sh_60 (by decide) rfl (c_Mo_waitsFor_60 E _ q14h) rfl rfl (Nat.le_of_ble_eq_true rfl) 244 rfl [] rfl ?_
    refine x_aload_n 245 rfl 0 dX9_expression_244 rfl rfl ?_
    obtain ⟨⟨q15r, q15s⟩, q15h, h⟩ := x_bind h
    try dsimp only at h
    refine z_callV E [] [] dX9_expression_245 K_RX9_195 ⟨Nat.le_of_ble_eq_true rfl, Nat.le_of_ble_eq_true rfl⟩ sh_60 (by decide) rfl (c_Mo_goes_60 E  q15h) rfl rfl (Nat.le_of_ble_eq_true rfl) 248 rfl [] rfl ?_
    refine x_aload_n 249 rfl 0 dX9_expression_248 rfl rfl ?_
    refine x_iconst 250 rfl (v := 0) dX9_expression_249 (by decide) ?_
    obtain ⟨⟨q16r, q16s⟩, q16h, h⟩ := x_bind h
    try dsimp only at h
    refine z_callV E [.int _] [] dX9_expression_250 K_RX9_248 ⟨Nat.le_of_ble_eq_true rfl, Nat.le_of_ble_eq_true rfl⟩ sh_60 (by decide) rfl (c_Mo_operand_60 E _ q16h) rfl rfl (Nat.le_of_ble_eq_true rfl) 253 rfl [] rfl ?_
    refine x_goto 337 dX9_expression_253 (by decide) ?_
    refine x_goto 39 dX9_expression_337 (by decide) ?_
    cases h
    exact x_wk (x_le_s (x_le_n (x_le_n (x_le_s (x_le_n x_le_0))))) (hG (_, _) rfl)
set_option maxHeartbeats 4000000 in
set_option maxRecDepth 100000 in
theorem j_Mo_expression_60_J201 {l : Launch} {s0 : State} {a0 : Array Value} {D : va_G} {cA : Nat → ClassId} {sp : Nat → Nat} (E : x_En CL l s0 a0 D cA sp) (v3 : Int32)  (σ : xS) {r : Unit} {σ1 : xS} (o : (Int32 × xS) ⊕ (Int32 × xS)) (h : f_Mo_expression_60_J201 v3 σ = some o) (hK : ∀ b, o = .inl b → zW l s0 D cA sp (zQ s0 D cA sp none σ1) (x_rm 5 0 0) M_Mo_expression 0 0 340 [some (.ref 60), none, none, none, none] [] b.2) (hG : ∀ a', o = .inr a' → zW l s0 D cA sp (zQ s0 D cA sp none σ1) (x_rm 5 0 0) M_Mo_expression 0 0 39 [some (.ref 60), none, none, some (.int a'.1), none] [] a'.2) : zW l s0 D cA sp (zQ s0 D cA sp none σ1) (x_rm 5 0 0) M_Mo_expression 0 0 201 [some (.ref 60), none, none, some (.int v3), none] [] σ := by
  unfold f_Mo_expression_60_J201 at h
  try dsimp only at h
  refine x_aload_n 202 rfl 0 dX9_expression_201 rfl rfl ?_
  refine x_bipush 204 rfl (v := 43) dX9_expression_202 (by decide) ?_
  obtain ⟨⟨q17r, q17s⟩, q17h, h⟩ := x_bind h
  try dsimp only at h
  refine z_callV E [.int _] [] dX9_expression_204 K_RX9_233 ⟨Nat.le_of_ble_eq_true rfl, Nat.le_of_ble_eq_true rfl⟩ sh_60 (by decide) rfl (c_Mo_isSign_60 E _ q17h) rfl rfl (Nat.le_of_ble_eq_true rfl) 207 rfl [.int _] rfl ?_
  refine x_if_ne 210 rfl 219 dX9_expression_207 (by decide) (fun hc => ?_) (fun hc => ?_)
  · replace h := x_ifF hc h
    exact x_wk (x_le_s (x_le_n (x_le_n (x_le_s (x_le_n x_le_0))))) (j_Mo_expression_60_J219 (r := r) (σ1 := σ1) E _  _ _ h hK hG)
  · replace h := x_ifT hc h
    refine x_aload_n 211 rfl 0 dX9_expression_210 rfl rfl ?_
    refine x_bipush 213 rfl (v := 45) dX9_expression_211 (by decide) ?_
    obtain ⟨⟨q18r, q18s⟩, q18h, h⟩ := x_bind h
    try dsimp only at h
    refine z_callV E [.int _] [] dX9_expression_213 K_RX9_233 ⟨Nat.le_of_ble_eq_true rfl, Nat.le_of_ble_eq_true rfl⟩ sh_60 (by decide) rfl (c_Mo_isSign_60 E _ q18h) rfl rfl (Nat.le_of_ble_eq_true rfl) 216 rfl [.int _] rfl ?_
    refine x_if_eq 219 rfl 256 dX9_expression_216 (by decide) (fun hc => ?_) (fun hc => ?_)
    · replace h := x_ifT hc h
      refine x_aload_n 257 rfl 0 dX9_expression_256 rfl rfl ?_
      refine x_bipush 259 rfl (v := 42) dX9_expression_257 (by decide) ?_
      obtain ⟨⟨q19r, q19s⟩, q19h, h⟩ := x_bind h
      try dsimp only at h
      refine z_callV E [.int _] [] dX9_expression_259 K_RX9_233 ⟨Nat.le_of_ble_eq_true rfl, Nat.le_of_ble_eq_true rfl⟩ sh_60 (by decide) rfl (c_Mo_isSign_60 E _ q19h) rfl rfl (Nat.le_of_ble_eq_true rfl) 262 rfl [.int _] rfl ?_
      refine x_if_ne 265 rfl 274 dX9_expression_262 (by decide) (fun hc => ?_) (fun hc => ?_)
      · replace h := x_ifF hc h
        exact x_wk (x_le_s (x_le_n (x_le_n (x_le_s (x_le_n x_le_0))))) (j_Mo_expression_60_J274 (r := r) (σ1 := σ1) E _  _ _ h hK hG)
      · replace h := x_ifT hc h
        refine x_aload_n 266 rfl 0 dX9_expression_265 rfl rfl ?_
        refine x_bipush 268 rfl (v := 47) dX9_expression_266 (by decide) ?_
        obtain ⟨⟨q20r, q20s⟩, q20h, h⟩ := x_bind h
        try dsimp only at h
        refine z_callV E [.int _] [] dX9_expression_268 K_RX9_233 ⟨Nat.le_of_ble_eq_true rfl, Nat.le_of_ble_eq_true rfl⟩ sh_60 (by decide) rfl (c_Mo_isSign_60 E _ q20h) rfl rfl (Nat.le_of_ble_eq_true rfl) 271 rfl [.int _] rfl ?_
        refine x_if_eq 274 rfl 312 dX9_expression_271 (by decide) (fun hc => ?_) (fun hc => ?_)
        · replace h := x_ifT hc h
          refine x_aload_n 313 rfl 0 dX9_expression_312 rfl rfl ?_
          refine x_bipush 315 rfl (v := 41) dX9_expression_313 (by decide) ?_
          obtain ⟨⟨q21r, q21s⟩, q21h, h⟩ := x_bind h
          try dsimp only at h
          refine z_callV E [.int _] [] dX9_expression_315 K_RX9_233 ⟨Nat.le_of_ble_eq_true rfl, Nat.le_of_ble_eq_true rfl⟩ sh_60 (by decide) rfl (c_Mo_isSign_60 E _ q21h) rfl rfl (Nat.le_of_ble_eq_true rfl) 318 rfl [.int _] rfl ?_
          refine x_if_eq 321 rfl 335 dX9_expression_318 (by decide) (fun hc => ?_) (fun hc => ?_)
          · replace h := x_ifT hc h
            refine x_iconst 336 rfl (v := 0) dX9_expression_335 (by decide) ?_
            refine x_istore_n 337 rfl 3 dX9_expression_336 rfl (by decide) [some (.ref 60), none, none, some (.int _), none] rfl ?_
            refine x_goto 39 dX9_expression_337 (by decide) ?_
            cases h
            exact x_wk (x_le_s (x_le_n (x_le_n (x_le_s (x_le_n x_le_0))))) (hG (_, _) rfl)
          · replace h := x_ifF hc h
            refine x_aload_n 322 rfl 0 dX9_expression_321 rfl rfl ?_
            obtain ⟨⟨q22r, q22s⟩, q22h, h⟩ := x_bind h
            try dsimp only at h
            refine z_callV E [] [] dX9_expression_322 K_RX9_252 ⟨Nat.le_of_ble_eq_true rfl, Nat.le_of_ble_eq_true rfl⟩ sh_60 (by decide) rfl (c_Mo_isOpened_60 E  q22h) rfl rfl (Nat.le_of_ble_eq_true rfl) 325 rfl [.int _] rfl ?_
            refine x_if_eq 328 rfl 335 dX9_expression_325 (by decide) (fun hc => ?_) (fun hc => ?_)
            · replace h := x_ifT hc h
              refine x_iconst 336 rfl (v := 0) dX9_expression_335 (by decide) ?_
              refine x_istore_n 337 rfl 3 dX9_expression_336 rfl (by decide) [some (.ref 60), none, none, some (.int _), none] rfl ?_
              refine x_goto 39 dX9_expression_337 (by decide) ?_
              cases h
              exact x_wk (x_le_s (x_le_n (x_le_n (x_le_s (x_le_n x_le_0))))) (hG (_, _) rfl)
            · replace h := x_ifF hc h
              refine x_aload_n 329 rfl 0 dX9_expression_328 rfl rfl ?_
              obtain ⟨⟨q23r, q23s⟩, q23h, h⟩ := x_bind h
              try dsimp only at h
              refine z_callV E [] [] dX9_expression_329 K_RX9_255 ⟨Nat.le_of_ble_eq_true rfl, Nat.le_of_ble_eq_true rfl⟩ sh_60 (by decide) rfl (c_Mo_closes_60 E  q23h) rfl rfl (Nat.le_of_ble_eq_true rfl) 332 rfl [] rfl ?_
              refine x_goto 337 dX9_expression_332 (by decide) ?_
              refine x_goto 39 dX9_expression_337 (by decide) ?_
              cases h
              exact x_wk (x_le_s (x_le_n (x_le_n (x_le_s (x_le_n x_le_0))))) (hG (_, _) rfl)
        · replace h := x_ifF hc h
          exact x_wk (x_le_s (x_le_n (x_le_n (x_le_s (x_le_n x_le_0))))) (j_Mo_expression_60_J274 (r := r) (σ1 := σ1) E _  _ _ h hK hG)
    · replace h := x_ifF hc h
      exact x_wk (x_le_s (x_le_n (x_le_n (x_le_s (x_le_n x_le_0))))) (j_Mo_expression_60_J219 (r := r) (σ1 := σ1) E _  _ _ h hK hG)
set_option maxHeartbeats 4000000 in
set_option maxRecDepth 100000 in
theorem j_Mo_expression_60_J176 {l : Launch} {s0 : State} {a0 : Array Value} {D : va_G} {cA : Nat → ClassId} {sp : Nat → Nat} (E : x_En CL l s0 a0 D cA sp) (v3 : Int32) (y1 : Int32)  (σ : xS) {r : Unit} {σ1 : xS} (o : (Int32 × xS) ⊕ (Int32 × xS)) (h : f_Mo_expression_60_J176 v3 y1 σ = some o) (hK : ∀ b, o = .inl b → zW l s0 D cA sp (zQ s0 D cA sp none σ1) (x_rm 5 0 0) M_Mo_expression 0 0 340 [some (.ref 60), none, none, none, none] [] b.2) (hG : ∀ a', o = .inr a' → zW l s0 D cA sp (zQ s0 D cA sp none σ1) (x_rm 5 0 0) M_Mo_expression 0 0 39 [some (.ref 60), none, none, some (.int a'.1), none] [] a'.2) : zW l s0 D cA sp (zQ s0 D cA sp none σ1) (x_rm 5 0 0) M_Mo_expression 0 0 176 [some (.ref 60), none, none, some (.int v3), none] [.int y1, .ref 60] σ := by
  unfold f_Mo_expression_60_J176 at h
  try dsimp only at h
  obtain ⟨⟨q24r, q24s⟩, q24h, h⟩ := x_bind h
  try dsimp only at h
  refine z_callV E [.int _] [] dX9_expression_176 K_RX9_236 ⟨Nat.le_of_ble_eq_true rfl, Nat.le_of_ble_eq_true rfl⟩ sh_60 (by decide) rfl (c_Mo_waitsFor_60 E _ q24h) rfl rfl (Nat.le_of_ble_eq_true rfl) 179 rfl [] rfl ?_
  refine x_aload_n 180 rfl 0 dX9_expression_179 rfl rfl ?_
  refine x_getR E dX9_expression_180 F_RX9_74 sh_60 rf_60_52 183 rfl ?_
  refine x_aload_n 184 rfl 0 dX9_expression_183 rfl rfl ?_
  refine x_getI E dX9_expression_184 F_RX9_230 sh_60 187 rfl ?_
  refine x_iconst 188 rfl (v := 1) dX9_expression_187 (by decide) ?_
  obtain ⟨hz, h⟩ := x_ifn h
  refine x_zast E (Or.inr rfl) dX9_expression_188 sh_78 _ rfl hz 189 rfl ?_
  refine x_aload_n 190 rfl 0 dX9_expression_189 rfl rfl ?_
  obtain ⟨⟨q26r, q26s⟩, q26h, h⟩ := x_bind h
  try dsimp only at h
  refine z_callV E [] [] dX9_expression_190 K_RX9_195 ⟨Nat.le_of_ble_eq_true rfl, Nat.le_of_ble_eq_true rfl⟩ sh_60 (by decide) rfl (c_Mo_goes_60 E  q26h) rfl rfl (Nat.le_of_ble_eq_true rfl) 193 rfl [] rfl ?_
  refine x_aload_n 194 rfl 0 dX9_expression_193 rfl rfl ?_
  refine x_iconst 195 rfl (v := 0) dX9_expression_194 (by decide) ?_
  obtain ⟨⟨q27r, q27s⟩, q27h, h⟩ := x_bind h
  try dsimp only at h
  refine z_callV E [.int _] [] dX9_expression_195 K_RX9_248 ⟨Nat.le_of_ble_eq_true rfl, Nat.le_of_ble_eq_true rfl⟩ sh_60 (by decide) rfl (c_Mo_operand_60 E _ q27h) rfl rfl (Nat.le_of_ble_eq_true rfl) 198 rfl [] rfl ?_
  refine x_goto 337 dX9_expression_198 (by decide) ?_
  refine x_goto 39 dX9_expression_337 (by decide) ?_
  cases h
  exact x_wk (x_le_s (x_le_n (x_le_n (x_le_s (x_le_n x_le_0))))) (hG (_, _) rfl)
set_option maxHeartbeats 4000000 in
set_option maxRecDepth 100000 in
theorem j_Mo_expression_60_J142 {l : Launch} {s0 : State} {a0 : Array Value} {D : va_G} {cA : Nat → ClassId} {sp : Nat → Nat} (E : x_En CL l s0 a0 D cA sp) (v3 : Int32)  (σ : xS) {r : Unit} {σ1 : xS} (o : (Int32 × xS) ⊕ (Int32 × xS)) (h : f_Mo_expression_60_J142 v3 σ = some o) (hK : ∀ b, o = .inl b → zW l s0 D cA sp (zQ s0 D cA sp none σ1) (x_rm 5 0 0) M_Mo_expression 0 0 340 [some (.ref 60), none, none, none, none] [] b.2) (hG : ∀ a', o = .inr a' → zW l s0 D cA sp (zQ s0 D cA sp none σ1) (x_rm 5 0 0) M_Mo_expression 0 0 39 [some (.ref 60), none, none, some (.int a'.1), none] [] a'.2) : zW l s0 D cA sp (zQ s0 D cA sp none σ1) (x_rm 5 0 0) M_Mo_expression 0 0 142 [some (.ref 60), none, none, some (.int v3), none] [] σ := by
  unfold f_Mo_expression_60_J142 at h
  try dsimp only at h
  refine x_aload_n 143 rfl 0 dX9_expression_142 rfl rfl ?_
  refine x_getR E dX9_expression_143 F_RX9_74 sh_60 rf_60_52 146 rfl ?_
  refine x_aload_n 147 rfl 0 dX9_expression_146 rfl rfl ?_
  refine x_getI E dX9_expression_147 F_RX9_230 sh_60 150 rfl ?_
  obtain ⟨hz, h⟩ := x_ifn h
  refine x_zald E dX9_expression_150 sh_78 _ rfl hz 151 rfl ?_
  refine x_if_ne 154 rfl 201 dX9_expression_151 (by decide) (fun hc => ?_) (fun hc => ?_)
  · replace h := x_ifF hc h
    exact x_wk (x_le_s (x_le_n (x_le_n (x_le_s (x_le_n x_le_0))))) (j_Mo_expression_60_J201 (r := r) (σ1 := σ1) E _  _ _ h hK hG)
  · replace h := x_ifT hc h
    refine x_aload_n 155 rfl 0 dX9_expression_154 rfl rfl ?_
    refine x_iconst 156 rfl (v := 4) dX9_expression_155 (by decide) ?_
    obtain ⟨⟨q28r, q28s⟩, q28h, h⟩ := x_bind h
    try dsimp only at h
    refine z_callV E [.int _] [] dX9_expression_156 K_RX9_245 ⟨Nat.le_of_ble_eq_true rfl, Nat.le_of_ble_eq_true rfl⟩ sh_60 (by decide) rfl (c_Mo_drops_60 E _ q28h) rfl rfl (Nat.le_of_ble_eq_true rfl) 159 rfl [] rfl ?_
    refine x_aload_n 160 rfl 0 dX9_expression_159 rfl rfl ?_
    refine x_aload_n 161 rfl 0 dX9_expression_160 rfl rfl ?_
    refine x_bipush 163 rfl (v := 60) dX9_expression_161 (by decide) ?_
    obtain ⟨⟨q29r, q29s⟩, q29h, h⟩ := x_bind h
    try dsimp only at h
    refine z_callV E [.int _] [.ref 60] dX9_expression_163 K_RX9_233 ⟨Nat.le_of_ble_eq_true rfl, Nat.le_of_ble_eq_true rfl⟩ sh_60 (by decide) rfl (c_Mo_isSign_60 E _ q29h) rfl rfl (Nat.le_of_ble_eq_true rfl) 166 rfl [.int _, .ref 60] rfl ?_
    refine x_if_eq 169 rfl 174 dX9_expression_166 (by decide) (fun hc => ?_) (fun hc => ?_)
    · replace h := x_ifT hc h
      refine x_bipush 176 rfl (v := 7) dX9_expression_174 (by decide) ?_
      exact x_wk (x_le_s (x_le_n (x_le_n (x_le_s (x_le_n x_le_0))))) (j_Mo_expression_60_J176 (r := r) (σ1 := σ1) E _ _  _ _ h hK hG)
    · replace h := x_ifF hc h
      refine x_bipush 171 rfl (v := 6) dX9_expression_169 (by decide) ?_
      refine x_goto 176 dX9_expression_171 (by decide) ?_
      exact x_wk (x_le_s (x_le_n (x_le_n (x_le_s (x_le_n x_le_0))))) (j_Mo_expression_60_J176 (r := r) (σ1 := σ1) E _ _  _ _ h hK hG)
set_option maxHeartbeats 4000000 in
set_option maxRecDepth 100000 in
theorem j_Mo_expression_60_J99 {l : Launch} {s0 : State} {a0 : Array Value} {D : va_G} {cA : Nat → ClassId} {sp : Nat → Nat} (E : x_En CL l s0 a0 D cA sp) (v3 : Int32) (y1 : Int32)  (σ : xS) {r : Unit} {σ1 : xS} (o : (Int32 × xS) ⊕ (Int32 × xS)) (h : f_Mo_expression_60_J99 v3 y1 σ = some o) (hK : ∀ b, o = .inl b → zW l s0 D cA sp (zQ s0 D cA sp none σ1) (x_rm 5 0 0) M_Mo_expression 0 0 340 [some (.ref 60), none, none, none, none] [] b.2) (hG : ∀ a', o = .inr a' → zW l s0 D cA sp (zQ s0 D cA sp none σ1) (x_rm 5 0 0) M_Mo_expression 0 0 39 [some (.ref 60), none, none, some (.int a'.1), none] [] a'.2) : zW l s0 D cA sp (zQ s0 D cA sp none σ1) (x_rm 5 0 0) M_Mo_expression 0 0 99 [some (.ref 60), none, none, some (.int v3), none] [.int y1, .ref 60] σ := by
  unfold f_Mo_expression_60_J99 at h
  try dsimp only at h
  obtain ⟨⟨q30r, q30s⟩, q30h, h⟩ := x_bind h
  try dsimp only at h
  refine z_callV E [.int _] [] dX9_expression_99 K_RX9_236 ⟨Nat.le_of_ble_eq_true rfl, Nat.le_of_ble_eq_true rfl⟩ sh_60 (by decide) rfl (c_Mo_waitsFor_60 E _ q30h) rfl rfl (Nat.le_of_ble_eq_true rfl) 102 rfl [] rfl ?_
  refine x_aload_n 103 rfl 0 dX9_expression_102 rfl rfl ?_
  refine x_getR E dX9_expression_103 F_RX9_74 sh_60 rf_60_52 106 rfl ?_
  refine x_aload_n 107 rfl 0 dX9_expression_106 rfl rfl ?_
  refine x_getI E dX9_expression_107 F_RX9_230 sh_60 110 rfl ?_
  refine x_iconst 111 rfl (v := 0) dX9_expression_110 (by decide) ?_
  obtain ⟨hz, h⟩ := x_ifn h
  refine x_zast E (Or.inl rfl) dX9_expression_111 sh_78 _ rfl hz 112 rfl ?_
  refine x_aload_n 113 rfl 0 dX9_expression_112 rfl rfl ?_
  obtain ⟨⟨q32r, q32s⟩, q32h, h⟩ := x_bind h
  try dsimp only at h
  refine z_callV E [] [] dX9_expression_113 K_RX9_195 ⟨Nat.le_of_ble_eq_true rfl, Nat.le_of_ble_eq_true rfl⟩ sh_60 (by decide) rfl (c_Mo_goes_60 E  q32h) rfl rfl (Nat.le_of_ble_eq_true rfl) 116 rfl [] rfl ?_
  refine x_aload_n 117 rfl 0 dX9_expression_116 rfl rfl ?_
  refine x_iconst 118 rfl (v := 1) dX9_expression_117 (by decide) ?_
  obtain ⟨⟨q33r, q33s⟩, q33h, h⟩ := x_bind h
  try dsimp only at h
  refine z_callV E [.int _] [] dX9_expression_118 K_RX9_248 ⟨Nat.le_of_ble_eq_true rfl, Nat.le_of_ble_eq_true rfl⟩ sh_60 (by decide) rfl (c_Mo_operand_60 E _ q33h) rfl rfl (Nat.le_of_ble_eq_true rfl) 121 rfl [] rfl ?_
  refine x_goto 337 dX9_expression_121 (by decide) ?_
  refine x_goto 39 dX9_expression_337 (by decide) ?_
  cases h
  exact x_wk (x_le_s (x_le_n (x_le_n (x_le_s (x_le_n x_le_0))))) (hG (_, _) rfl)
set_option maxHeartbeats 4000000 in
set_option maxRecDepth 100000 in
theorem j_Mo_expression_60_J83 {l : Launch} {s0 : State} {a0 : Array Value} {D : va_G} {cA : Nat → ClassId} {sp : Nat → Nat} (E : x_En CL l s0 a0 D cA sp) (v3 : Int32) (v4 : Int32) (y1 : Int32)  (σ : xS) {r : Unit} {σ1 : xS} (o : (Int32 × xS) ⊕ (Int32 × xS)) (h : f_Mo_expression_60_J83 v3 v4 y1 σ = some o) (hK : ∀ b, o = .inl b → zW l s0 D cA sp (zQ s0 D cA sp none σ1) (x_rm 5 0 0) M_Mo_expression 0 0 340 [some (.ref 60), none, none, none, none] [] b.2) (hG : ∀ a', o = .inr a' → zW l s0 D cA sp (zQ s0 D cA sp none σ1) (x_rm 5 0 0) M_Mo_expression 0 0 39 [some (.ref 60), none, none, some (.int a'.1), none] [] a'.2) : zW l s0 D cA sp (zQ s0 D cA sp none σ1) (x_rm 5 0 0) M_Mo_expression 0 0 83 [some (.ref 60), none, none, some (.int v3), some (.int v4)] [.int y1, .ref 60] σ := by
  unfold f_Mo_expression_60_J83 at h
  try dsimp only at h
  obtain ⟨⟨q34r, q34s⟩, q34h, h⟩ := x_bind h
  try dsimp only at h
  refine z_callV E [.int _] [] dX9_expression_83 K_RX9_245 ⟨Nat.le_of_ble_eq_true rfl, Nat.le_of_ble_eq_true rfl⟩ sh_60 (by decide) rfl (c_Mo_drops_60 E _ q34h) rfl rfl (Nat.le_of_ble_eq_true rfl) 86 rfl [] rfl ?_
  refine x_aload_n 87 rfl 0 dX9_expression_86 rfl rfl ?_
  refine x_iload 89 rfl dX9_expression_87 rfl ?_
  refine x_bipush 91 rfl (v := 19) dX9_expression_89 (by decide) ?_
  refine x_icmp_ne 94 rfl 98 dX9_expression_91 (by decide) (fun hc => ?_) (fun hc => ?_)
  · replace h := x_ifF hc h
    refine x_iconst 99 rfl (v := 5) dX9_expression_98 (by decide) ?_
    exact x_wk (x_le_s (x_le_n (x_le_n (x_le_s (x_le_n x_le_0))))) (j_Mo_expression_60_J99 (r := r) (σ1 := σ1) E _ _  _ _ h hK hG)
  · replace h := x_ifT hc h
    refine x_iconst 95 rfl (v := 4) dX9_expression_94 (by decide) ?_
    refine x_goto 99 dX9_expression_95 (by decide) ?_
    exact x_wk (x_le_s (x_le_n (x_le_n (x_le_s (x_le_n x_le_0))))) (j_Mo_expression_60_J99 (r := r) (σ1 := σ1) E _ _  _ _ h hK hG)
set_option maxHeartbeats 4000000 in
set_option maxRecDepth 100000 in
theorem j_Mo_expression_60_J70 {l : Launch} {s0 : State} {a0 : Array Value} {D : va_G} {cA : Nat → ClassId} {sp : Nat → Nat} (E : x_En CL l s0 a0 D cA sp) (v3 : Int32) (v4 : Int32)  (σ : xS) {r : Unit} {σ1 : xS} (o : (Int32 × xS) ⊕ (Int32 × xS)) (h : f_Mo_expression_60_J70 v3 v4 σ = some o) (hK : ∀ b, o = .inl b → zW l s0 D cA sp (zQ s0 D cA sp none σ1) (x_rm 5 0 0) M_Mo_expression 0 0 340 [some (.ref 60), none, none, none, none] [] b.2) (hG : ∀ a', o = .inr a' → zW l s0 D cA sp (zQ s0 D cA sp none σ1) (x_rm 5 0 0) M_Mo_expression 0 0 39 [some (.ref 60), none, none, some (.int a'.1), none] [] a'.2) : zW l s0 D cA sp (zQ s0 D cA sp none σ1) (x_rm 5 0 0) M_Mo_expression 0 0 70 [some (.ref 60), none, none, some (.int v3), some (.int v4)] [] σ := by
  unfold f_Mo_expression_60_J70 at h
  try dsimp only at h
  refine x_aload_n 71 rfl 0 dX9_expression_70 rfl rfl ?_
  refine x_iload 73 rfl dX9_expression_71 rfl ?_
  refine x_bipush 75 rfl (v := 19) dX9_expression_73 (by decide) ?_
  refine x_icmp_ne 78 rfl 82 dX9_expression_75 (by decide) (fun hc => ?_) (fun hc => ?_)
  · replace h := x_ifF hc h
    refine x_iconst 83 rfl (v := 1) dX9_expression_82 (by decide) ?_
    exact x_wk (x_le_s (x_le_n (x_le_n (x_le_s (x_le_s x_le_0))))) (j_Mo_expression_60_J83 (r := r) (σ1 := σ1) E _ _ _  _ _ h hK hG)
  · replace h := x_ifT hc h
    refine x_iconst 79 rfl (v := 2) dX9_expression_78 (by decide) ?_
    refine x_goto 83 dX9_expression_79 (by decide) ?_
    exact x_wk (x_le_s (x_le_n (x_le_n (x_le_s (x_le_s x_le_0))))) (j_Mo_expression_60_J83 (r := r) (σ1 := σ1) E _ _ _  _ _ h hK hG)
set_option maxHeartbeats 4000000 in
set_option maxRecDepth 100000 in
theorem b_Mo_expression_60_L39 {l : Launch} {s0 : State} {a0 : Array Value} {D : va_G} {cA : Nat → ClassId} {sp : Nat → Nat} (E : x_En CL l s0 a0 D cA sp)  {r : Unit} {σ1 : xS} (a : Int32 × xS) (o : (Int32 × xS) ⊕ (Int32 × xS)) (h : f_Mo_expression_60_L39  a = some o) (hK : ∀ b, o = .inl b → zW l s0 D cA sp (zQ s0 D cA sp none σ1) (x_rm 5 0 0) M_Mo_expression 0 0 340 [some (.ref 60), none, none, none, none] [] b.2) (hG : ∀ a', o = .inr a' → zW l s0 D cA sp (zQ s0 D cA sp none σ1) (x_rm 5 0 0) M_Mo_expression 0 0 39 [some (.ref 60), none, none, some (.int a'.1), none] [] a'.2) : zW l s0 D cA sp (zQ s0 D cA sp none σ1) (x_rm 5 0 0) M_Mo_expression 0 0 39 [some (.ref 60), none, none, some (.int a.1), none] [] a.2 := by
  obtain ⟨v3, σ⟩ := a
  unfold f_Mo_expression_60_L39 at h
  try dsimp only at h ⊢
  refine x_iload_n 40 rfl 3 dX9_expression_39 rfl rfl ?_
  refine x_if_eq 43 rfl 340 dX9_expression_40 (by decide) (fun hc => ?_) (fun hc => ?_)
  · replace h := x_ifT hc h
    cases h
    exact x_wk (x_le_s (x_le_n (x_le_n (x_le_n (x_le_n x_le_0))))) (hK (_, _) rfl)
  · replace h := x_ifF hc h
    refine x_aload_n 44 rfl 0 dX9_expression_43 rfl rfl ?_
    obtain ⟨⟨q35r, q35s⟩, q35h, h⟩ := x_bind h
    try dsimp only at h
    refine z_callV E [] [] dX9_expression_44 K_RX9_191 ⟨Nat.le_of_ble_eq_true rfl, Nat.le_of_ble_eq_true rfl⟩ sh_60 (by decide) rfl (c_Mo_isGood_60 E  q35h) rfl rfl (Nat.le_of_ble_eq_true rfl) 47 rfl [.int _] rfl ?_
    refine x_if_eq 50 rfl 340 dX9_expression_47 (by decide) (fun hc => ?_) (fun hc => ?_)
    · replace h := x_ifT hc h
      cases h
      exact x_wk (x_le_s (x_le_n (x_le_n (x_le_n (x_le_n x_le_0))))) (hK (_, _) rfl)
    · replace h := x_ifF hc h
      refine x_aload_n 51 rfl 0 dX9_expression_50 rfl rfl ?_
      obtain ⟨⟨q36r, q36s⟩, q36h, h⟩ := x_bind h
      try dsimp only at h
      refine z_callV E [] [] dX9_expression_51 K_RX9_220 ⟨Nat.le_of_ble_eq_true rfl, Nat.le_of_ble_eq_true rfl⟩ sh_60 (by decide) rfl (c_Mo_knownWord_60 E  q36h) rfl rfl (Nat.le_of_ble_eq_true rfl) 54 rfl [.int _] rfl ?_
      refine x_istore 56 rfl dX9_expression_54 (by decide) [some (.ref 60), none, none, some (.int _), some (.int _)] rfl ?_
      refine x_iload 58 rfl dX9_expression_56 rfl ?_
      refine x_bipush 60 rfl (v := 19) dX9_expression_58 (by decide) ?_
      refine x_icmp_eq 63 rfl 70 dX9_expression_60 (by decide) (fun hc => ?_) (fun hc => ?_)
      · replace h := x_ifT hc h
        exact x_wk (x_le_s (x_le_n (x_le_n (x_le_s (x_le_s x_le_0))))) (j_Mo_expression_60_J70 (r := r) (σ1 := σ1) E _ _  _ _ h hK hG)
      · replace h := x_ifF hc h
        refine x_iload 65 rfl dX9_expression_63 rfl ?_
        refine x_bipush 67 rfl (v := 20) dX9_expression_65 (by decide) ?_
        refine x_icmp_ne 70 rfl 124 dX9_expression_67 (by decide) (fun hc => ?_) (fun hc => ?_)
        · replace h := x_ifF hc h
          refine x_aload_n 125 rfl 0 dX9_expression_124 rfl rfl ?_
          refine x_bipush 127 rfl (v := 60) dX9_expression_125 (by decide) ?_
          obtain ⟨⟨q38r, q38s⟩, q38h, h⟩ := x_bind h
          try dsimp only at h
          refine z_callV E [.int _] [] dX9_expression_127 K_RX9_233 ⟨Nat.le_of_ble_eq_true rfl, Nat.le_of_ble_eq_true rfl⟩ sh_60 (by decide) rfl (c_Mo_isSign_60 E _ q38h) rfl rfl (Nat.le_of_ble_eq_true rfl) 130 rfl [.int _] rfl ?_
          refine x_if_ne 133 rfl 142 dX9_expression_130 (by decide) (fun hc => ?_) (fun hc => ?_)
          · replace h := x_ifF hc h
            exact x_wk (x_le_s (x_le_n (x_le_n (x_le_s (x_le_n x_le_0))))) (j_Mo_expression_60_J142 (r := r) (σ1 := σ1) E _  _ _ h hK hG)
          · replace h := x_ifT hc h
            refine x_aload_n 134 rfl 0 dX9_expression_133 rfl rfl ?_
            refine x_bipush 136 rfl (v := 61) dX9_expression_134 (by decide) ?_
            obtain ⟨⟨q39r, q39s⟩, q39h, h⟩ := x_bind h
            try dsimp only at h
            refine z_callV E [.int _] [] dX9_expression_136 K_RX9_233 ⟨Nat.le_of_ble_eq_true rfl, Nat.le_of_ble_eq_true rfl⟩ sh_60 (by decide) rfl (c_Mo_isSign_60 E _ q39h) rfl rfl (Nat.le_of_ble_eq_true rfl) 139 rfl [.int _] rfl ?_
            refine x_if_eq 142 rfl 201 dX9_expression_139 (by decide) (fun hc => ?_) (fun hc => ?_)
            · replace h := x_ifT hc h
              exact x_wk (x_le_s (x_le_n (x_le_n (x_le_s (x_le_n x_le_0))))) (j_Mo_expression_60_J201 (r := r) (σ1 := σ1) E _  _ _ h hK hG)
            · replace h := x_ifF hc h
              exact x_wk (x_le_s (x_le_n (x_le_n (x_le_s (x_le_n x_le_0))))) (j_Mo_expression_60_J142 (r := r) (σ1 := σ1) E _  _ _ h hK hG)
        · replace h := x_ifT hc h
          exact x_wk (x_le_s (x_le_n (x_le_n (x_le_s (x_le_s x_le_0))))) (j_Mo_expression_60_J70 (r := r) (σ1 := σ1) E _ _  _ _ h hK hG)
set_option maxHeartbeats 4000000 in
set_option maxRecDepth 100000 in
theorem j_Mo_expression_60_J340 {l : Launch} {s0 : State} {a0 : Array Value} {D : va_G} {cA : Nat → ClassId} {sp : Nat → Nat} (E : x_En CL l s0 a0 D cA sp)  (σ : xS) {r : Unit} {σ1 : xS} (h : f_Mo_expression_60_J340  σ = some (r, σ1)) : zW l s0 D cA sp (zQ s0 D cA sp none σ1) (x_rm 5 0 0) M_Mo_expression 0 0 340 [some (.ref 60), none, none, none, none] [] σ := by
  unfold f_Mo_expression_60_J340 at h
  try dsimp only at h
  refine x_aload_n 341 rfl 0 dX9_expression_340 rfl rfl ?_
  obtain ⟨⟨q40r, q40s⟩, q40h, h⟩ := x_bind h
  try dsimp only at h
  refine z_callV E [] [] dX9_expression_341 K_RX9_191 ⟨Nat.le_of_ble_eq_true rfl, Nat.le_of_ble_eq_true rfl⟩ sh_60 (by decide) rfl (c_Mo_isGood_60 E  q40h) rfl rfl (Nat.le_of_ble_eq_true rfl) 344 rfl [.int _] rfl ?_
  refine x_if_eq 347 rfl 360 dX9_expression_344 (by decide) (fun hc => ?_) (fun hc => ?_)
  · replace h := x_ifT hc h
    refine x_aload_n 361 rfl 0 dX9_expression_360 rfl rfl ?_
    refine x_iconst 362 rfl (v := 0) dX9_expression_361 (by decide) ?_
    obtain ⟨⟨q41r, q41s⟩, q41h, h⟩ := x_bind h
    try dsimp only at h
    refine z_callV E [.int _] [] dX9_expression_362 K_RX9_245 ⟨Nat.le_of_ble_eq_true rfl, Nat.le_of_ble_eq_true rfl⟩ sh_60 (by decide) rfl (c_Mo_drops_60 E _ q41h) rfl rfl (Nat.le_of_ble_eq_true rfl) 365 rfl [] rfl ?_
    refine x_aload_n 366 rfl 0 dX9_expression_365 rfl rfl ?_
    refine x_iconst 367 rfl (v := 0) dX9_expression_366 (by decide) ?_
    obtain ⟨⟨q42r, q42s⟩, q42h, h⟩ := x_bind h
    try dsimp only at h
    refine z_callV E [.int _] [] dX9_expression_367 K_RX9_217 ⟨Nat.le_of_ble_eq_true rfl, Nat.le_of_ble_eq_true rfl⟩ sh_60 (by decide) rfl (c_Mo_puts_60 E _ q42h) rfl rfl (Nat.le_of_ble_eq_true rfl) 370 rfl [] rfl ?_
    cases h
    exact x_vret dX9_expression_370 rfl rfl rfl
  · replace h := x_ifF hc h
    refine x_aload_n 348 rfl 0 dX9_expression_347 rfl rfl ?_
    refine x_getI E dX9_expression_348 F_RX9_230 sh_60 351 rfl ?_
    refine x_iconst 352 rfl (v := 1) dX9_expression_351 (by decide) ?_
    refine x_icmp_le 355 rfl 360 dX9_expression_352 (by decide) (fun hc => ?_) (fun hc => ?_)
    · replace h := x_ifT hc h
      refine x_aload_n 361 rfl 0 dX9_expression_360 rfl rfl ?_
      refine x_iconst 362 rfl (v := 0) dX9_expression_361 (by decide) ?_
      obtain ⟨⟨q43r, q43s⟩, q43h, h⟩ := x_bind h
      try dsimp only at h
      refine z_callV E [.int _] [] dX9_expression_362 K_RX9_245 ⟨Nat.le_of_ble_eq_true rfl, Nat.le_of_ble_eq_true rfl⟩ sh_60 (by decide) rfl (c_Mo_drops_60 E _ q43h) rfl rfl (Nat.le_of_ble_eq_true rfl) 365 rfl [] rfl ?_
      refine x_aload_n 366 rfl 0 dX9_expression_365 rfl rfl ?_
      refine x_iconst 367 rfl (v := 0) dX9_expression_366 (by decide) ?_
      obtain ⟨⟨q44r, q44s⟩, q44h, h⟩ := x_bind h
      try dsimp only at h
      refine z_callV E [.int _] [] dX9_expression_367 K_RX9_217 ⟨Nat.le_of_ble_eq_true rfl, Nat.le_of_ble_eq_true rfl⟩ sh_60 (by decide) rfl (c_Mo_puts_60 E _ q44h) rfl rfl (Nat.le_of_ble_eq_true rfl) 370 rfl [] rfl ?_
      cases h
      exact x_vret dX9_expression_370 rfl rfl rfl
    · replace h := x_ifF hc h
      refine x_aload_n 356 rfl 0 dX9_expression_355 rfl rfl ?_
      refine x_iconst 357 rfl (v := 1) dX9_expression_356 (by decide) ?_
      obtain ⟨⟨q45r, q45s⟩, q45h, h⟩ := x_bind h
      try dsimp only at h
      refine z_callV E [.int _] [] dX9_expression_357 K_RX9_198 ⟨Nat.le_of_ble_eq_true rfl, Nat.le_of_ble_eq_true rfl⟩ sh_60 (by decide) rfl (c_Mo_wrong_60 E _ q45h) rfl rfl (Nat.le_of_ble_eq_true rfl) 360 rfl [] rfl ?_
      refine x_aload_n 361 rfl 0 dX9_expression_360 rfl rfl ?_
      refine x_iconst 362 rfl (v := 0) dX9_expression_361 (by decide) ?_
      obtain ⟨⟨q46r, q46s⟩, q46h, h⟩ := x_bind h
      try dsimp only at h
      refine z_callV E [.int _] [] dX9_expression_362 K_RX9_245 ⟨Nat.le_of_ble_eq_true rfl, Nat.le_of_ble_eq_true rfl⟩ sh_60 (by decide) rfl (c_Mo_drops_60 E _ q46h) rfl rfl (Nat.le_of_ble_eq_true rfl) 365 rfl [] rfl ?_
      refine x_aload_n 366 rfl 0 dX9_expression_365 rfl rfl ?_
      refine x_iconst 367 rfl (v := 0) dX9_expression_366 (by decide) ?_
      obtain ⟨⟨q47r, q47s⟩, q47h, h⟩ := x_bind h
      try dsimp only at h
      refine z_callV E [.int _] [] dX9_expression_367 K_RX9_217 ⟨Nat.le_of_ble_eq_true rfl, Nat.le_of_ble_eq_true rfl⟩ sh_60 (by decide) rfl (c_Mo_puts_60 E _ q47h) rfl rfl (Nat.le_of_ble_eq_true rfl) 370 rfl [] rfl ?_
      cases h
      exact x_vret dX9_expression_370 rfl rfl rfl
set_option maxHeartbeats 4000000 in
set_option maxRecDepth 100000 in
theorem c_Mo_expression_60 {l : Launch} {s0 : State} {a0 : Array Value} {D : va_G} {cA : Nat → ClassId} {sp : Nat → Nat} (E : x_En CL l s0 a0 D cA sp) (v1 : Int32) (v2 : Int32) {σ : xS} {r : Unit} {σ1 : xS} (h : f_Mo_expression_60 v1 v2 σ = some (r, σ1)) : zC l s0 D cA sp 5 M_Mo_expression [.ref 60, .int v1, .int v2] σ none σ1 := by
  unfold f_Mo_expression_60 at h
  try dsimp only at h
  refine x_enter [some (.ref 60), some (.int v1), some (.int v2), none, none] rfl (Nat.le_of_ble_eq_true rfl) (by decide +kernel) rfl ?_
  refine x_aload_n 1 rfl 0 dX9_expression_0 rfl rfl ?_
  obtain ⟨⟨q48r, q48s⟩, q48h, h⟩ := x_bind h
  try dsimp only at h
  refine z_callV E [] [] dX9_expression_1 K_RX9_191 ⟨Nat.le_of_ble_eq_true rfl, Nat.le_of_ble_eq_true rfl⟩ sh_60 (by decide) rfl (c_Mo_isGood_60 E  q48h) rfl rfl (Nat.le_of_ble_eq_true rfl) 4 rfl [.int _] rfl ?_
  refine x_if_ne 7 rfl 8 dX9_expression_4 (by decide) (fun hc => ?_) (fun hc => ?_)
  · replace h := x_ifF hc h
    refine x_aload_n 9 rfl 0 dX9_expression_8 rfl rfl ?_
    refine x_iload_n 10 rfl 1 dX9_expression_9 rfl rfl ?_
    refine x_putI E dX9_expression_10 F_RX9_224 sh_60 13 rfl ?_
    refine x_aload_n 14 rfl 0 dX9_expression_13 rfl rfl ?_
    refine x_iload_n 15 rfl 2 dX9_expression_14 rfl rfl ?_
    refine x_putI E dX9_expression_15 F_RX9_227 sh_60 18 rfl ?_
    refine x_aload_n 19 rfl 0 dX9_expression_18 rfl rfl ?_
    refine x_iconst 20 rfl (v := 0) dX9_expression_19 (by decide) ?_
    refine x_putI E dX9_expression_20 F_RX9_208 sh_60 23 rfl ?_
    refine x_aload_n 24 rfl 0 dX9_expression_23 rfl rfl ?_
    refine x_iconst 25 rfl (v := 0) dX9_expression_24 (by decide) ?_
    refine x_putI E dX9_expression_25 F_RX9_230 sh_60 28 rfl ?_
    refine x_aload_n 29 rfl 0 dX9_expression_28 rfl rfl ?_
    obtain ⟨⟨q53r, q53s⟩, q53h, h⟩ := x_bind h
    try dsimp only at h
    refine z_callV E [] [] dX9_expression_29 K_RX9_239 ⟨Nat.le_of_ble_eq_true rfl, Nat.le_of_ble_eq_true rfl⟩ sh_60 (by decide) rfl (c_Mo_deeper_60 E  q53h) rfl rfl (Nat.le_of_ble_eq_true rfl) 32 rfl [] rfl ?_
    refine x_aload_n 33 rfl 0 dX9_expression_32 rfl rfl ?_
    refine x_iconst 34 rfl (v := 1) dX9_expression_33 (by decide) ?_
    obtain ⟨⟨q54r, q54s⟩, q54h, h⟩ := x_bind h
    try dsimp only at h
    refine z_callV E [.int _] [] dX9_expression_34 K_RX9_248 ⟨Nat.le_of_ble_eq_true rfl, Nat.le_of_ble_eq_true rfl⟩ sh_60 (by decide) rfl (c_Mo_operand_60 E _ q54h) rfl rfl (Nat.le_of_ble_eq_true rfl) 37 rfl [] rfl ?_
    refine x_iconst 38 rfl (v := 1) dX9_expression_37 (by decide) ?_
    refine x_istore_n 39 rfl 3 dX9_expression_38 rfl (by decide) [some (.ref 60), some (.int _), some (.int _), some (.int _), none] rfl ?_
    obtain ⟨b55, b55h, h⟩ := x_bind h
    try dsimp only at h
    refine x_wk (x_le_s (x_le_n (x_le_n (x_le_s (x_le_n x_le_0))))) (x_loop (fun a o h hK hG => b_Mo_expression_60_L39 (r := r) (σ1 := σ1) E  a o h hK hG) _ _ _ b55h ?_)
    exact x_wk (x_le_s (x_le_n (x_le_n (x_le_n (x_le_n x_le_0))))) (j_Mo_expression_60_J340 E  _ h)
  · replace h := x_ifT hc h
    cases h
    exact x_vret dX9_expression_7 rfl rfl rfl
abbrev M_Mo_once : xM := (yX9_once, cX9_once, 2, some .boolean, [])
theorem dX9_once_0 : decode cX9_once 0 = .ok (.aload_n 0, 1) := by decide +kernel
theorem dX9_once_1 : decode cX9_once 1 = .ok (.getfield 258, 3) := by decide +kernel
theorem dX9_once_4 : decode cX9_once 4 = .ok (.iload_n 1, 1) := by decide +kernel
theorem dX9_once_5 : decode cX9_once 5 = .ok (.ishr, 1) := by decide +kernel
theorem dX9_once_6 : decode cX9_once 6 = .ok (.iconst 1, 1) := by decide +kernel
theorem dX9_once_7 : decode cX9_once 7 = .ok (.iand, 1) := by decide +kernel
theorem dX9_once_8 : decode cX9_once 8 = .ok (.iconst 1, 1) := by decide +kernel
theorem dX9_once_9 : decode cX9_once 9 = .ok (.if_icmp .ne 8, 3) := by decide +kernel
theorem dX9_once_12 : decode cX9_once 12 = .ok (.aload_n 0, 1) := by decide +kernel
theorem dX9_once_13 : decode cX9_once 13 = .ok (.iconst 5, 1) := by decide +kernel
theorem dX9_once_14 : decode cX9_once 14 = .ok (.invokevirtual 198, 3) := by decide +kernel
theorem dX9_once_17 : decode cX9_once 17 = .ok (.aload_n 0, 1) := by decide +kernel
theorem dX9_once_18 : decode cX9_once 18 = .ok (.dup, 1) := by decide +kernel
theorem dX9_once_19 : decode cX9_once 19 = .ok (.getfield 258, 3) := by decide +kernel
theorem dX9_once_22 : decode cX9_once 22 = .ok (.iconst 1, 1) := by decide +kernel
theorem dX9_once_23 : decode cX9_once 23 = .ok (.iload_n 1, 1) := by decide +kernel
theorem dX9_once_24 : decode cX9_once 24 = .ok (.ishl, 1) := by decide +kernel
theorem dX9_once_25 : decode cX9_once 25 = .ok (.ior, 1) := by decide +kernel
theorem dX9_once_26 : decode cX9_once 26 = .ok (.putfield 258, 3) := by decide +kernel
theorem dX9_once_29 : decode cX9_once 29 = .ok (.aload_n 0, 1) := by decide +kernel
theorem dX9_once_30 : decode cX9_once 30 = .ok (.invokevirtual 191, 3) := by decide +kernel
theorem dX9_once_33 : decode cX9_once 33 = .ok (.ifCond .eq 7, 3) := by decide +kernel
theorem dX9_once_36 : decode cX9_once 36 = .ok (.aload_n 0, 1) := by decide +kernel
theorem dX9_once_37 : decode cX9_once 37 = .ok (.invokevirtual 195, 3) := by decide +kernel
theorem dX9_once_40 : decode cX9_once 40 = .ok (.aload_n 0, 1) := by decide +kernel
theorem dX9_once_41 : decode cX9_once 41 = .ok (.invokevirtual 191, 3) := by decide +kernel
theorem dX9_once_44 : decode cX9_once 44 = .ok (.ireturn, 1) := by decide +kernel
def f_Mo_once_60_J17 (v1 : Int32) (σ : xS) : Option (Int32 × xS) :=
  let σ1 := x_pI σ 60 37 (σ.1 60 37 ||| ((1 : Int32) <<< (v1 &&& 31)))
  (f_Mo_isGood_60  σ1).bind fun q2 =>
  if q2.1 = 0 then
    (f_Mo_isGood_60  q2.2).bind fun q3 =>
    x_ok (q3.1 = 0 ∨ q3.1 = 1) <|
    some (q3.1, q3.2)
  else
    (f_Mo_goes_60  q2.2).bind fun q4 =>
    (f_Mo_isGood_60  q4.2).bind fun q5 =>
    x_ok (q5.1 = 0 ∨ q5.1 = 1) <|
    some (q5.1, q5.2)
def f_Mo_once_60 (v1 : Int32) (σ : xS) : Option (Int32 × xS) :=
  if ((σ.1 60 37 >>> (v1 &&& 31)) &&& (1 : Int32)) = (1 : Int32) then
    (f_Mo_wrong_60 (5 : Int32) σ).bind fun q6 =>
    f_Mo_once_60_J17 v1 q6.2
  else
    f_Mo_once_60_J17 v1 σ
set_option maxHeartbeats 4000000 in
set_option maxRecDepth 100000 in
theorem j_Mo_once_60_J17 {l : Launch} {s0 : State} {a0 : Array Value} {D : va_G} {cA : Nat → ClassId} {sp : Nat → Nat} (E : x_En CL l s0 a0 D cA sp) (v1 : Int32) (σ : xS) {r : Int32} {σ1 : xS} (h : f_Mo_once_60_J17 v1 σ = some (r, σ1)) : zW l s0 D cA sp (zQ s0 D cA sp (some (.int r)) σ1) (x_rm 2 0 0) M_Mo_once 0 0 17 [some (.ref 60), some (.int v1)] [] σ := by
  unfold f_Mo_once_60_J17 at h
  try dsimp only at h
  refine x_aload_n 18 rfl 0 dX9_once_17 rfl rfl ?_
  refine x_dup 19 rfl dX9_once_18 rfl ?_
  refine x_getI E dX9_once_19 F_RX9_258 sh_60 22 rfl ?_
  refine x_iconst 23 rfl (v := 1) dX9_once_22 (by decide) ?_
  refine x_iload_n 24 rfl 1 dX9_once_23 rfl rfl ?_
  refine x_ishl 25 rfl dX9_once_24 ?_
  refine x_ior 26 rfl dX9_once_25 ?_
  refine x_putI E dX9_once_26 F_RX9_258 sh_60 29 rfl ?_
  refine x_aload_n 30 rfl 0 dX9_once_29 rfl rfl ?_
  obtain ⟨⟨q2r, q2s⟩, q2h, h⟩ := x_bind h
  try dsimp only at h
  refine z_callV E [] [] dX9_once_30 K_RX9_191 ⟨Nat.le_of_ble_eq_true rfl, Nat.le_of_ble_eq_true rfl⟩ sh_60 (by decide) rfl (c_Mo_isGood_60 E  q2h) rfl rfl (Nat.le_of_ble_eq_true rfl) 33 rfl [.int _] rfl ?_
  refine x_if_eq 36 rfl 40 dX9_once_33 (by decide) (fun hc => ?_) (fun hc => ?_)
  · replace h := x_ifT hc h
    refine x_aload_n 41 rfl 0 dX9_once_40 rfl rfl ?_
    obtain ⟨⟨q3r, q3s⟩, q3h, h⟩ := x_bind h
    try dsimp only at h
    refine z_callV E [] [] dX9_once_41 K_RX9_191 ⟨Nat.le_of_ble_eq_true rfl, Nat.le_of_ble_eq_true rfl⟩ sh_60 (by decide) rfl (c_Mo_isGood_60 E  q3h) rfl rfl (Nat.le_of_ble_eq_true rfl) 44 rfl [.int _] rfl ?_
    obtain ⟨hz, h⟩ := x_ift h
    cases h
    exact x_zret hz dX9_once_44 rfl rfl rfl
  · replace h := x_ifF hc h
    refine x_aload_n 37 rfl 0 dX9_once_36 rfl rfl ?_
    obtain ⟨⟨q4r, q4s⟩, q4h, h⟩ := x_bind h
    try dsimp only at h
    refine z_callV E [] [] dX9_once_37 K_RX9_195 ⟨Nat.le_of_ble_eq_true rfl, Nat.le_of_ble_eq_true rfl⟩ sh_60 (by decide) rfl (c_Mo_goes_60 E  q4h) rfl rfl (Nat.le_of_ble_eq_true rfl) 40 rfl [] rfl ?_
    refine x_aload_n 41 rfl 0 dX9_once_40 rfl rfl ?_
    obtain ⟨⟨q5r, q5s⟩, q5h, h⟩ := x_bind h
    try dsimp only at h
    refine z_callV E [] [] dX9_once_41 K_RX9_191 ⟨Nat.le_of_ble_eq_true rfl, Nat.le_of_ble_eq_true rfl⟩ sh_60 (by decide) rfl (c_Mo_isGood_60 E  q5h) rfl rfl (Nat.le_of_ble_eq_true rfl) 44 rfl [.int _] rfl ?_
    obtain ⟨hz, h⟩ := x_ift h
    cases h
    exact x_zret hz dX9_once_44 rfl rfl rfl
set_option maxHeartbeats 4000000 in
set_option maxRecDepth 100000 in
theorem c_Mo_once_60 {l : Launch} {s0 : State} {a0 : Array Value} {D : va_G} {cA : Nat → ClassId} {sp : Nat → Nat} (E : x_En CL l s0 a0 D cA sp) (v1 : Int32) {σ : xS} {r : Int32} {σ1 : xS} (h : f_Mo_once_60 v1 σ = some (r, σ1)) : zC l s0 D cA sp 2 M_Mo_once [.ref 60, .int v1] σ (some (.int r)) σ1 := by
  unfold f_Mo_once_60 at h
  try dsimp only at h
  refine x_enter [some (.ref 60), some (.int v1)] rfl (Nat.le_of_ble_eq_true rfl) (by decide +kernel) rfl ?_
  refine x_aload_n 1 rfl 0 dX9_once_0 rfl rfl ?_
  refine x_getI E dX9_once_1 F_RX9_258 sh_60 4 rfl ?_
  refine x_iload_n 5 rfl 1 dX9_once_4 rfl rfl ?_
  refine x_ishr 6 rfl dX9_once_5 ?_
  refine x_iconst 7 rfl (v := 1) dX9_once_6 (by decide) ?_
  refine x_iand 8 rfl dX9_once_7 ?_
  refine x_iconst 9 rfl (v := 1) dX9_once_8 (by decide) ?_
  refine x_icmp_ne 12 rfl 17 dX9_once_9 (by decide) (fun hc => ?_) (fun hc => ?_)
  · replace h := x_ifF hc h
    exact x_wk (x_le_s (x_le_s x_le_0)) (j_Mo_once_60_J17 E _ _ h)
  · replace h := x_ifT hc h
    refine x_aload_n 13 rfl 0 dX9_once_12 rfl rfl ?_
    refine x_iconst 14 rfl (v := 5) dX9_once_13 (by decide) ?_
    obtain ⟨⟨q6r, q6s⟩, q6h, h⟩ := x_bind h
    try dsimp only at h
    refine z_callV E [.int _] [] dX9_once_14 K_RX9_198 ⟨Nat.le_of_ble_eq_true rfl, Nat.le_of_ble_eq_true rfl⟩ sh_60 (by decide) rfl (c_Mo_wrong_60 E _ q6h) rfl rfl (Nat.le_of_ble_eq_true rfl) 17 rfl [] rfl ?_
    exact x_wk (x_le_s (x_le_s x_le_0)) (j_Mo_once_60_J17 E _ _ h)
theorem K_RX9_267 : x_KV RX9 267 M_Mo_number 2 := ⟨⟨(List.mem_append_right _ (List.mem_of_getElem? (i := 1524) (by decide +kernel))), (List.mem_append_right _ (List.mem_of_getElem? (i := 1527) (by decide +kernel))), (List.mem_append_right _ (List.mem_of_getElem? (i := 9) (by decide +kernel))), ⟨by decide +kernel, by decide +kernel⟩, by decide +kernel⟩, (List.mem_append_right _ (List.mem_of_getElem? (i := 1526) (by decide +kernel))), (List.mem_append_left _ (List.mem_of_getElem? (i := 54) (by decide +kernel)))⟩
abbrev M_Mo_readsMove : xM := (yX9_readsMove, cX9_readsMove, 3, none, [])
theorem dX9_readsMove_0 : decode cX9_readsMove 0 = .ok (.aload_n 0, 1) := by decide +kernel
theorem dX9_readsMove_1 : decode cX9_readsMove 1 = .ok (.getfield 261, 3) := by decide +kernel
theorem dX9_readsMove_4 : decode cX9_readsMove 4 = .ok (.bipush 12, 2) := by decide +kernel
theorem dX9_readsMove_6 : decode cX9_readsMove 6 = .ok (.if_icmp .ne 8, 3) := by decide +kernel
theorem dX9_readsMove_9 : decode cX9_readsMove 9 = .ok (.aload_n 0, 1) := by decide +kernel
theorem dX9_readsMove_10 : decode cX9_readsMove 10 = .ok (.iconst 2, 1) := by decide +kernel
theorem dX9_readsMove_11 : decode cX9_readsMove 11 = .ok (.invokevirtual 198, 3) := by decide +kernel
theorem dX9_readsMove_14 : decode cX9_readsMove 14 = .ok (.aload_n 0, 1) := by decide +kernel
theorem dX9_readsMove_15 : decode cX9_readsMove 15 = .ok (.invokevirtual 191, 3) := by decide +kernel
theorem dX9_readsMove_18 : decode cX9_readsMove 18 = .ok (.ifCond .ne 4, 3) := by decide +kernel
theorem dX9_readsMove_21 : decode cX9_readsMove 21 = .ok (.return_, 1) := by decide +kernel
theorem dX9_readsMove_22 : decode cX9_readsMove 22 = .ok (.aload_n 0, 1) := by decide +kernel
theorem dX9_readsMove_23 : decode cX9_readsMove 23 = .ok (.invokevirtual 195, 3) := by decide +kernel
theorem dX9_readsMove_26 : decode cX9_readsMove 26 = .ok (.iload_n 1, 1) := by decide +kernel
theorem dX9_readsMove_27 : decode cX9_readsMove 27 = .ok (.ifCond .eq 10, 3) := by decide +kernel
theorem dX9_readsMove_30 : decode cX9_readsMove 30 = .ok (.aload_n 0, 1) := by decide +kernel
theorem dX9_readsMove_31 : decode cX9_readsMove 31 = .ok (.getfield 264, 3) := by decide +kernel
theorem dX9_readsMove_34 : decode cX9_readsMove 34 = .ok (.goto 12, 3) := by decide +kernel
theorem dX9_readsMove_37 : decode cX9_readsMove 37 = .ok (.aload_n 0, 1) := by decide +kernel
theorem dX9_readsMove_38 : decode cX9_readsMove 38 = .ok (.bipush 12, 2) := by decide +kernel
theorem dX9_readsMove_40 : decode cX9_readsMove 40 = .ok (.sipush 480, 3) := by decide +kernel
theorem dX9_readsMove_43 : decode cX9_readsMove 43 = .ok (.invokevirtual 267, 3) := by decide +kernel
theorem dX9_readsMove_46 : decode cX9_readsMove 46 = .ok (.istore_n 2, 1) := by decide +kernel
theorem dX9_readsMove_47 : decode cX9_readsMove 47 = .ok (.aload_n 0, 1) := by decide +kernel
theorem dX9_readsMove_48 : decode cX9_readsMove 48 = .ok (.iconst 1, 1) := by decide +kernel
theorem dX9_readsMove_49 : decode cX9_readsMove 49 = .ok (.bipush 99, 2) := by decide +kernel
theorem dX9_readsMove_51 : decode cX9_readsMove 51 = .ok (.invokevirtual 201, 3) := by decide +kernel
theorem dX9_readsMove_54 : decode cX9_readsMove 54 = .ok (.ifCond .ne 4, 3) := by decide +kernel
theorem dX9_readsMove_57 : decode cX9_readsMove 57 = .ok (.return_, 1) := by decide +kernel
theorem dX9_readsMove_58 : decode cX9_readsMove 58 = .ok (.aload_n 0, 1) := by decide +kernel
theorem dX9_readsMove_59 : decode cX9_readsMove 59 = .ok (.getfield 271, 3) := by decide +kernel
theorem dX9_readsMove_62 : decode cX9_readsMove 62 = .ok (.aload_n 0, 1) := by decide +kernel
theorem dX9_readsMove_63 : decode cX9_readsMove 63 = .ok (.getfield 159, 3) := by decide +kernel
theorem dX9_readsMove_66 : decode cX9_readsMove 66 = .ok (.iadd, 1) := by decide +kernel
theorem dX9_readsMove_67 : decode cX9_readsMove 67 = .ok (.sipush 600, 3) := by decide +kernel
theorem dX9_readsMove_70 : decode cX9_readsMove 70 = .ok (.if_icmp .le 8, 3) := by decide +kernel
theorem dX9_readsMove_73 : decode cX9_readsMove 73 = .ok (.aload_n 0, 1) := by decide +kernel
theorem dX9_readsMove_74 : decode cX9_readsMove 74 = .ok (.iconst 2, 1) := by decide +kernel
theorem dX9_readsMove_75 : decode cX9_readsMove 75 = .ok (.invokevirtual 198, 3) := by decide +kernel
theorem dX9_readsMove_78 : decode cX9_readsMove 78 = .ok (.aload_n 0, 1) := by decide +kernel
theorem dX9_readsMove_79 : decode cX9_readsMove 79 = .ok (.invokevirtual 191, 3) := by decide +kernel
theorem dX9_readsMove_82 : decode cX9_readsMove 82 = .ok (.ifCond .ne 4, 3) := by decide +kernel
theorem dX9_readsMove_85 : decode cX9_readsMove 85 = .ok (.return_, 1) := by decide +kernel
theorem dX9_readsMove_86 : decode cX9_readsMove 86 = .ok (.aload_n 0, 1) := by decide +kernel
theorem dX9_readsMove_87 : decode cX9_readsMove 87 = .ok (.iload_n 2, 1) := by decide +kernel
theorem dX9_readsMove_88 : decode cX9_readsMove 88 = .ok (.putfield 264, 3) := by decide +kernel
theorem dX9_readsMove_91 : decode cX9_readsMove 91 = .ok (.aload_n 0, 1) := by decide +kernel
theorem dX9_readsMove_92 : decode cX9_readsMove 92 = .ok (.getfield 47, 3) := by decide +kernel
theorem dX9_readsMove_95 : decode cX9_readsMove 95 = .ok (.aload_n 0, 1) := by decide +kernel
theorem dX9_readsMove_96 : decode cX9_readsMove 96 = .ok (.getfield 261, 3) := by decide +kernel
theorem dX9_readsMove_99 : decode cX9_readsMove 99 = .ok (.iload_n 2, 1) := by decide +kernel
theorem dX9_readsMove_100 : decode cX9_readsMove 100 = .ok (.iastore, 1) := by decide +kernel
theorem dX9_readsMove_101 : decode cX9_readsMove 101 = .ok (.aload_n 0, 1) := by decide +kernel
theorem dX9_readsMove_102 : decode cX9_readsMove 102 = .ok (.getfield 50, 3) := by decide +kernel
theorem dX9_readsMove_105 : decode cX9_readsMove 105 = .ok (.aload_n 0, 1) := by decide +kernel
theorem dX9_readsMove_106 : decode cX9_readsMove 106 = .ok (.getfield 261, 3) := by decide +kernel
theorem dX9_readsMove_109 : decode cX9_readsMove 109 = .ok (.aload_n 0, 1) := by decide +kernel
theorem dX9_readsMove_110 : decode cX9_readsMove 110 = .ok (.getfield 159, 3) := by decide +kernel
theorem dX9_readsMove_113 : decode cX9_readsMove 113 = .ok (.iastore, 1) := by decide +kernel
theorem dX9_readsMove_114 : decode cX9_readsMove 114 = .ok (.aload_n 0, 1) := by decide +kernel
theorem dX9_readsMove_115 : decode cX9_readsMove 115 = .ok (.dup, 1) := by decide +kernel
theorem dX9_readsMove_116 : decode cX9_readsMove 116 = .ok (.getfield 271, 3) := by decide +kernel
theorem dX9_readsMove_119 : decode cX9_readsMove 119 = .ok (.aload_n 0, 1) := by decide +kernel
theorem dX9_readsMove_120 : decode cX9_readsMove 120 = .ok (.getfield 159, 3) := by decide +kernel
theorem dX9_readsMove_123 : decode cX9_readsMove 123 = .ok (.iadd, 1) := by decide +kernel
theorem dX9_readsMove_124 : decode cX9_readsMove 124 = .ok (.putfield 271, 3) := by decide +kernel
theorem dX9_readsMove_127 : decode cX9_readsMove 127 = .ok (.aload_n 0, 1) := by decide +kernel
theorem dX9_readsMove_128 : decode cX9_readsMove 128 = .ok (.dup, 1) := by decide +kernel
theorem dX9_readsMove_129 : decode cX9_readsMove 129 = .ok (.getfield 261, 3) := by decide +kernel
theorem dX9_readsMove_132 : decode cX9_readsMove 132 = .ok (.iconst 1, 1) := by decide +kernel
theorem dX9_readsMove_133 : decode cX9_readsMove 133 = .ok (.iadd, 1) := by decide +kernel
theorem dX9_readsMove_134 : decode cX9_readsMove 134 = .ok (.putfield 261, 3) := by decide +kernel
theorem dX9_readsMove_137 : decode cX9_readsMove 137 = .ok (.aload_n 0, 1) := by decide +kernel
theorem dX9_readsMove_138 : decode cX9_readsMove 138 = .ok (.invokevirtual 195, 3) := by decide +kernel
theorem dX9_readsMove_141 : decode cX9_readsMove 141 = .ok (.return_, 1) := by decide +kernel
def f_Mo_readsMove_60_J78 (v2 : Int32) (σ : xS) : Option (Unit × xS) :=
  (f_Mo_isGood_60  σ).bind fun q1 =>
  if q1.1 = 0 then
    some ((), q1.2)
  else
    let σ2 := x_pI q1.2 60 35 v2
    if σ2.1 60 28 < 0 ∨ 12 ≤ (σ2.1 60 28).toNatClampNeg then none else
    let σ3 := x_pI σ2 69 (σ2.1 60 28).toNatClampNeg v2
    if σ3.1 60 28 < 0 ∨ 12 ≤ (σ3.1 60 28).toNatClampNeg then none else
    let σ4 := x_pI σ3 70 (σ3.1 60 28).toNatClampNeg (σ3.1 60 24)
    let σ5 := x_pI σ4 60 34 (σ4.1 60 34 + σ4.1 60 24)
    let σ6 := x_pI σ5 60 28 (σ5.1 60 28 + (1 : Int32))
    (f_Mo_goes_60  σ6).bind fun q7 =>
    some ((), q7.2)
def f_Mo_readsMove_60_J46 (y0 : Int32) (σ : xS) : Option (Unit × xS) :=
  (f_Mo_numberHere_60 (1 : Int32) (99 : Int32) σ).bind fun q8 =>
  if q8.1 = 0 then
    some ((), q8.2)
  else
    if (q8.2.1 60 34 + q8.2.1 60 24) ≤ (600 : Int32) then
      f_Mo_readsMove_60_J78 y0 q8.2
    else
      (f_Mo_wrong_60 (2 : Int32) q8.2).bind fun q9 =>
      f_Mo_readsMove_60_J78 y0 q9.2
def f_Mo_readsMove_60_J14 (v1 : Int32) (σ : xS) : Option (Unit × xS) :=
  (f_Mo_isGood_60  σ).bind fun q10 =>
  if q10.1 = 0 then
    some ((), q10.2)
  else
    (f_Mo_goes_60  q10.2).bind fun q11 =>
    if v1 = 0 then
      (f_Mo_number_60 (12 : Int32) (480 : Int32) q11.2).bind fun q12 =>
      f_Mo_readsMove_60_J46 q12.1 q12.2
    else
      f_Mo_readsMove_60_J46 (q11.2.1 60 35) q11.2
def f_Mo_readsMove_60 (v1 : Int32) (σ : xS) : Option (Unit × xS) :=
  if σ.1 60 28 = (12 : Int32) then
    (f_Mo_wrong_60 (2 : Int32) σ).bind fun q13 =>
    f_Mo_readsMove_60_J14 v1 q13.2
  else
    f_Mo_readsMove_60_J14 v1 σ
set_option maxHeartbeats 4000000 in
set_option maxRecDepth 100000 in
theorem j_Mo_readsMove_60_J78 {l : Launch} {s0 : State} {a0 : Array Value} {D : va_G} {cA : Nat → ClassId} {sp : Nat → Nat} (E : x_En CL l s0 a0 D cA sp) (v2 : Int32) (σ : xS) {r : Unit} {σ1 : xS} (h : f_Mo_readsMove_60_J78 v2 σ = some (r, σ1)) : zW l s0 D cA sp (zQ s0 D cA sp none σ1) (x_rm 3 0 0) M_Mo_readsMove 0 0 78 [some (.ref 60), none, some (.int v2)] [] σ := by
  unfold f_Mo_readsMove_60_J78 at h
  try dsimp only at h
  refine x_aload_n 79 rfl 0 dX9_readsMove_78 rfl rfl ?_
  obtain ⟨⟨q1r, q1s⟩, q1h, h⟩ := x_bind h
  try dsimp only at h
  refine z_callV E [] [] dX9_readsMove_79 K_RX9_191 ⟨Nat.le_of_ble_eq_true rfl, Nat.le_of_ble_eq_true rfl⟩ sh_60 (by decide) rfl (c_Mo_isGood_60 E  q1h) rfl rfl (Nat.le_of_ble_eq_true rfl) 82 rfl [.int _] rfl ?_
  refine x_if_ne 85 rfl 86 dX9_readsMove_82 (by decide) (fun hc => ?_) (fun hc => ?_)
  · replace h := x_ifF hc h
    refine x_aload_n 87 rfl 0 dX9_readsMove_86 rfl rfl ?_
    refine x_iload_n 88 rfl 2 dX9_readsMove_87 rfl rfl ?_
    refine x_putI E dX9_readsMove_88 F_RX9_264 sh_60 91 rfl ?_
    refine x_aload_n 92 rfl 0 dX9_readsMove_91 rfl rfl ?_
    refine x_getR E dX9_readsMove_92 F_RX9_47 sh_60 rf_60_43 95 rfl ?_
    refine x_aload_n 96 rfl 0 dX9_readsMove_95 rfl rfl ?_
    refine x_getI E dX9_readsMove_96 F_RX9_261 sh_60 99 rfl ?_
    refine x_iload_n 100 rfl 2 dX9_readsMove_99 rfl rfl ?_
    obtain ⟨hz, h⟩ := x_ifn h
    refine x_iast E dX9_readsMove_100 sh_69 _ rfl hz 101 rfl ?_
    refine x_aload_n 102 rfl 0 dX9_readsMove_101 rfl rfl ?_
    refine x_getR E dX9_readsMove_102 F_RX9_50 sh_60 rf_60_44 105 rfl ?_
    refine x_aload_n 106 rfl 0 dX9_readsMove_105 rfl rfl ?_
    refine x_getI E dX9_readsMove_106 F_RX9_261 sh_60 109 rfl ?_
    refine x_aload_n 110 rfl 0 dX9_readsMove_109 rfl rfl ?_
    refine x_getI E dX9_readsMove_110 F_RX9_159 sh_60 113 rfl ?_
    obtain ⟨hz, h⟩ := x_ifn h
    refine x_iast E dX9_readsMove_113 sh_70 _ rfl hz 114 rfl ?_
    refine x_aload_n 115 rfl 0 dX9_readsMove_114 rfl rfl ?_
    refine x_dup 116 rfl dX9_readsMove_115 rfl ?_
    refine x_getI E dX9_readsMove_116 F_RX9_271 sh_60 119 rfl ?_
    refine x_aload_n 120 rfl 0 dX9_readsMove_119 rfl rfl ?_
    refine x_getI E dX9_readsMove_120 F_RX9_159 sh_60 123 rfl ?_
    refine x_iadd 124 rfl dX9_readsMove_123 ?_
    refine x_putI E dX9_readsMove_124 F_RX9_271 sh_60 127 rfl ?_
    refine x_aload_n 128 rfl 0 dX9_readsMove_127 rfl rfl ?_
    refine x_dup 129 rfl dX9_readsMove_128 rfl ?_
    refine x_getI E dX9_readsMove_129 F_RX9_261 sh_60 132 rfl ?_
    refine x_iconst 133 rfl (v := 1) dX9_readsMove_132 (by decide) ?_
    refine x_iadd 134 rfl dX9_readsMove_133 ?_
    refine x_putI E dX9_readsMove_134 F_RX9_261 sh_60 137 rfl ?_
    refine x_aload_n 138 rfl 0 dX9_readsMove_137 rfl rfl ?_
    obtain ⟨⟨q7r, q7s⟩, q7h, h⟩ := x_bind h
    try dsimp only at h
    refine z_callV E [] [] dX9_readsMove_138 K_RX9_195 ⟨Nat.le_of_ble_eq_true rfl, Nat.le_of_ble_eq_true rfl⟩ sh_60 (by decide) rfl (c_Mo_goes_60 E  q7h) rfl rfl (Nat.le_of_ble_eq_true rfl) 141 rfl [] rfl ?_
    cases h
    exact x_vret dX9_readsMove_141 rfl rfl rfl
  · replace h := x_ifT hc h
    cases h
    exact x_vret dX9_readsMove_85 rfl rfl rfl
set_option maxHeartbeats 4000000 in
set_option maxRecDepth 100000 in
theorem j_Mo_readsMove_60_J46 {l : Launch} {s0 : State} {a0 : Array Value} {D : va_G} {cA : Nat → ClassId} {sp : Nat → Nat} (E : x_En CL l s0 a0 D cA sp) (y0 : Int32) (σ : xS) {r : Unit} {σ1 : xS} (h : f_Mo_readsMove_60_J46 y0 σ = some (r, σ1)) : zW l s0 D cA sp (zQ s0 D cA sp none σ1) (x_rm 3 0 0) M_Mo_readsMove 0 0 46 [some (.ref 60), none, none] [.int y0] σ := by
  unfold f_Mo_readsMove_60_J46 at h
  try dsimp only at h
  refine x_istore_n 47 rfl 2 dX9_readsMove_46 rfl (by decide) [some (.ref 60), none, some (.int _)] rfl ?_
  refine x_aload_n 48 rfl 0 dX9_readsMove_47 rfl rfl ?_
  refine x_iconst 49 rfl (v := 1) dX9_readsMove_48 (by decide) ?_
  refine x_bipush 51 rfl (v := 99) dX9_readsMove_49 (by decide) ?_
  obtain ⟨⟨q8r, q8s⟩, q8h, h⟩ := x_bind h
  try dsimp only at h
  refine z_callV E [.int _, .int _] [] dX9_readsMove_51 K_RX9_201 ⟨Nat.le_of_ble_eq_true rfl, Nat.le_of_ble_eq_true rfl⟩ sh_60 (by decide) rfl (c_Mo_numberHere_60 E _ _ q8h) rfl rfl (Nat.le_of_ble_eq_true rfl) 54 rfl [.int _] rfl ?_
  refine x_if_ne 57 rfl 58 dX9_readsMove_54 (by decide) (fun hc => ?_) (fun hc => ?_)
  · replace h := x_ifF hc h
    refine x_aload_n 59 rfl 0 dX9_readsMove_58 rfl rfl ?_
    refine x_getI E dX9_readsMove_59 F_RX9_271 sh_60 62 rfl ?_
    refine x_aload_n 63 rfl 0 dX9_readsMove_62 rfl rfl ?_
    refine x_getI E dX9_readsMove_63 F_RX9_159 sh_60 66 rfl ?_
    refine x_iadd 67 rfl dX9_readsMove_66 ?_
    refine x_sipush 70 rfl (v := 600) dX9_readsMove_67 (by decide) ?_
    refine x_icmp_le 73 rfl 78 dX9_readsMove_70 (by decide) (fun hc => ?_) (fun hc => ?_)
    · replace h := x_ifT hc h
      exact x_wk (x_le_s (x_le_n (x_le_s x_le_0))) (j_Mo_readsMove_60_J78 E _ _ h)
    · replace h := x_ifF hc h
      refine x_aload_n 74 rfl 0 dX9_readsMove_73 rfl rfl ?_
      refine x_iconst 75 rfl (v := 2) dX9_readsMove_74 (by decide) ?_
      obtain ⟨⟨q9r, q9s⟩, q9h, h⟩ := x_bind h
      try dsimp only at h
      refine z_callV E [.int _] [] dX9_readsMove_75 K_RX9_198 ⟨Nat.le_of_ble_eq_true rfl, Nat.le_of_ble_eq_true rfl⟩ sh_60 (by decide) rfl (c_Mo_wrong_60 E _ q9h) rfl rfl (Nat.le_of_ble_eq_true rfl) 78 rfl [] rfl ?_
      exact x_wk (x_le_s (x_le_n (x_le_s x_le_0))) (j_Mo_readsMove_60_J78 E _ _ h)
  · replace h := x_ifT hc h
    cases h
    exact x_vret dX9_readsMove_57 rfl rfl rfl
set_option maxHeartbeats 4000000 in
set_option maxRecDepth 100000 in
theorem j_Mo_readsMove_60_J14 {l : Launch} {s0 : State} {a0 : Array Value} {D : va_G} {cA : Nat → ClassId} {sp : Nat → Nat} (E : x_En CL l s0 a0 D cA sp) (v1 : Int32) (σ : xS) {r : Unit} {σ1 : xS} (h : f_Mo_readsMove_60_J14 v1 σ = some (r, σ1)) : zW l s0 D cA sp (zQ s0 D cA sp none σ1) (x_rm 3 0 0) M_Mo_readsMove 0 0 14 [some (.ref 60), some (.int v1), none] [] σ := by
  unfold f_Mo_readsMove_60_J14 at h
  try dsimp only at h
  refine x_aload_n 15 rfl 0 dX9_readsMove_14 rfl rfl ?_
  obtain ⟨⟨q10r, q10s⟩, q10h, h⟩ := x_bind h
  try dsimp only at h
  refine z_callV E [] [] dX9_readsMove_15 K_RX9_191 ⟨Nat.le_of_ble_eq_true rfl, Nat.le_of_ble_eq_true rfl⟩ sh_60 (by decide) rfl (c_Mo_isGood_60 E  q10h) rfl rfl (Nat.le_of_ble_eq_true rfl) 18 rfl [.int _] rfl ?_
  refine x_if_ne 21 rfl 22 dX9_readsMove_18 (by decide) (fun hc => ?_) (fun hc => ?_)
  · replace h := x_ifF hc h
    refine x_aload_n 23 rfl 0 dX9_readsMove_22 rfl rfl ?_
    obtain ⟨⟨q11r, q11s⟩, q11h, h⟩ := x_bind h
    try dsimp only at h
    refine z_callV E [] [] dX9_readsMove_23 K_RX9_195 ⟨Nat.le_of_ble_eq_true rfl, Nat.le_of_ble_eq_true rfl⟩ sh_60 (by decide) rfl (c_Mo_goes_60 E  q11h) rfl rfl (Nat.le_of_ble_eq_true rfl) 26 rfl [] rfl ?_
    refine x_iload_n 27 rfl 1 dX9_readsMove_26 rfl rfl ?_
    refine x_if_eq 30 rfl 37 dX9_readsMove_27 (by decide) (fun hc => ?_) (fun hc => ?_)
    · replace h := x_ifT hc h
      refine x_aload_n 38 rfl 0 dX9_readsMove_37 rfl rfl ?_
      refine x_bipush 40 rfl (v := 12) dX9_readsMove_38 (by decide) ?_
      refine x_sipush 43 rfl (v := 480) dX9_readsMove_40 (by decide) ?_
      obtain ⟨⟨q12r, q12s⟩, q12h, h⟩ := x_bind h
      try dsimp only at h
      refine z_callV E [.int _, .int _] [] dX9_readsMove_43 K_RX9_267 ⟨Nat.le_of_ble_eq_true rfl, Nat.le_of_ble_eq_true rfl⟩ sh_60 (by decide) rfl (c_Mo_number_60 E _ _ q12h) rfl rfl (Nat.le_of_ble_eq_true rfl) 46 rfl [.int _] rfl ?_
      exact x_wk (x_le_s (x_le_n (x_le_n x_le_0))) (j_Mo_readsMove_60_J46 E _ _ h)
    · replace h := x_ifF hc h
      refine x_aload_n 31 rfl 0 dX9_readsMove_30 rfl rfl ?_
      refine x_getI E dX9_readsMove_31 F_RX9_264 sh_60 34 rfl ?_
      refine x_goto 46 dX9_readsMove_34 (by decide) ?_
      exact x_wk (x_le_s (x_le_n (x_le_n x_le_0))) (j_Mo_readsMove_60_J46 E _ _ h)
  · replace h := x_ifT hc h
    cases h
    exact x_vret dX9_readsMove_21 rfl rfl rfl
set_option maxHeartbeats 4000000 in
set_option maxRecDepth 100000 in
theorem c_Mo_readsMove_60 {l : Launch} {s0 : State} {a0 : Array Value} {D : va_G} {cA : Nat → ClassId} {sp : Nat → Nat} (E : x_En CL l s0 a0 D cA sp) (v1 : Int32) {σ : xS} {r : Unit} {σ1 : xS} (h : f_Mo_readsMove_60 v1 σ = some (r, σ1)) : zC l s0 D cA sp 3 M_Mo_readsMove [.ref 60, .int v1] σ none σ1 := by
  unfold f_Mo_readsMove_60 at h
  try dsimp only at h
  refine x_enter [some (.ref 60), some (.int v1), none] rfl (Nat.le_of_ble_eq_true rfl) (by decide +kernel) rfl ?_
  refine x_aload_n 1 rfl 0 dX9_readsMove_0 rfl rfl ?_
  refine x_getI E dX9_readsMove_1 F_RX9_261 sh_60 4 rfl ?_
  refine x_bipush 6 rfl (v := 12) dX9_readsMove_4 (by decide) ?_
  refine x_icmp_ne 9 rfl 14 dX9_readsMove_6 (by decide) (fun hc => ?_) (fun hc => ?_)
  · replace h := x_ifF hc h
    exact x_wk (x_le_s (x_le_s (x_le_n x_le_0))) (j_Mo_readsMove_60_J14 E _ _ h)
  · replace h := x_ifT hc h
    refine x_aload_n 10 rfl 0 dX9_readsMove_9 rfl rfl ?_
    refine x_iconst 11 rfl (v := 2) dX9_readsMove_10 (by decide) ?_
    obtain ⟨⟨q13r, q13s⟩, q13h, h⟩ := x_bind h
    try dsimp only at h
    refine z_callV E [.int _] [] dX9_readsMove_11 K_RX9_198 ⟨Nat.le_of_ble_eq_true rfl, Nat.le_of_ble_eq_true rfl⟩ sh_60 (by decide) rfl (c_Mo_wrong_60 E _ q13h) rfl rfl (Nat.le_of_ble_eq_true rfl) 14 rfl [] rfl ?_
    exact x_wk (x_le_s (x_le_s (x_le_n x_le_0))) (j_Mo_readsMove_60_J14 E _ _ h)
abbrev M_Mo_readsChange : xM := (yX9_readsChange, cX9_readsChange, 4, none, [])
theorem dX9_readsChange_0 : decode cX9_readsChange 0 = .ok (.aload_n 0, 1) := by decide +kernel
theorem dX9_readsChange_1 : decode cX9_readsChange 1 = .ok (.getfield 274, 3) := by decide +kernel
theorem dX9_readsChange_4 : decode cX9_readsChange 4 = .ok (.bipush 6, 2) := by decide +kernel
theorem dX9_readsChange_6 : decode cX9_readsChange 6 = .ok (.if_icmp .ne 8, 3) := by decide +kernel
theorem dX9_readsChange_9 : decode cX9_readsChange 9 = .ok (.aload_n 0, 1) := by decide +kernel
theorem dX9_readsChange_10 : decode cX9_readsChange 10 = .ok (.iconst 2, 1) := by decide +kernel
theorem dX9_readsChange_11 : decode cX9_readsChange 11 = .ok (.invokevirtual 198, 3) := by decide +kernel
theorem dX9_readsChange_14 : decode cX9_readsChange 14 = .ok (.aload_n 0, 1) := by decide +kernel
theorem dX9_readsChange_15 : decode cX9_readsChange 15 = .ok (.invokevirtual 191, 3) := by decide +kernel
theorem dX9_readsChange_18 : decode cX9_readsChange 18 = .ok (.ifCond .ne 4, 3) := by decide +kernel
theorem dX9_readsChange_21 : decode cX9_readsChange 21 = .ok (.return_, 1) := by decide +kernel
theorem dX9_readsChange_22 : decode cX9_readsChange 22 = .ok (.aload_n 0, 1) := by decide +kernel
theorem dX9_readsChange_23 : decode cX9_readsChange 23 = .ok (.invokevirtual 195, 3) := by decide +kernel
theorem dX9_readsChange_26 : decode cX9_readsChange 26 = .ok (.aload_n 0, 1) := by decide +kernel
theorem dX9_readsChange_27 : decode cX9_readsChange 27 = .ok (.getfield 274, 3) := by decide +kernel
theorem dX9_readsChange_30 : decode cX9_readsChange 30 = .ok (.ifCond .ne 7, 3) := by decide +kernel
theorem dX9_readsChange_33 : decode cX9_readsChange 33 = .ok (.iconst 1, 1) := by decide +kernel
theorem dX9_readsChange_34 : decode cX9_readsChange 34 = .ok (.goto 16, 3) := by decide +kernel
theorem dX9_readsChange_37 : decode cX9_readsChange 37 = .ok (.aload_n 0, 1) := by decide +kernel
theorem dX9_readsChange_38 : decode cX9_readsChange 38 = .ok (.getfield 53, 3) := by decide +kernel
theorem dX9_readsChange_41 : decode cX9_readsChange 41 = .ok (.aload_n 0, 1) := by decide +kernel
theorem dX9_readsChange_42 : decode cX9_readsChange 42 = .ok (.getfield 274, 3) := by decide +kernel
theorem dX9_readsChange_45 : decode cX9_readsChange 45 = .ok (.iconst 1, 1) := by decide +kernel
theorem dX9_readsChange_46 : decode cX9_readsChange 46 = .ok (.isub, 1) := by decide +kernel
theorem dX9_readsChange_47 : decode cX9_readsChange 47 = .ok (.iaload, 1) := by decide +kernel
theorem dX9_readsChange_48 : decode cX9_readsChange 48 = .ok (.iconst 1, 1) := by decide +kernel
theorem dX9_readsChange_49 : decode cX9_readsChange 49 = .ok (.iadd, 1) := by decide +kernel
theorem dX9_readsChange_50 : decode cX9_readsChange 50 = .ok (.istore_n 2, 1) := by decide +kernel
theorem dX9_readsChange_51 : decode cX9_readsChange 51 = .ok (.aload_n 0, 1) := by decide +kernel
theorem dX9_readsChange_52 : decode cX9_readsChange 52 = .ok (.iload_n 2, 1) := by decide +kernel
theorem dX9_readsChange_53 : decode cX9_readsChange 53 = .ok (.sipush 600, 3) := by decide +kernel
theorem dX9_readsChange_56 : decode cX9_readsChange 56 = .ok (.invokevirtual 267, 3) := by decide +kernel
theorem dX9_readsChange_59 : decode cX9_readsChange 59 = .ok (.istore_n 3, 1) := by decide +kernel
theorem dX9_readsChange_60 : decode cX9_readsChange 60 = .ok (.aload_n 0, 1) := by decide +kernel
theorem dX9_readsChange_61 : decode cX9_readsChange 61 = .ok (.invokevirtual 191, 3) := by decide +kernel
theorem dX9_readsChange_64 : decode cX9_readsChange 64 = .ok (.ifCond .ne 4, 3) := by decide +kernel
theorem dX9_readsChange_67 : decode cX9_readsChange 67 = .ok (.return_, 1) := by decide +kernel
theorem dX9_readsChange_68 : decode cX9_readsChange 68 = .ok (.aload_n 0, 1) := by decide +kernel
theorem dX9_readsChange_69 : decode cX9_readsChange 69 = .ok (.getfield 53, 3) := by decide +kernel
theorem dX9_readsChange_72 : decode cX9_readsChange 72 = .ok (.aload_n 0, 1) := by decide +kernel
theorem dX9_readsChange_73 : decode cX9_readsChange 73 = .ok (.getfield 274, 3) := by decide +kernel
theorem dX9_readsChange_76 : decode cX9_readsChange 76 = .ok (.iload_n 3, 1) := by decide +kernel
theorem dX9_readsChange_77 : decode cX9_readsChange 77 = .ok (.iastore, 1) := by decide +kernel
theorem dX9_readsChange_78 : decode cX9_readsChange 78 = .ok (.aload_n 0, 1) := by decide +kernel
theorem dX9_readsChange_79 : decode cX9_readsChange 79 = .ok (.getfield 56, 3) := by decide +kernel
theorem dX9_readsChange_82 : decode cX9_readsChange 82 = .ok (.aload_n 0, 1) := by decide +kernel
theorem dX9_readsChange_83 : decode cX9_readsChange 83 = .ok (.getfield 274, 3) := by decide +kernel
theorem dX9_readsChange_86 : decode cX9_readsChange 86 = .ok (.iload_n 1, 1) := by decide +kernel
theorem dX9_readsChange_87 : decode cX9_readsChange 87 = .ok (.iastore, 1) := by decide +kernel
theorem dX9_readsChange_88 : decode cX9_readsChange 88 = .ok (.aload_n 0, 1) := by decide +kernel
theorem dX9_readsChange_89 : decode cX9_readsChange 89 = .ok (.dup, 1) := by decide +kernel
theorem dX9_readsChange_90 : decode cX9_readsChange 90 = .ok (.getfield 274, 3) := by decide +kernel
theorem dX9_readsChange_93 : decode cX9_readsChange 93 = .ok (.iconst 1, 1) := by decide +kernel
theorem dX9_readsChange_94 : decode cX9_readsChange 94 = .ok (.iadd, 1) := by decide +kernel
theorem dX9_readsChange_95 : decode cX9_readsChange 95 = .ok (.putfield 274, 3) := by decide +kernel
theorem dX9_readsChange_98 : decode cX9_readsChange 98 = .ok (.return_, 1) := by decide +kernel
def f_Mo_readsChange_60_J50 (v1 : Int32) (y0 : Int32) (σ : xS) : Option (Unit × xS) :=
  (f_Mo_number_60 y0 (600 : Int32) σ).bind fun q1 =>
  let w2 := q1.1
  (f_Mo_isGood_60  q1.2).bind fun q3 =>
  if q3.1 = 0 then
    some ((), q3.2)
  else
    if q3.2.1 60 29 < 0 ∨ 6 ≤ (q3.2.1 60 29).toNatClampNeg then none else
    let σ4 := x_pI q3.2 71 (q3.2.1 60 29).toNatClampNeg w2
    if σ4.1 60 29 < 0 ∨ 6 ≤ (σ4.1 60 29).toNatClampNeg then none else
    let σ5 := x_pI σ4 72 (σ4.1 60 29).toNatClampNeg v1
    let σ6 := x_pI σ5 60 29 (σ5.1 60 29 + (1 : Int32))
    some ((), σ6)
def f_Mo_readsChange_60_J14 (v1 : Int32) (σ : xS) : Option (Unit × xS) :=
  (f_Mo_isGood_60  σ).bind fun q7 =>
  if q7.1 = 0 then
    some ((), q7.2)
  else
    (f_Mo_goes_60  q7.2).bind fun q8 =>
    if q8.2.1 60 29 = 0 then
      f_Mo_readsChange_60_J50 v1 (1 : Int32) q8.2
    else
      if (q8.2.1 60 29 - (1 : Int32)) < 0 ∨ 6 ≤ (q8.2.1 60 29 - (1 : Int32)).toNatClampNeg then none else
      f_Mo_readsChange_60_J50 v1 (q8.2.1 71 (q8.2.1 60 29 - (1 : Int32)).toNatClampNeg + (1 : Int32)) q8.2
def f_Mo_readsChange_60 (v1 : Int32) (σ : xS) : Option (Unit × xS) :=
  if σ.1 60 29 = (6 : Int32) then
    (f_Mo_wrong_60 (2 : Int32) σ).bind fun q9 =>
    f_Mo_readsChange_60_J14 v1 q9.2
  else
    f_Mo_readsChange_60_J14 v1 σ
set_option maxHeartbeats 4000000 in
set_option maxRecDepth 100000 in
theorem j_Mo_readsChange_60_J50 {l : Launch} {s0 : State} {a0 : Array Value} {D : va_G} {cA : Nat → ClassId} {sp : Nat → Nat} (E : x_En CL l s0 a0 D cA sp) (v1 : Int32) (y0 : Int32) (σ : xS) {r : Unit} {σ1 : xS} (h : f_Mo_readsChange_60_J50 v1 y0 σ = some (r, σ1)) : zW l s0 D cA sp (zQ s0 D cA sp none σ1) (x_rm 3 0 0) M_Mo_readsChange 0 0 50 [some (.ref 60), some (.int v1), none, none] [.int y0] σ := by
  unfold f_Mo_readsChange_60_J50 at h
  try dsimp only at h
  refine x_istore_n 51 rfl 2 dX9_readsChange_50 rfl (by decide) [some (.ref 60), some (.int _), some (.int _), none] rfl ?_
  refine x_aload_n 52 rfl 0 dX9_readsChange_51 rfl rfl ?_
  refine x_iload_n 53 rfl 2 dX9_readsChange_52 rfl rfl ?_
  refine x_sipush 56 rfl (v := 600) dX9_readsChange_53 (by decide) ?_
  obtain ⟨⟨q1r, q1s⟩, q1h, h⟩ := x_bind h
  try dsimp only at h
  refine z_callV E [.int _, .int _] [] dX9_readsChange_56 K_RX9_267 ⟨Nat.le_of_ble_eq_true rfl, Nat.le_of_ble_eq_true rfl⟩ sh_60 (by decide) rfl (c_Mo_number_60 E _ _ q1h) rfl rfl (Nat.le_of_ble_eq_true rfl) 59 rfl [.int _] rfl ?_
  refine x_istore_n 60 rfl 3 dX9_readsChange_59 rfl (by decide) [some (.ref 60), some (.int _), some (.int _), some (.int _)] rfl ?_
  refine x_aload_n 61 rfl 0 dX9_readsChange_60 rfl rfl ?_
  obtain ⟨⟨q3r, q3s⟩, q3h, h⟩ := x_bind h
  try dsimp only at h
  refine z_callV E [] [] dX9_readsChange_61 K_RX9_191 ⟨Nat.le_of_ble_eq_true rfl, Nat.le_of_ble_eq_true rfl⟩ sh_60 (by decide) rfl (c_Mo_isGood_60 E  q3h) rfl rfl (Nat.le_of_ble_eq_true rfl) 64 rfl [.int _] rfl ?_
  refine x_if_ne 67 rfl 68 dX9_readsChange_64 (by decide) (fun hc => ?_) (fun hc => ?_)
  · replace h := x_ifF hc h
    refine x_aload_n 69 rfl 0 dX9_readsChange_68 rfl rfl ?_
    refine x_getR E dX9_readsChange_69 F_RX9_53 sh_60 rf_60_45 72 rfl ?_
    refine x_aload_n 73 rfl 0 dX9_readsChange_72 rfl rfl ?_
    refine x_getI E dX9_readsChange_73 F_RX9_274 sh_60 76 rfl ?_
    refine x_iload_n 77 rfl 3 dX9_readsChange_76 rfl rfl ?_
    obtain ⟨hz, h⟩ := x_ifn h
    refine x_iast E dX9_readsChange_77 sh_71 _ rfl hz 78 rfl ?_
    refine x_aload_n 79 rfl 0 dX9_readsChange_78 rfl rfl ?_
    refine x_getR E dX9_readsChange_79 F_RX9_56 sh_60 rf_60_46 82 rfl ?_
    refine x_aload_n 83 rfl 0 dX9_readsChange_82 rfl rfl ?_
    refine x_getI E dX9_readsChange_83 F_RX9_274 sh_60 86 rfl ?_
    refine x_iload_n 87 rfl 1 dX9_readsChange_86 rfl rfl ?_
    obtain ⟨hz, h⟩ := x_ifn h
    refine x_iast E dX9_readsChange_87 sh_72 _ rfl hz 88 rfl ?_
    refine x_aload_n 89 rfl 0 dX9_readsChange_88 rfl rfl ?_
    refine x_dup 90 rfl dX9_readsChange_89 rfl ?_
    refine x_getI E dX9_readsChange_90 F_RX9_274 sh_60 93 rfl ?_
    refine x_iconst 94 rfl (v := 1) dX9_readsChange_93 (by decide) ?_
    refine x_iadd 95 rfl dX9_readsChange_94 ?_
    refine x_putI E dX9_readsChange_95 F_RX9_274 sh_60 98 rfl ?_
    cases h
    exact x_vret dX9_readsChange_98 rfl rfl rfl
  · replace h := x_ifT hc h
    cases h
    exact x_vret dX9_readsChange_67 rfl rfl rfl
set_option maxHeartbeats 4000000 in
set_option maxRecDepth 100000 in
theorem j_Mo_readsChange_60_J14 {l : Launch} {s0 : State} {a0 : Array Value} {D : va_G} {cA : Nat → ClassId} {sp : Nat → Nat} (E : x_En CL l s0 a0 D cA sp) (v1 : Int32) (σ : xS) {r : Unit} {σ1 : xS} (h : f_Mo_readsChange_60_J14 v1 σ = some (r, σ1)) : zW l s0 D cA sp (zQ s0 D cA sp none σ1) (x_rm 3 0 0) M_Mo_readsChange 0 0 14 [some (.ref 60), some (.int v1), none, none] [] σ := by
  unfold f_Mo_readsChange_60_J14 at h
  try dsimp only at h
  refine x_aload_n 15 rfl 0 dX9_readsChange_14 rfl rfl ?_
  obtain ⟨⟨q7r, q7s⟩, q7h, h⟩ := x_bind h
  try dsimp only at h
  refine z_callV E [] [] dX9_readsChange_15 K_RX9_191 ⟨Nat.le_of_ble_eq_true rfl, Nat.le_of_ble_eq_true rfl⟩ sh_60 (by decide) rfl (c_Mo_isGood_60 E  q7h) rfl rfl (Nat.le_of_ble_eq_true rfl) 18 rfl [.int _] rfl ?_
  refine x_if_ne 21 rfl 22 dX9_readsChange_18 (by decide) (fun hc => ?_) (fun hc => ?_)
  · replace h := x_ifF hc h
    refine x_aload_n 23 rfl 0 dX9_readsChange_22 rfl rfl ?_
    obtain ⟨⟨q8r, q8s⟩, q8h, h⟩ := x_bind h
    try dsimp only at h
    refine z_callV E [] [] dX9_readsChange_23 K_RX9_195 ⟨Nat.le_of_ble_eq_true rfl, Nat.le_of_ble_eq_true rfl⟩ sh_60 (by decide) rfl (c_Mo_goes_60 E  q8h) rfl rfl (Nat.le_of_ble_eq_true rfl) 26 rfl [] rfl ?_
    refine x_aload_n 27 rfl 0 dX9_readsChange_26 rfl rfl ?_
    refine x_getI E dX9_readsChange_27 F_RX9_274 sh_60 30 rfl ?_
    refine x_if_ne 33 rfl 37 dX9_readsChange_30 (by decide) (fun hc => ?_) (fun hc => ?_)
    · replace h := x_ifF hc h
      refine x_aload_n 38 rfl 0 dX9_readsChange_37 rfl rfl ?_
      refine x_getR E dX9_readsChange_38 F_RX9_53 sh_60 rf_60_45 41 rfl ?_
      refine x_aload_n 42 rfl 0 dX9_readsChange_41 rfl rfl ?_
      refine x_getI E dX9_readsChange_42 F_RX9_274 sh_60 45 rfl ?_
      refine x_iconst 46 rfl (v := 1) dX9_readsChange_45 (by decide) ?_
      refine x_isub 47 rfl dX9_readsChange_46 ?_
      obtain ⟨hz, h⟩ := x_ifn h
      refine x_iald E dX9_readsChange_47 sh_71 _ rfl hz 48 rfl ?_
      refine x_iconst 49 rfl (v := 1) dX9_readsChange_48 (by decide) ?_
      refine x_iadd 50 rfl dX9_readsChange_49 ?_
      exact x_wk (x_le_s (x_le_s (x_le_n (x_le_n x_le_0)))) (j_Mo_readsChange_60_J50 E _ _ _ h)
    · replace h := x_ifT hc h
      refine x_iconst 34 rfl (v := 1) dX9_readsChange_33 (by decide) ?_
      refine x_goto 50 dX9_readsChange_34 (by decide) ?_
      exact x_wk (x_le_s (x_le_s (x_le_n (x_le_n x_le_0)))) (j_Mo_readsChange_60_J50 E _ _ _ h)
  · replace h := x_ifT hc h
    cases h
    exact x_vret dX9_readsChange_21 rfl rfl rfl
set_option maxHeartbeats 4000000 in
set_option maxRecDepth 100000 in
theorem c_Mo_readsChange_60 {l : Launch} {s0 : State} {a0 : Array Value} {D : va_G} {cA : Nat → ClassId} {sp : Nat → Nat} (E : x_En CL l s0 a0 D cA sp) (v1 : Int32) {σ : xS} {r : Unit} {σ1 : xS} (h : f_Mo_readsChange_60 v1 σ = some (r, σ1)) : zC l s0 D cA sp 3 M_Mo_readsChange [.ref 60, .int v1] σ none σ1 := by
  unfold f_Mo_readsChange_60 at h
  try dsimp only at h
  refine x_enter [some (.ref 60), some (.int v1), none, none] rfl (Nat.le_of_ble_eq_true rfl) (by decide +kernel) rfl ?_
  refine x_aload_n 1 rfl 0 dX9_readsChange_0 rfl rfl ?_
  refine x_getI E dX9_readsChange_1 F_RX9_274 sh_60 4 rfl ?_
  refine x_bipush 6 rfl (v := 6) dX9_readsChange_4 (by decide) ?_
  refine x_icmp_ne 9 rfl 14 dX9_readsChange_6 (by decide) (fun hc => ?_) (fun hc => ?_)
  · replace h := x_ifF hc h
    exact x_wk (x_le_s (x_le_s (x_le_n (x_le_n x_le_0)))) (j_Mo_readsChange_60_J14 E _ _ h)
  · replace h := x_ifT hc h
    refine x_aload_n 10 rfl 0 dX9_readsChange_9 rfl rfl ?_
    refine x_iconst 11 rfl (v := 2) dX9_readsChange_10 (by decide) ?_
    obtain ⟨⟨q9r, q9s⟩, q9h, h⟩ := x_bind h
    try dsimp only at h
    refine z_callV E [.int _] [] dX9_readsChange_11 K_RX9_198 ⟨Nat.le_of_ble_eq_true rfl, Nat.le_of_ble_eq_true rfl⟩ sh_60 (by decide) rfl (c_Mo_wrong_60 E _ q9h) rfl rfl (Nat.le_of_ble_eq_true rfl) 14 rfl [] rfl ?_
    exact x_wk (x_le_s (x_le_s (x_le_n (x_le_n x_le_0)))) (j_Mo_readsChange_60_J14 E _ _ h)
