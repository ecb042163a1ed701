theorem wd_314 : Cond.fieldLink RJ0 38 "java/lang/String" "COMPACT_STRINGS" "Z" ∈ hw_tbl := hw_sub (List.mem_of_getElem? (i := 431) (by decide +kernel)) rfl
theorem wd_1590 : Cond.fieldLink RJ0 15 "java/lang/String" "coder" "B" ∈ hw_tbl := hw_sub (List.mem_of_getElem? (i := 1707) (by decide +kernel)) rfl
theorem wd_323 : Cond.code yJ0_coder_7d493 cJ0_coder_7d493 1 (some .byte) ∈ hw_tbl := hw_sub (List.mem_of_getElem? (i := 440) (by decide +kernel)) rfl
theorem wd_321 : Cond.instanceMethod yJ0_coder_7d493 ∈ hw_tbl := hw_sub (List.mem_of_getElem? (i := 438) (by decide +kernel)) rfl
theorem wd_9 : Cond.initialized RJ0 ∈ hw_tbl := hw_sub (List.mem_of_getElem? (i := 126) (by decide +kernel)) rfl
theorem wd_322 : Cond.selects RJ0 yJ0_coder_7d493 yJ0_coder_7d493 ∈ hw_tbl := hw_sub (List.mem_of_getElem? (i := 439) (by decide +kernel)) rfl
theorem wd_313 : Cond.code yJ0_isLatin1_aae02 cJ0_isLatin1_aae02 1 (some .boolean) ∈ hw_tbl := hw_sub (List.mem_of_getElem? (i := 430) (by decide +kernel)) rfl
theorem wd_311 : Cond.instanceMethod yJ0_isLatin1_aae02 ∈ hw_tbl := hw_sub (List.mem_of_getElem? (i := 428) (by decide +kernel)) rfl
theorem wd_312 : Cond.selects RJ0 yJ0_isLatin1_aae02 yJ0_isLatin1_aae02 ∈ hw_tbl := hw_sub (List.mem_of_getElem? (i := 429) (by decide +kernel)) rfl
theorem wd_1591 : Cond.fieldLink RJ0 9 "java/lang/String" "value" "[B" ∈ hw_tbl := hw_sub (List.mem_of_getElem? (i := 1708) (by decide +kernel)) rfl
theorem wd_320 : Cond.methodLink RJ0 335 yJ0_coder_7d493 ∈ hw_tbl := hw_sub (List.mem_of_getElem? (i := 437) (by decide +kernel)) rfl
theorem wd_319 : Cond.code yJ0_length_8abf5 cJ0_length_8abf5 1 (some .int) ∈ hw_tbl := hw_sub (List.mem_of_getElem? (i := 436) (by decide +kernel)) rfl
theorem wd_317 : Cond.instanceMethod yJ0_length_8abf5 ∈ hw_tbl := hw_sub (List.mem_of_getElem? (i := 434) (by decide +kernel)) rfl
theorem wd_318 : Cond.selects RJ0 yJ0_length_8abf5 yJ0_length_8abf5 ∈ hw_tbl := hw_sub (List.mem_of_getElem? (i := 435) (by decide +kernel)) rfl
theorem wd_329 : Cond.code yJ1_canEncode_9a6ad cJ1_canEncode_9a6ad 1 (some .boolean) ∈ hw_tbl := hw_sub (List.mem_of_getElem? (i := 446) (by decide +kernel)) rfl
theorem wd_328 : Cond.static yJ1_canEncode_9a6ad ∈ hw_tbl := hw_sub (List.mem_of_getElem? (i := 445) (by decide +kernel)) rfl
theorem wd_10 : Cond.initialized RJ1 ∈ hw_tbl := hw_sub (List.mem_of_getElem? (i := 127) (by decide +kernel)) rfl
theorem wd_511 : Cond.code yJ3_checkIndex_8e157 cJ3_checkIndex_8e157 3 (some .int) ∈ hw_tbl := hw_sub (List.mem_of_getElem? (i := 628) (by decide +kernel)) rfl
theorem wd_510 : Cond.static yJ3_checkIndex_8e157 ∈ hw_tbl := hw_sub (List.mem_of_getElem? (i := 627) (by decide +kernel)) rfl
theorem wd_12 : Cond.initialized RJ3 ∈ hw_tbl := hw_sub (List.mem_of_getElem? (i := 129) (by decide +kernel)) rfl
theorem wd_353 : Cond.fieldLink RJ0 1053 "jdk/internal/util/Preconditions" "SIOOBE_FORMATTER" "Ljava/util/function/BiFunction;" ∈ hw_tbl := hw_sub (List.mem_of_getElem? (i := 470) (by decide +kernel)) rfl
theorem wd_509 : Cond.methodLink RJ0 1059 yJ3_checkIndex_8e157 ∈ hw_tbl := hw_sub (List.mem_of_getElem? (i := 626) (by decide +kernel)) rfl
theorem wd_508 : Cond.code yJ0_checkIndex_df160 cJ0_checkIndex_df160 2 none ∈ hw_tbl := hw_sub (List.mem_of_getElem? (i := 625) (by decide +kernel)) rfl
theorem wd_507 : Cond.static yJ0_checkIndex_df160 ∈ hw_tbl := hw_sub (List.mem_of_getElem? (i := 624) (by decide +kernel)) rfl
theorem wd_506 : Cond.methodLink RJ1 9 yJ0_checkIndex_df160 ∈ hw_tbl := hw_sub (List.mem_of_getElem? (i := 623) (by decide +kernel)) rfl
theorem wd_505 : Cond.code yJ1_charAt_3b067 cJ1_charAt_3b067 2 (some .char) ∈ hw_tbl := hw_sub (List.mem_of_getElem? (i := 622) (by decide +kernel)) rfl
theorem wd_504 : Cond.static yJ1_charAt_3b067 ∈ hw_tbl := hw_sub (List.mem_of_getElem? (i := 621) (by decide +kernel)) rfl
theorem wd_310 : Cond.methodLink RJ0 492 yJ0_isLatin1_aae02 ∈ hw_tbl := hw_sub (List.mem_of_getElem? (i := 427) (by decide +kernel)) rfl
theorem wd_503 : Cond.methodLink RJ0 495 yJ1_charAt_3b067 ∈ hw_tbl := hw_sub (List.mem_of_getElem? (i := 620) (by decide +kernel)) rfl
theorem wd_502 : Cond.code yJ0_charAt_5068e cJ0_charAt_5068e 2 (some .char) ∈ hw_tbl := hw_sub (List.mem_of_getElem? (i := 619) (by decide +kernel)) rfl
theorem wd_500 : Cond.instanceMethod yJ0_charAt_5068e ∈ hw_tbl := hw_sub (List.mem_of_getElem? (i := 617) (by decide +kernel)) rfl
theorem wd_501 : Cond.selects RJ0 yJ0_charAt_5068e yJ0_charAt_5068e ∈ hw_tbl := hw_sub (List.mem_of_getElem? (i := 618) (by decide +kernel)) rfl
theorem wd_334 : Cond.code yJ1_indexOfChar_4cfef cJ1_indexOfChar_4cfef 6 (some .int) ∈ hw_tbl := hw_sub (List.mem_of_getElem? (i := 451) (by decide +kernel)) rfl
theorem wd_333 : Cond.static yJ1_indexOfChar_4cfef ∈ hw_tbl := hw_sub (List.mem_of_getElem? (i := 450) (by decide +kernel)) rfl
theorem wd_327 : Cond.methodLink RJ1 88 yJ1_canEncode_9a6ad ∈ hw_tbl := hw_sub (List.mem_of_getElem? (i := 444) (by decide +kernel)) rfl
theorem wd_330 : Cond.methodLink RJ1 92 Lib.Math.max.name ∈ hw_tbl := hw_sub (List.mem_of_getElem? (i := 447) (by decide +kernel)) rfl
theorem wd_163 : Cond.static Lib.Math.max.name ∈ hw_tbl := hw_sub (List.mem_of_getElem? (i := 280) (by decide +kernel)) rfl
theorem wd_6 : Cond.initialized "java/lang/Math" ∈ hw_tbl := hw_sub (List.mem_of_getElem? (i := 123) (by decide +kernel)) rfl
theorem wd_164 : Cond.code Lib.Math.max.name Lib.Math.max.code 2 (some .int) ∈ hw_tbl := hw_sub (List.mem_of_getElem? (i := 281) (by decide +kernel)) rfl
theorem wd_331 : Cond.methodLink RJ1 38 Lib.Math.min.name ∈ hw_tbl := hw_sub (List.mem_of_getElem? (i := 448) (by decide +kernel)) rfl
theorem wd_160 : Cond.static Lib.Math.min.name ∈ hw_tbl := hw_sub (List.mem_of_getElem? (i := 277) (by decide +kernel)) rfl
theorem wd_161 : Cond.code Lib.Math.min.name Lib.Math.min.code 2 (some .int) ∈ hw_tbl := hw_sub (List.mem_of_getElem? (i := 278) (by decide +kernel)) rfl
theorem wd_332 : Cond.methodLink RJ1 95 yJ1_indexOfChar_4cfef ∈ hw_tbl := hw_sub (List.mem_of_getElem? (i := 449) (by decide +kernel)) rfl
theorem wd_326 : Cond.code yJ1_indexOf_4cfef cJ1_indexOf_4cfef 4 (some .int) ∈ hw_tbl := hw_sub (List.mem_of_getElem? (i := 443) (by decide +kernel)) rfl
theorem wd_325 : Cond.static yJ1_indexOf_4cfef ∈ hw_tbl := hw_sub (List.mem_of_getElem? (i := 442) (by decide +kernel)) rfl
theorem wd_316 : Cond.methodLink RJ0 505 yJ0_length_8abf5 ∈ hw_tbl := hw_sub (List.mem_of_getElem? (i := 433) (by decide +kernel)) rfl
theorem wd_324 : Cond.methodLink RJ0 637 yJ1_indexOf_4cfef ∈ hw_tbl := hw_sub (List.mem_of_getElem? (i := 441) (by decide +kernel)) rfl
theorem wd_309 : Cond.code yJ0_indexOf_7cf53 cJ0_indexOf_7cf53 3 (some .int) ∈ hw_tbl := hw_sub (List.mem_of_getElem? (i := 426) (by decide +kernel)) rfl
theorem wd_307 : Cond.instanceMethod yJ0_indexOf_7cf53 ∈ hw_tbl := hw_sub (List.mem_of_getElem? (i := 424) (by decide +kernel)) rfl
theorem wd_308 : Cond.selects RJ0 yJ0_indexOf_7cf53 yJ0_indexOf_7cf53 ∈ hw_tbl := hw_sub (List.mem_of_getElem? (i := 425) (by decide +kernel)) rfl
theorem wd_306 : Cond.methodLink RJ0 633 yJ0_indexOf_7cf53 ∈ hw_tbl := hw_sub (List.mem_of_getElem? (i := 423) (by decide +kernel)) rfl
theorem wd_305 : Cond.code yJ0_indexOf_0f7a4 cJ0_indexOf_0f7a4 2 (some .int) ∈ hw_tbl := hw_sub (List.mem_of_getElem? (i := 422) (by decide +kernel)) rfl
theorem wd_303 : Cond.instanceMethod yJ0_indexOf_0f7a4 ∈ hw_tbl := hw_sub (List.mem_of_getElem? (i := 420) (by decide +kernel)) rfl
theorem wd_304 : Cond.selects RJ0 yJ0_indexOf_0f7a4 yJ0_indexOf_0f7a4 ∈ hw_tbl := hw_sub (List.mem_of_getElem? (i := 421) (by decide +kernel)) rfl
theorem wd_768 : Cond.code yJ7_fill_53178 cJ7_fill_53178 4 none ∈ hw_tbl := hw_sub (List.mem_of_getElem? (i := 885) (by decide +kernel)) rfl
theorem wd_767 : Cond.static yJ7_fill_53178 ∈ hw_tbl := hw_sub (List.mem_of_getElem? (i := 884) (by decide +kernel)) rfl
theorem wd_16 : Cond.initialized RJ7 ∈ hw_tbl := hw_sub (List.mem_of_getElem? (i := 133) (by decide +kernel)) rfl
theorem wd_36 : Cond.fieldLink RX6 19 RX6 "place" "I" ∈ hw_tbl := hw_sub (List.mem_of_getElem? (i := 153) (by decide +kernel)) rfl
theorem wd_37 : Cond.fieldLink RX6 22 RX6 "fault" "I" ∈ hw_tbl := hw_sub (List.mem_of_getElem? (i := 154) (by decide +kernel)) rfl
theorem wd_283 : Cond.code yX6_rewind cX6_rewind 1 none ∈ hw_tbl := hw_sub (List.mem_of_getElem? (i := 400) (by decide +kernel)) rfl
theorem wd_281 : Cond.instanceMethod yX6_rewind ∈ hw_tbl := hw_sub (List.mem_of_getElem? (i := 398) (by decide +kernel)) rfl
theorem wd_2 : Cond.initialized RX6 ∈ hw_tbl := hw_sub (List.mem_of_getElem? (i := 119) (by decide +kernel)) rfl
theorem wd_282 : Cond.selects RX6 yX6_rewind yX6_rewind ∈ hw_tbl := hw_sub (List.mem_of_getElem? (i := 399) (by decide +kernel)) rfl
theorem wd_34 : Cond.fieldLink RX6 15 RX6 "length" "I" ∈ hw_tbl := hw_sub (List.mem_of_getElem? (i := 151) (by decide +kernel)) rfl
theorem wd_33 : Cond.fieldLink RX6 11 RX6 "bytes" "[B" ∈ hw_tbl := hw_sub (List.mem_of_getElem? (i := 150) (by decide +kernel)) rfl
theorem wd_295 : Cond.code yX6_byteAt cX6_byteAt 2 (some .int) ∈ hw_tbl := hw_sub (List.mem_of_getElem? (i := 412) (by decide +kernel)) rfl
theorem wd_293 : Cond.instanceMethod yX6_byteAt ∈ hw_tbl := hw_sub (List.mem_of_getElem? (i := 410) (by decide +kernel)) rfl
theorem wd_294 : Cond.selects RX6 yX6_byteAt yX6_byteAt ∈ hw_tbl := hw_sub (List.mem_of_getElem? (i := 411) (by decide +kernel)) rfl
theorem wd_292 : Cond.methodLink RX6 25 yX6_byteAt ∈ hw_tbl := hw_sub (List.mem_of_getElem? (i := 409) (by decide +kernel)) rfl
theorem wd_291 : Cond.code yX6_nextPlace cX6_nextPlace 1 (some .int) ∈ hw_tbl := hw_sub (List.mem_of_getElem? (i := 408) (by decide +kernel)) rfl
theorem wd_289 : Cond.instanceMethod yX6_nextPlace ∈ hw_tbl := hw_sub (List.mem_of_getElem? (i := 406) (by decide +kernel)) rfl
theorem wd_290 : Cond.selects RX6 yX6_nextPlace yX6_nextPlace ∈ hw_tbl := hw_sub (List.mem_of_getElem? (i := 407) (by decide +kernel)) rfl
theorem wd_387 : Cond.code yX6_blame cX6_blame 3 none ∈ hw_tbl := hw_sub (List.mem_of_getElem? (i := 504) (by decide +kernel)) rfl
theorem wd_385 : Cond.instanceMethod yX6_blame ∈ hw_tbl := hw_sub (List.mem_of_getElem? (i := 502) (by decide +kernel)) rfl
theorem wd_386 : Cond.selects RX6 yX6_blame yX6_blame ∈ hw_tbl := hw_sub (List.mem_of_getElem? (i := 503) (by decide +kernel)) rfl
theorem wd_301 : Cond.methodLink RX6 29 yX6_nextPlace ∈ hw_tbl := hw_sub (List.mem_of_getElem? (i := 418) (by decide +kernel)) rfl
theorem wd_302 : Cond.methodLink RX6 33 yJ0_indexOf_0f7a4 ∈ hw_tbl := hw_sub (List.mem_of_getElem? (i := 419) (by decide +kernel)) rfl
theorem wd_384 : Cond.methodLink RX6 38 yX6_blame ∈ hw_tbl := hw_sub (List.mem_of_getElem? (i := 501) (by decide +kernel)) rfl
theorem wd_300 : Cond.code yX6_take cX6_take 4 (some .int) ∈ hw_tbl := hw_sub (List.mem_of_getElem? (i := 417) (by decide +kernel)) rfl
theorem wd_298 : Cond.instanceMethod yX6_take ∈ hw_tbl := hw_sub (List.mem_of_getElem? (i := 415) (by decide +kernel)) rfl
theorem wd_299 : Cond.selects RX6 yX6_take yX6_take ∈ hw_tbl := hw_sub (List.mem_of_getElem? (i := 416) (by decide +kernel)) rfl
theorem wd_401 : Cond.code yX6_isOver cX6_isOver 1 (some .boolean) ∈ hw_tbl := hw_sub (List.mem_of_getElem? (i := 518) (by decide +kernel)) rfl
theorem wd_399 : Cond.instanceMethod yX6_isOver ∈ hw_tbl := hw_sub (List.mem_of_getElem? (i := 516) (by decide +kernel)) rfl
theorem wd_400 : Cond.selects RX6 yX6_isOver yX6_isOver ∈ hw_tbl := hw_sub (List.mem_of_getElem? (i := 517) (by decide +kernel)) rfl
theorem wd_498 : Cond.methodLink RX6 42 yJ0_length_8abf5 ∈ hw_tbl := hw_sub (List.mem_of_getElem? (i := 615) (by decide +kernel)) rfl
theorem wd_499 : Cond.methodLink RX6 44 yJ0_charAt_5068e ∈ hw_tbl := hw_sub (List.mem_of_getElem? (i := 616) (by decide +kernel)) rfl
theorem wd_497 : Cond.code yX6_takeWord cX6_takeWord 5 (some .boolean) ∈ hw_tbl := hw_sub (List.mem_of_getElem? (i := 614) (by decide +kernel)) rfl
theorem wd_495 : Cond.instanceMethod yX6_takeWord ∈ hw_tbl := hw_sub (List.mem_of_getElem? (i := 612) (by decide +kernel)) rfl
theorem wd_496 : Cond.selects RX6 yX6_takeWord yX6_takeWord ∈ hw_tbl := hw_sub (List.mem_of_getElem? (i := 613) (by decide +kernel)) rfl
theorem wd_32 : Cond.methodLink RX6 3 Lib.objectInit ∈ hw_tbl := hw_sub (List.mem_of_getElem? (i := 149) (by decide +kernel)) rfl
theorem wd_25 : Cond.instanceMethod Lib.objectInit ∈ hw_tbl := hw_sub (List.mem_of_getElem? (i := 142) (by decide +kernel)) rfl
theorem wd_26 : Cond.code Lib.objectInit ⟨#[0xb1]⟩ 1 none ∈ hw_tbl := hw_sub (List.mem_of_getElem? (i := 143) (by decide +kernel)) rfl
theorem wd_48 : Cond.arrayClass .byte ∈ hw_tbl := hw_sub (List.mem_of_getElem? (i := 165) (by decide +kernel)) rfl
theorem wd_31 : Cond.code yX6_init cX6_init 1 none ∈ hw_tbl := hw_sub (List.mem_of_getElem? (i := 148) (by decide +kernel)) rfl
theorem wd_30 : Cond.instanceMethod yX6_init ∈ hw_tbl := hw_sub (List.mem_of_getElem? (i := 147) (by decide +kernel)) rfl
theorem wd_232 : Cond.code yX6_append cX6_append 3 none ∈ hw_tbl := hw_sub (List.mem_of_getElem? (i := 349) (by decide +kernel)) rfl
theorem wd_230 : Cond.instanceMethod yX6_append ∈ hw_tbl := hw_sub (List.mem_of_getElem? (i := 347) (by decide +kernel)) rfl
theorem wd_231 : Cond.selects RX6 yX6_append yX6_append ∈ hw_tbl := hw_sub (List.mem_of_getElem? (i := 348) (by decide +kernel)) rfl
theorem wd_245 : Cond.methodLink RX1 3 Lib.objectInit ∈ hw_tbl := hw_sub (List.mem_of_getElem? (i := 362) (by decide +kernel)) rfl
theorem wd_246 : Cond.fieldLink RX1 9 RX1 "rules" "I" ∈ hw_tbl := hw_sub (List.mem_of_getElem? (i := 363) (by decide +kernel)) rfl
theorem wd_248 : Cond.fieldLink RX1 15 RX1 "pair" "Z" ∈ hw_tbl := hw_sub (List.mem_of_getElem? (i := 365) (by decide +kernel)) rfl
theorem wd_106 : Cond.arrayClass .int ∈ hw_tbl := hw_sub (List.mem_of_getElem? (i := 223) (by decide +kernel)) rfl
theorem wd_250 : Cond.fieldLink RX1 19 RX1 "form" "[I" ∈ hw_tbl := hw_sub (List.mem_of_getElem? (i := 367) (by decide +kernel)) rfl
theorem wd_251 : Cond.fieldLink RX1 23 RX1 "from" "[I" ∈ hw_tbl := hw_sub (List.mem_of_getElem? (i := 368) (by decide +kernel)) rfl
theorem wd_252 : Cond.fieldLink RX1 26 RX1 "written" "[I" ∈ hw_tbl := hw_sub (List.mem_of_getElem? (i := 369) (by decide +kernel)) rfl
theorem wd_253 : Cond.fieldLink RX1 29 RX1 "becomes" "[I" ∈ hw_tbl := hw_sub (List.mem_of_getElem? (i := 370) (by decide +kernel)) rfl
theorem wd_254 : Cond.fieldLink RX1 32 RX1 "told" "[I" ∈ hw_tbl := hw_sub (List.mem_of_getElem? (i := 371) (by decide +kernel)) rfl
theorem wd_255 : Cond.fieldLink RX1 35 RX1 "outcome" "[I" ∈ hw_tbl := hw_sub (List.mem_of_getElem? (i := 372) (by decide +kernel)) rfl
theorem wd_256 : Cond.fieldLink RX1 38 RX1 "settled" "[I" ∈ hw_tbl := hw_sub (List.mem_of_getElem? (i := 373) (by decide +kernel)) rfl
theorem wd_244 : Cond.code yX1_init cX1_init 1 none ∈ hw_tbl := hw_sub (List.mem_of_getElem? (i := 361) (by decide +kernel)) rfl
theorem wd_243 : Cond.instanceMethod yX1_init ∈ hw_tbl := hw_sub (List.mem_of_getElem? (i := 360) (by decide +kernel)) rfl
theorem wd_8 : Cond.initialized RX1 ∈ hw_tbl := hw_sub (List.mem_of_getElem? (i := 125) (by decide +kernel)) rfl
theorem wd_297 : Cond.methodLink RX1 56 yX6_take ∈ hw_tbl := hw_sub (List.mem_of_getElem? (i := 414) (by decide +kernel)) rfl
theorem wd_392 : Cond.code yX1_scanBody cX1_scanBody 5 none ∈ hw_tbl := hw_sub (List.mem_of_getElem? (i := 509) (by decide +kernel)) rfl
theorem wd_391 : Cond.instanceMethod yX1_scanBody ∈ hw_tbl := hw_sub (List.mem_of_getElem? (i := 508) (by decide +kernel)) rfl
theorem ws_3 : Cond.selects RX1 yX1_scanBody yX1_scanBody ∈ hw_tbl := hw_sub (List.mem_of_getElem? (i := 3) (by decide +kernel)) rfl
theorem wd_288 : Cond.methodLink RX1 60 yX6_nextPlace ∈ hw_tbl := hw_sub (List.mem_of_getElem? (i := 405) (by decide +kernel)) rfl
theorem wd_388 : Cond.methodLink RX1 66 yX6_blame ∈ hw_tbl := hw_sub (List.mem_of_getElem? (i := 505) (by decide +kernel)) rfl
theorem wd_389 : Cond.methodLink RX1 70 yX1_scanBody ∈ hw_tbl := hw_sub (List.mem_of_getElem? (i := 506) (by decide +kernel)) rfl
theorem wd_287 : Cond.code yX1_scanRule cX1_scanRule 4 none ∈ hw_tbl := hw_sub (List.mem_of_getElem? (i := 404) (by decide +kernel)) rfl
theorem wd_286 : Cond.instanceMethod yX1_scanRule ∈ hw_tbl := hw_sub (List.mem_of_getElem? (i := 403) (by decide +kernel)) rfl
theorem ws_2 : Cond.selects RX1 yX1_scanRule yX1_scanRule ∈ hw_tbl := hw_sub (List.mem_of_getElem? (i := 2) (by decide +kernel)) rfl
theorem wd_280 : Cond.methodLink RX1 41 yX6_rewind ∈ hw_tbl := hw_sub (List.mem_of_getElem? (i := 397) (by decide +kernel)) rfl
theorem wd_284 : Cond.methodLink RX1 46 yX1_scanRule ∈ hw_tbl := hw_sub (List.mem_of_getElem? (i := 401) (by decide +kernel)) rfl
theorem wd_398 : Cond.methodLink RX1 50 yX6_isOver ∈ hw_tbl := hw_sub (List.mem_of_getElem? (i := 515) (by decide +kernel)) rfl
theorem wd_279 : Cond.code yX1_scan cX1_scan 3 none ∈ hw_tbl := hw_sub (List.mem_of_getElem? (i := 396) (by decide +kernel)) rfl
theorem wd_277 : Cond.instanceMethod yX1_scan ∈ hw_tbl := hw_sub (List.mem_of_getElem? (i := 394) (by decide +kernel)) rfl
theorem wd_278 : Cond.selects RX1 yX1_scan yX1_scan ∈ hw_tbl := hw_sub (List.mem_of_getElem? (i := 395) (by decide +kernel)) rfl
theorem wd_414 : Cond.code yX1_firstRule cX1_firstRule 5 (some .int) ∈ hw_tbl := hw_sub (List.mem_of_getElem? (i := 531) (by decide +kernel)) rfl
theorem wd_413 : Cond.instanceMethod yX1_firstRule ∈ hw_tbl := hw_sub (List.mem_of_getElem? (i := 530) (by decide +kernel)) rfl
theorem ws_5 : Cond.selects RX1 yX1_firstRule yX1_firstRule ∈ hw_tbl := hw_sub (List.mem_of_getElem? (i := 5) (by decide +kernel)) rfl
theorem wd_418 : Cond.code yX1_affected cX1_affected 3 (some .int) ∈ hw_tbl := hw_sub (List.mem_of_getElem? (i := 535) (by decide +kernel)) rfl
theorem wd_417 : Cond.instanceMethod yX1_affected ∈ hw_tbl := hw_sub (List.mem_of_getElem? (i := 534) (by decide +kernel)) rfl
theorem ws_6 : Cond.selects RX1 yX1_affected yX1_affected ∈ hw_tbl := hw_sub (List.mem_of_getElem? (i := 6) (by decide +kernel)) rfl
theorem wd_411 : Cond.methodLink RX1 107 yX1_firstRule ∈ hw_tbl := hw_sub (List.mem_of_getElem? (i := 528) (by decide +kernel)) rfl
theorem wd_415 : Cond.methodLink RX1 110 yX1_affected ∈ hw_tbl := hw_sub (List.mem_of_getElem? (i := 532) (by decide +kernel)) rfl
theorem wd_410 : Cond.code yX1_settle cX1_settle 4 (some .int) ∈ hw_tbl := hw_sub (List.mem_of_getElem? (i := 527) (by decide +kernel)) rfl
theorem wd_409 : Cond.instanceMethod yX1_settle ∈ hw_tbl := hw_sub (List.mem_of_getElem? (i := 526) (by decide +kernel)) rfl
theorem ws_4 : Cond.selects RX1 yX1_settle yX1_settle ∈ hw_tbl := hw_sub (List.mem_of_getElem? (i := 4) (by decide +kernel)) rfl
theorem wd_407 : Cond.methodLink RX1 84 yX1_settle ∈ hw_tbl := hw_sub (List.mem_of_getElem? (i := 524) (by decide +kernel)) rfl
theorem wd_430 : Cond.code yX1_readOne cX1_readOne 6 (some .int) ∈ hw_tbl := hw_sub (List.mem_of_getElem? (i := 547) (by decide +kernel)) rfl
theorem wd_429 : Cond.instanceMethod yX1_readOne ∈ hw_tbl := hw_sub (List.mem_of_getElem? (i := 546) (by decide +kernel)) rfl
theorem ws_9 : Cond.selects RX1 yX1_readOne yX1_readOne ∈ hw_tbl := hw_sub (List.mem_of_getElem? (i := 9) (by decide +kernel)) rfl
theorem wd_434 : Cond.code yX1_writeOne cX1_writeOne 7 (some .int) ∈ hw_tbl := hw_sub (List.mem_of_getElem? (i := 551) (by decide +kernel)) rfl
theorem wd_433 : Cond.instanceMethod yX1_writeOne ∈ hw_tbl := hw_sub (List.mem_of_getElem? (i := 550) (by decide +kernel)) rfl
theorem ws_10 : Cond.selects RX1 yX1_writeOne yX1_writeOne ∈ hw_tbl := hw_sub (List.mem_of_getElem? (i := 10) (by decide +kernel)) rfl
theorem wd_431 : Cond.methodLink RX1 104 yX1_writeOne ∈ hw_tbl := hw_sub (List.mem_of_getElem? (i := 548) (by decide +kernel)) rfl
theorem wd_427 : Cond.methodLink RX1 101 yX1_readOne ∈ hw_tbl := hw_sub (List.mem_of_getElem? (i := 544) (by decide +kernel)) rfl
theorem wd_426 : Cond.code yX1_operateOne cX1_operateOne 4 (some .int) ∈ hw_tbl := hw_sub (List.mem_of_getElem? (i := 543) (by decide +kernel)) rfl
theorem wd_425 : Cond.instanceMethod yX1_operateOne ∈ hw_tbl := hw_sub (List.mem_of_getElem? (i := 542) (by decide +kernel)) rfl
theorem ws_8 : Cond.selects RX1 yX1_operateOne yX1_operateOne ∈ hw_tbl := hw_sub (List.mem_of_getElem? (i := 8) (by decide +kernel)) rfl
theorem wd_423 : Cond.methodLink RX1 98 yX1_operateOne ∈ hw_tbl := hw_sub (List.mem_of_getElem? (i := 540) (by decide +kernel)) rfl
theorem wd_422 : Cond.code yX1_operate cX1_operate 8 (some .int) ∈ hw_tbl := hw_sub (List.mem_of_getElem? (i := 539) (by decide +kernel)) rfl
theorem wd_421 : Cond.instanceMethod yX1_operate ∈ hw_tbl := hw_sub (List.mem_of_getElem? (i := 538) (by decide +kernel)) rfl
theorem ws_7 : Cond.selects RX1 yX1_operate yX1_operate ∈ hw_tbl := hw_sub (List.mem_of_getElem? (i := 7) (by decide +kernel)) rfl
theorem wd_419 : Cond.methodLink RX1 88 yX1_operate ∈ hw_tbl := hw_sub (List.mem_of_getElem? (i := 536) (by decide +kernel)) rfl
theorem wd_406 : Cond.code yX1_prepare cX1_prepare 3 none ∈ hw_tbl := hw_sub (List.mem_of_getElem? (i := 523) (by decide +kernel)) rfl
theorem wd_404 : Cond.instanceMethod yX1_prepare ∈ hw_tbl := hw_sub (List.mem_of_getElem? (i := 521) (by decide +kernel)) rfl
theorem wd_405 : Cond.selects RX1 yX1_prepare yX1_prepare ∈ hw_tbl := hw_sub (List.mem_of_getElem? (i := 522) (by decide +kernel)) rfl
theorem wd_621 : Cond.code yX1_outcomeOf cX1_outcomeOf 5 (some .int) ∈ hw_tbl := hw_sub (List.mem_of_getElem? (i := 738) (by decide +kernel)) rfl
theorem wd_619 : Cond.instanceMethod yX1_outcomeOf ∈ hw_tbl := hw_sub (List.mem_of_getElem? (i := 736) (by decide +kernel)) rfl
theorem wd_620 : Cond.selects RX1 yX1_outcomeOf yX1_outcomeOf ∈ hw_tbl := hw_sub (List.mem_of_getElem? (i := 737) (by decide +kernel)) rfl
theorem wd_180 : Cond.code yX1_settledFrom cX1_settledFrom 2 (some .int) ∈ hw_tbl := hw_sub (List.mem_of_getElem? (i := 297) (by decide +kernel)) rfl
theorem wd_178 : Cond.instanceMethod yX1_settledFrom ∈ hw_tbl := hw_sub (List.mem_of_getElem? (i := 295) (by decide +kernel)) rfl
theorem wd_179 : Cond.selects RX1 yX1_settledFrom yX1_settledFrom ∈ hw_tbl := hw_sub (List.mem_of_getElem? (i := 296) (by decide +kernel)) rfl
theorem wd_544 : Cond.code yX1_placements cX1_placements 2 (some .int) ∈ hw_tbl := hw_sub (List.mem_of_getElem? (i := 661) (by decide +kernel)) rfl
theorem wd_542 : Cond.instanceMethod yX1_placements ∈ hw_tbl := hw_sub (List.mem_of_getElem? (i := 659) (by decide +kernel)) rfl
theorem wd_543 : Cond.selects RX1 yX1_placements yX1_placements ∈ hw_tbl := hw_sub (List.mem_of_getElem? (i := 660) (by decide +kernel)) rfl
theorem wd_634 : Cond.methodLink RX1 92 Lib.Math.max.name ∈ hw_tbl := hw_sub (List.mem_of_getElem? (i := 751) (by decide +kernel)) rfl
theorem wd_633 : Cond.code yX1_aggressorOf cX1_aggressorOf 3 (some .int) ∈ hw_tbl := hw_sub (List.mem_of_getElem? (i := 750) (by decide +kernel)) rfl
theorem wd_631 : Cond.instanceMethod yX1_aggressorOf ∈ hw_tbl := hw_sub (List.mem_of_getElem? (i := 748) (by decide +kernel)) rfl
theorem wd_632 : Cond.selects RX1 yX1_aggressorOf yX1_aggressorOf ∈ hw_tbl := hw_sub (List.mem_of_getElem? (i := 749) (by decide +kernel)) rfl
theorem wd_638 : Cond.code yX1_victimOf cX1_victimOf 5 (some .int) ∈ hw_tbl := hw_sub (List.mem_of_getElem? (i := 755) (by decide +kernel)) rfl
theorem wd_636 : Cond.instanceMethod yX1_victimOf ∈ hw_tbl := hw_sub (List.mem_of_getElem? (i := 753) (by decide +kernel)) rfl
theorem wd_637 : Cond.selects RX1 yX1_victimOf yX1_victimOf ∈ hw_tbl := hw_sub (List.mem_of_getElem? (i := 754) (by decide +kernel)) rfl
theorem wd_443 : Cond.methodLink RX2 3 Lib.objectInit ∈ hw_tbl := hw_sub (List.mem_of_getElem? (i := 560) (by decide +kernel)) rfl
theorem wd_444 : Cond.fieldLink RX2 9 RX2 "elements" "I" ∈ hw_tbl := hw_sub (List.mem_of_getElem? (i := 561) (by decide +kernel)) rfl
theorem wd_448 : Cond.fieldLink RX2 15 RX2 "opTotal" "I" ∈ hw_tbl := hw_sub (List.mem_of_getElem? (i := 565) (by decide +kernel)) rfl
theorem wd_450 : Cond.fieldLink RX2 18 RX2 "readTotal" "I" ∈ hw_tbl := hw_sub (List.mem_of_getElem? (i := 567) (by decide +kernel)) rfl
theorem wd_452 : Cond.fieldLink RX2 21 RX2 "anys" "I" ∈ hw_tbl := hw_sub (List.mem_of_getElem? (i := 569) (by decide +kernel)) rfl
theorem wd_454 : Cond.fieldLink RX2 24 RX2 "sound" "I" ∈ hw_tbl := hw_sub (List.mem_of_getElem? (i := 571) (by decide +kernel)) rfl
theorem wd_456 : Cond.fieldLink RX2 27 RX2 "ways" "[I" ∈ hw_tbl := hw_sub (List.mem_of_getElem? (i := 573) (by decide +kernel)) rfl
theorem wd_457 : Cond.fieldLink RX2 31 RX2 "opCounts" "[I" ∈ hw_tbl := hw_sub (List.mem_of_getElem? (i := 574) (by decide +kernel)) rfl
theorem wd_458 : Cond.fieldLink RX2 34 RX2 "readCounts" "[I" ∈ hw_tbl := hw_sub (List.mem_of_getElem? (i := 575) (by decide +kernel)) rfl
theorem wd_459 : Cond.fieldLink RX2 37 RX2 "ops" "[I" ∈ hw_tbl := hw_sub (List.mem_of_getElem? (i := 576) (by decide +kernel)) rfl
theorem wd_442 : Cond.code yX2_init cX2_init 1 none ∈ hw_tbl := hw_sub (List.mem_of_getElem? (i := 559) (by decide +kernel)) rfl
theorem wd_441 : Cond.instanceMethod yX2_init ∈ hw_tbl := hw_sub (List.mem_of_getElem? (i := 558) (by decide +kernel)) rfl
theorem wd_14 : Cond.initialized RX2 ∈ hw_tbl := hw_sub (List.mem_of_getElem? (i := 131) (by decide +kernel)) rfl
theorem wd_494 : Cond.methodLink RX2 80 yX6_takeWord ∈ hw_tbl := hw_sub (List.mem_of_getElem? (i := 611) (by decide +kernel)) rfl
theorem wd_492 : Cond.code yX2_scanWay cX2_scanWay 2 (some .int) ∈ hw_tbl := hw_sub (List.mem_of_getElem? (i := 609) (by decide +kernel)) rfl
theorem wd_491 : Cond.instanceMethod yX2_scanWay ∈ hw_tbl := hw_sub (List.mem_of_getElem? (i := 608) (by decide +kernel)) rfl
theorem ws_12 : Cond.selects RX2 yX2_scanWay yX2_scanWay ∈ hw_tbl := hw_sub (List.mem_of_getElem? (i := 12) (by decide +kernel)) rfl
theorem wd_488 : Cond.methodLink RX2 59 yX6_nextPlace ∈ hw_tbl := hw_sub (List.mem_of_getElem? (i := 605) (by decide +kernel)) rfl
theorem wd_523 : Cond.methodLink RX2 55 yX6_take ∈ hw_tbl := hw_sub (List.mem_of_getElem? (i := 640) (by decide +kernel)) rfl
theorem wd_521 : Cond.methodLink RX2 67 yX6_blame ∈ hw_tbl := hw_sub (List.mem_of_getElem? (i := 638) (by decide +kernel)) rfl
theorem wd_527 : Cond.code yX2_scanOp cX2_scanOp 6 none ∈ hw_tbl := hw_sub (List.mem_of_getElem? (i := 644) (by decide +kernel)) rfl
theorem wd_526 : Cond.instanceMethod yX2_scanOp ∈ hw_tbl := hw_sub (List.mem_of_getElem? (i := 643) (by decide +kernel)) rfl
theorem ws_13 : Cond.selects RX2 yX2_scanOp yX2_scanOp ∈ hw_tbl := hw_sub (List.mem_of_getElem? (i := 13) (by decide +kernel)) rfl
theorem wd_489 : Cond.methodLink RX2 63 yX2_scanWay ∈ hw_tbl := hw_sub (List.mem_of_getElem? (i := 606) (by decide +kernel)) rfl
theorem wd_524 : Cond.methodLink RX2 73 yX2_scanOp ∈ hw_tbl := hw_sub (List.mem_of_getElem? (i := 641) (by decide +kernel)) rfl
theorem wd_487 : Cond.code yX2_scanElement cX2_scanElement 5 none ∈ hw_tbl := hw_sub (List.mem_of_getElem? (i := 604) (by decide +kernel)) rfl
theorem wd_486 : Cond.instanceMethod yX2_scanElement ∈ hw_tbl := hw_sub (List.mem_of_getElem? (i := 603) (by decide +kernel)) rfl
theorem ws_11 : Cond.selects RX2 yX2_scanElement yX2_scanElement ∈ hw_tbl := hw_sub (List.mem_of_getElem? (i := 11) (by decide +kernel)) rfl
theorem wd_483 : Cond.methodLink RX2 40 yX6_rewind ∈ hw_tbl := hw_sub (List.mem_of_getElem? (i := 600) (by decide +kernel)) rfl
theorem wd_484 : Cond.methodLink RX2 45 yX2_scanElement ∈ hw_tbl := hw_sub (List.mem_of_getElem? (i := 601) (by decide +kernel)) rfl
theorem wd_531 : Cond.methodLink RX2 49 yX6_isOver ∈ hw_tbl := hw_sub (List.mem_of_getElem? (i := 648) (by decide +kernel)) rfl
theorem wd_482 : Cond.code yX2_scan cX2_scan 3 none ∈ hw_tbl := hw_sub (List.mem_of_getElem? (i := 599) (by decide +kernel)) rfl
theorem wd_480 : Cond.instanceMethod yX2_scan ∈ hw_tbl := hw_sub (List.mem_of_getElem? (i := 597) (by decide +kernel)) rfl
theorem wd_481 : Cond.selects RX2 yX2_scan yX2_scan ∈ hw_tbl := hw_sub (List.mem_of_getElem? (i := 598) (by decide +kernel)) rfl
theorem wd_560 : Cond.code yX2_wayOf cX2_wayOf 2 (some .int) ∈ hw_tbl := hw_sub (List.mem_of_getElem? (i := 677) (by decide +kernel)) rfl
theorem wd_558 : Cond.instanceMethod yX2_wayOf ∈ hw_tbl := hw_sub (List.mem_of_getElem? (i := 675) (by decide +kernel)) rfl
theorem wd_559 : Cond.selects RX2 yX2_wayOf yX2_wayOf ∈ hw_tbl := hw_sub (List.mem_of_getElem? (i := 676) (by decide +kernel)) rfl
theorem wd_565 : Cond.code yX2_opsOf cX2_opsOf 2 (some .int) ∈ hw_tbl := hw_sub (List.mem_of_getElem? (i := 682) (by decide +kernel)) rfl
theorem wd_563 : Cond.instanceMethod yX2_opsOf ∈ hw_tbl := hw_sub (List.mem_of_getElem? (i := 680) (by decide +kernel)) rfl
theorem wd_564 : Cond.selects RX2 yX2_opsOf yX2_opsOf ∈ hw_tbl := hw_sub (List.mem_of_getElem? (i := 681) (by decide +kernel)) rfl
theorem wd_611 : Cond.code yX2_readsOf cX2_readsOf 2 (some .int) ∈ hw_tbl := hw_sub (List.mem_of_getElem? (i := 728) (by decide +kernel)) rfl
theorem wd_609 : Cond.instanceMethod yX2_readsOf ∈ hw_tbl := hw_sub (List.mem_of_getElem? (i := 726) (by decide +kernel)) rfl
theorem wd_610 : Cond.selects RX2 yX2_readsOf yX2_readsOf ∈ hw_tbl := hw_sub (List.mem_of_getElem? (i := 727) (by decide +kernel)) rfl
theorem wd_569 : Cond.code yX2_opAt cX2_opAt 4 (some .int) ∈ hw_tbl := hw_sub (List.mem_of_getElem? (i := 686) (by decide +kernel)) rfl
theorem wd_567 : Cond.instanceMethod yX2_opAt ∈ hw_tbl := hw_sub (List.mem_of_getElem? (i := 684) (by decide +kernel)) rfl
theorem wd_568 : Cond.selects RX2 yX2_opAt yX2_opAt ∈ hw_tbl := hw_sub (List.mem_of_getElem? (i := 685) (by decide +kernel)) rfl
theorem wd_603 : Cond.methodLink RX2 92 yX2_wayOf ∈ hw_tbl := hw_sub (List.mem_of_getElem? (i := 720) (by decide +kernel)) rfl
theorem wd_602 : Cond.code yX2_isDown cX2_isDown 4 (some .boolean) ∈ hw_tbl := hw_sub (List.mem_of_getElem? (i := 719) (by decide +kernel)) rfl
theorem wd_600 : Cond.instanceMethod yX2_isDown ∈ hw_tbl := hw_sub (List.mem_of_getElem? (i := 717) (by decide +kernel)) rfl
theorem wd_601 : Cond.selects RX2 yX2_isDown yX2_isDown ∈ hw_tbl := hw_sub (List.mem_of_getElem? (i := 718) (by decide +kernel)) rfl
theorem wd_593 : Cond.code yX2_choices cX2_choices 1 (some .int) ∈ hw_tbl := hw_sub (List.mem_of_getElem? (i := 710) (by decide +kernel)) rfl
theorem wd_591 : Cond.instanceMethod yX2_choices ∈ hw_tbl := hw_sub (List.mem_of_getElem? (i := 708) (by decide +kernel)) rfl
theorem wd_592 : Cond.selects RX2 yX2_choices yX2_choices ∈ hw_tbl := hw_sub (List.mem_of_getElem? (i := 709) (by decide +kernel)) rfl
theorem wd_136 : Cond.fieldLink RX7 18 RX7 "failed" "I" ∈ hw_tbl := hw_sub (List.mem_of_getElem? (i := 253) (by decide +kernel)) rfl
theorem wd_141 : Cond.fieldLink RX7 27 RX7 "numbers" "[I" ∈ hw_tbl := hw_sub (List.mem_of_getElem? (i := 258) (by decide +kernel)) rfl
theorem wd_980 : Cond.code yX7_numberAt cX7_numberAt 2 (some .int) ∈ hw_tbl := hw_sub (List.mem_of_getElem? (i := 1097) (by decide +kernel)) rfl
theorem wd_978 : Cond.instanceMethod yX7_numberAt ∈ hw_tbl := hw_sub (List.mem_of_getElem? (i := 1095) (by decide +kernel)) rfl
theorem wd_5 : Cond.initialized RX7 ∈ hw_tbl := hw_sub (List.mem_of_getElem? (i := 122) (by decide +kernel)) rfl
theorem wd_979 : Cond.selects RX7 yX7_numberAt yX7_numberAt ∈ hw_tbl := hw_sub (List.mem_of_getElem? (i := 1096) (by decide +kernel)) rfl
theorem wd_131 : Cond.methodLink RX7 3 Lib.objectInit ∈ hw_tbl := hw_sub (List.mem_of_getElem? (i := 248) (by decide +kernel)) rfl
theorem wd_132 : Cond.fieldLink RX7 9 RX7 "aggressorAt" "I" ∈ hw_tbl := hw_sub (List.mem_of_getElem? (i := 249) (by decide +kernel)) rfl
theorem wd_134 : Cond.fieldLink RX7 15 RX7 "victimAt" "I" ∈ hw_tbl := hw_sub (List.mem_of_getElem? (i := 251) (by decide +kernel)) rfl
theorem wd_139 : Cond.fieldLink RX7 21 RX7 "size" "I" ∈ hw_tbl := hw_sub (List.mem_of_getElem? (i := 256) (by decide +kernel)) rfl
theorem wd_140 : Cond.fieldLink RX7 24 RX7 "state" "I" ∈ hw_tbl := hw_sub (List.mem_of_getElem? (i := 257) (by decide +kernel)) rfl
theorem wd_130 : Cond.code yX7_init cX7_init 1 none ∈ hw_tbl := hw_sub (List.mem_of_getElem? (i := 247) (by decide +kernel)) rfl
theorem wd_129 : Cond.instanceMethod yX7_init ∈ hw_tbl := hw_sub (List.mem_of_getElem? (i := 246) (by decide +kernel)) rfl
theorem wd_581 : Cond.code yX7_place cX7_place 4 none ∈ hw_tbl := hw_sub (List.mem_of_getElem? (i := 698) (by decide +kernel)) rfl
theorem wd_579 : Cond.instanceMethod yX7_place ∈ hw_tbl := hw_sub (List.mem_of_getElem? (i := 696) (by decide +kernel)) rfl
theorem wd_580 : Cond.selects RX7 yX7_place yX7_place ∈ hw_tbl := hw_sub (List.mem_of_getElem? (i := 697) (by decide +kernel)) rfl
theorem wd_607 : Cond.code yX7_rank cX7_rank 4 (some .int) ∈ hw_tbl := hw_sub (List.mem_of_getElem? (i := 724) (by decide +kernel)) rfl
theorem wd_606 : Cond.instanceMethod yX7_rank ∈ hw_tbl := hw_sub (List.mem_of_getElem? (i := 723) (by decide +kernel)) rfl
theorem ws_19 : Cond.selects RX7 yX7_rank yX7_rank ∈ hw_tbl := hw_sub (List.mem_of_getElem? (i := 19) (by decide +kernel)) rfl
theorem wd_625 : Cond.code yX7_note cX7_note 2 none ∈ hw_tbl := hw_sub (List.mem_of_getElem? (i := 742) (by decide +kernel)) rfl
theorem wd_624 : Cond.instanceMethod yX7_note ∈ hw_tbl := hw_sub (List.mem_of_getElem? (i := 741) (by decide +kernel)) rfl
theorem ws_21 : Cond.selects RX7 yX7_note yX7_note ∈ hw_tbl := hw_sub (List.mem_of_getElem? (i := 21) (by decide +kernel)) rfl
theorem wd_616 : Cond.methodLink RX7 57 yX2_opsOf ∈ hw_tbl := hw_sub (List.mem_of_getElem? (i := 733) (by decide +kernel)) rfl
theorem wd_617 : Cond.methodLink RX7 60 yX2_opAt ∈ hw_tbl := hw_sub (List.mem_of_getElem? (i := 734) (by decide +kernel)) rfl
theorem wd_618 : Cond.methodLink RX7 64 yX1_outcomeOf ∈ hw_tbl := hw_sub (List.mem_of_getElem? (i := 735) (by decide +kernel)) rfl
theorem wd_622 : Cond.methodLink RX7 68 yX7_note ∈ hw_tbl := hw_sub (List.mem_of_getElem? (i := 739) (by decide +kernel)) rfl
theorem wd_615 : Cond.code yX7_visit cX7_visit 11 none ∈ hw_tbl := hw_sub (List.mem_of_getElem? (i := 732) (by decide +kernel)) rfl
theorem wd_614 : Cond.instanceMethod yX7_visit ∈ hw_tbl := hw_sub (List.mem_of_getElem? (i := 731) (by decide +kernel)) rfl
theorem ws_20 : Cond.selects RX7 yX7_visit yX7_visit ∈ hw_tbl := hw_sub (List.mem_of_getElem? (i := 20) (by decide +kernel)) rfl
theorem wd_598 : Cond.methodLink RX7 31 yX1_settledFrom ∈ hw_tbl := hw_sub (List.mem_of_getElem? (i := 715) (by decide +kernel)) rfl
theorem wd_445 : Cond.fieldLink RX7 37 RX2 "elements" "I" ∈ hw_tbl := hw_sub (List.mem_of_getElem? (i := 562) (by decide +kernel)) rfl
theorem wd_599 : Cond.methodLink RX7 42 yX2_isDown ∈ hw_tbl := hw_sub (List.mem_of_getElem? (i := 716) (by decide +kernel)) rfl
theorem wd_604 : Cond.methodLink RX7 46 yX7_rank ∈ hw_tbl := hw_sub (List.mem_of_getElem? (i := 721) (by decide +kernel)) rfl
theorem wd_608 : Cond.methodLink RX7 50 yX2_readsOf ∈ hw_tbl := hw_sub (List.mem_of_getElem? (i := 725) (by decide +kernel)) rfl
theorem wd_612 : Cond.methodLink RX7 53 yX7_visit ∈ hw_tbl := hw_sub (List.mem_of_getElem? (i := 729) (by decide +kernel)) rfl
theorem wd_597 : Cond.code yX7_go cX7_go 10 (some .int) ∈ hw_tbl := hw_sub (List.mem_of_getElem? (i := 714) (by decide +kernel)) rfl
theorem wd_595 : Cond.instanceMethod yX7_go ∈ hw_tbl := hw_sub (List.mem_of_getElem? (i := 712) (by decide +kernel)) rfl
theorem wd_596 : Cond.selects RX7 yX7_go yX7_go ∈ hw_tbl := hw_sub (List.mem_of_getElem? (i := 713) (by decide +kernel)) rfl
theorem wd_58 : Cond.methodLink RX3 3 Lib.objectInit ∈ hw_tbl := hw_sub (List.mem_of_getElem? (i := 175) (by decide +kernel)) rfl
theorem wd_59 : Cond.fieldLink RX3 9 RX3 "size" "I" ∈ hw_tbl := hw_sub (List.mem_of_getElem? (i := 176) (by decide +kernel)) rfl
theorem wd_61 : Cond.fieldLink RX3 15 RX3 "cells" "I" ∈ hw_tbl := hw_sub (List.mem_of_getElem? (i := 178) (by decide +kernel)) rfl
theorem wd_63 : Cond.fieldLink RX3 18 RX3 "fault" "LMarchTester$Kind;" ∈ hw_tbl := hw_sub (List.mem_of_getElem? (i := 180) (by decide +kernel)) rfl
theorem wd_65 : Cond.fieldLink RX3 22 RX3 "faultKind" "I" ∈ hw_tbl := hw_sub (List.mem_of_getElem? (i := 182) (by decide +kernel)) rfl
theorem wd_67 : Cond.fieldLink RX3 25 RX3 "a" "I" ∈ hw_tbl := hw_sub (List.mem_of_getElem? (i := 184) (by decide +kernel)) rfl
theorem wd_69 : Cond.fieldLink RX3 28 RX3 "v" "I" ∈ hw_tbl := hw_sub (List.mem_of_getElem? (i := 186) (by decide +kernel)) rfl
theorem wd_71 : Cond.fieldLink RX3 31 RX3 "runMarch" "I" ∈ hw_tbl := hw_sub (List.mem_of_getElem? (i := 188) (by decide +kernel)) rfl
theorem wd_73 : Cond.fieldLink RX3 34 RX3 "runChoice" "I" ∈ hw_tbl := hw_sub (List.mem_of_getElem? (i := 190) (by decide +kernel)) rfl
theorem wd_75 : Cond.fieldLink RX3 37 RX3 "failed" "I" ∈ hw_tbl := hw_sub (List.mem_of_getElem? (i := 192) (by decide +kernel)) rfl
theorem wd_77 : Cond.fieldLink RX3 40 RX3 "logged" "I" ∈ hw_tbl := hw_sub (List.mem_of_getElem? (i := 194) (by decide +kernel)) rfl
theorem wd_79 : Cond.fieldLink RX3 43 RX3 "map" "[I" ∈ hw_tbl := hw_sub (List.mem_of_getElem? (i := 196) (by decide +kernel)) rfl
theorem wd_80 : Cond.fieldLink RX3 47 RX3 "notes" "[I" ∈ hw_tbl := hw_sub (List.mem_of_getElem? (i := 197) (by decide +kernel)) rfl
theorem wd_57 : Cond.code yX3_init cX3_init 1 none ∈ hw_tbl := hw_sub (List.mem_of_getElem? (i := 174) (by decide +kernel)) rfl
theorem wd_56 : Cond.instanceMethod yX3_init ∈ hw_tbl := hw_sub (List.mem_of_getElem? (i := 173) (by decide +kernel)) rfl
theorem wd_3 : Cond.initialized RX3 ∈ hw_tbl := hw_sub (List.mem_of_getElem? (i := 120) (by decide +kernel)) rfl
theorem wd_843 : Cond.methodLink RX3 63 arraycopyName ∈ hw_tbl := hw_sub (List.mem_of_getElem? (i := 960) (by decide +kernel)) rfl
theorem wd_845 : Cond.native arraycopyName ∈ hw_tbl := hw_sub (List.mem_of_getElem? (i := 962) (by decide +kernel)) rfl
theorem wd_844 : Cond.static arraycopyName ∈ hw_tbl := hw_sub (List.mem_of_getElem? (i := 961) (by decide +kernel)) rfl
theorem wd_17 : Cond.initialized "java/lang/System" ∈ hw_tbl := hw_sub (List.mem_of_getElem? (i := 134) (by decide +kernel)) rfl
theorem wd_842 : Cond.code yX3_copyFrom cX3_copyFrom 2 none ∈ hw_tbl := hw_sub (List.mem_of_getElem? (i := 959) (by decide +kernel)) rfl
theorem wd_840 : Cond.instanceMethod yX3_copyFrom ∈ hw_tbl := hw_sub (List.mem_of_getElem? (i := 957) (by decide +kernel)) rfl
theorem wd_841 : Cond.selects RX3 yX3_copyFrom yX3_copyFrom ∈ hw_tbl := hw_sub (List.mem_of_getElem? (i := 958) (by decide +kernel)) rfl
theorem wd_176 : Cond.code yX3_state cX3_state 2 (some .int) ∈ hw_tbl := hw_sub (List.mem_of_getElem? (i := 293) (by decide +kernel)) rfl
theorem wd_175 : Cond.instanceMethod yX3_state ∈ hw_tbl := hw_sub (List.mem_of_getElem? (i := 292) (by decide +kernel)) rfl
theorem ws_0 : Cond.selects RX3 yX3_state yX3_state ∈ hw_tbl := hw_sub (List.mem_of_getElem? (i := 0) (by decide +kernel)) rfl
theorem wd_187 : Cond.code yX3_withBit cX3_withBit 3 (some .int) ∈ hw_tbl := hw_sub (List.mem_of_getElem? (i := 304) (by decide +kernel)) rfl
theorem wd_186 : Cond.static yX3_withBit ∈ hw_tbl := hw_sub (List.mem_of_getElem? (i := 303) (by decide +kernel)) rfl
theorem wd_185 : Cond.methodLink RX3 97 yX3_withBit ∈ hw_tbl := hw_sub (List.mem_of_getElem? (i := 302) (by decide +kernel)) rfl
theorem wd_184 : Cond.code yX3_setState cX3_setState 2 none ∈ hw_tbl := hw_sub (List.mem_of_getElem? (i := 301) (by decide +kernel)) rfl
theorem wd_183 : Cond.instanceMethod yX3_setState ∈ hw_tbl := hw_sub (List.mem_of_getElem? (i := 300) (by decide +kernel)) rfl
theorem ws_1 : Cond.selects RX3 yX3_setState yX3_setState ∈ hw_tbl := hw_sub (List.mem_of_getElem? (i := 1) (by decide +kernel)) rfl
theorem wd_173 : Cond.methodLink RX3 77 yX3_state ∈ hw_tbl := hw_sub (List.mem_of_getElem? (i := 290) (by decide +kernel)) rfl
theorem wd_177 : Cond.methodLink RX3 81 yX1_settledFrom ∈ hw_tbl := hw_sub (List.mem_of_getElem? (i := 294) (by decide +kernel)) rfl
theorem wd_181 : Cond.methodLink RX3 87 yX3_setState ∈ hw_tbl := hw_sub (List.mem_of_getElem? (i := 298) (by decide +kernel)) rfl
theorem wd_172 : Cond.code yX3_fill cX3_fill 2 none ∈ hw_tbl := hw_sub (List.mem_of_getElem? (i := 289) (by decide +kernel)) rfl
theorem wd_170 : Cond.instanceMethod yX3_fill ∈ hw_tbl := hw_sub (List.mem_of_getElem? (i := 287) (by decide +kernel)) rfl
theorem wd_171 : Cond.selects RX3 yX3_fill yX3_fill ∈ hw_tbl := hw_sub (List.mem_of_getElem? (i := 288) (by decide +kernel)) rfl
theorem wd_169 : Cond.methodLink RX3 73 yX3_fill ∈ hw_tbl := hw_sub (List.mem_of_getElem? (i := 286) (by decide +kernel)) rfl
theorem wd_168 : Cond.code yX3_insert cX3_insert 5 none ∈ hw_tbl := hw_sub (List.mem_of_getElem? (i := 285) (by decide +kernel)) rfl
theorem wd_166 : Cond.instanceMethod yX3_insert ∈ hw_tbl := hw_sub (List.mem_of_getElem? (i := 283) (by decide +kernel)) rfl
theorem wd_167 : Cond.selects RX3 yX3_insert yX3_insert ∈ hw_tbl := hw_sub (List.mem_of_getElem? (i := 284) (by decide +kernel)) rfl
theorem wd_159 : Cond.methodLink RX3 50 Lib.Math.min.name ∈ hw_tbl := hw_sub (List.mem_of_getElem? (i := 276) (by decide +kernel)) rfl
theorem wd_162 : Cond.methodLink RX3 56 Lib.Math.max.name ∈ hw_tbl := hw_sub (List.mem_of_getElem? (i := 279) (by decide +kernel)) rfl
theorem wd_165 : Cond.methodLink RX3 59 yX3_insert ∈ hw_tbl := hw_sub (List.mem_of_getElem? (i := 282) (by decide +kernel)) rfl
theorem wd_158 : Cond.code yX3_begin cX3_begin 3 none ∈ hw_tbl := hw_sub (List.mem_of_getElem? (i := 275) (by decide +kernel)) rfl
theorem wd_156 : Cond.instanceMethod yX3_begin ∈ hw_tbl := hw_sub (List.mem_of_getElem? (i := 273) (by decide +kernel)) rfl
theorem wd_157 : Cond.selects RX3 yX3_begin yX3_begin ∈ hw_tbl := hw_sub (List.mem_of_getElem? (i := 274) (by decide +kernel)) rfl
theorem wd_833 : Cond.code yX3_hasCell cX3_hasCell 2 (some .boolean) ∈ hw_tbl := hw_sub (List.mem_of_getElem? (i := 950) (by decide +kernel)) rfl
theorem wd_831 : Cond.instanceMethod yX3_hasCell ∈ hw_tbl := hw_sub (List.mem_of_getElem? (i := 948) (by decide +kernel)) rfl
theorem wd_832 : Cond.selects RX3 yX3_hasCell yX3_hasCell ∈ hw_tbl := hw_sub (List.mem_of_getElem? (i := 949) (by decide +kernel)) rfl
theorem wd_868 : Cond.code yX3_cellOf cX3_cellOf 2 (some .int) ∈ hw_tbl := hw_sub (List.mem_of_getElem? (i := 985) (by decide +kernel)) rfl
theorem wd_866 : Cond.instanceMethod yX3_cellOf ∈ hw_tbl := hw_sub (List.mem_of_getElem? (i := 983) (by decide +kernel)) rfl
theorem wd_867 : Cond.selects RX3 yX3_cellOf yX3_cellOf ∈ hw_tbl := hw_sub (List.mem_of_getElem? (i := 984) (by decide +kernel)) rfl
theorem wd_650 : Cond.code yX3_addressOf cX3_addressOf 3 (some .int) ∈ hw_tbl := hw_sub (List.mem_of_getElem? (i := 767) (by decide +kernel)) rfl
theorem wd_648 : Cond.instanceMethod yX3_addressOf ∈ hw_tbl := hw_sub (List.mem_of_getElem? (i := 765) (by decide +kernel)) rfl
theorem wd_649 : Cond.selects RX3 yX3_addressOf yX3_addressOf ∈ hw_tbl := hw_sub (List.mem_of_getElem? (i := 766) (by decide +kernel)) rfl
theorem wd_903 : Cond.methodLink RX3 69 yX3_hasCell ∈ hw_tbl := hw_sub (List.mem_of_getElem? (i := 1020) (by decide +kernel)) rfl
theorem wd_902 : Cond.code yX3_exchange cX3_exchange 4 none ∈ hw_tbl := hw_sub (List.mem_of_getElem? (i := 1019) (by decide +kernel)) rfl
theorem wd_900 : Cond.instanceMethod yX3_exchange ∈ hw_tbl := hw_sub (List.mem_of_getElem? (i := 1017) (by decide +kernel)) rfl
theorem wd_901 : Cond.selects RX3 yX3_exchange yX3_exchange ∈ hw_tbl := hw_sub (List.mem_of_getElem? (i := 1018) (by decide +kernel)) rfl
theorem wd_865 : Cond.methodLink RX3 90 yX3_cellOf ∈ hw_tbl := hw_sub (List.mem_of_getElem? (i := 982) (by decide +kernel)) rfl
theorem wd_869 : Cond.methodLink RX3 93 yX1_outcomeOf ∈ hw_tbl := hw_sub (List.mem_of_getElem? (i := 986) (by decide +kernel)) rfl
theorem wd_864 : Cond.code yX3_operate cX3_operate 5 (some .int) ∈ hw_tbl := hw_sub (List.mem_of_getElem? (i := 981) (by decide +kernel)) rfl
theorem wd_862 : Cond.instanceMethod yX3_operate ∈ hw_tbl := hw_sub (List.mem_of_getElem? (i := 979) (by decide +kernel)) rfl
theorem wd_863 : Cond.selects RX3 yX3_operate yX3_operate ∈ hw_tbl := hw_sub (List.mem_of_getElem? (i := 980) (by decide +kernel)) rfl
theorem wd_893 : Cond.code yX3_note cX3_note 3 none ∈ hw_tbl := hw_sub (List.mem_of_getElem? (i := 1010) (by decide +kernel)) rfl
theorem wd_892 : Cond.instanceMethod yX3_note ∈ hw_tbl := hw_sub (List.mem_of_getElem? (i := 1009) (by decide +kernel)) rfl
theorem ws_41 : Cond.selects RX3 yX3_note yX3_note ∈ hw_tbl := hw_sub (List.mem_of_getElem? (i := 41) (by decide +kernel)) rfl
theorem wd_887 : Cond.methodLink RX3 116 yX2_opsOf ∈ hw_tbl := hw_sub (List.mem_of_getElem? (i := 1004) (by decide +kernel)) rfl
theorem wd_888 : Cond.methodLink RX3 119 yX2_opAt ∈ hw_tbl := hw_sub (List.mem_of_getElem? (i := 1005) (by decide +kernel)) rfl
theorem wd_889 : Cond.methodLink RX3 122 yX3_operate ∈ hw_tbl := hw_sub (List.mem_of_getElem? (i := 1006) (by decide +kernel)) rfl
theorem wd_890 : Cond.methodLink RX3 125 yX3_note ∈ hw_tbl := hw_sub (List.mem_of_getElem? (i := 1007) (by decide +kernel)) rfl
theorem wd_886 : Cond.code yX3_visit cX3_visit 10 none ∈ hw_tbl := hw_sub (List.mem_of_getElem? (i := 1003) (by decide +kernel)) rfl
theorem wd_885 : Cond.instanceMethod yX3_visit ∈ hw_tbl := hw_sub (List.mem_of_getElem? (i := 1002) (by decide +kernel)) rfl
theorem ws_40 : Cond.selects RX3 yX3_visit yX3_visit ∈ hw_tbl := hw_sub (List.mem_of_getElem? (i := 40) (by decide +kernel)) rfl
theorem wd_447 : Cond.fieldLink RX3 100 RX2 "elements" "I" ∈ hw_tbl := hw_sub (List.mem_of_getElem? (i := 564) (by decide +kernel)) rfl
theorem wd_882 : Cond.methodLink RX3 105 yX2_isDown ∈ hw_tbl := hw_sub (List.mem_of_getElem? (i := 999) (by decide +kernel)) rfl
theorem wd_883 : Cond.methodLink RX3 109 yX3_visit ∈ hw_tbl := hw_sub (List.mem_of_getElem? (i := 1000) (by decide +kernel)) rfl
theorem wd_894 : Cond.methodLink RX3 113 yX2_readsOf ∈ hw_tbl := hw_sub (List.mem_of_getElem? (i := 1011) (by decide +kernel)) rfl
theorem wd_881 : Cond.code yX3_goThrough cX3_goThrough 8 none ∈ hw_tbl := hw_sub (List.mem_of_getElem? (i := 998) (by decide +kernel)) rfl
theorem wd_879 : Cond.instanceMethod yX3_goThrough ∈ hw_tbl := hw_sub (List.mem_of_getElem? (i := 996) (by decide +kernel)) rfl
theorem wd_880 : Cond.selects RX3 yX3_goThrough yX3_goThrough ∈ hw_tbl := hw_sub (List.mem_of_getElem? (i := 997) (by decide +kernel)) rfl
theorem wd_924 : Cond.code yX3_loggedNumber cX3_loggedNumber 2 (some .int) ∈ hw_tbl := hw_sub (List.mem_of_getElem? (i := 1041) (by decide +kernel)) rfl
theorem wd_922 : Cond.instanceMethod yX3_loggedNumber ∈ hw_tbl := hw_sub (List.mem_of_getElem? (i := 1039) (by decide +kernel)) rfl
theorem wd_923 : Cond.selects RX3 yX3_loggedNumber yX3_loggedNumber ∈ hw_tbl := hw_sub (List.mem_of_getElem? (i := 1040) (by decide +kernel)) rfl
theorem wd_928 : Cond.code yX3_loggedAddress cX3_loggedAddress 2 (some .int) ∈ hw_tbl := hw_sub (List.mem_of_getElem? (i := 1045) (by decide +kernel)) rfl
theorem wd_926 : Cond.instanceMethod yX3_loggedAddress ∈ hw_tbl := hw_sub (List.mem_of_getElem? (i := 1043) (by decide +kernel)) rfl
theorem wd_927 : Cond.selects RX3 yX3_loggedAddress yX3_loggedAddress ∈ hw_tbl := hw_sub (List.mem_of_getElem? (i := 1044) (by decide +kernel)) rfl
theorem wd_138 : Cond.fieldLink RX3 129 RX7 "failed" "I" ∈ hw_tbl := hw_sub (List.mem_of_getElem? (i := 255) (by decide +kernel)) rfl
theorem wd_976 : Cond.methodLink RX3 132 yX3_loggedNumber ∈ hw_tbl := hw_sub (List.mem_of_getElem? (i := 1093) (by decide +kernel)) rfl
theorem wd_977 : Cond.methodLink RX3 135 yX7_numberAt ∈ hw_tbl := hw_sub (List.mem_of_getElem? (i := 1094) (by decide +kernel)) rfl
theorem wd_975 : Cond.code yX3_hasLogOf cX3_hasLogOf 3 (some .boolean) ∈ hw_tbl := hw_sub (List.mem_of_getElem? (i := 1092) (by decide +kernel)) rfl
theorem wd_973 : Cond.instanceMethod yX3_hasLogOf ∈ hw_tbl := hw_sub (List.mem_of_getElem? (i := 1090) (by decide +kernel)) rfl
theorem wd_974 : Cond.selects RX3 yX3_hasLogOf yX3_hasLogOf ∈ hw_tbl := hw_sub (List.mem_of_getElem? (i := 1091) (by decide +kernel)) rfl
theorem wd_112 : Cond.methodLink RX0 1 Lib.objectInit ∈ hw_tbl := hw_sub (List.mem_of_getElem? (i := 229) (by decide +kernel)) rfl
theorem wd_115 : Cond.fieldLink RX0 7 RX0 "size" "I" ∈ hw_tbl := hw_sub (List.mem_of_getElem? (i := 232) (by decide +kernel)) rfl
theorem wd_117 : Cond.fieldLink RX0 13 RX0 "next" "I" ∈ hw_tbl := hw_sub (List.mem_of_getElem? (i := 234) (by decide +kernel)) rfl
theorem wd_113 : Cond.classLink RX0 16 RX3 ∈ hw_tbl := hw_sub (List.mem_of_getElem? (i := 230) (by decide +kernel)) rfl
theorem wd_118 : Cond.fieldLink RX0 18 RX0 "kept" "[LMarchTester$Memory;" ∈ hw_tbl := hw_sub (List.mem_of_getElem? (i := 235) (by decide +kernel)) rfl
theorem wd_111 : Cond.code yX0_init cX0_init 1 none ∈ hw_tbl := hw_sub (List.mem_of_getElem? (i := 228) (by decide +kernel)) rfl
theorem wd_110 : Cond.instanceMethod yX0_init ∈ hw_tbl := hw_sub (List.mem_of_getElem? (i := 227) (by decide +kernel)) rfl
theorem wd_4 : Cond.initialized RX0 ∈ hw_tbl := hw_sub (List.mem_of_getElem? (i := 121) (by decide +kernel)) rfl
theorem wd_825 : Cond.code yX0_forget cX0_forget 1 none ∈ hw_tbl := hw_sub (List.mem_of_getElem? (i := 942) (by decide +kernel)) rfl
theorem wd_823 : Cond.instanceMethod yX0_forget ∈ hw_tbl := hw_sub (List.mem_of_getElem? (i := 940) (by decide +kernel)) rfl
theorem wd_824 : Cond.selects RX0 yX0_forget yX0_forget ∈ hw_tbl := hw_sub (List.mem_of_getElem? (i := 941) (by decide +kernel)) rfl
theorem wd_54 : Cond.instantiable RX3 12 ∈ hw_tbl := hw_sub (List.mem_of_getElem? (i := 171) (by decide +kernel)) rfl
theorem wd_839 : Cond.methodLink RX0 23 yX3_copyFrom ∈ hw_tbl := hw_sub (List.mem_of_getElem? (i := 956) (by decide +kernel)) rfl
theorem wd_846 : Cond.methodLink RX0 27 Lib.Math.min.name ∈ hw_tbl := hw_sub (List.mem_of_getElem? (i := 963) (by decide +kernel)) rfl
theorem wd_837 : Cond.code yX0_keep cX0_keep 3 none ∈ hw_tbl := hw_sub (List.mem_of_getElem? (i := 954) (by decide +kernel)) rfl
theorem wd_835 : Cond.instanceMethod yX0_keep ∈ hw_tbl := hw_sub (List.mem_of_getElem? (i := 952) (by decide +kernel)) rfl
theorem wd_836 : Cond.selects RX0 yX0_keep yX0_keep ∈ hw_tbl := hw_sub (List.mem_of_getElem? (i := 953) (by decide +kernel)) rfl
theorem wd_912 : Cond.code yX0_restore cX0_restore 4 (some .boolean) ∈ hw_tbl := hw_sub (List.mem_of_getElem? (i := 1029) (by decide +kernel)) rfl
theorem wd_910 : Cond.instanceMethod yX0_restore ∈ hw_tbl := hw_sub (List.mem_of_getElem? (i := 1027) (by decide +kernel)) rfl
theorem wd_911 : Cond.selects RX0 yX0_restore yX0_restore ∈ hw_tbl := hw_sub (List.mem_of_getElem? (i := 1028) (by decide +kernel)) rfl
theorem wd_942 : Cond.methodLink RX5 3 Lib.objectInit ∈ hw_tbl := hw_sub (List.mem_of_getElem? (i := 1059) (by decide +kernel)) rfl
theorem wd_943 : Cond.fieldLink RX5 9 RX5 "size" "I" ∈ hw_tbl := hw_sub (List.mem_of_getElem? (i := 1060) (by decide +kernel)) rfl
theorem wd_945 : Cond.fieldLink RX5 15 RX5 "partCount" "I" ∈ hw_tbl := hw_sub (List.mem_of_getElem? (i := 1062) (by decide +kernel)) rfl
theorem wd_947 : Cond.fieldLink RX5 18 RX5 "codes" "[I" ∈ hw_tbl := hw_sub (List.mem_of_getElem? (i := 1064) (by decide +kernel)) rfl
theorem wd_948 : Cond.fieldLink RX5 22 RX5 "partSizes" "[I" ∈ hw_tbl := hw_sub (List.mem_of_getElem? (i := 1065) (by decide +kernel)) rfl
theorem wd_949 : Cond.fieldLink RX5 25 RX5 "partFailed" "[I" ∈ hw_tbl := hw_sub (List.mem_of_getElem? (i := 1066) (by decide +kernel)) rfl
theorem wd_742 : Cond.arrayClass .long ∈ hw_tbl := hw_sub (List.mem_of_getElem? (i := 859) (by decide +kernel)) rfl
theorem wd_950 : Cond.fieldLink RX5 28 RX5 "partBits" "[J" ∈ hw_tbl := hw_sub (List.mem_of_getElem? (i := 1067) (by decide +kernel)) rfl
theorem wd_941 : Cond.code yX5_init cX5_init 1 none ∈ hw_tbl := hw_sub (List.mem_of_getElem? (i := 1058) (by decide +kernel)) rfl
theorem wd_940 : Cond.instanceMethod yX5_init ∈ hw_tbl := hw_sub (List.mem_of_getElem? (i := 1057) (by decide +kernel)) rfl
theorem wd_18 : Cond.initialized RX5 ∈ hw_tbl := hw_sub (List.mem_of_getElem? (i := 135) (by decide +kernel)) rfl
theorem wd_984 : Cond.code yX5_add cX5_add 3 none ∈ hw_tbl := hw_sub (List.mem_of_getElem? (i := 1101) (by decide +kernel)) rfl
theorem wd_982 : Cond.instanceMethod yX5_add ∈ hw_tbl := hw_sub (List.mem_of_getElem? (i := 1099) (by decide +kernel)) rfl
theorem wd_983 : Cond.selects RX5 yX5_add yX5_add ∈ hw_tbl := hw_sub (List.mem_of_getElem? (i := 1100) (by decide +kernel)) rfl
theorem wd_988 : Cond.code yX5_kindOf cX5_kindOf 2 (some .int) ∈ hw_tbl := hw_sub (List.mem_of_getElem? (i := 1105) (by decide +kernel)) rfl
theorem wd_986 : Cond.instanceMethod yX5_kindOf ∈ hw_tbl := hw_sub (List.mem_of_getElem? (i := 1103) (by decide +kernel)) rfl
theorem wd_987 : Cond.selects RX5 yX5_kindOf yX5_kindOf ∈ hw_tbl := hw_sub (List.mem_of_getElem? (i := 1104) (by decide +kernel)) rfl
theorem wd_992 : Cond.code yX5_placementOf cX5_placementOf 2 (some .int) ∈ hw_tbl := hw_sub (List.mem_of_getElem? (i := 1109) (by decide +kernel)) rfl
theorem wd_990 : Cond.instanceMethod yX5_placementOf ∈ hw_tbl := hw_sub (List.mem_of_getElem? (i := 1107) (by decide +kernel)) rfl
