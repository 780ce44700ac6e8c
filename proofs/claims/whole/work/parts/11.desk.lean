theorem q_1 : Cond.selects yX2_moveForward.cls yX2_moveForward yX2_moveForward ∈ LW := LW_of 1 (by decide +kernel) rfl
theorem q_44 : Cond.initialized RX2 ∈ LW := LW_of 44 (by decide +kernel) rfl
theorem q_45 : Cond.initialized RX6 ∈ LW := LW_of 45 (by decide +kernel) rfl
theorem q_47 : Cond.initialized RX5 ∈ LW := LW_of 47 (by decide +kernel) rfl
theorem q_60 : Cond.initialized RX1 ∈ LW := LW_of 60 (by decide +kernel) rfl
theorem q_67 : Cond.initialized RX3 ∈ LW := LW_of 67 (by decide +kernel) rfl
theorem q_102 : Cond.fieldLink RX6 13 "RadixDesk$Row" "bytes" "[I" ∈ LW := LW_of 102 (by decide +kernel) rfl
theorem q_103 : Cond.fieldLink RX6 19 "RadixDesk$Row" "length" "I" ∈ LW := LW_of 103 (by decide +kernel) rfl
theorem q_117 : Cond.fieldLink RX5 40 "RadixDesk$Reader" "value" "J" ∈ LW := LW_of 117 (by decide +kernel) rfl
theorem q_124 : Cond.fieldLink RX2 9 "RadixDesk$Desk" "cells" "[J" ∈ LW := LW_of 124 (by decide +kernel) rfl
theorem q_125 : Cond.fieldLink RX2 15 "RadixDesk$Desk" "cellsBefore" "[J" ∈ LW := LW_of 125 (by decide +kernel) rfl
theorem q_126 : Cond.fieldLink RX2 23 "RadixDesk$Desk" "page" "LRadixDesk$Row;" ∈ LW := LW_of 126 (by decide +kernel) rfl
theorem q_128 : Cond.fieldLink RX2 30 "RadixDesk$Desk" "reader" "LRadixDesk$Reader;" ∈ LW := LW_of 128 (by decide +kernel) rfl
theorem q_130 : Cond.fieldLink RX2 42 "RadixDesk$Desk" "isWide" "Z" ∈ LW := LW_of 130 (by decide +kernel) rfl
theorem q_284 : Cond.instanceMethod yX2_keep ∈ LW := LW_of 284 (by decide +kernel) rfl
theorem q_285 : Cond.selects yX2_keep.cls yX2_keep yX2_keep ∈ LW := LW_of 285 (by decide +kernel) rfl
theorem q_286 : Cond.code yX2_keep cX2_keep 4 none ∈ LW := LW_of 286 (by decide +kernel) rfl
theorem q_288 : Cond.instanceMethod yX2_signed ∈ LW := LW_of 288 (by decide +kernel) rfl
theorem q_289 : Cond.selects yX2_signed.cls yX2_signed yX2_signed ∈ LW := LW_of 289 (by decide +kernel) rfl
theorem q_290 : Cond.code yX2_signed cX2_signed 2 (some .long) ∈ LW := LW_of 290 (by decide +kernel) rfl
theorem q_291 : Cond.methodLink RX2 34 yX2_allBits ∈ LW := LW_of 291 (by decide +kernel) rfl
theorem q_292 : Cond.instanceMethod yX2_allBits ∈ LW := LW_of 292 (by decide +kernel) rfl
theorem q_293 : Cond.selects yX2_allBits.cls yX2_allBits yX2_allBits ∈ LW := LW_of 293 (by decide +kernel) rfl
theorem q_294 : Cond.code yX2_allBits cX2_allBits 2 (some .long) ∈ LW := LW_of 294 (by decide +kernel) rfl
theorem q_295 : Cond.methodLink RX2 46 yX1_signed ∈ LW := LW_of 295 (by decide +kernel) rfl
theorem q_296 : Cond.static yX1_signed ∈ LW := LW_of 296 (by decide +kernel) rfl
theorem q_297 : Cond.code yX1_signed cX1_signed 3 (some .long) ∈ LW := LW_of 297 (by decide +kernel) rfl
theorem q_303 : Cond.instanceMethod yX6_size ∈ LW := LW_of 303 (by decide +kernel) rfl
theorem q_304 : Cond.selects yX6_size.cls yX6_size yX6_size ∈ LW := LW_of 304 (by decide +kernel) rfl
theorem q_305 : Cond.code yX6_size cX6_size 1 (some .int) ∈ LW := LW_of 305 (by decide +kernel) rfl
theorem q_307 : Cond.instanceMethod yX6_empty ∈ LW := LW_of 307 (by decide +kernel) rfl
theorem q_308 : Cond.selects yX6_empty.cls yX6_empty yX6_empty ∈ LW := LW_of 308 (by decide +kernel) rfl
theorem q_309 : Cond.code yX6_empty cX6_empty 1 none ∈ LW := LW_of 309 (by decide +kernel) rfl
theorem q_327 : Cond.instanceMethod yX2_valueOf ∈ LW := LW_of 327 (by decide +kernel) rfl
theorem q_328 : Cond.selects yX2_valueOf.cls yX2_valueOf yX2_valueOf ∈ LW := LW_of 328 (by decide +kernel) rfl
theorem q_329 : Cond.code yX2_valueOf cX2_valueOf 3 (some .long) ∈ LW := LW_of 329 (by decide +kernel) rfl
theorem q_330 : Cond.methodLink RX2 59 yX2_plain ∈ LW := LW_of 330 (by decide +kernel) rfl
theorem q_331 : Cond.instanceMethod yX2_plain ∈ LW := LW_of 331 (by decide +kernel) rfl
theorem q_332 : Cond.selects yX2_plain.cls yX2_plain yX2_plain ∈ LW := LW_of 332 (by decide +kernel) rfl
theorem q_333 : Cond.code yX2_plain cX2_plain 2 (some .long) ∈ LW := LW_of 333 (by decide +kernel) rfl
theorem q_334 : Cond.methodLink RX2 56 yX1_plain ∈ LW := LW_of 334 (by decide +kernel) rfl
theorem q_335 : Cond.static yX1_plain ∈ LW := LW_of 335 (by decide +kernel) rfl
theorem q_336 : Cond.code yX1_plain cX1_plain 3 (some .long) ∈ LW := LW_of 336 (by decide +kernel) rfl
theorem q_338 : Cond.methodLink RX2 61 yX2_signed ∈ LW := LW_of 338 (by decide +kernel) rfl
theorem q_340 : Cond.static yX3_writeOn ∈ LW := LW_of 340 (by decide +kernel) rfl
theorem q_341 : Cond.code yX3_writeOn cX3_writeOn 12 none ∈ LW := LW_of 341 (by decide +kernel) rfl
theorem q_342 : Cond.methodLink RX3 9 yX3_isRadix ∈ LW := LW_of 342 (by decide +kernel) rfl
theorem q_343 : Cond.static yX3_isRadix ∈ LW := LW_of 343 (by decide +kernel) rfl
theorem q_344 : Cond.code yX3_isRadix cX3_isRadix 1 (some .boolean) ∈ LW := LW_of 344 (by decide +kernel) rfl
theorem q_345 : Cond.methodLink RX3 15 yX6_empty ∈ LW := LW_of 345 (by decide +kernel) rfl
theorem q_346 : Cond.methodLink RX3 20 yX1_plainQuotient ∈ LW := LW_of 346 (by decide +kernel) rfl
theorem q_347 : Cond.static yX1_plainQuotient ∈ LW := LW_of 347 (by decide +kernel) rfl
theorem q_348 : Cond.code yX1_plainQuotient cX1_plainQuotient 8 (some .long) ∈ LW := LW_of 348 (by decide +kernel) rfl
theorem q_350 : Cond.methodLink RX3 26 yX3_byteFor ∈ LW := LW_of 350 (by decide +kernel) rfl
theorem q_351 : Cond.static yX3_byteFor ∈ LW := LW_of 351 (by decide +kernel) rfl
theorem q_352 : Cond.code yX3_byteFor cX3_byteFor 1 (some .int) ∈ LW := LW_of 352 (by decide +kernel) rfl
theorem q_353 : Cond.methodLink RX3 30 yX6_append ∈ LW := LW_of 353 (by decide +kernel) rfl
theorem q_354 : Cond.instanceMethod yX6_append ∈ LW := LW_of 354 (by decide +kernel) rfl
theorem q_355 : Cond.selects yX6_append.cls yX6_append yX6_append ∈ LW := LW_of 355 (by decide +kernel) rfl
theorem q_356 : Cond.code yX6_append cX6_append 2 none ∈ LW := LW_of 356 (by decide +kernel) rfl
theorem q_357 : Cond.methodLink RX3 34 yX6_turnAround ∈ LW := LW_of 357 (by decide +kernel) rfl
theorem q_358 : Cond.instanceMethod yX6_turnAround ∈ LW := LW_of 358 (by decide +kernel) rfl
theorem q_359 : Cond.selects yX6_turnAround.cls yX6_turnAround yX6_turnAround ∈ LW := LW_of 359 (by decide +kernel) rfl
theorem q_360 : Cond.code yX6_turnAround cX6_turnAround 4 none ∈ LW := LW_of 360 (by decide +kernel) rfl
theorem q_362 : Cond.instanceMethod yX6_byteAt ∈ LW := LW_of 362 (by decide +kernel) rfl
theorem q_363 : Cond.selects yX6_byteAt.cls yX6_byteAt yX6_byteAt ∈ LW := LW_of 363 (by decide +kernel) rfl
theorem q_364 : Cond.code yX6_byteAt cX6_byteAt 2 (some .int) ∈ LW := LW_of 364 (by decide +kernel) rfl
theorem q_373 : Cond.methodLink RX2 146 yX2_moveForward ∈ LW := LW_of 373 (by decide +kernel) rfl
theorem q_375 : Cond.instanceMethod yX2_moveForward ∈ LW := LW_of 375 (by decide +kernel) rfl
theorem q_376 : Cond.code yX2_moveForward cX2_moveForward 6 none ∈ LW := LW_of 376 (by decide +kernel) rfl
theorem q_377 : Cond.methodLink RX2 150 yX2_compared ∈ LW := LW_of 377 (by decide +kernel) rfl
theorem q_378 : Cond.instanceMethod yX2_compared ∈ LW := LW_of 378 (by decide +kernel) rfl
theorem q_379 : Cond.selects yX2_compared.cls yX2_compared yX2_compared ∈ LW := LW_of 379 (by decide +kernel) rfl
theorem q_380 : Cond.code yX2_compared cX2_compared 8 (some .int) ∈ LW := LW_of 380 (by decide +kernel) rfl
theorem q_381 : Cond.methodLink RX2 63 yX2_valueOf ∈ LW := LW_of 381 (by decide +kernel) rfl
theorem q_382 : Cond.methodLink RX2 133 yX1_plainOrder ∈ LW := LW_of 382 (by decide +kernel) rfl
theorem q_383 : Cond.static yX1_plainOrder ∈ LW := LW_of 383 (by decide +kernel) rfl
theorem q_384 : Cond.code yX1_plainOrder cX1_plainOrder 4 (some .int) ∈ LW := LW_of 384 (by decide +kernel) rfl
theorem q_386 : Cond.methodLink RX2 137 yJ13_compare_74951 ∈ LW := LW_of 386 (by decide +kernel) rfl
theorem q_387 : Cond.static yJ13_compare_74951 ∈ LW := LW_of 387 (by decide +kernel) rfl
theorem q_388 : Cond.code yJ13_compare_74951 cJ13_compare_74951 4 (some .int) ∈ LW := LW_of 388 (by decide +kernel) rfl
theorem q_389 : Cond.methodLink RX2 140 yJ6_signum_0f7a4 ∈ LW := LW_of 389 (by decide +kernel) rfl
theorem q_390 : Cond.static yJ6_signum_0f7a4 ∈ LW := LW_of 390 (by decide +kernel) rfl
theorem q_391 : Cond.code yJ6_signum_0f7a4 cJ6_signum_0f7a4 1 (some .int) ∈ LW := LW_of 391 (by decide +kernel) rfl
theorem q_392 : Cond.methodLink RX2 52 yX2_keep ∈ LW := LW_of 392 (by decide +kernel) rfl
theorem q_405 : Cond.methodLink RX2 38 yX6_become ∈ LW := LW_of 405 (by decide +kernel) rfl
theorem q_406 : Cond.instanceMethod yX6_become ∈ LW := LW_of 406 (by decide +kernel) rfl
theorem q_407 : Cond.selects yX6_become.cls yX6_become yX6_become ∈ LW := LW_of 407 (by decide +kernel) rfl
theorem q_408 : Cond.code yX6_become cX6_become 2 none ∈ LW := LW_of 408 (by decide +kernel) rfl
theorem q_409 : Cond.methodLink RX6 31 yX6_empty ∈ LW := LW_of 409 (by decide +kernel) rfl
theorem q_410 : Cond.methodLink RX6 34 yX6_appendRow ∈ LW := LW_of 410 (by decide +kernel) rfl
theorem q_411 : Cond.instanceMethod yX6_appendRow ∈ LW := LW_of 411 (by decide +kernel) rfl
theorem q_412 : Cond.selects yX6_appendRow.cls yX6_appendRow yX6_appendRow ∈ LW := LW_of 412 (by decide +kernel) rfl
theorem q_413 : Cond.code yX6_appendRow cX6_appendRow 4 none ∈ LW := LW_of 413 (by decide +kernel) rfl
theorem q_414 : Cond.methodLink RX6 23 yX6_byteAt ∈ LW := LW_of 414 (by decide +kernel) rfl
theorem q_415 : Cond.methodLink RX6 27 yX6_append ∈ LW := LW_of 415 (by decide +kernel) rfl
theorem q_536 : Cond.instanceMethod yX5_canRead ∈ LW := LW_of 536 (by decide +kernel) rfl
theorem q_537 : Cond.selects yX5_canRead.cls yX5_canRead yX5_canRead ∈ LW := LW_of 537 (by decide +kernel) rfl
theorem q_538 : Cond.code yX5_canRead cX5_canRead 21 (some .boolean) ∈ LW := LW_of 538 (by decide +kernel) rfl
theorem q_539 : Cond.methodLink RX5 9 yX6_byteAt ∈ LW := LW_of 539 (by decide +kernel) rfl
theorem q_540 : Cond.methodLink RX5 15 yX3_isRadix ∈ LW := LW_of 540 (by decide +kernel) rfl
theorem q_541 : Cond.methodLink RX5 21 yX5_mostSize ∈ LW := LW_of 541 (by decide +kernel) rfl
theorem q_542 : Cond.static yX5_mostSize ∈ LW := LW_of 542 (by decide +kernel) rfl
theorem q_543 : Cond.code yX5_mostSize cX5_mostSize 5 (some .long) ∈ LW := LW_of 543 (by decide +kernel) rfl
theorem q_544 : Cond.constantLong RX5 44 (-1) ∈ LW := LW_of 544 (by decide +kernel) rfl
theorem q_545 : Cond.constantLong RX5 46 4294967295 ∈ LW := LW_of 545 (by decide +kernel) rfl
theorem q_546 : Cond.constantLong RX5 48 9223372036854775807 ∈ LW := LW_of 546 (by decide +kernel) rfl
theorem q_547 : Cond.constantLong RX5 50 2147483647 ∈ LW := LW_of 547 (by decide +kernel) rfl
theorem q_548 : Cond.methodLink RX5 27 yX1_plainQuotient ∈ LW := LW_of 548 (by decide +kernel) rfl
theorem q_549 : Cond.methodLink RX5 33 yX3_valueOf ∈ LW := LW_of 549 (by decide +kernel) rfl
theorem q_550 : Cond.static yX3_valueOf ∈ LW := LW_of 550 (by decide +kernel) rfl
theorem q_551 : Cond.code yX3_valueOf cX3_valueOf 1 (some .int) ∈ LW := LW_of 551 (by decide +kernel) rfl
theorem q_552 : Cond.methodLink RX5 36 yX1_plainOrder ∈ LW := LW_of 552 (by decide +kernel) rfl
theorem q_604 : Cond.instanceMethod yX2_takePiece ∈ LW := LW_of 604 (by decide +kernel) rfl
theorem q_605 : Cond.selects yX2_takePiece.cls yX2_takePiece yX2_takePiece ∈ LW := LW_of 605 (by decide +kernel) rfl
theorem q_606 : Cond.code yX2_takePiece cX2_takePiece 7 (some .boolean) ∈ LW := LW_of 606 (by decide +kernel) rfl
theorem q_607 : Cond.methodLink RX2 81 yX5_canRead ∈ LW := LW_of 607 (by decide +kernel) rfl
theorem q_608 : Cond.methodLink RX2 89 yX2_put ∈ LW := LW_of 608 (by decide +kernel) rfl
theorem q_609 : Cond.instanceMethod yX2_put ∈ LW := LW_of 609 (by decide +kernel) rfl
theorem q_610 : Cond.selects yX2_put.cls yX2_put yX2_put ∈ LW := LW_of 610 (by decide +kernel) rfl
theorem q_611 : Cond.code yX2_put cX2_put 6 (some .long) ∈ LW := LW_of 611 (by decide +kernel) rfl
theorem q_616 : Cond.methodLink RX2 67 yX3_writeOn ∈ LW := LW_of 616 (by decide +kernel) rfl
theorem q_621 : Cond.methodLink RX2 73 yX6_size ∈ LW := LW_of 621 (by decide +kernel) rfl
theorem q_622 : Cond.methodLink RX2 77 yX2_takePiece ∈ LW := LW_of 622 (by decide +kernel) rfl
theorem q_627 : Cond.constantLong RX2 127 4294967295 ∈ LW := LW_of 627 (by decide +kernel) rfl
theorem q_632 : Cond.methodLink RX2 129 yX1_plainQuotient ∈ LW := LW_of 632 (by decide +kernel) rfl
theorem q_639 : Cond.methodLink RX2 93 yJ13_bitCount_95d88 ∈ LW := LW_of 639 (by decide +kernel) rfl
theorem q_640 : Cond.static yJ13_bitCount_95d88 ∈ LW := LW_of 640 (by decide +kernel) rfl
theorem q_641 : Cond.code yJ13_bitCount_95d88 cJ13_bitCount_95d88 2 (some .int) ∈ LW := LW_of 641 (by decide +kernel) rfl
theorem q_649 : Cond.methodLink RX2 99 yX1_zerosInFront ∈ LW := LW_of 649 (by decide +kernel) rfl
theorem q_650 : Cond.static yX1_zerosInFront ∈ LW := LW_of 650 (by decide +kernel) rfl
theorem q_651 : Cond.code yX1_zerosInFront cX1_zerosInFront 3 (some .int) ∈ LW := LW_of 651 (by decide +kernel) rfl
theorem q_664 : Cond.methodLink RX2 103 yX1_zerosBehind ∈ LW := LW_of 664 (by decide +kernel) rfl
theorem q_665 : Cond.static yX1_zerosBehind ∈ LW := LW_of 665 (by decide +kernel) rfl
theorem q_666 : Cond.code yX1_zerosBehind cX1_zerosBehind 3 (some .int) ∈ LW := LW_of 666 (by decide +kernel) rfl
theorem q_678 : Cond.constantLong RX2 106 (-1) ∈ LW := LW_of 678 (by decide +kernel) rfl
theorem q_687 : Cond.methodLink RX2 108 yX1_turned ∈ LW := LW_of 687 (by decide +kernel) rfl
theorem q_688 : Cond.static yX1_turned ∈ LW := LW_of 688 (by decide +kernel) rfl
theorem q_689 : Cond.code yX1_turned cX1_turned 3 (some .long) ∈ LW := LW_of 689 (by decide +kernel) rfl
theorem q_712 : Cond.methodLink RX2 111 yX1_bytesTurned ∈ LW := LW_of 712 (by decide +kernel) rfl
theorem q_713 : Cond.static yX1_bytesTurned ∈ LW := LW_of 713 (by decide +kernel) rfl
theorem q_714 : Cond.code yX1_bytesTurned cX1_bytesTurned 3 (some .long) ∈ LW := LW_of 714 (by decide +kernel) rfl
theorem q_721 : Cond.methodLink RX2 121 yX1_highestBit ∈ LW := LW_of 721 (by decide +kernel) rfl
theorem q_722 : Cond.static yX1_highestBit ∈ LW := LW_of 722 (by decide +kernel) rfl
theorem q_723 : Cond.code yX1_highestBit cX1_highestBit 3 (some .long) ∈ LW := LW_of 723 (by decide +kernel) rfl
theorem q_738 : Cond.methodLink RX2 124 yX1_lowestBit ∈ LW := LW_of 738 (by decide +kernel) rfl
theorem q_739 : Cond.static yX1_lowestBit ∈ LW := LW_of 739 (by decide +kernel) rfl
theorem q_740 : Cond.code yX1_lowestBit cX1_lowestBit 3 (some .long) ∈ LW := LW_of 740 (by decide +kernel) rfl
theorem q_752 : Cond.methodLink RX2 114 yX1_rotatedLeft ∈ LW := LW_of 752 (by decide +kernel) rfl
theorem q_753 : Cond.static yX1_rotatedLeft ∈ LW := LW_of 753 (by decide +kernel) rfl
theorem q_754 : Cond.code yX1_rotatedLeft cX1_rotatedLeft 4 (some .long) ∈ LW := LW_of 754 (by decide +kernel) rfl
theorem q_761 : Cond.methodLink RX2 118 yX1_rotatedRight ∈ LW := LW_of 761 (by decide +kernel) rfl
theorem q_762 : Cond.static yX1_rotatedRight ∈ LW := LW_of 762 (by decide +kernel) rfl
theorem q_763 : Cond.code yX1_rotatedRight cX1_rotatedRight 4 (some .long) ∈ LW := LW_of 763 (by decide +kernel) rfl
theorem qn_78 : Cond.fieldLinkNest RX2 85 "RadixDesk$Reader" "value" "J" "RadixDesk" ∈ NW := NW_of 78 (by decide +kernel) rfl
theorem hyJ13_bitCount_95d88 : yJ13_bitCount_95d88.cls ≠ "java/lang/invoke/MethodHandle" ∧ yJ13_bitCount_95d88.cls ≠ "java/lang/invoke/VarHandle" ∧ (parseMethodDescriptor yJ13_bitCount_95d88.desc).map (fun d => d.parameters.length) = some 1 := by decide +kernel
theorem hyJ13_compare_74951 : yJ13_compare_74951.cls ≠ "java/lang/invoke/MethodHandle" ∧ yJ13_compare_74951.cls ≠ "java/lang/invoke/VarHandle" ∧ (parseMethodDescriptor yJ13_compare_74951.desc).map (fun d => d.parameters.length) = some 2 := by decide +kernel
theorem hyJ6_signum_0f7a4 : yJ6_signum_0f7a4.cls ≠ "java/lang/invoke/MethodHandle" ∧ yJ6_signum_0f7a4.cls ≠ "java/lang/invoke/VarHandle" ∧ (parseMethodDescriptor yJ6_signum_0f7a4.desc).map (fun d => d.parameters.length) = some 1 := by decide +kernel
theorem hyX1_bytesTurned : yX1_bytesTurned.cls ≠ "java/lang/invoke/MethodHandle" ∧ yX1_bytesTurned.cls ≠ "java/lang/invoke/VarHandle" ∧ (parseMethodDescriptor yX1_bytesTurned.desc).map (fun d => d.parameters.length) = some 2 := by decide +kernel
theorem hyX1_highestBit : yX1_highestBit.cls ≠ "java/lang/invoke/MethodHandle" ∧ yX1_highestBit.cls ≠ "java/lang/invoke/VarHandle" ∧ (parseMethodDescriptor yX1_highestBit.desc).map (fun d => d.parameters.length) = some 2 := by decide +kernel
theorem hyX1_lowestBit : yX1_lowestBit.cls ≠ "java/lang/invoke/MethodHandle" ∧ yX1_lowestBit.cls ≠ "java/lang/invoke/VarHandle" ∧ (parseMethodDescriptor yX1_lowestBit.desc).map (fun d => d.parameters.length) = some 2 := by decide +kernel
theorem hyX1_plain : yX1_plain.cls ≠ "java/lang/invoke/MethodHandle" ∧ yX1_plain.cls ≠ "java/lang/invoke/VarHandle" ∧ (parseMethodDescriptor yX1_plain.desc).map (fun d => d.parameters.length) = some 2 := by decide +kernel
theorem hyX1_plainOrder : yX1_plainOrder.cls ≠ "java/lang/invoke/MethodHandle" ∧ yX1_plainOrder.cls ≠ "java/lang/invoke/VarHandle" ∧ (parseMethodDescriptor yX1_plainOrder.desc).map (fun d => d.parameters.length) = some 2 := by decide +kernel
theorem hyX1_plainQuotient : yX1_plainQuotient.cls ≠ "java/lang/invoke/MethodHandle" ∧ yX1_plainQuotient.cls ≠ "java/lang/invoke/VarHandle" ∧ (parseMethodDescriptor yX1_plainQuotient.desc).map (fun d => d.parameters.length) = some 2 := by decide +kernel
theorem hyX1_rotatedLeft : yX1_rotatedLeft.cls ≠ "java/lang/invoke/MethodHandle" ∧ yX1_rotatedLeft.cls ≠ "java/lang/invoke/VarHandle" ∧ (parseMethodDescriptor yX1_rotatedLeft.desc).map (fun d => d.parameters.length) = some 3 := by decide +kernel
theorem hyX1_rotatedRight : yX1_rotatedRight.cls ≠ "java/lang/invoke/MethodHandle" ∧ yX1_rotatedRight.cls ≠ "java/lang/invoke/VarHandle" ∧ (parseMethodDescriptor yX1_rotatedRight.desc).map (fun d => d.parameters.length) = some 3 := by decide +kernel
theorem hyX1_signed : yX1_signed.cls ≠ "java/lang/invoke/MethodHandle" ∧ yX1_signed.cls ≠ "java/lang/invoke/VarHandle" ∧ (parseMethodDescriptor yX1_signed.desc).map (fun d => d.parameters.length) = some 2 := by decide +kernel
theorem hyX1_turned : yX1_turned.cls ≠ "java/lang/invoke/MethodHandle" ∧ yX1_turned.cls ≠ "java/lang/invoke/VarHandle" ∧ (parseMethodDescriptor yX1_turned.desc).map (fun d => d.parameters.length) = some 2 := by decide +kernel
theorem hyX1_zerosBehind : yX1_zerosBehind.cls ≠ "java/lang/invoke/MethodHandle" ∧ yX1_zerosBehind.cls ≠ "java/lang/invoke/VarHandle" ∧ (parseMethodDescriptor yX1_zerosBehind.desc).map (fun d => d.parameters.length) = some 2 := by decide +kernel
theorem hyX1_zerosInFront : yX1_zerosInFront.cls ≠ "java/lang/invoke/MethodHandle" ∧ yX1_zerosInFront.cls ≠ "java/lang/invoke/VarHandle" ∧ (parseMethodDescriptor yX1_zerosInFront.desc).map (fun d => d.parameters.length) = some 2 := by decide +kernel
theorem hyX2_allBits : yX2_allBits.cls ≠ "java/lang/invoke/MethodHandle" ∧ yX2_allBits.cls ≠ "java/lang/invoke/VarHandle" ∧ (parseMethodDescriptor yX2_allBits.desc).map (fun d => d.parameters.length) = some 1 := by decide +kernel
theorem hyX2_compared : yX2_compared.cls ≠ "java/lang/invoke/MethodHandle" ∧ yX2_compared.cls ≠ "java/lang/invoke/VarHandle" ∧ (parseMethodDescriptor yX2_compared.desc).map (fun d => d.parameters.length) = some 3 := by decide +kernel
theorem hyX2_keep : yX2_keep.cls ≠ "java/lang/invoke/MethodHandle" ∧ yX2_keep.cls ≠ "java/lang/invoke/VarHandle" ∧ (parseMethodDescriptor yX2_keep.desc).map (fun d => d.parameters.length) = some 2 := by decide +kernel
theorem hyX2_moveForward : yX2_moveForward.cls ≠ "java/lang/invoke/MethodHandle" ∧ yX2_moveForward.cls ≠ "java/lang/invoke/VarHandle" ∧ (parseMethodDescriptor yX2_moveForward.desc).map (fun d => d.parameters.length) = some 2 := by decide +kernel
theorem hyX2_plain : yX2_plain.cls ≠ "java/lang/invoke/MethodHandle" ∧ yX2_plain.cls ≠ "java/lang/invoke/VarHandle" ∧ (parseMethodDescriptor yX2_plain.desc).map (fun d => d.parameters.length) = some 1 := by decide +kernel
theorem hyX2_put : yX2_put.cls ≠ "java/lang/invoke/MethodHandle" ∧ yX2_put.cls ≠ "java/lang/invoke/VarHandle" ∧ (parseMethodDescriptor yX2_put.desc).map (fun d => d.parameters.length) = some 2 := by decide +kernel
theorem hyX2_signed : yX2_signed.cls ≠ "java/lang/invoke/MethodHandle" ∧ yX2_signed.cls ≠ "java/lang/invoke/VarHandle" ∧ (parseMethodDescriptor yX2_signed.desc).map (fun d => d.parameters.length) = some 1 := by decide +kernel
theorem hyX2_takePiece : yX2_takePiece.cls ≠ "java/lang/invoke/MethodHandle" ∧ yX2_takePiece.cls ≠ "java/lang/invoke/VarHandle" ∧ (parseMethodDescriptor yX2_takePiece.desc).map (fun d => d.parameters.length) = some 6 := by decide +kernel
theorem hyX2_valueOf : yX2_valueOf.cls ≠ "java/lang/invoke/MethodHandle" ∧ yX2_valueOf.cls ≠ "java/lang/invoke/VarHandle" ∧ (parseMethodDescriptor yX2_valueOf.desc).map (fun d => d.parameters.length) = some 2 := by decide +kernel
theorem hyX3_byteFor : yX3_byteFor.cls ≠ "java/lang/invoke/MethodHandle" ∧ yX3_byteFor.cls ≠ "java/lang/invoke/VarHandle" ∧ (parseMethodDescriptor yX3_byteFor.desc).map (fun d => d.parameters.length) = some 1 := by decide +kernel
theorem hyX3_isRadix : yX3_isRadix.cls ≠ "java/lang/invoke/MethodHandle" ∧ yX3_isRadix.cls ≠ "java/lang/invoke/VarHandle" ∧ (parseMethodDescriptor yX3_isRadix.desc).map (fun d => d.parameters.length) = some 1 := by decide +kernel
theorem hyX3_valueOf : yX3_valueOf.cls ≠ "java/lang/invoke/MethodHandle" ∧ yX3_valueOf.cls ≠ "java/lang/invoke/VarHandle" ∧ (parseMethodDescriptor yX3_valueOf.desc).map (fun d => d.parameters.length) = some 1 := by decide +kernel
theorem hyX3_writeOn : yX3_writeOn.cls ≠ "java/lang/invoke/MethodHandle" ∧ yX3_writeOn.cls ≠ "java/lang/invoke/VarHandle" ∧ (parseMethodDescriptor yX3_writeOn.desc).map (fun d => d.parameters.length) = some 4 := by decide +kernel
theorem hyX5_canRead : yX5_canRead.cls ≠ "java/lang/invoke/MethodHandle" ∧ yX5_canRead.cls ≠ "java/lang/invoke/VarHandle" ∧ (parseMethodDescriptor yX5_canRead.desc).map (fun d => d.parameters.length) = some 6 := by decide +kernel
theorem hyX5_mostSize : yX5_mostSize.cls ≠ "java/lang/invoke/MethodHandle" ∧ yX5_mostSize.cls ≠ "java/lang/invoke/VarHandle" ∧ (parseMethodDescriptor yX5_mostSize.desc).map (fun d => d.parameters.length) = some 3 := by decide +kernel
theorem hyX6_append : yX6_append.cls ≠ "java/lang/invoke/MethodHandle" ∧ yX6_append.cls ≠ "java/lang/invoke/VarHandle" ∧ (parseMethodDescriptor yX6_append.desc).map (fun d => d.parameters.length) = some 1 := by decide +kernel
theorem hyX6_appendRow : yX6_appendRow.cls ≠ "java/lang/invoke/MethodHandle" ∧ yX6_appendRow.cls ≠ "java/lang/invoke/VarHandle" ∧ (parseMethodDescriptor yX6_appendRow.desc).map (fun d => d.parameters.length) = some 1 := by decide +kernel
theorem hyX6_become : yX6_become.cls ≠ "java/lang/invoke/MethodHandle" ∧ yX6_become.cls ≠ "java/lang/invoke/VarHandle" ∧ (parseMethodDescriptor yX6_become.desc).map (fun d => d.parameters.length) = some 1 := by decide +kernel
theorem hyX6_byteAt : yX6_byteAt.cls ≠ "java/lang/invoke/MethodHandle" ∧ yX6_byteAt.cls ≠ "java/lang/invoke/VarHandle" ∧ (parseMethodDescriptor yX6_byteAt.desc).map (fun d => d.parameters.length) = some 1 := by decide +kernel
theorem hyX6_empty : yX6_empty.cls ≠ "java/lang/invoke/MethodHandle" ∧ yX6_empty.cls ≠ "java/lang/invoke/VarHandle" ∧ (parseMethodDescriptor yX6_empty.desc).map (fun d => d.parameters.length) = some 0 := by decide +kernel
theorem hyX6_size : yX6_size.cls ≠ "java/lang/invoke/MethodHandle" ∧ yX6_size.cls ≠ "java/lang/invoke/VarHandle" ∧ (parseMethodDescriptor yX6_size.desc).map (fun d => d.parameters.length) = some 0 := by decide +kernel
theorem hyX6_turnAround : yX6_turnAround.cls ≠ "java/lang/invoke/MethodHandle" ∧ yX6_turnAround.cls ≠ "java/lang/invoke/VarHandle" ∧ (parseMethodDescriptor yX6_turnAround.desc).map (fun d => d.parameters.length) = some 0 := by decide +kernel
theorem dX6_size_0 : decode cX6_size 0 = .ok (.aload_n 0, 1) := by decide +kernel
theorem dX6_size_1 : decode cX6_size 1 = .ok (.getfield 19, 3) := by decide +kernel
theorem dX6_size_4 : decode cX6_size 4 = .ok (.ireturn, 1) := by decide +kernel
def mX6_size (v_t_length : Int32) : Option (Int32) := some v_t_length
set_option maxHeartbeats 4000000 in
set_option maxRecDepth 100000 in
theorem kcX6_size (l : Launch) (D : va_G) (cy : Nat → ClassId) (g : Nat → Nat) (a_t : Nat) (a_t_bytes : Nat) (n_t_bytes : Nat) (f_t_bytes : Nat → Int32) (v_t_length : Int32) (R : Int32) (hm : mX6_size v_t_length = some R) : Con l D cy g yX6_size cX6_size 1 (some .int) 0 0 0 0 [.ref a_t] [(a_t, .inr (3, [.ref a_t_bytes, .int v_t_length])), (a_t_bytes, .inl (cy 0, n_t_bytes, .inl f_t_bytes))] [(a_t, .inr (3, [.ref a_t_bytes, .int v_t_length])), (a_t_bytes, .inl (cy 0, n_t_bytes, .inl f_t_bytes))] (some (.int R)) := by
  refine Con.of (by decide +kernel) (Nat.le_of_ble_eq_true rfl) ?_
  intro p e RM s m ar below meth c A Qc ls hx hb hr hml hown hlocks hnm ht hK hP hD hS hA hR hC hQc hl
  have hown : s.vm.findClass RX6 = some m.cls := hown
  have hl : lv_has ls 1 [(0, .ref a_t)] := hl
  rw [mX6_size] at hm
  refine lv_aload_n hx hb dX6_size_0 rfl (lv_at hl 0 rfl) ?_
  refine va_get (D := D) (cl := classes) (ci := 3) (v := .int v_t_length) (C := RX6) (T := TX6) (N := 2) hx hb ht in_RX6 hown hK.1 hP 0 rfl rfl 1 (by decide) (ht _ q_103) (fun _ h9 => h9) rfl dX6_size_1 ?_
  obtain rfl := Option.some.inj hm
  exact k_iret hx hb hr hlocks hQc hP hS rfl rfl dX6_size_4
theorem dX6_byteAt_0 : decode cX6_byteAt 0 = .ok (.iload_n 1, 1) := by decide +kernel
theorem dX6_byteAt_1 : decode cX6_byteAt 1 = .ok (.ifCond .lt 20, 3) := by decide +kernel
theorem dX6_byteAt_4 : decode cX6_byteAt 4 = .ok (.iload_n 1, 1) := by decide +kernel
theorem dX6_byteAt_5 : decode cX6_byteAt 5 = .ok (.aload_n 0, 1) := by decide +kernel
theorem dX6_byteAt_6 : decode cX6_byteAt 6 = .ok (.getfield 19, 3) := by decide +kernel
theorem dX6_byteAt_9 : decode cX6_byteAt 9 = .ok (.if_icmp .ge 12, 3) := by decide +kernel
theorem dX6_byteAt_12 : decode cX6_byteAt 12 = .ok (.aload_n 0, 1) := by decide +kernel
theorem dX6_byteAt_13 : decode cX6_byteAt 13 = .ok (.getfield 13, 3) := by decide +kernel
theorem dX6_byteAt_16 : decode cX6_byteAt 16 = .ok (.iload_n 1, 1) := by decide +kernel
theorem dX6_byteAt_17 : decode cX6_byteAt 17 = .ok (.iaload, 1) := by decide +kernel
theorem dX6_byteAt_18 : decode cX6_byteAt 18 = .ok (.goto 4, 3) := by decide +kernel
theorem dX6_byteAt_21 : decode cX6_byteAt 21 = .ok (.iconst 0, 1) := by decide +kernel
theorem dX6_byteAt_22 : decode cX6_byteAt 22 = .ok (.ireturn, 1) := by decide +kernel
def mX6_byteAt (n_t_bytes : Nat) (f_t_bytes : Nat → Int32) (v_t_length : Int32) (p1 : Int32) : Option (Int32) := (if p1 < 0 then some 0 else (if v_t_length ≤ p1 then some 0 else (if p1 < 0 ∨ n_t_bytes ≤ p1.toNatClampNeg then none else some (f_t_bytes p1.toNatClampNeg))))
set_option maxHeartbeats 4000000 in
set_option maxRecDepth 100000 in
theorem kcX6_byteAt (l : Launch) (D : va_G) (cy : Nat → ClassId) (g : Nat → Nat) (a_t : Nat) (a_t_bytes : Nat) (n_t_bytes : Nat) (f_t_bytes : Nat → Int32) (v_t_length : Int32) (p1 : Int32) (R : Int32) (hm : mX6_byteAt n_t_bytes f_t_bytes v_t_length p1 = some R) : Con l D cy g yX6_byteAt cX6_byteAt 2 (some .int) 0 0 0 0 [.ref a_t, .int p1] [(a_t, .inr (3, [.ref a_t_bytes, .int v_t_length])), (a_t_bytes, .inl (cy 0, n_t_bytes, .inl f_t_bytes))] [(a_t, .inr (3, [.ref a_t_bytes, .int v_t_length])), (a_t_bytes, .inl (cy 0, n_t_bytes, .inl f_t_bytes))] (some (.int R)) := by
  refine Con.of (by decide +kernel) (Nat.le_of_ble_eq_true rfl) ?_
  intro p e RM s m ar below meth c A Qc ls hx hb hr hml hown hlocks hnm ht hK hP hD hS hA hR hC hQc hl
  have hown : s.vm.findClass RX6 = some m.cls := hown
  have hl : lv_has ls 2 [(0, .ref a_t), (1, .int p1)] := hl
  rw [mX6_byteAt] at hm
  refine lv_iload_n hx hb dX6_byteAt_0 rfl (lv_at hl 1 rfl) ?_
  refine lv_if_lt (tgt := 21) hx hb dX6_byteAt_1 (by decide) (fun c_1 => ?_) (fun c_1 => ?_)
  · replace hm := hm_t c_1 hm
    refine lv_iconst (v := 0) hx hb dX6_byteAt_21 (by decide) ?_
    obtain rfl := Option.some.inj hm
    exact k_iret hx hb hr hlocks hQc hP hS rfl rfl dX6_byteAt_22
  · replace hm := hm_f c_1 hm
    refine lv_iload_n hx hb dX6_byteAt_4 rfl (lv_at hl 1 rfl) ?_
    refine lv_aload_n hx hb dX6_byteAt_5 rfl (lv_at hl 0 rfl) ?_
    refine va_get (D := D) (cl := classes) (ci := 3) (v := .int v_t_length) (C := RX6) (T := TX6) (N := 2) hx hb ht in_RX6 hown hK.1 hP 0 rfl rfl 1 (by decide) (ht _ q_103) (fun _ h9 => h9) rfl dX6_byteAt_6 ?_
    refine lv_icmp_ge (tgt := 21) hx hb dX6_byteAt_9 (by decide) (fun c_2 => ?_) (fun c_2 => ?_)
    · replace hm := hm_t c_2 hm
      refine lv_iconst (v := 0) hx hb dX6_byteAt_21 (by decide) ?_
      obtain rfl := Option.some.inj hm
      exact k_iret hx hb hr hlocks hQc hP hS rfl rfl dX6_byteAt_22
    · replace hm := hm_f c_2 hm
      refine lv_aload_n hx hb dX6_byteAt_12 rfl (lv_at hl 0 rfl) ?_
      refine va_get (D := D) (cl := classes) (ci := 3) (v := .ref a_t_bytes) (C := RX6) (T := TX6) (N := 2) hx hb ht in_RX6 hown hK.1 hP 0 rfl rfl 0 (by decide) (ht _ q_102) (fun _ h9 => h9) rfl dX6_byteAt_13 ?_
      refine lv_iload_n hx hb dX6_byteAt_16 rfl (lv_at hl 1 rfl) ?_
      obtain ⟨hin, hm⟩ := hm_g hm
      refine va_iald hx hb hK.1 hP 1 0 rfl rfl hin dX6_byteAt_17 ?_
      refine lv_goto (tgt := 22) hx hb dX6_byteAt_18 (by decide) ?_
      obtain rfl := Option.some.inj hm
      exact k_iret hx hb hr hlocks hQc hP hS rfl rfl dX6_byteAt_22
theorem dX6_empty_0 : decode cX6_empty 0 = .ok (.aload_n 0, 1) := by decide +kernel
theorem dX6_empty_1 : decode cX6_empty 1 = .ok (.iconst 0, 1) := by decide +kernel
theorem dX6_empty_2 : decode cX6_empty 2 = .ok (.putfield 19, 3) := by decide +kernel
theorem dX6_empty_5 : decode cX6_empty 5 = .ok (.return_, 1) := by decide +kernel
def mX6_empty  : Option (Int32) := some 0
set_option maxHeartbeats 4000000 in
set_option maxRecDepth 100000 in
theorem kcX6_empty (l : Launch) (D : va_G) (cy : Nat → ClassId) (g : Nat → Nat) (a_t : Nat) (a_t_bytes : Nat) (n_t_bytes : Nat) (f_t_bytes : Nat → Int32) (v_t_length : Int32) (R : Int32) (hm : mX6_empty = some R) : Con l D cy g yX6_empty cX6_empty 1 none 0 0 0 0 [.ref a_t] [(a_t, .inr (3, [.ref a_t_bytes, .int v_t_length])), (a_t_bytes, .inl (cy 0, n_t_bytes, .inl f_t_bytes))] [(a_t, .inr (3, [.ref a_t_bytes, .int R])), (a_t_bytes, .inl (cy 0, n_t_bytes, .inl f_t_bytes))] none := by
  refine Con.of (by decide +kernel) (Nat.le_of_ble_eq_true rfl) ?_
  intro p e RM s m ar below meth c A Qc ls hx hb hr hml hown hlocks hnm ht hK hP hD hS hA hR hC hQc hl
  have hown : s.vm.findClass RX6 = some m.cls := hown
  have hl : lv_has ls 1 [(0, .ref a_t)] := hl
  rw [mX6_empty] at hm
  refine lv_aload_n hx hb dX6_empty_0 rfl (lv_at hl 0 rfl) ?_
  refine lv_iconst (v := 0) hx hb dX6_empty_1 (by decide) ?_
  refine va_put (D := D) (cl := classes) (ci := 3) (v := .int 0) (ty := .int) (C := RX6) (T := TX6) (N := 2) hx hb ht in_RX6 tyX6 tyX6_ok nmX6 hown hK.1 hP hD hS 0 rfl rfl 1 (by decide) (ht _ q_103) (fun _ h9 => h9) rfl (by decide +kernel) rfl rfl (Nat.le_of_ble_eq_true rfl) dX6_empty_2 (fun H locs hP hD hS => ?_)
  have hP : va_P D classes [(a_t, .inr (3, [.ref a_t_bytes, .int 0])), (a_t_bytes, .inl (cy 0, n_t_bytes, .inl f_t_bytes))] H := hP
  have hD : va_D A [(a_t, .inr (3, [.ref a_t_bytes, .int 0])), (a_t_bytes, .inl (cy 0, n_t_bytes, .inl f_t_bytes))] := hD
  obtain rfl := Option.some.inj hm
  exact k_vret hx hb hr hlocks hQc hP hS rfl rfl dX6_empty_5
theorem dX6_append_0 : decode cX6_append 0 = .ok (.aload_n 0, 1) := by decide +kernel
theorem dX6_append_1 : decode cX6_append 1 = .ok (.getfield 19, 3) := by decide +kernel
theorem dX6_append_4 : decode cX6_append 4 = .ok (.aload_n 0, 1) := by decide +kernel
theorem dX6_append_5 : decode cX6_append 5 = .ok (.getfield 13, 3) := by decide +kernel
theorem dX6_append_8 : decode cX6_append 8 = .ok (.arraylength, 1) := by decide +kernel
theorem dX6_append_9 : decode cX6_append 9 = .ok (.if_icmp .ge 23, 3) := by decide +kernel
theorem dX6_append_12 : decode cX6_append 12 = .ok (.aload_n 0, 1) := by decide +kernel
theorem dX6_append_13 : decode cX6_append 13 = .ok (.getfield 13, 3) := by decide +kernel
theorem dX6_append_16 : decode cX6_append 16 = .ok (.aload_n 0, 1) := by decide +kernel
theorem dX6_append_17 : decode cX6_append 17 = .ok (.getfield 19, 3) := by decide +kernel
theorem dX6_append_20 : decode cX6_append 20 = .ok (.iload_n 1, 1) := by decide +kernel
theorem dX6_append_21 : decode cX6_append 21 = .ok (.iastore, 1) := by decide +kernel
theorem dX6_append_22 : decode cX6_append 22 = .ok (.aload_n 0, 1) := by decide +kernel
theorem dX6_append_23 : decode cX6_append 23 = .ok (.dup, 1) := by decide +kernel
theorem dX6_append_24 : decode cX6_append 24 = .ok (.getfield 19, 3) := by decide +kernel
theorem dX6_append_27 : decode cX6_append 27 = .ok (.iconst 1, 1) := by decide +kernel
theorem dX6_append_28 : decode cX6_append 28 = .ok (.iadd, 1) := by decide +kernel
theorem dX6_append_29 : decode cX6_append 29 = .ok (.putfield 19, 3) := by decide +kernel
theorem dX6_append_32 : decode cX6_append 32 = .ok (.return_, 1) := by decide +kernel
def mX6_append (n_t_bytes : Nat) (f_t_bytes : Nat → Int32) (v_t_length : Int32) (p1 : Int32) : Option ((Nat → Int32) × Int32) := (if (nI n_t_bytes) ≤ v_t_length then some (f_t_bytes, v_t_length) else (if v_t_length < 0 ∨ n_t_bytes ≤ v_t_length.toNatClampNeg then none else some ((upd f_t_bytes v_t_length.toNatClampNeg p1), (v_t_length + 1))))
set_option maxHeartbeats 4000000 in
set_option maxRecDepth 100000 in
theorem kcX6_append (l : Launch) (D : va_G) (cy : Nat → ClassId) (g : Nat → Nat) (a_t : Nat) (a_t_bytes : Nat) (n_t_bytes : Nat) (f_t_bytes : Nat → Int32) (v_t_length : Int32) (p1 : Int32) (R : (Nat → Int32) × Int32) (hm : mX6_append n_t_bytes f_t_bytes v_t_length p1 = some R) : Con l D cy g yX6_append cX6_append 2 none 0 0 0 0 [.ref a_t, .int p1] [(a_t, .inr (3, [.ref a_t_bytes, .int v_t_length])), (a_t_bytes, .inl (cy 0, n_t_bytes, .inl f_t_bytes))] [(a_t, .inr (3, [.ref a_t_bytes, .int R.2])), (a_t_bytes, .inl (cy 0, n_t_bytes, .inl R.1))] none := by
  refine Con.of (by decide +kernel) (Nat.le_of_ble_eq_true rfl) ?_
  intro p e RM s m ar below meth c A Qc ls hx hb hr hml hown hlocks hnm ht hK hP hD hS hA hR hC hQc hl
  have hown : s.vm.findClass RX6 = some m.cls := hown
  have hl : lv_has ls 2 [(0, .ref a_t), (1, .int p1)] := hl
  rw [mX6_append] at hm
  refine lv_aload_n hx hb dX6_append_0 rfl (lv_at hl 0 rfl) ?_
  refine va_get (D := D) (cl := classes) (ci := 3) (v := .int v_t_length) (C := RX6) (T := TX6) (N := 2) hx hb ht in_RX6 hown hK.1 hP 0 rfl rfl 1 (by decide) (ht _ q_103) (fun _ h9 => h9) rfl dX6_append_1 ?_
  refine lv_aload_n hx hb dX6_append_4 rfl (lv_at hl 0 rfl) ?_
  refine va_get (D := D) (cl := classes) (ci := 3) (v := .ref a_t_bytes) (C := RX6) (T := TX6) (N := 2) hx hb ht in_RX6 hown hK.1 hP 0 rfl rfl 0 (by decide) (ht _ q_102) (fun _ h9 => h9) rfl dX6_append_5 ?_
  refine va_alen (v := (nI n_t_bytes)) hx hb hK.1 hP 1 0 rfl rfl rfl dX6_append_8 ?_
  refine lv_icmp_ge (tgt := 32) hx hb dX6_append_9 (by decide) (fun c_1 => ?_) (fun c_1 => ?_)
  · replace hm := hm_t c_1 hm
    obtain rfl := Option.some.inj hm
    exact k_vret hx hb hr hlocks hQc hP hS rfl rfl dX6_append_32
  · replace hm := hm_f c_1 hm
    refine lv_aload_n hx hb dX6_append_12 rfl (lv_at hl 0 rfl) ?_
    refine va_get (D := D) (cl := classes) (ci := 3) (v := .ref a_t_bytes) (C := RX6) (T := TX6) (N := 2) hx hb ht in_RX6 hown hK.1 hP 0 rfl rfl 0 (by decide) (ht _ q_102) (fun _ h9 => h9) rfl dX6_append_13 ?_
    refine lv_aload_n hx hb dX6_append_16 rfl (lv_at hl 0 rfl) ?_
    refine va_get (D := D) (cl := classes) (ci := 3) (v := .int v_t_length) (C := RX6) (T := TX6) (N := 2) hx hb ht in_RX6 hown hK.1 hP 0 rfl rfl 1 (by decide) (ht _ q_103) (fun _ h9 => h9) rfl dX6_append_17 ?_
    refine lv_iload_n hx hb dX6_append_20 rfl (lv_at hl 1 rfl) ?_
    obtain ⟨hin, hm⟩ := hm_g hm
    refine va_iast hx hb hK.1 hP hD hS 1 0 rfl rfl hin dX6_append_21 (fun H locs hP hD hS => ?_)
    have hP : va_P D classes [(a_t, .inr (3, [.ref a_t_bytes, .int v_t_length])), (a_t_bytes, .inl (cy 0, n_t_bytes, .inl (upd f_t_bytes v_t_length.toNatClampNeg p1)))] H := hP
    have hD : va_D A [(a_t, .inr (3, [.ref a_t_bytes, .int v_t_length])), (a_t_bytes, .inl (cy 0, n_t_bytes, .inl (upd f_t_bytes v_t_length.toNatClampNeg p1)))] := hD
    refine lv_aload_n hx hb dX6_append_22 rfl (lv_at hl 0 rfl) ?_
    refine lv_dup hx hb dX6_append_23 rfl ?_
    refine va_get (D := D) (cl := classes) (ci := 3) (v := .int v_t_length) (C := RX6) (T := TX6) (N := 2) hx hb ht in_RX6 hown hK.1 hP 0 rfl rfl 1 (by decide) (ht _ q_103) (fun _ h9 => h9) rfl dX6_append_24 ?_
    refine lv_iconst (v := 1) hx hb dX6_append_27 (by decide) ?_
    refine lv_iadd hx hb dX6_append_28 ?_
    refine va_put (D := D) (cl := classes) (ci := 3) (v := .int (v_t_length + 1)) (ty := .int) (C := RX6) (T := TX6) (N := 2) hx hb ht in_RX6 tyX6 tyX6_ok nmX6 hown hK.1 hP hD hS 0 rfl rfl 1 (by decide) (ht _ q_103) (fun _ h9 => h9) rfl (by decide +kernel) rfl rfl (Nat.le_of_ble_eq_true rfl) dX6_append_29 (fun H locs hP hD hS => ?_)
    have hP : va_P D classes [(a_t, .inr (3, [.ref a_t_bytes, .int (v_t_length + 1)])), (a_t_bytes, .inl (cy 0, n_t_bytes, .inl (upd f_t_bytes v_t_length.toNatClampNeg p1)))] H := hP
    have hD : va_D A [(a_t, .inr (3, [.ref a_t_bytes, .int (v_t_length + 1)])), (a_t_bytes, .inl (cy 0, n_t_bytes, .inl (upd f_t_bytes v_t_length.toNatClampNeg p1)))] := hD
    obtain rfl := Option.some.inj hm
    exact k_vret hx hb hr hlocks hQc hP hS rfl rfl dX6_append_32
theorem dX6_appendRow_0 : decode cX6_appendRow 0 = .ok (.aload_n 1, 1) := by decide +kernel
theorem dX6_appendRow_1 : decode cX6_appendRow 1 = .ok (.getfield 19, 3) := by decide +kernel
theorem dX6_appendRow_4 : decode cX6_appendRow 4 = .ok (.istore_n 2, 1) := by decide +kernel
theorem dX6_appendRow_5 : decode cX6_appendRow 5 = .ok (.iconst 0, 1) := by decide +kernel
theorem dX6_appendRow_6 : decode cX6_appendRow 6 = .ok (.istore_n 3, 1) := by decide +kernel
theorem dX6_appendRow_7 : decode cX6_appendRow 7 = .ok (.iload_n 3, 1) := by decide +kernel
theorem dX6_appendRow_8 : decode cX6_appendRow 8 = .ok (.iload_n 2, 1) := by decide +kernel
theorem dX6_appendRow_9 : decode cX6_appendRow 9 = .ok (.if_icmp .ge 18, 3) := by decide +kernel
theorem dX6_appendRow_12 : decode cX6_appendRow 12 = .ok (.aload_n 0, 1) := by decide +kernel
theorem dX6_appendRow_13 : decode cX6_appendRow 13 = .ok (.aload_n 1, 1) := by decide +kernel
theorem dX6_appendRow_14 : decode cX6_appendRow 14 = .ok (.iload_n 3, 1) := by decide +kernel
theorem dX6_appendRow_15 : decode cX6_appendRow 15 = .ok (.invokevirtual 23, 3) := by decide +kernel
theorem dX6_appendRow_18 : decode cX6_appendRow 18 = .ok (.invokevirtual 27, 3) := by decide +kernel
theorem dX6_appendRow_21 : decode cX6_appendRow 21 = .ok (.iinc 3 1, 3) := by decide +kernel
theorem dX6_appendRow_24 : decode cX6_appendRow 24 = .ok (.goto (-17), 3) := by decide +kernel
theorem dX6_appendRow_27 : decode cX6_appendRow 27 = .ok (.return_, 1) := by decide +kernel
def mX6_appendRow_L7 (v_p1_length : Int32) (n_p1_bytes : Nat) (f_p1_bytes : Nat → Int32) (n_t_bytes : Nat) : Nat → Int32 → Int32 → (Nat → Int32) → Option (Int32 × (Nat → Int32))
  | 0, _, _, _ => none
  | n_ + 1, y_10, y_11, y_12 => (if v_p1_length ≤ y_10 then some (y_11, y_12) else ((mX6_byteAt n_p1_bytes f_p1_bytes v_p1_length y_10).bind (fun r_14 => ((mX6_append n_t_bytes y_12 y_11 r_14).bind (fun r_15 => (mX6_appendRow_L7 v_p1_length n_p1_bytes f_p1_bytes n_t_bytes n_ (y_10 + 1) r_15.2 r_15.1))))))
def mX6_appendRow (k : Nat) (n_t_bytes : Nat) (n_p1_bytes : Nat) (f_t_bytes : Nat → Int32) (v_t_length : Int32) (f_p1_bytes : Nat → Int32) (v_p1_length : Int32) : Option ((Nat → Int32) × Int32) := ((mX6_appendRow_L7 v_p1_length n_p1_bytes f_p1_bytes n_t_bytes k 0 v_t_length f_t_bytes).bind (fun r_16 => some (r_16.2, r_16.1)))
set_option maxHeartbeats 4000000 in
set_option maxRecDepth 100000 in
theorem kcX6_appendRow (l : Launch) (D : va_G) (cy : Nat → ClassId) (g : Nat → Nat) (a_t : Nat) (a_t_bytes : Nat) (a_p1 : Nat) (a_p1_bytes : Nat) (n_t_bytes : Nat) (n_p1_bytes : Nat) (f_t_bytes : Nat → Int32) (v_t_length : Int32) (f_p1_bytes : Nat → Int32) (v_p1_length : Int32) (k : Nat) (R : (Nat → Int32) × Int32) (hm : mX6_appendRow k n_t_bytes n_p1_bytes f_t_bytes v_t_length f_p1_bytes v_p1_length = some R) : Con l D cy g yX6_appendRow cX6_appendRow 4 none 1 21 0 0 [.ref a_t, .ref a_p1] [(a_t, .inr (3, [.ref a_t_bytes, .int v_t_length])), (a_t_bytes, .inl (cy 0, n_t_bytes, .inl f_t_bytes)), (a_p1, .inr (3, [.ref a_p1_bytes, .int v_p1_length])), (a_p1_bytes, .inl (cy 0, n_p1_bytes, .inl f_p1_bytes))] [(a_t, .inr (3, [.ref a_t_bytes, .int R.2])), (a_t_bytes, .inl (cy 0, n_t_bytes, .inl R.1)), (a_p1, .inr (3, [.ref a_p1_bytes, .int v_p1_length])), (a_p1_bytes, .inl (cy 0, n_p1_bytes, .inl f_p1_bytes))] none := by
  refine Con.of (by decide +kernel) (Nat.le_of_ble_eq_true rfl) ?_
  intro p e RM s m ar below meth c A Qc ls hx hb hr hml hown hlocks hnm ht hK hP hD hS hA hR hC hQc hl
  have hown : s.vm.findClass RX6 = some m.cls := hown
  have hl : lv_has ls 4 [(0, .ref a_t), (1, .ref a_p1)] := hl
  rw [mX6_appendRow] at hm
  refine lv_aload_n hx hb dX6_appendRow_0 rfl (lv_at hl 1 rfl) ?_
  refine va_get (D := D) (cl := classes) (ci := 3) (v := .int v_p1_length) (C := RX6) (T := TX6) (N := 2) hx hb ht in_RX6 hown hK.1 hP 2 rfl rfl 1 (by decide) (ht _ q_103) (fun _ h9 => h9) rfl dX6_appendRow_1 ?_
  refine lv_istore_n (lv' := [(2, .int v_p1_length), (0, .ref a_t), (1, .ref a_p1)]) hx hb dX6_appendRow_4 rfl hl (by decide) rfl (fun ls hl => ?_)
  refine lv_iconst (v := 0) hx hb dX6_appendRow_5 (by decide) ?_
  refine lv_istore_n (lv' := [(3, .int 0), (2, .int v_p1_length), (0, .ref a_t), (1, .ref a_p1)]) hx hb dX6_appendRow_6 rfl hl (by decide) rfl (fun ls hl => ?_)
  have L7 : ∀ (rr : Int32 × (Nat → Int32)) (kk : ∀ (H : Heap) (locs : List Loc) (ls : Array Slot), va_P D classes [(a_t, .inr (3, [.ref a_t_bytes, .int rr.1])), (a_t_bytes, .inl (cy 0, n_t_bytes, .inl rr.2)), (a_p1, .inr (3, [.ref a_p1_bytes, .int v_p1_length])), (a_p1_bytes, .inl (cy 0, n_p1_bytes, .inl f_p1_bytes))] H → va_D A [(a_t, .inr (3, [.ref a_t_bytes, .int rr.1])), (a_t_bytes, .inl (cy 0, n_t_bytes, .inl rr.2)), (a_p1, .inr (3, [.ref a_p1_bytes, .int v_p1_length])), (a_p1_bytes, .inl (cy 0, n_p1_bytes, .inl f_p1_bytes))] → va_S A s.heap H locs → lv_has ls 4 [] → W p l e RM s m ar below meth c H locs 0 0 (MQ below Qc ar s 0 0 A) (F0 m 27 ls [])) (n_ : Nat), ∀ (y_10 : Int32) (y_11 : Int32) (y_12 : Nat → Int32), mX6_appendRow_L7 v_p1_length n_p1_bytes f_p1_bytes n_t_bytes n_ y_10 y_11 y_12 = some rr → ∀ (H : Heap) (locs : List Loc) (ls : Array Slot), va_P D classes [(a_t, .inr (3, [.ref a_t_bytes, .int y_11])), (a_t_bytes, .inl (cy 0, n_t_bytes, .inl y_12)), (a_p1, .inr (3, [.ref a_p1_bytes, .int v_p1_length])), (a_p1_bytes, .inl (cy 0, n_p1_bytes, .inl f_p1_bytes))] H → va_D A [(a_t, .inr (3, [.ref a_t_bytes, .int y_11])), (a_t_bytes, .inl (cy 0, n_t_bytes, .inl y_12)), (a_p1, .inr (3, [.ref a_p1_bytes, .int v_p1_length])), (a_p1_bytes, .inl (cy 0, n_p1_bytes, .inl f_p1_bytes))] → va_S A s.heap H locs → lv_has ls 4 [(3, .int y_10), (2, .int v_p1_length), (0, .ref a_t), (1, .ref a_p1)] → W p l e RM s m ar below meth c H locs 0 0 (MQ below Qc ar s 0 0 A) (F0 m 7 ls []) := by
    intro rr kk n_
    induction n_ with
    | zero => intro y_10 y_11 y_12 hm; rw [mX6_appendRow_L7] at hm; cases hm
    | succ n_ ih =>
      intro y_10 y_11 y_12 hm H locs ls hP hD hS hl
      rw [mX6_appendRow_L7] at hm
      refine lv_iload_n hx hb dX6_appendRow_7 rfl (lv_at hl 0 rfl) ?_
      refine lv_iload_n hx hb dX6_appendRow_8 rfl (lv_at hl 1 rfl) ?_
      refine lv_icmp_ge (tgt := 27) hx hb dX6_appendRow_9 (by decide) (fun c_13 => ?_) (fun c_13 => ?_)
      · replace hm := hm_t c_13 hm
        obtain rfl := Option.some.inj hm
        exact kk _ _ _ hP hD hS (lv_sub hl [] rfl)
      · replace hm := hm_f c_13 hm
        refine lv_aload_n hx hb dX6_appendRow_12 rfl (lv_at hl 2 rfl) ?_
        refine lv_aload_n hx hb dX6_appendRow_13 rfl (lv_at hl 3 rfl) ?_
        refine lv_iload_n hx hb dX6_appendRow_14 rfl (lv_at hl 0 rfl) ?_
        obtain ⟨r_14, hr_14, hm⟩ := hm_b hm
        refine k_V (as := [.int y_10]) (rest := [.ref a_t]) (ws' := [(a_t, .inr (3, [.ref a_t_bytes, .int y_11])), (a_t_bytes, .inl (cy 0, n_t_bytes, .inl y_12)), (a_p1, .inr (3, [.ref a_p1_bytes, .int v_p1_length])), (a_p1_bytes, .inl (cy 0, n_p1_bytes, .inl f_p1_bytes))]) (st2 := [.int r_14, .ref a_t]) (i0 := 2) hx hb hml hown ht hK hP hD hS hA hC hR hl (kcX6_byteAt l D cy g a_p1 a_p1_bytes n_p1_bytes f_p1_bytes v_p1_length y_10 r_14 hr_14) [2, 3] q_414 q_362 q_363 q_45 q_364 hyX6_byteAt ⟨rfl, rfl, rfl⟩ ⟨Nat.le_of_ble_eq_true rfl, Nat.le_of_ble_eq_true rfl, Nat.le_of_ble_eq_true rfl, Nat.le_of_ble_eq_true rfl⟩ rfl rfl rfl rfl (Nat.le_of_ble_eq_true rfl) dX6_appendRow_15 rfl rfl (fun H locs hP hD hS => ?_)
        obtain ⟨r_15, hr_15, hm⟩ := hm_b hm
        refine k_V (as := [.int r_14]) (rest := []) (ws' := [(a_t, .inr (3, [.ref a_t_bytes, .int r_15.2])), (a_t_bytes, .inl (cy 0, n_t_bytes, .inl r_15.1)), (a_p1, .inr (3, [.ref a_p1_bytes, .int v_p1_length])), (a_p1_bytes, .inl (cy 0, n_p1_bytes, .inl f_p1_bytes))]) (st2 := []) (i0 := 0) hx hb hml hown ht hK hP hD hS hA hC hR hl (kcX6_append l D cy g a_t a_t_bytes n_t_bytes y_12 y_11 r_14 r_15 hr_15) [0, 1] q_415 q_354 q_355 q_45 q_356 hyX6_append ⟨rfl, rfl, rfl⟩ ⟨Nat.le_of_ble_eq_true rfl, Nat.le_of_ble_eq_true rfl, Nat.le_of_ble_eq_true rfl, Nat.le_of_ble_eq_true rfl⟩ rfl rfl rfl rfl (Nat.le_of_ble_eq_true rfl) dX6_appendRow_18 rfl rfl (fun H locs hP hD hS => ?_)
        refine lv_iinc (v := (y_10 + 1)) (lv' := [(3, .int (y_10 + 1)), (2, .int v_p1_length), (0, .ref a_t), (1, .ref a_p1)]) hx hb dX6_appendRow_21 hl (k := 0) rfl rfl (by decide) rfl (fun ls hl => ?_)
        refine lv_goto (tgt := 7) hx hb dX6_appendRow_24 (by decide) ?_
        exact ih (y_10 + 1) r_15.2 r_15.1 hm _ _ _ hP hD hS (lv_sub hl [0, 1, 2, 3] rfl)
  obtain ⟨r_16, hL, hm⟩ := hm_b hm
  refine L7 r_16 ?_ k 0 v_t_length f_t_bytes hL _ _ _ hP hD hS (lv_sub hl [0, 1, 2, 3] rfl)
  intro H locs ls hP hD hS hl
  obtain rfl := Option.some.inj hm
  exact k_vret hx hb hr hlocks hQc hP hS rfl rfl dX6_appendRow_27
theorem dX6_become_0 : decode cX6_become 0 = .ok (.aload_n 0, 1) := by decide +kernel
theorem dX6_become_1 : decode cX6_become 1 = .ok (.invokevirtual 31, 3) := by decide +kernel
theorem dX6_become_4 : decode cX6_become 4 = .ok (.aload_n 0, 1) := by decide +kernel
theorem dX6_become_5 : decode cX6_become 5 = .ok (.aload_n 1, 1) := by decide +kernel
theorem dX6_become_6 : decode cX6_become 6 = .ok (.invokevirtual 34, 3) := by decide +kernel
theorem dX6_become_9 : decode cX6_become 9 = .ok (.return_, 1) := by decide +kernel
def mX6_become (k : Nat) (n_t_bytes : Nat) (n_p1_bytes : Nat) (f_t_bytes : Nat → Int32) (f_p1_bytes : Nat → Int32) (v_p1_length : Int32) : Option ((Nat → Int32) × Int32) := ((mX6_empty).bind (fun r_1 => ((mX6_appendRow k n_t_bytes n_p1_bytes f_t_bytes r_1 f_p1_bytes v_p1_length).bind (fun r_2 => some (r_2.1, r_2.2)))))
set_option maxHeartbeats 4000000 in
set_option maxRecDepth 100000 in
theorem kcX6_become (l : Launch) (D : va_G) (cy : Nat → ClassId) (g : Nat → Nat) (a_t : Nat) (a_t_bytes : Nat) (a_p1 : Nat) (a_p1_bytes : Nat) (n_t_bytes : Nat) (n_p1_bytes : Nat) (f_t_bytes : Nat → Int32) (v_t_length : Int32) (f_p1_bytes : Nat → Int32) (v_p1_length : Int32) (k : Nat) (R : (Nat → Int32) × Int32) (hm : mX6_become k n_t_bytes n_p1_bytes f_t_bytes f_p1_bytes v_p1_length = some R) : Con l D cy g yX6_become cX6_become 2 none 2 44 0 0 [.ref a_t, .ref a_p1] [(a_t, .inr (3, [.ref a_t_bytes, .int v_t_length])), (a_t_bytes, .inl (cy 0, n_t_bytes, .inl f_t_bytes)), (a_p1, .inr (3, [.ref a_p1_bytes, .int v_p1_length])), (a_p1_bytes, .inl (cy 0, n_p1_bytes, .inl f_p1_bytes))] [(a_t, .inr (3, [.ref a_t_bytes, .int R.2])), (a_t_bytes, .inl (cy 0, n_t_bytes, .inl R.1)), (a_p1, .inr (3, [.ref a_p1_bytes, .int v_p1_length])), (a_p1_bytes, .inl (cy 0, n_p1_bytes, .inl f_p1_bytes))] none := by
  refine Con.of (by decide +kernel) (Nat.le_of_ble_eq_true rfl) ?_
  intro p e RM s m ar below meth c A Qc ls hx hb hr hml hown hlocks hnm ht hK hP hD hS hA hR hC hQc hl
  have hown : s.vm.findClass RX6 = some m.cls := hown
  have hl : lv_has ls 2 [(0, .ref a_t), (1, .ref a_p1)] := hl
  rw [mX6_become] at hm
  refine lv_aload_n hx hb dX6_become_0 rfl (lv_at hl 0 rfl) ?_
  obtain ⟨r_1, hr_1, hm⟩ := hm_b hm
  refine k_V (as := []) (rest := []) (ws' := [(a_t, .inr (3, [.ref a_t_bytes, .int r_1])), (a_t_bytes, .inl (cy 0, n_t_bytes, .inl f_t_bytes)), (a_p1, .inr (3, [.ref a_p1_bytes, .int v_p1_length])), (a_p1_bytes, .inl (cy 0, n_p1_bytes, .inl f_p1_bytes))]) (st2 := []) (i0 := 0) hx hb hml hown ht hK hP hD hS hA hC hR hl (kcX6_empty l D cy g a_t a_t_bytes n_t_bytes f_t_bytes v_t_length r_1 hr_1) [0, 1] q_409 q_307 q_308 q_45 q_309 hyX6_empty ⟨rfl, rfl, rfl⟩ ⟨Nat.le_of_ble_eq_true rfl, Nat.le_of_ble_eq_true rfl, Nat.le_of_ble_eq_true rfl, Nat.le_of_ble_eq_true rfl⟩ rfl rfl rfl rfl (Nat.le_of_ble_eq_true rfl) dX6_become_1 rfl rfl (fun H locs hP hD hS => ?_)
  refine lv_aload_n hx hb dX6_become_4 rfl (lv_at hl 0 rfl) ?_
  refine lv_aload_n hx hb dX6_become_5 rfl (lv_at hl 1 rfl) ?_
  obtain ⟨r_2, hr_2, hm⟩ := hm_b hm
  refine k_V (as := [.ref a_p1]) (rest := []) (ws' := [(a_t, .inr (3, [.ref a_t_bytes, .int r_2.2])), (a_t_bytes, .inl (cy 0, n_t_bytes, .inl r_2.1)), (a_p1, .inr (3, [.ref a_p1_bytes, .int v_p1_length])), (a_p1_bytes, .inl (cy 0, n_p1_bytes, .inl f_p1_bytes))]) (st2 := []) (i0 := 0) hx hb hml hown ht hK hP hD hS hA hC hR hl (kcX6_appendRow l D cy g a_t a_t_bytes a_p1 a_p1_bytes n_t_bytes n_p1_bytes f_t_bytes r_1 f_p1_bytes v_p1_length k r_2 hr_2) [0, 1, 2, 3] q_410 q_411 q_412 q_45 q_413 hyX6_appendRow ⟨rfl, rfl, rfl⟩ ⟨Nat.le_of_ble_eq_true rfl, Nat.le_of_ble_eq_true rfl, Nat.le_of_ble_eq_true rfl, Nat.le_of_ble_eq_true rfl⟩ rfl rfl rfl rfl (Nat.le_of_ble_eq_true rfl) dX6_become_6 rfl rfl (fun H locs hP hD hS => ?_)
  obtain rfl := Option.some.inj hm
  exact k_vret hx hb hr hlocks hQc hP hS rfl rfl dX6_become_9
theorem dX6_turnAround_0 : decode cX6_turnAround 0 = .ok (.iconst 0, 1) := by decide +kernel
theorem dX6_turnAround_1 : decode cX6_turnAround 1 = .ok (.istore_n 1, 1) := by decide +kernel
theorem dX6_turnAround_2 : decode cX6_turnAround 2 = .ok (.aload_n 0, 1) := by decide +kernel
theorem dX6_turnAround_3 : decode cX6_turnAround 3 = .ok (.getfield 19, 3) := by decide +kernel
theorem dX6_turnAround_6 : decode cX6_turnAround 6 = .ok (.iconst 1, 1) := by decide +kernel
theorem dX6_turnAround_7 : decode cX6_turnAround 7 = .ok (.isub, 1) := by decide +kernel
theorem dX6_turnAround_8 : decode cX6_turnAround 8 = .ok (.istore_n 2, 1) := by decide +kernel
theorem dX6_turnAround_9 : decode cX6_turnAround 9 = .ok (.iload_n 2, 1) := by decide +kernel
theorem dX6_turnAround_10 : decode cX6_turnAround 10 = .ok (.iload_n 1, 1) := by decide +kernel
theorem dX6_turnAround_11 : decode cX6_turnAround 11 = .ok (.if_icmp .le 38, 3) := by decide +kernel
theorem dX6_turnAround_14 : decode cX6_turnAround 14 = .ok (.aload_n 0, 1) := by decide +kernel
theorem dX6_turnAround_15 : decode cX6_turnAround 15 = .ok (.getfield 13, 3) := by decide +kernel
theorem dX6_turnAround_18 : decode cX6_turnAround 18 = .ok (.iload_n 1, 1) := by decide +kernel
theorem dX6_turnAround_19 : decode cX6_turnAround 19 = .ok (.iaload, 1) := by decide +kernel
theorem dX6_turnAround_20 : decode cX6_turnAround 20 = .ok (.istore_n 3, 1) := by decide +kernel
theorem dX6_turnAround_21 : decode cX6_turnAround 21 = .ok (.aload_n 0, 1) := by decide +kernel
theorem dX6_turnAround_22 : decode cX6_turnAround 22 = .ok (.getfield 13, 3) := by decide +kernel
theorem dX6_turnAround_25 : decode cX6_turnAround 25 = .ok (.iload_n 1, 1) := by decide +kernel
theorem dX6_turnAround_26 : decode cX6_turnAround 26 = .ok (.aload_n 0, 1) := by decide +kernel
theorem dX6_turnAround_27 : decode cX6_turnAround 27 = .ok (.getfield 13, 3) := by decide +kernel
theorem dX6_turnAround_30 : decode cX6_turnAround 30 = .ok (.iload_n 2, 1) := by decide +kernel
theorem dX6_turnAround_31 : decode cX6_turnAround 31 = .ok (.iaload, 1) := by decide +kernel
theorem dX6_turnAround_32 : decode cX6_turnAround 32 = .ok (.iastore, 1) := by decide +kernel
theorem dX6_turnAround_33 : decode cX6_turnAround 33 = .ok (.aload_n 0, 1) := by decide +kernel
theorem dX6_turnAround_34 : decode cX6_turnAround 34 = .ok (.getfield 13, 3) := by decide +kernel
theorem dX6_turnAround_37 : decode cX6_turnAround 37 = .ok (.iload_n 2, 1) := by decide +kernel
theorem dX6_turnAround_38 : decode cX6_turnAround 38 = .ok (.iload_n 3, 1) := by decide +kernel
theorem dX6_turnAround_39 : decode cX6_turnAround 39 = .ok (.iastore, 1) := by decide +kernel
theorem dX6_turnAround_40 : decode cX6_turnAround 40 = .ok (.iinc 1 1, 3) := by decide +kernel
theorem dX6_turnAround_43 : decode cX6_turnAround 43 = .ok (.iinc 2 (-1), 3) := by decide +kernel
theorem dX6_turnAround_46 : decode cX6_turnAround 46 = .ok (.goto (-37), 3) := by decide +kernel
theorem dX6_turnAround_49 : decode cX6_turnAround 49 = .ok (.return_, 1) := by decide +kernel
def mX6_turnAround_L9 (n_t_bytes : Nat) : Nat → Int32 → Int32 → (Nat → Int32) → Option ((Nat → Int32))
  | 0, _, _, _ => none
  | n_ + 1, y_9, y_10, y_11 => (if y_10 ≤ y_9 then some y_11 else (if y_9 < 0 ∨ n_t_bytes ≤ y_9.toNatClampNeg then none else ((some (y_11 y_9.toNatClampNeg) : Option Int32).bind (fun x_13 => (if y_10 < 0 ∨ n_t_bytes ≤ y_10.toNatClampNeg then none else (if y_9 < 0 ∨ n_t_bytes ≤ y_9.toNatClampNeg then none else (if y_10 < 0 ∨ n_t_bytes ≤ y_10.toNatClampNeg then none else (mX6_turnAround_L9 n_t_bytes n_ (y_9 + 1) (y_10 + (-1)) (upd (upd y_11 y_9.toNatClampNeg (y_11 y_10.toNatClampNeg)) y_10.toNatClampNeg x_13)))))))))
def mX6_turnAround (k : Nat) (n_t_bytes : Nat) (f_t_bytes : Nat → Int32) (v_t_length : Int32) : Option ((Nat → Int32)) := ((some (v_t_length - 1) : Option Int32).bind (fun x_1 => ((mX6_turnAround_L9 n_t_bytes k 0 x_1 f_t_bytes).bind (fun r_14 => some r_14))))
set_option maxHeartbeats 4000000 in
set_option maxRecDepth 100000 in
theorem kcX6_turnAround (l : Launch) (D : va_G) (cy : Nat → ClassId) (g : Nat → Nat) (a_t : Nat) (a_t_bytes : Nat) (n_t_bytes : Nat) (f_t_bytes : Nat → Int32) (v_t_length : Int32) (k : Nat) (R : (Nat → Int32)) (hm : mX6_turnAround k n_t_bytes f_t_bytes v_t_length = some R) : Con l D cy g yX6_turnAround cX6_turnAround 4 none 0 0 0 0 [.ref a_t] [(a_t, .inr (3, [.ref a_t_bytes, .int v_t_length])), (a_t_bytes, .inl (cy 0, n_t_bytes, .inl f_t_bytes))] [(a_t, .inr (3, [.ref a_t_bytes, .int v_t_length])), (a_t_bytes, .inl (cy 0, n_t_bytes, .inl R))] none := by
  refine Con.of (by decide +kernel) (Nat.le_of_ble_eq_true rfl) ?_
  intro p e RM s m ar below meth c A Qc ls hx hb hr hml hown hlocks hnm ht hK hP hD hS hA hR hC hQc hl
  have hown : s.vm.findClass RX6 = some m.cls := hown
  have hl : lv_has ls 4 [(0, .ref a_t)] := hl
  rw [mX6_turnAround] at hm
  refine lv_iconst (v := 0) hx hb dX6_turnAround_0 (by decide) ?_
  refine lv_istore_n (lv' := [(1, .int 0), (0, .ref a_t)]) hx hb dX6_turnAround_1 rfl hl (by decide) rfl (fun ls hl => ?_)
  refine lv_aload_n hx hb dX6_turnAround_2 rfl (lv_at hl 1 rfl) ?_
  refine va_get (D := D) (cl := classes) (ci := 3) (v := .int v_t_length) (C := RX6) (T := TX6) (N := 2) hx hb ht in_RX6 hown hK.1 hP 0 rfl rfl 1 (by decide) (ht _ q_103) (fun _ h9 => h9) rfl dX6_turnAround_3 ?_
  refine lv_iconst (v := 1) hx hb dX6_turnAround_6 (by decide) ?_
  refine lv_isub hx hb dX6_turnAround_7 ?_
  obtain ⟨x_1, hx_, hm⟩ := hm_b hm
  refine k_topi (y := x_1) (Option.some.inj hx_) ?_
  refine lv_istore_n (lv' := [(2, .int x_1), (1, .int 0), (0, .ref a_t)]) hx hb dX6_turnAround_8 rfl hl (by decide) rfl (fun ls hl => ?_)
  have L9 : ∀ (rr : (Nat → Int32)) (kk : ∀ (H : Heap) (locs : List Loc) (ls : Array Slot), va_P D classes [(a_t, .inr (3, [.ref a_t_bytes, .int v_t_length])), (a_t_bytes, .inl (cy 0, n_t_bytes, .inl rr))] H → va_D A [(a_t, .inr (3, [.ref a_t_bytes, .int v_t_length])), (a_t_bytes, .inl (cy 0, n_t_bytes, .inl rr))] → va_S A s.heap H locs → lv_has ls 4 [] → W p l e RM s m ar below meth c H locs 0 0 (MQ below Qc ar s 0 0 A) (F0 m 49 ls [])) (n_ : Nat), ∀ (y_9 : Int32) (y_10 : Int32) (y_11 : Nat → Int32), mX6_turnAround_L9 n_t_bytes n_ y_9 y_10 y_11 = some rr → ∀ (H : Heap) (locs : List Loc) (ls : Array Slot), va_P D classes [(a_t, .inr (3, [.ref a_t_bytes, .int v_t_length])), (a_t_bytes, .inl (cy 0, n_t_bytes, .inl y_11))] H → va_D A [(a_t, .inr (3, [.ref a_t_bytes, .int v_t_length])), (a_t_bytes, .inl (cy 0, n_t_bytes, .inl y_11))] → va_S A s.heap H locs → lv_has ls 4 [(2, .int y_10), (1, .int y_9), (0, .ref a_t)] → W p l e RM s m ar below meth c H locs 0 0 (MQ below Qc ar s 0 0 A) (F0 m 9 ls []) := by
    intro rr kk n_
    induction n_ with
    | zero => intro y_9 y_10 y_11 hm; rw [mX6_turnAround_L9] at hm; cases hm
    | succ n_ ih =>
      intro y_9 y_10 y_11 hm H locs ls hP hD hS hl
      rw [mX6_turnAround_L9] at hm
      refine lv_iload_n hx hb dX6_turnAround_9 rfl (lv_at hl 0 rfl) ?_
      refine lv_iload_n hx hb dX6_turnAround_10 rfl (lv_at hl 1 rfl) ?_
      refine lv_icmp_le (tgt := 49) hx hb dX6_turnAround_11 (by decide) (fun c_12 => ?_) (fun c_12 => ?_)
      · replace hm := hm_t c_12 hm
        obtain rfl := Option.some.inj hm
        exact kk _ _ _ hP hD hS (lv_sub hl [] rfl)
      · replace hm := hm_f c_12 hm
        refine lv_aload_n hx hb dX6_turnAround_14 rfl (lv_at hl 2 rfl) ?_
        refine va_get (D := D) (cl := classes) (ci := 3) (v := .ref a_t_bytes) (C := RX6) (T := TX6) (N := 2) hx hb ht in_RX6 hown hK.1 hP 0 rfl rfl 0 (by decide) (ht _ q_102) (fun _ h9 => h9) rfl dX6_turnAround_15 ?_
        refine lv_iload_n hx hb dX6_turnAround_18 rfl (lv_at hl 1 rfl) ?_
        obtain ⟨hin, hm⟩ := hm_g hm
        refine va_iald hx hb hK.1 hP 1 0 rfl rfl hin dX6_turnAround_19 ?_
        obtain ⟨x_13, hx_, hm⟩ := hm_b hm
        refine k_topi (y := x_13) (Option.some.inj hx_) ?_
        refine lv_istore_n (lv' := [(3, .int x_13), (2, .int y_10), (1, .int y_9), (0, .ref a_t)]) hx hb dX6_turnAround_20 rfl hl (by decide) rfl (fun ls hl => ?_)
        refine lv_aload_n hx hb dX6_turnAround_21 rfl (lv_at hl 3 rfl) ?_
        refine va_get (D := D) (cl := classes) (ci := 3) (v := .ref a_t_bytes) (C := RX6) (T := TX6) (N := 2) hx hb ht in_RX6 hown hK.1 hP 0 rfl rfl 0 (by decide) (ht _ q_102) (fun _ h9 => h9) rfl dX6_turnAround_22 ?_
        refine lv_iload_n hx hb dX6_turnAround_25 rfl (lv_at hl 2 rfl) ?_
        refine lv_aload_n hx hb dX6_turnAround_26 rfl (lv_at hl 3 rfl) ?_
        refine va_get (D := D) (cl := classes) (ci := 3) (v := .ref a_t_bytes) (C := RX6) (T := TX6) (N := 2) hx hb ht in_RX6 hown hK.1 hP 0 rfl rfl 0 (by decide) (ht _ q_102) (fun _ h9 => h9) rfl dX6_turnAround_27 ?_
        refine lv_iload_n hx hb dX6_turnAround_30 rfl (lv_at hl 1 rfl) ?_
        obtain ⟨hin, hm⟩ := hm_g hm
        refine va_iald hx hb hK.1 hP 1 0 rfl rfl hin dX6_turnAround_31 ?_
        obtain ⟨hin, hm⟩ := hm_g hm
        refine va_iast hx hb hK.1 hP hD hS 1 0 rfl rfl hin dX6_turnAround_32 (fun H locs hP hD hS => ?_)
        have hP : va_P D classes [(a_t, .inr (3, [.ref a_t_bytes, .int v_t_length])), (a_t_bytes, .inl (cy 0, n_t_bytes, .inl (upd y_11 y_9.toNatClampNeg (y_11 y_10.toNatClampNeg))))] H := hP
        have hD : va_D A [(a_t, .inr (3, [.ref a_t_bytes, .int v_t_length])), (a_t_bytes, .inl (cy 0, n_t_bytes, .inl (upd y_11 y_9.toNatClampNeg (y_11 y_10.toNatClampNeg))))] := hD
        refine lv_aload_n hx hb dX6_turnAround_33 rfl (lv_at hl 3 rfl) ?_
        refine va_get (D := D) (cl := classes) (ci := 3) (v := .ref a_t_bytes) (C := RX6) (T := TX6) (N := 2) hx hb ht in_RX6 hown hK.1 hP 0 rfl rfl 0 (by decide) (ht _ q_102) (fun _ h9 => h9) rfl dX6_turnAround_34 ?_
        refine lv_iload_n hx hb dX6_turnAround_37 rfl (lv_at hl 1 rfl) ?_
        refine lv_iload_n hx hb dX6_turnAround_38 rfl (lv_at hl 0 rfl) ?_
        obtain ⟨hin, hm⟩ := hm_g hm
        refine va_iast hx hb hK.1 hP hD hS 1 0 rfl rfl hin dX6_turnAround_39 (fun H locs hP hD hS => ?_)
        have hP : va_P D classes [(a_t, .inr (3, [.ref a_t_bytes, .int v_t_length])), (a_t_bytes, .inl (cy 0, n_t_bytes, .inl (upd (upd y_11 y_9.toNatClampNeg (y_11 y_10.toNatClampNeg)) y_10.toNatClampNeg x_13)))] H := hP
        have hD : va_D A [(a_t, .inr (3, [.ref a_t_bytes, .int v_t_length])), (a_t_bytes, .inl (cy 0, n_t_bytes, .inl (upd (upd y_11 y_9.toNatClampNeg (y_11 y_10.toNatClampNeg)) y_10.toNatClampNeg x_13)))] := hD
        refine lv_iinc (v := (y_9 + 1)) (lv' := [(1, .int (y_9 + 1)), (3, .int x_13), (2, .int y_10), (0, .ref a_t)]) hx hb dX6_turnAround_40 hl (k := 2) rfl rfl (by decide) rfl (fun ls hl => ?_)
        refine lv_iinc (v := (y_10 + (-1))) (lv' := [(2, .int (y_10 + (-1))), (1, .int (y_9 + 1)), (3, .int x_13), (0, .ref a_t)]) hx hb dX6_turnAround_43 hl (k := 2) rfl rfl (by decide) rfl (fun ls hl => ?_)
        refine lv_goto (tgt := 9) hx hb dX6_turnAround_46 (by decide) ?_
        exact ih (y_9 + 1) (y_10 + (-1)) (upd (upd y_11 y_9.toNatClampNeg (y_11 y_10.toNatClampNeg)) y_10.toNatClampNeg x_13) hm _ _ _ hP hD hS (lv_sub hl [0, 1, 3] rfl)
  obtain ⟨r_14, hL, hm⟩ := hm_b hm
  refine L9 r_14 ?_ k 0 x_1 f_t_bytes hL _ _ _ hP hD hS (lv_sub hl [0, 1, 2] rfl)
  intro H locs ls hP hD hS hl
  obtain rfl := Option.some.inj hm
  exact k_vret hx hb hr hlocks hQc hP hS rfl rfl dX6_turnAround_49
theorem dX3_isRadix_0 : decode cX3_isRadix 0 = .ok (.iload_n 0, 1) := by decide +kernel
theorem dX3_isRadix_1 : decode cX3_isRadix 1 = .ok (.iconst 2, 1) := by decide +kernel
theorem dX3_isRadix_2 : decode cX3_isRadix 2 = .ok (.if_icmp .lt 13, 3) := by decide +kernel
theorem dX3_isRadix_5 : decode cX3_isRadix 5 = .ok (.iload_n 0, 1) := by decide +kernel
theorem dX3_isRadix_6 : decode cX3_isRadix 6 = .ok (.bipush 36, 2) := by decide +kernel
theorem dX3_isRadix_8 : decode cX3_isRadix 8 = .ok (.if_icmp .gt 7, 3) := by decide +kernel
theorem dX3_isRadix_11 : decode cX3_isRadix 11 = .ok (.iconst 1, 1) := by decide +kernel
theorem dX3_isRadix_12 : decode cX3_isRadix 12 = .ok (.goto 4, 3) := by decide +kernel
theorem dX3_isRadix_15 : decode cX3_isRadix 15 = .ok (.iconst 0, 1) := by decide +kernel
theorem dX3_isRadix_16 : decode cX3_isRadix 16 = .ok (.ireturn, 1) := by decide +kernel
def mX3_isRadix (p1 : Int32) : Option (Int32) := (if p1 < 2 then some 0 else (if (36 : Int32) < p1 then some 0 else some 1))
set_option maxHeartbeats 4000000 in
set_option maxRecDepth 100000 in
theorem kcX3_isRadix (l : Launch) (D : va_G) (cy : Nat → ClassId) (g : Nat → Nat) (p1 : Int32) (R : Int32) (hm : mX3_isRadix p1 = some R) : Con l D cy g yX3_isRadix cX3_isRadix 1 (some .boolean) 0 0 0 0 [.int p1] [] [] (some (.int R)) := by
  refine Con.of (by decide +kernel) (Nat.le_of_ble_eq_true rfl) ?_
  intro p e RM s m ar below meth c A Qc ls hx hb hr hml hown hlocks hnm ht hK hP hD hS hA hR hC hQc hl
  have hown : s.vm.findClass RX3 = some m.cls := hown
  have hl : lv_has ls 1 [(0, .int p1)] := hl
  rw [mX3_isRadix] at hm
  refine lv_iload_n hx hb dX3_isRadix_0 rfl (lv_at hl 0 rfl) ?_
  refine lv_iconst (v := 2) hx hb dX3_isRadix_1 (by decide) ?_
  refine lv_icmp_lt (tgt := 15) hx hb dX3_isRadix_2 (by decide) (fun c_1 => ?_) (fun c_1 => ?_)
  · replace hm := hm_t c_1 hm
    refine lv_iconst (v := 0) hx hb dX3_isRadix_15 (by decide) ?_
    obtain rfl := Option.some.inj hm
    exact k_zret hx hb hr hlocks hQc rfl hP hS rfl rfl dX3_isRadix_16
  · replace hm := hm_f c_1 hm
    refine lv_iload_n hx hb dX3_isRadix_5 rfl (lv_at hl 0 rfl) ?_
    refine lv_bipush (v := 36) hx hb dX3_isRadix_6 (by decide) ?_
    refine lv_icmp_gt (tgt := 15) hx hb dX3_isRadix_8 (by decide) (fun c_2 => ?_) (fun c_2 => ?_)
    · replace hm := hm_t c_2 hm
      refine lv_iconst (v := 0) hx hb dX3_isRadix_15 (by decide) ?_
      obtain rfl := Option.some.inj hm
      exact k_zret hx hb hr hlocks hQc rfl hP hS rfl rfl dX3_isRadix_16
    · replace hm := hm_f c_2 hm
      refine lv_iconst (v := 1) hx hb dX3_isRadix_11 (by decide) ?_
      refine lv_goto (tgt := 16) hx hb dX3_isRadix_12 (by decide) ?_
      obtain rfl := Option.some.inj hm
      exact k_zret hx hb hr hlocks hQc rfl hP hS rfl rfl dX3_isRadix_16
theorem dX3_valueOf_0 : decode cX3_valueOf 0 = .ok (.iload_n 0, 1) := by decide +kernel
theorem dX3_valueOf_1 : decode cX3_valueOf 1 = .ok (.bipush 48, 2) := by decide +kernel
theorem dX3_valueOf_3 : decode cX3_valueOf 3 = .ok (.if_icmp .lt 14, 3) := by decide +kernel
theorem dX3_valueOf_6 : decode cX3_valueOf 6 = .ok (.iload_n 0, 1) := by decide +kernel
theorem dX3_valueOf_7 : decode cX3_valueOf 7 = .ok (.bipush 57, 2) := by decide +kernel
theorem dX3_valueOf_9 : decode cX3_valueOf 9 = .ok (.if_icmp .gt 8, 3) := by decide +kernel
theorem dX3_valueOf_12 : decode cX3_valueOf 12 = .ok (.iload_n 0, 1) := by decide +kernel
theorem dX3_valueOf_13 : decode cX3_valueOf 13 = .ok (.bipush 48, 2) := by decide +kernel
theorem dX3_valueOf_15 : decode cX3_valueOf 15 = .ok (.isub, 1) := by decide +kernel
theorem dX3_valueOf_16 : decode cX3_valueOf 16 = .ok (.ireturn, 1) := by decide +kernel
theorem dX3_valueOf_17 : decode cX3_valueOf 17 = .ok (.iload_n 0, 1) := by decide +kernel
theorem dX3_valueOf_18 : decode cX3_valueOf 18 = .ok (.bipush 97, 2) := by decide +kernel
theorem dX3_valueOf_20 : decode cX3_valueOf 20 = .ok (.if_icmp .lt 17, 3) := by decide +kernel
theorem dX3_valueOf_23 : decode cX3_valueOf 23 = .ok (.iload_n 0, 1) := by decide +kernel
theorem dX3_valueOf_24 : decode cX3_valueOf 24 = .ok (.bipush 122, 2) := by decide +kernel
theorem dX3_valueOf_26 : decode cX3_valueOf 26 = .ok (.if_icmp .gt 11, 3) := by decide +kernel
theorem dX3_valueOf_29 : decode cX3_valueOf 29 = .ok (.iload_n 0, 1) := by decide +kernel
theorem dX3_valueOf_30 : decode cX3_valueOf 30 = .ok (.bipush 97, 2) := by decide +kernel
theorem dX3_valueOf_32 : decode cX3_valueOf 32 = .ok (.isub, 1) := by decide +kernel
theorem dX3_valueOf_33 : decode cX3_valueOf 33 = .ok (.bipush 10, 2) := by decide +kernel
theorem dX3_valueOf_35 : decode cX3_valueOf 35 = .ok (.iadd, 1) := by decide +kernel
theorem dX3_valueOf_36 : decode cX3_valueOf 36 = .ok (.ireturn, 1) := by decide +kernel
theorem dX3_valueOf_37 : decode cX3_valueOf 37 = .ok (.iload_n 0, 1) := by decide +kernel
theorem dX3_valueOf_38 : decode cX3_valueOf 38 = .ok (.bipush 65, 2) := by decide +kernel
theorem dX3_valueOf_40 : decode cX3_valueOf 40 = .ok (.if_icmp .lt 17, 3) := by decide +kernel
theorem dX3_valueOf_43 : decode cX3_valueOf 43 = .ok (.iload_n 0, 1) := by decide +kernel
theorem dX3_valueOf_44 : decode cX3_valueOf 44 = .ok (.bipush 90, 2) := by decide +kernel
theorem dX3_valueOf_46 : decode cX3_valueOf 46 = .ok (.if_icmp .gt 11, 3) := by decide +kernel
theorem dX3_valueOf_49 : decode cX3_valueOf 49 = .ok (.iload_n 0, 1) := by decide +kernel
theorem dX3_valueOf_50 : decode cX3_valueOf 50 = .ok (.bipush 65, 2) := by decide +kernel
theorem dX3_valueOf_52 : decode cX3_valueOf 52 = .ok (.isub, 1) := by decide +kernel
theorem dX3_valueOf_53 : decode cX3_valueOf 53 = .ok (.bipush 10, 2) := by decide +kernel
theorem dX3_valueOf_55 : decode cX3_valueOf 55 = .ok (.iadd, 1) := by decide +kernel
theorem dX3_valueOf_56 : decode cX3_valueOf 56 = .ok (.ireturn, 1) := by decide +kernel
theorem dX3_valueOf_57 : decode cX3_valueOf 57 = .ok (.iconst (-1), 1) := by decide +kernel
theorem dX3_valueOf_58 : decode cX3_valueOf 58 = .ok (.ireturn, 1) := by decide +kernel
def mX3_valueOf_j37 (p1 : Int32) : Option (Int32) := (if p1 < 65 then some (-1) else (if (90 : Int32) < p1 then some (-1) else some ((p1 - 65) + 10)))
def mX3_valueOf_j17 (p1 : Int32) : Option (Int32) := (if p1 < 97 then (mX3_valueOf_j37 p1) else (if (122 : Int32) < p1 then (mX3_valueOf_j37 p1) else some ((p1 - 97) + 10)))
def mX3_valueOf (p1 : Int32) : Option (Int32) := (if p1 < 48 then (mX3_valueOf_j17 p1) else (if (57 : Int32) < p1 then (mX3_valueOf_j17 p1) else some (p1 - 48)))
set_option maxHeartbeats 4000000 in
set_option maxRecDepth 100000 in
theorem kcX3_valueOf (l : Launch) (D : va_G) (cy : Nat → ClassId) (g : Nat → Nat) (p1 : Int32) (R : Int32) (hm : mX3_valueOf p1 = some R) : Con l D cy g yX3_valueOf cX3_valueOf 1 (some .int) 0 0 0 0 [.int p1] [] [] (some (.int R)) := by
  refine Con.of (by decide +kernel) (Nat.le_of_ble_eq_true rfl) ?_
  intro p e RM s m ar below meth c A Qc ls hx hb hr hml hown hlocks hnm ht hK hP hD hS hA hR hC hQc hl
  have hown : s.vm.findClass RX3 = some m.cls := hown
  have hl : lv_has ls 1 [(0, .int p1)] := hl
  rw [mX3_valueOf] at hm
  refine lv_iload_n hx hb dX3_valueOf_0 rfl (lv_at hl 0 rfl) ?_
  refine lv_bipush (v := 48) hx hb dX3_valueOf_1 (by decide) ?_
  have J17 : ∀ (_ : Unit), mX3_valueOf_j17 p1 = some R → ∀ (H : Heap) (locs : List Loc) (ls : Array Slot), va_P D classes [] H → va_D A [] → va_S A s.heap H locs → lv_has ls 1 [(0, .int p1)] → W p l e RM s m ar below meth c H locs 0 0 (MQ below Qc ar s 0 0 A) (F0 m 17 ls []) := by
    intro _ hm H locs ls hP hD hS hl
    rw [mX3_valueOf_j17] at hm
    refine lv_iload_n hx hb dX3_valueOf_17 rfl (lv_at hl 0 rfl) ?_
    refine lv_bipush (v := 97) hx hb dX3_valueOf_18 (by decide) ?_
    have J37 : ∀ (_ : Unit), mX3_valueOf_j37 p1 = some R → ∀ (H : Heap) (locs : List Loc) (ls : Array Slot), va_P D classes [] H → va_D A [] → va_S A s.heap H locs → lv_has ls 1 [(0, .int p1)] → W p l e RM s m ar below meth c H locs 0 0 (MQ below Qc ar s 0 0 A) (F0 m 37 ls []) := by
      intro _ hm H locs ls hP hD hS hl
      rw [mX3_valueOf_j37] at hm
      refine lv_iload_n hx hb dX3_valueOf_37 rfl (lv_at hl 0 rfl) ?_
      refine lv_bipush (v := 65) hx hb dX3_valueOf_38 (by decide) ?_
      refine lv_icmp_lt (tgt := 57) hx hb dX3_valueOf_40 (by decide) (fun c_5 => ?_) (fun c_5 => ?_)
      · replace hm := hm_t c_5 hm
        refine lv_iconst (v := (-1)) hx hb dX3_valueOf_57 (by decide) ?_
        obtain rfl := Option.some.inj hm
        exact k_iret hx hb hr hlocks hQc hP hS rfl rfl dX3_valueOf_58
      · replace hm := hm_f c_5 hm
        refine lv_iload_n hx hb dX3_valueOf_43 rfl (lv_at hl 0 rfl) ?_
        refine lv_bipush (v := 90) hx hb dX3_valueOf_44 (by decide) ?_
        refine lv_icmp_gt (tgt := 57) hx hb dX3_valueOf_46 (by decide) (fun c_6 => ?_) (fun c_6 => ?_)
        · replace hm := hm_t c_6 hm
          refine lv_iconst (v := (-1)) hx hb dX3_valueOf_57 (by decide) ?_
          obtain rfl := Option.some.inj hm
          exact k_iret hx hb hr hlocks hQc hP hS rfl rfl dX3_valueOf_58
        · replace hm := hm_f c_6 hm
          refine lv_iload_n hx hb dX3_valueOf_49 rfl (lv_at hl 0 rfl) ?_
          refine lv_bipush (v := 65) hx hb dX3_valueOf_50 (by decide) ?_
          refine lv_isub hx hb dX3_valueOf_52 ?_
          refine lv_bipush (v := 10) hx hb dX3_valueOf_53 (by decide) ?_
          refine lv_iadd hx hb dX3_valueOf_55 ?_
          obtain rfl := Option.some.inj hm
          exact k_iret hx hb hr hlocks hQc hP hS rfl rfl dX3_valueOf_56
    refine lv_icmp_lt (tgt := 37) hx hb dX3_valueOf_20 (by decide) (fun c_3 => ?_) (fun c_3 => ?_)
    · replace hm := hm_t c_3 hm
      exact J37 () hm _ _ _ hP hD hS (lv_sub hl [0] rfl)
    · replace hm := hm_f c_3 hm
      refine lv_iload_n hx hb dX3_valueOf_23 rfl (lv_at hl 0 rfl) ?_
      refine lv_bipush (v := 122) hx hb dX3_valueOf_24 (by decide) ?_
      refine lv_icmp_gt (tgt := 37) hx hb dX3_valueOf_26 (by decide) (fun c_7 => ?_) (fun c_7 => ?_)
      · replace hm := hm_t c_7 hm
        exact J37 () hm _ _ _ hP hD hS (lv_sub hl [0] rfl)
      · replace hm := hm_f c_7 hm
        refine lv_iload_n hx hb dX3_valueOf_29 rfl (lv_at hl 0 rfl) ?_
        refine lv_bipush (v := 97) hx hb dX3_valueOf_30 (by decide) ?_
        refine lv_isub hx hb dX3_valueOf_32 ?_
        refine lv_bipush (v := 10) hx hb dX3_valueOf_33 (by decide) ?_
        refine lv_iadd hx hb dX3_valueOf_35 ?_
        obtain rfl := Option.some.inj hm
        exact k_iret hx hb hr hlocks hQc hP hS rfl rfl dX3_valueOf_36
  refine lv_icmp_lt (tgt := 17) hx hb dX3_valueOf_3 (by decide) (fun c_1 => ?_) (fun c_1 => ?_)
  · replace hm := hm_t c_1 hm
    exact J17 () hm _ _ _ hP hD hS (lv_sub hl [0] rfl)
  · replace hm := hm_f c_1 hm
    refine lv_iload_n hx hb dX3_valueOf_6 rfl (lv_at hl 0 rfl) ?_
    refine lv_bipush (v := 57) hx hb dX3_valueOf_7 (by decide) ?_
    refine lv_icmp_gt (tgt := 17) hx hb dX3_valueOf_9 (by decide) (fun c_8 => ?_) (fun c_8 => ?_)
    · replace hm := hm_t c_8 hm
      exact J17 () hm _ _ _ hP hD hS (lv_sub hl [0] rfl)
    · replace hm := hm_f c_8 hm
      refine lv_iload_n hx hb dX3_valueOf_12 rfl (lv_at hl 0 rfl) ?_
      refine lv_bipush (v := 48) hx hb dX3_valueOf_13 (by decide) ?_
      refine lv_isub hx hb dX3_valueOf_15 ?_
      obtain rfl := Option.some.inj hm
      exact k_iret hx hb hr hlocks hQc hP hS rfl rfl dX3_valueOf_16
theorem dX3_byteFor_0 : decode cX3_byteFor 0 = .ok (.iload_n 0, 1) := by decide +kernel
theorem dX3_byteFor_1 : decode cX3_byteFor 1 = .ok (.bipush 10, 2) := by decide +kernel
theorem dX3_byteFor_3 : decode cX3_byteFor 3 = .ok (.if_icmp .ge 10, 3) := by decide +kernel
theorem dX3_byteFor_6 : decode cX3_byteFor 6 = .ok (.bipush 48, 2) := by decide +kernel
theorem dX3_byteFor_8 : decode cX3_byteFor 8 = .ok (.iload_n 0, 1) := by decide +kernel
theorem dX3_byteFor_9 : decode cX3_byteFor 9 = .ok (.iadd, 1) := by decide +kernel
theorem dX3_byteFor_10 : decode cX3_byteFor 10 = .ok (.goto 10, 3) := by decide +kernel
theorem dX3_byteFor_13 : decode cX3_byteFor 13 = .ok (.bipush 97, 2) := by decide +kernel
theorem dX3_byteFor_15 : decode cX3_byteFor 15 = .ok (.iload_n 0, 1) := by decide +kernel
theorem dX3_byteFor_16 : decode cX3_byteFor 16 = .ok (.iadd, 1) := by decide +kernel
theorem dX3_byteFor_17 : decode cX3_byteFor 17 = .ok (.bipush 10, 2) := by decide +kernel
theorem dX3_byteFor_19 : decode cX3_byteFor 19 = .ok (.isub, 1) := by decide +kernel
theorem dX3_byteFor_20 : decode cX3_byteFor 20 = .ok (.ireturn, 1) := by decide +kernel
def mX3_byteFor (p1 : Int32) : Option (Int32) := (if (10 : Int32) ≤ p1 then some ((97 + p1) - 10) else some (48 + p1))
set_option maxHeartbeats 4000000 in
set_option maxRecDepth 100000 in
theorem kcX3_byteFor (l : Launch) (D : va_G) (cy : Nat → ClassId) (g : Nat → Nat) (p1 : Int32) (R : Int32) (hm : mX3_byteFor p1 = some R) : Con l D cy g yX3_byteFor cX3_byteFor 1 (some .int) 0 0 0 0 [.int p1] [] [] (some (.int R)) := by
  refine Con.of (by decide +kernel) (Nat.le_of_ble_eq_true rfl) ?_
  intro p e RM s m ar below meth c A Qc ls hx hb hr hml hown hlocks hnm ht hK hP hD hS hA hR hC hQc hl
  have hown : s.vm.findClass RX3 = some m.cls := hown
  have hl : lv_has ls 1 [(0, .int p1)] := hl
  rw [mX3_byteFor] at hm
  refine lv_iload_n hx hb dX3_byteFor_0 rfl (lv_at hl 0 rfl) ?_
  refine lv_bipush (v := 10) hx hb dX3_byteFor_1 (by decide) ?_
  refine lv_icmp_ge (tgt := 13) hx hb dX3_byteFor_3 (by decide) (fun c_1 => ?_) (fun c_1 => ?_)
  · replace hm := hm_t c_1 hm
    refine lv_bipush (v := 97) hx hb dX3_byteFor_13 (by decide) ?_
    refine lv_iload_n hx hb dX3_byteFor_15 rfl (lv_at hl 0 rfl) ?_
    refine lv_iadd hx hb dX3_byteFor_16 ?_
    refine lv_bipush (v := 10) hx hb dX3_byteFor_17 (by decide) ?_
    refine lv_isub hx hb dX3_byteFor_19 ?_
    obtain rfl := Option.some.inj hm
    exact k_iret hx hb hr hlocks hQc hP hS rfl rfl dX3_byteFor_20
  · replace hm := hm_f c_1 hm
    refine lv_bipush (v := 48) hx hb dX3_byteFor_6 (by decide) ?_
    refine lv_iload_n hx hb dX3_byteFor_8 rfl (lv_at hl 0 rfl) ?_
    refine lv_iadd hx hb dX3_byteFor_9 ?_
    refine lv_goto (tgt := 20) hx hb dX3_byteFor_10 (by decide) ?_
    obtain rfl := Option.some.inj hm
    exact k_iret hx hb hr hlocks hQc hP hS rfl rfl dX3_byteFor_20
theorem dX3_writeOn_0 : decode cX3_writeOn 0 = .ok (.iload_n 3, 1) := by decide +kernel
theorem dX3_writeOn_1 : decode cX3_writeOn 1 = .ok (.invokestatic 9, 3) := by decide +kernel
theorem dX3_writeOn_4 : decode cX3_writeOn 4 = .ok (.ifCond .eq 7, 3) := by decide +kernel
theorem dX3_writeOn_7 : decode cX3_writeOn 7 = .ok (.iload_n 3, 1) := by decide +kernel
theorem dX3_writeOn_8 : decode cX3_writeOn 8 = .ok (.goto 5, 3) := by decide +kernel
theorem dX3_writeOn_11 : decode cX3_writeOn 11 = .ok (.bipush 10, 2) := by decide +kernel
theorem dX3_writeOn_13 : decode cX3_writeOn 13 = .ok (.istore 5, 2) := by decide +kernel
theorem dX3_writeOn_15 : decode cX3_writeOn 15 = .ok (.iload 4, 2) := by decide +kernel
theorem dX3_writeOn_17 : decode cX3_writeOn 17 = .ok (.ifCond .ne 13, 3) := by decide +kernel
theorem dX3_writeOn_20 : decode cX3_writeOn 20 = .ok (.lload_n 1, 1) := by decide +kernel
theorem dX3_writeOn_21 : decode cX3_writeOn 21 = .ok (.lconst 0, 1) := by decide +kernel
theorem dX3_writeOn_22 : decode cX3_writeOn 22 = .ok (.lcmp, 1) := by decide +kernel
theorem dX3_writeOn_23 : decode cX3_writeOn 23 = .ok (.ifCond .ge 7, 3) := by decide +kernel
theorem dX3_writeOn_26 : decode cX3_writeOn 26 = .ok (.iconst 1, 1) := by decide +kernel
theorem dX3_writeOn_27 : decode cX3_writeOn 27 = .ok (.goto 4, 3) := by decide +kernel
theorem dX3_writeOn_30 : decode cX3_writeOn 30 = .ok (.iconst 0, 1) := by decide +kernel
theorem dX3_writeOn_31 : decode cX3_writeOn 31 = .ok (.istore 6, 2) := by decide +kernel
theorem dX3_writeOn_33 : decode cX3_writeOn 33 = .ok (.iload 6, 2) := by decide +kernel
theorem dX3_writeOn_35 : decode cX3_writeOn 35 = .ok (.ifCond .eq 8, 3) := by decide +kernel
theorem dX3_writeOn_38 : decode cX3_writeOn 38 = .ok (.lload_n 1, 1) := by decide +kernel
theorem dX3_writeOn_39 : decode cX3_writeOn 39 = .ok (.lneg, 1) := by decide +kernel
theorem dX3_writeOn_40 : decode cX3_writeOn 40 = .ok (.goto 4, 3) := by decide +kernel
theorem dX3_writeOn_43 : decode cX3_writeOn 43 = .ok (.lload_n 1, 1) := by decide +kernel
theorem dX3_writeOn_44 : decode cX3_writeOn 44 = .ok (.lstore 7, 2) := by decide +kernel
theorem dX3_writeOn_46 : decode cX3_writeOn 46 = .ok (.aload_n 0, 1) := by decide +kernel
theorem dX3_writeOn_47 : decode cX3_writeOn 47 = .ok (.invokevirtual 15, 3) := by decide +kernel
theorem dX3_writeOn_50 : decode cX3_writeOn 50 = .ok (.iconst 0, 1) := by decide +kernel
theorem dX3_writeOn_51 : decode cX3_writeOn 51 = .ok (.istore 9, 2) := by decide +kernel
theorem dX3_writeOn_53 : decode cX3_writeOn 53 = .ok (.iload 9, 2) := by decide +kernel
theorem dX3_writeOn_55 : decode cX3_writeOn 55 = .ok (.bipush 64, 2) := by decide +kernel
theorem dX3_writeOn_57 : decode cX3_writeOn 57 = .ok (.if_icmp .ge 52, 3) := by decide +kernel
theorem dX3_writeOn_60 : decode cX3_writeOn 60 = .ok (.iload 9, 2) := by decide +kernel
theorem dX3_writeOn_62 : decode cX3_writeOn 62 = .ok (.ifCond .eq 10, 3) := by decide +kernel
theorem dX3_writeOn_65 : decode cX3_writeOn 65 = .ok (.lload 7, 2) := by decide +kernel
theorem dX3_writeOn_67 : decode cX3_writeOn 67 = .ok (.lconst 0, 1) := by decide +kernel
theorem dX3_writeOn_68 : decode cX3_writeOn 68 = .ok (.lcmp, 1) := by decide +kernel
theorem dX3_writeOn_69 : decode cX3_writeOn 69 = .ok (.ifCond .eq 40, 3) := by decide +kernel
theorem dX3_writeOn_72 : decode cX3_writeOn 72 = .ok (.lload 7, 2) := by decide +kernel
theorem dX3_writeOn_74 : decode cX3_writeOn 74 = .ok (.iload 5, 2) := by decide +kernel
theorem dX3_writeOn_76 : decode cX3_writeOn 76 = .ok (.i2l, 1) := by decide +kernel
theorem dX3_writeOn_77 : decode cX3_writeOn 77 = .ok (.invokestatic 20, 3) := by decide +kernel
theorem dX3_writeOn_80 : decode cX3_writeOn 80 = .ok (.lstore 10, 2) := by decide +kernel
theorem dX3_writeOn_82 : decode cX3_writeOn 82 = .ok (.aload_n 0, 1) := by decide +kernel
theorem dX3_writeOn_83 : decode cX3_writeOn 83 = .ok (.lload 7, 2) := by decide +kernel
theorem dX3_writeOn_85 : decode cX3_writeOn 85 = .ok (.lload 10, 2) := by decide +kernel
theorem dX3_writeOn_87 : decode cX3_writeOn 87 = .ok (.iload 5, 2) := by decide +kernel
theorem dX3_writeOn_89 : decode cX3_writeOn 89 = .ok (.i2l, 1) := by decide +kernel
theorem dX3_writeOn_90 : decode cX3_writeOn 90 = .ok (.lmul, 1) := by decide +kernel
theorem dX3_writeOn_91 : decode cX3_writeOn 91 = .ok (.lsub, 1) := by decide +kernel
theorem dX3_writeOn_92 : decode cX3_writeOn 92 = .ok (.l2i, 1) := by decide +kernel
theorem dX3_writeOn_93 : decode cX3_writeOn 93 = .ok (.invokestatic 26, 3) := by decide +kernel
theorem dX3_writeOn_96 : decode cX3_writeOn 96 = .ok (.invokevirtual 30, 3) := by decide +kernel
theorem dX3_writeOn_99 : decode cX3_writeOn 99 = .ok (.lload 10, 2) := by decide +kernel
theorem dX3_writeOn_101 : decode cX3_writeOn 101 = .ok (.lstore 7, 2) := by decide +kernel
theorem dX3_writeOn_103 : decode cX3_writeOn 103 = .ok (.iinc 9 1, 3) := by decide +kernel
theorem dX3_writeOn_106 : decode cX3_writeOn 106 = .ok (.goto (-53), 3) := by decide +kernel
theorem dX3_writeOn_109 : decode cX3_writeOn 109 = .ok (.iload 6, 2) := by decide +kernel
theorem dX3_writeOn_111 : decode cX3_writeOn 111 = .ok (.ifCond .eq 9, 3) := by decide +kernel
theorem dX3_writeOn_114 : decode cX3_writeOn 114 = .ok (.aload_n 0, 1) := by decide +kernel
theorem dX3_writeOn_115 : decode cX3_writeOn 115 = .ok (.bipush 45, 2) := by decide +kernel
theorem dX3_writeOn_117 : decode cX3_writeOn 117 = .ok (.invokevirtual 30, 3) := by decide +kernel
theorem dX3_writeOn_120 : decode cX3_writeOn 120 = .ok (.aload_n 0, 1) := by decide +kernel
theorem dX3_writeOn_121 : decode cX3_writeOn 121 = .ok (.invokevirtual 34, 3) := by decide +kernel
theorem dX3_writeOn_124 : decode cX3_writeOn 124 = .ok (.return_, 1) := by decide +kernel
def mX3_writeOn_L53 (x_3 : Int32) (n_p1_bytes : Nat) : Nat → Int64 → Int32 → Int32 → (Nat → Int32) → Option (Int32 × (Nat → Int32))
  | 0, _, _, _, _ => none
  | n_ + 1, y_28, y_29, y_30, y_31 => (if (64 : Int32) ≤ y_29 then some (y_30, y_31) else ((fun (j_38 : Unit → Option (Int32 × (Nat → Int32))) => (if y_29 = 0 then (j_38 ()) else (if (lg_cmp y_28 0) = 0 then some (y_30, y_31) else (j_38 ())))) (fun _ => ((mX1_plainQuotient y_28 (x_3.toInt64)).bind (fun r_35 => ((mX3_byteFor ((y_28 - (r_35 * (x_3.toInt64))).toInt32)).bind (fun r_36 => ((mX6_append n_p1_bytes y_31 y_30 r_36).bind (fun r_37 => (mX3_writeOn_L53 x_3 n_p1_bytes n_ r_35 (y_29 + 1) r_37.2 r_37.1))))))))))
def mX3_writeOn (k : Nat) (n_p1_bytes : Nat) (f_p1_bytes : Nat → Int32) (p2 : Int64) (p3 : Int32) (p4 : Int32) : Option ((Nat → Int32) × Int32) := ((mX3_isRadix p3).bind (fun r_1 => (((if r_1 = 0 then some 10 else some p3) : Option (Int32)).bind (fun x_3 => (((if p4 = 0 then (if (0 : Int32) ≤ (lg_cmp p2 0) then some 0 else some 1) else some 0) : Option (Int32)).bind (fun x_6 => (((if x_6 = 0 then some p2 else some (-p2)) : Option (Int64)).bind (fun x_8 => ((mX6_empty).bind (fun r_9 => ((mX3_writeOn_L53 x_3 n_p1_bytes k x_8 0 r_9 f_p1_bytes).bind (fun r_40 => (((if x_6 = 0 then some (r_40.1, r_40.2) else ((mX6_append n_p1_bytes r_40.2 r_40.1 45).bind (fun r_45 => some (r_45.2, r_45.1)))) : Option (Int32 × (Nat → Int32))).bind (fun x_43 => ((mX6_turnAround k n_p1_bytes x_43.2 x_43.1).bind (fun r_44 => some (r_44, x_43.1)))))))))))))))))
set_option maxHeartbeats 4000000 in
set_option maxRecDepth 100000 in
theorem kcX3_writeOn (l : Launch) (D : va_G) (cy : Nat → ClassId) (g : Nat → Nat) (a_p1 : Nat) (a_p1_bytes : Nat) (n_p1_bytes : Nat) (f_p1_bytes : Nat → Int32) (v_p1_length : Int32) (p2 : Int64) (p3 : Int32) (p4 : Int32) (k : Nat) (R : (Nat → Int32) × Int32) (hm : mX3_writeOn k n_p1_bytes f_p1_bytes p2 p3 p4 = some R) : Con l D cy g yX3_writeOn cX3_writeOn 12 none 1 27 0 0 [.ref a_p1, .long p2, .int p3, .int p4] [(a_p1, .inr (3, [.ref a_p1_bytes, .int v_p1_length])), (a_p1_bytes, .inl (cy 0, n_p1_bytes, .inl f_p1_bytes))] [(a_p1, .inr (3, [.ref a_p1_bytes, .int R.2])), (a_p1_bytes, .inl (cy 0, n_p1_bytes, .inl R.1))] none := by
  refine Con.of (by decide +kernel) (Nat.le_of_ble_eq_true rfl) ?_
  intro p e RM s m ar below meth c A Qc ls hx hb hr hml hown hlocks hnm ht hK hP hD hS hA hR hC hQc hl
  have hown : s.vm.findClass RX3 = some m.cls := hown
  have hl : lv_has ls 12 [(0, .ref a_p1), (1, .long p2), (3, .int p3), (4, .int p4)] := hl
  rw [mX3_writeOn] at hm
  refine lv_iload_n hx hb dX3_writeOn_0 rfl (lv_at hl 2 rfl) ?_
  obtain ⟨r_1, hr_1, hm⟩ := hm_b hm
  refine k_S (as := [.int p3]) (rest := []) (ws' := [(a_p1, .inr (3, [.ref a_p1_bytes, .int v_p1_length])), (a_p1_bytes, .inl (cy 0, n_p1_bytes, .inl f_p1_bytes))]) (st2 := [.int r_1]) hx hb hml hown ht hK hP hD hS hA hC hR hl (kcX3_isRadix l D cy g p3 r_1 hr_1) [] q_342 q_343 q_67 q_344 hyX3_isRadix ⟨Nat.le_of_ble_eq_true rfl, Nat.le_of_ble_eq_true rfl, Nat.le_of_ble_eq_true rfl, Nat.le_of_ble_eq_true rfl⟩ rfl rfl rfl rfl (Nat.le_of_ble_eq_true rfl) dX3_writeOn_1 rfl rfl (fun H locs hP hD hS => ?_)
  obtain ⟨x_3, hreg, hm⟩ := hm_b hm
  have J13 : ∀ (H : Heap) (locs : List Loc) (ls : Array Slot), va_P D classes [(a_p1, .inr (3, [.ref a_p1_bytes, .int v_p1_length])), (a_p1_bytes, .inl (cy 0, n_p1_bytes, .inl f_p1_bytes))] H → va_D A [(a_p1, .inr (3, [.ref a_p1_bytes, .int v_p1_length])), (a_p1_bytes, .inl (cy 0, n_p1_bytes, .inl f_p1_bytes))] → va_S A s.heap H locs → lv_has ls 12 [(0, .ref a_p1), (1, .long p2), (4, .int p4)] → W p l e RM s m ar below meth c H locs 0 0 (MQ below Qc ar s 0 0 A) (F0 m 13 ls [.int x_3]) := by
    intro H locs ls hP hD hS hl
    refine lv_istore (lv' := [(5, .int x_3), (0, .ref a_p1), (1, .long p2), (4, .int p4)]) hx hb dX3_writeOn_13 hl (by decide) rfl (fun ls hl => ?_)
    refine lv_iload hx hb dX3_writeOn_15 (lv_at hl 3 rfl) ?_
    obtain ⟨x_6, hreg, hm⟩ := hm_b hm
    have J31 : ∀ (H : Heap) (locs : List Loc) (ls : Array Slot), va_P D classes [(a_p1, .inr (3, [.ref a_p1_bytes, .int v_p1_length])), (a_p1_bytes, .inl (cy 0, n_p1_bytes, .inl f_p1_bytes))] H → va_D A [(a_p1, .inr (3, [.ref a_p1_bytes, .int v_p1_length])), (a_p1_bytes, .inl (cy 0, n_p1_bytes, .inl f_p1_bytes))] → va_S A s.heap H locs → lv_has ls 12 [(5, .int x_3), (0, .ref a_p1), (1, .long p2)] → W p l e RM s m ar below meth c H locs 0 0 (MQ below Qc ar s 0 0 A) (F0 m 31 ls [.int x_6]) := by
      intro H locs ls hP hD hS hl
      refine lv_istore (lv' := [(6, .int x_6), (5, .int x_3), (0, .ref a_p1), (1, .long p2)]) hx hb dX3_writeOn_31 hl (by decide) rfl (fun ls hl => ?_)
      refine lv_iload hx hb dX3_writeOn_33 (lv_at hl 0 rfl) ?_
      obtain ⟨x_8, hreg, hm⟩ := hm_b hm
      have J44 : ∀ (H : Heap) (locs : List Loc) (ls : Array Slot), va_P D classes [(a_p1, .inr (3, [.ref a_p1_bytes, .int v_p1_length])), (a_p1_bytes, .inl (cy 0, n_p1_bytes, .inl f_p1_bytes))] H → va_D A [(a_p1, .inr (3, [.ref a_p1_bytes, .int v_p1_length])), (a_p1_bytes, .inl (cy 0, n_p1_bytes, .inl f_p1_bytes))] → va_S A s.heap H locs → lv_has ls 12 [(6, .int x_6), (5, .int x_3), (0, .ref a_p1)] → W p l e RM s m ar below meth c H locs 0 0 (MQ below Qc ar s 0 0 A) (F0 m 44 ls [.long x_8]) := by
        intro H locs ls hP hD hS hl
        refine lv_lstore (lv' := [(7, .long x_8), (6, .int x_6), (5, .int x_3), (0, .ref a_p1)]) hx hb dX3_writeOn_44 hl (by decide) rfl (fun ls hl => ?_)
        refine lv_aload_n hx hb dX3_writeOn_46 rfl (lv_at hl 3 rfl) ?_
        obtain ⟨r_9, hr_9, hm⟩ := hm_b hm
        refine k_V (as := []) (rest := []) (ws' := [(a_p1, .inr (3, [.ref a_p1_bytes, .int r_9])), (a_p1_bytes, .inl (cy 0, n_p1_bytes, .inl f_p1_bytes))]) (st2 := []) (i0 := 0) hx hb hml hown ht hK hP hD hS hA hC hR hl (kcX6_empty l D cy g a_p1 a_p1_bytes n_p1_bytes f_p1_bytes v_p1_length r_9 hr_9) [0, 1] q_345 q_307 q_308 q_45 q_309 hyX6_empty ⟨rfl, rfl, rfl⟩ ⟨Nat.le_of_ble_eq_true rfl, Nat.le_of_ble_eq_true rfl, Nat.le_of_ble_eq_true rfl, Nat.le_of_ble_eq_true rfl⟩ rfl rfl rfl rfl (Nat.le_of_ble_eq_true rfl) dX3_writeOn_47 rfl rfl (fun H locs hP hD hS => ?_)
        refine lv_iconst (v := 0) hx hb dX3_writeOn_50 (by decide) ?_
        refine lv_istore (lv' := [(9, .int 0), (7, .long x_8), (6, .int x_6), (5, .int x_3), (0, .ref a_p1)]) hx hb dX3_writeOn_51 hl (by decide) rfl (fun ls hl => ?_)
        have L53 : ∀ (rr : Int32 × (Nat → Int32)) (kk : ∀ (H : Heap) (locs : List Loc) (ls : Array Slot), va_P D classes [(a_p1, .inr (3, [.ref a_p1_bytes, .int rr.1])), (a_p1_bytes, .inl (cy 0, n_p1_bytes, .inl rr.2))] H → va_D A [(a_p1, .inr (3, [.ref a_p1_bytes, .int rr.1])), (a_p1_bytes, .inl (cy 0, n_p1_bytes, .inl rr.2))] → va_S A s.heap H locs → lv_has ls 12 [(6, .int x_6), (0, .ref a_p1)] → W p l e RM s m ar below meth c H locs 0 0 (MQ below Qc ar s 0 0 A) (F0 m 109 ls [])) (n_ : Nat), ∀ (y_28 : Int64) (y_29 : Int32) (y_30 : Int32) (y_31 : Nat → Int32), mX3_writeOn_L53 x_3 n_p1_bytes n_ y_28 y_29 y_30 y_31 = some rr → ∀ (H : Heap) (locs : List Loc) (ls : Array Slot), va_P D classes [(a_p1, .inr (3, [.ref a_p1_bytes, .int y_30])), (a_p1_bytes, .inl (cy 0, n_p1_bytes, .inl y_31))] H → va_D A [(a_p1, .inr (3, [.ref a_p1_bytes, .int y_30])), (a_p1_bytes, .inl (cy 0, n_p1_bytes, .inl y_31))] → va_S A s.heap H locs → lv_has ls 12 [(9, .int y_29), (7, .long y_28), (6, .int x_6), (5, .int x_3), (0, .ref a_p1)] → W p l e RM s m ar below meth c H locs 0 0 (MQ below Qc ar s 0 0 A) (F0 m 53 ls []) := by
          intro rr kk n_
          induction n_ with
          | zero => intro y_28 y_29 y_30 y_31 hm; rw [mX3_writeOn_L53] at hm; cases hm
          | succ n_ ih =>
            intro y_28 y_29 y_30 y_31 hm H locs ls hP hD hS hl
            rw [mX3_writeOn_L53] at hm
            refine lv_iload hx hb dX3_writeOn_53 (lv_at hl 0 rfl) ?_
            refine lv_bipush (v := 64) hx hb dX3_writeOn_55 (by decide) ?_
            refine lv_icmp_ge (tgt := 109) hx hb dX3_writeOn_57 (by decide) (fun c_32 => ?_) (fun c_32 => ?_)
            · replace hm := hm_t c_32 hm
              obtain rfl := Option.some.inj hm
              exact kk _ _ _ hP hD hS (lv_sub hl [2, 4] rfl)
            · replace hm := hm_f c_32 hm
              refine lv_iload hx hb dX3_writeOn_60 (lv_at hl 0 rfl) ?_
              have J72 : ∀ (_ : Unit), ((mX1_plainQuotient y_28 (x_3.toInt64)).bind (fun r_35 => ((mX3_byteFor ((y_28 - (r_35 * (x_3.toInt64))).toInt32)).bind (fun r_36 => ((mX6_append n_p1_bytes y_31 y_30 r_36).bind (fun r_37 => (mX3_writeOn_L53 x_3 n_p1_bytes n_ r_35 (y_29 + 1) r_37.2 r_37.1))))))) = some rr → ∀ (H : Heap) (locs : List Loc) (ls : Array Slot), va_P D classes [(a_p1, .inr (3, [.ref a_p1_bytes, .int y_30])), (a_p1_bytes, .inl (cy 0, n_p1_bytes, .inl y_31))] H → va_D A [(a_p1, .inr (3, [.ref a_p1_bytes, .int y_30])), (a_p1_bytes, .inl (cy 0, n_p1_bytes, .inl y_31))] → va_S A s.heap H locs → lv_has ls 12 [(9, .int y_29), (7, .long y_28), (6, .int x_6), (5, .int x_3), (0, .ref a_p1)] → W p l e RM s m ar below meth c H locs 0 0 (MQ below Qc ar s 0 0 A) (F0 m 72 ls []) := by
                intro _ hm H locs ls hP hD hS hl
                refine lv_lload hx hb dX3_writeOn_72 (lv_at hl 1 rfl) ?_
                refine lv_iload hx hb dX3_writeOn_74 (lv_at hl 3 rfl) ?_
                refine lv_i2l hx hb dX3_writeOn_76 rfl ?_
                obtain ⟨r_35, hr_35, hm⟩ := hm_b hm
                refine k_S (as := [.long y_28, .long (x_3.toInt64)]) (rest := []) (ws' := [(a_p1, .inr (3, [.ref a_p1_bytes, .int y_30])), (a_p1_bytes, .inl (cy 0, n_p1_bytes, .inl y_31))]) (st2 := [.long r_35]) hx hb hml hown ht hK hP hD hS hA hC hR hl (kcX1_plainQuotient l D cy g y_28 (x_3.toInt64) r_35 hr_35) [] q_346 q_347 q_60 q_348 hyX1_plainQuotient ⟨Nat.le_of_ble_eq_true rfl, Nat.le_of_ble_eq_true rfl, Nat.le_of_ble_eq_true rfl, Nat.le_of_ble_eq_true rfl⟩ rfl rfl rfl rfl (Nat.le_of_ble_eq_true rfl) dX3_writeOn_77 rfl rfl (fun H locs hP hD hS => ?_)
                refine lv_lstore (lv' := [(10, .long r_35), (9, .int y_29), (7, .long y_28), (6, .int x_6), (5, .int x_3), (0, .ref a_p1)]) hx hb dX3_writeOn_80 hl (by decide) rfl (fun ls hl => ?_)
                refine lv_aload_n hx hb dX3_writeOn_82 rfl (lv_at hl 5 rfl) ?_
                refine lv_lload hx hb dX3_writeOn_83 (lv_at hl 2 rfl) ?_
                refine lv_lload hx hb dX3_writeOn_85 (lv_at hl 0 rfl) ?_
                refine lv_iload hx hb dX3_writeOn_87 (lv_at hl 4 rfl) ?_
                refine lv_i2l hx hb dX3_writeOn_89 rfl ?_
                refine lv_lmul hx hb dX3_writeOn_90 ?_
                refine lv_lsub hx hb dX3_writeOn_91 ?_
                refine lv_l2i hx hb dX3_writeOn_92 rfl ?_
                obtain ⟨r_36, hr_36, hm⟩ := hm_b hm
                refine k_S (as := [.int ((y_28 - (r_35 * (x_3.toInt64))).toInt32)]) (rest := [.ref a_p1]) (ws' := [(a_p1, .inr (3, [.ref a_p1_bytes, .int y_30])), (a_p1_bytes, .inl (cy 0, n_p1_bytes, .inl y_31))]) (st2 := [.int r_36, .ref a_p1]) hx hb hml hown ht hK hP hD hS hA hC hR hl (kcX3_byteFor l D cy g ((y_28 - (r_35 * (x_3.toInt64))).toInt32) r_36 hr_36) [] q_350 q_351 q_67 q_352 hyX3_byteFor ⟨Nat.le_of_ble_eq_true rfl, Nat.le_of_ble_eq_true rfl, Nat.le_of_ble_eq_true rfl, Nat.le_of_ble_eq_true rfl⟩ rfl rfl rfl rfl (Nat.le_of_ble_eq_true rfl) dX3_writeOn_93 rfl rfl (fun H locs hP hD hS => ?_)
                obtain ⟨r_37, hr_37, hm⟩ := hm_b hm
                refine k_V (as := [.int r_36]) (rest := []) (ws' := [(a_p1, .inr (3, [.ref a_p1_bytes, .int r_37.2])), (a_p1_bytes, .inl (cy 0, n_p1_bytes, .inl r_37.1))]) (st2 := []) (i0 := 0) hx hb hml hown ht hK hP hD hS hA hC hR hl (kcX6_append l D cy g a_p1 a_p1_bytes n_p1_bytes y_31 y_30 r_36 r_37 hr_37) [0, 1] q_353 q_354 q_355 q_45 q_356 hyX6_append ⟨rfl, rfl, rfl⟩ ⟨Nat.le_of_ble_eq_true rfl, Nat.le_of_ble_eq_true rfl, Nat.le_of_ble_eq_true rfl, Nat.le_of_ble_eq_true rfl⟩ rfl rfl rfl rfl (Nat.le_of_ble_eq_true rfl) dX3_writeOn_96 rfl rfl (fun H locs hP hD hS => ?_)
                refine lv_lload hx hb dX3_writeOn_99 (lv_at hl 0 rfl) ?_
                refine lv_lstore (lv' := [(7, .long r_35), (10, .long r_35), (9, .int y_29), (6, .int x_6), (5, .int x_3), (0, .ref a_p1)]) hx hb dX3_writeOn_101 hl (by decide) rfl (fun ls hl => ?_)
                refine lv_iinc (v := (y_29 + 1)) (lv' := [(9, .int (y_29 + 1)), (7, .long r_35), (10, .long r_35), (6, .int x_6), (5, .int x_3), (0, .ref a_p1)]) hx hb dX3_writeOn_103 hl (k := 2) rfl rfl (by decide) rfl (fun ls hl => ?_)
                refine lv_goto (tgt := 53) hx hb dX3_writeOn_106 (by decide) ?_
                exact ih r_35 (y_29 + 1) r_37.2 r_37.1 hm _ _ _ hP hD hS (lv_sub hl [0, 1, 3, 4, 5] rfl)
              refine lv_if_eq (tgt := 72) hx hb dX3_writeOn_62 (by decide) (fun c_33 => ?_) (fun c_33 => ?_)
              · replace hm := hm_t c_33 hm
                exact J72 () hm _ _ _ hP hD hS (lv_sub hl [0, 1, 2, 3, 4] rfl)
              · replace hm := hm_f c_33 hm
                refine lv_lload hx hb dX3_writeOn_65 (lv_at hl 1 rfl) ?_
                refine lv_lconst (v := 0) hx hb dX3_writeOn_67 (by decide) ?_
                refine W.lcmp hx hb dX3_writeOn_68 ?_
                refine lv_if_eq (tgt := 109) hx hb dX3_writeOn_69 (by decide) (fun c_39 => ?_) (fun c_39 => ?_)
                · replace hm := hm_t c_39 hm
                  obtain rfl := Option.some.inj hm
                  exact kk _ _ _ hP hD hS (lv_sub hl [2, 4] rfl)
                · replace hm := hm_f c_39 hm
                  exact J72 () hm _ _ _ hP hD hS (lv_sub hl [0, 1, 2, 3, 4] rfl)
        obtain ⟨r_40, hL, hm⟩ := hm_b hm
        refine L53 r_40 ?_ k x_8 0 r_9 f_p1_bytes hL _ _ _ hP hD hS (lv_sub hl [0, 1, 2, 3, 4] rfl)
        intro H locs ls hP hD hS hl
        refine lv_iload hx hb dX3_writeOn_109 (lv_at hl 0 rfl) ?_
        obtain ⟨x_43, hreg, hm⟩ := hm_b hm
        have J120 : ∀ (H : Heap) (locs : List Loc) (ls : Array Slot), va_P D classes [(a_p1, .inr (3, [.ref a_p1_bytes, .int x_43.1])), (a_p1_bytes, .inl (cy 0, n_p1_bytes, .inl x_43.2))] H → va_D A [(a_p1, .inr (3, [.ref a_p1_bytes, .int x_43.1])), (a_p1_bytes, .inl (cy 0, n_p1_bytes, .inl x_43.2))] → va_S A s.heap H locs → lv_has ls 12 [(0, .ref a_p1)] → W p l e RM s m ar below meth c H locs 0 0 (MQ below Qc ar s 0 0 A) (F0 m 120 ls []) := by
          intro H locs ls hP hD hS hl
          refine lv_aload_n hx hb dX3_writeOn_120 rfl (lv_at hl 0 rfl) ?_
          obtain ⟨r_44, hr_44, hm⟩ := hm_b hm
          refine k_V (as := []) (rest := []) (ws' := [(a_p1, .inr (3, [.ref a_p1_bytes, .int x_43.1])), (a_p1_bytes, .inl (cy 0, n_p1_bytes, .inl r_44))]) (st2 := []) (i0 := 0) hx hb hml hown ht hK hP hD hS hA hC hR hl (kcX6_turnAround l D cy g a_p1 a_p1_bytes n_p1_bytes x_43.2 x_43.1 k r_44 hr_44) [0, 1] q_357 q_358 q_359 q_45 q_360 hyX6_turnAround ⟨rfl, rfl, rfl⟩ ⟨Nat.le_of_ble_eq_true rfl, Nat.le_of_ble_eq_true rfl, Nat.le_of_ble_eq_true rfl, Nat.le_of_ble_eq_true rfl⟩ rfl rfl rfl rfl (Nat.le_of_ble_eq_true rfl) dX3_writeOn_121 rfl rfl (fun H locs hP hD hS => ?_)
          obtain rfl := Option.some.inj hm
          exact k_vret hx hb hr hlocks hQc hP hS rfl rfl dX3_writeOn_124
        replace hm := hreg
        refine lv_if_eq (tgt := 120) hx hb dX3_writeOn_111 (by decide) (fun c_41 => ?_) (fun c_41 => ?_)
        · replace hm := hm_t c_41 hm
          obtain rfl := Option.some.inj hm
          exact J120 _ _ _ hP hD hS (lv_sub hl [1] rfl)
        · replace hm := hm_f c_41 hm
          refine lv_aload_n hx hb dX3_writeOn_114 rfl (lv_at hl 1 rfl) ?_
          refine lv_bipush (v := 45) hx hb dX3_writeOn_115 (by decide) ?_
          obtain ⟨r_45, hr_45, hm⟩ := hm_b hm
          refine k_V (as := [.int 45]) (rest := []) (ws' := [(a_p1, .inr (3, [.ref a_p1_bytes, .int r_45.2])), (a_p1_bytes, .inl (cy 0, n_p1_bytes, .inl r_45.1))]) (st2 := []) (i0 := 0) hx hb hml hown ht hK hP hD hS hA hC hR hl (kcX6_append l D cy g a_p1 a_p1_bytes n_p1_bytes r_40.2 r_40.1 45 r_45 hr_45) [0, 1] q_353 q_354 q_355 q_45 q_356 hyX6_append ⟨rfl, rfl, rfl⟩ ⟨Nat.le_of_ble_eq_true rfl, Nat.le_of_ble_eq_true rfl, Nat.le_of_ble_eq_true rfl, Nat.le_of_ble_eq_true rfl⟩ rfl rfl rfl rfl (Nat.le_of_ble_eq_true rfl) dX3_writeOn_117 rfl rfl (fun H locs hP hD hS => ?_)
          obtain rfl := Option.some.inj hm
          exact J120 _ _ _ hP hD hS (lv_sub hl [1] rfl)
      replace hm := hreg
      refine lv_if_eq (tgt := 43) hx hb dX3_writeOn_35 (by decide) (fun c_7 => ?_) (fun c_7 => ?_)
      · replace hm := hm_t c_7 hm
        refine lv_lload_n hx hb dX3_writeOn_43 rfl (lv_at hl 3 rfl) ?_
        obtain rfl := Option.some.inj hm
        exact J44 _ _ _ hP hD hS (lv_sub hl [0, 1, 2] rfl)
      · replace hm := hm_f c_7 hm
        refine lv_lload_n hx hb dX3_writeOn_38 rfl (lv_at hl 3 rfl) ?_
        refine lv_lneg hx hb dX3_writeOn_39 ?_
        refine lv_goto (tgt := 44) hx hb dX3_writeOn_40 (by decide) ?_
        obtain rfl := Option.some.inj hm
        exact J44 _ _ _ hP hD hS (lv_sub hl [0, 1, 2] rfl)
    replace hm := hreg
    refine lv_if_ne (tgt := 30) hx hb dX3_writeOn_17 (by decide) (fun c_4 => ?_) (fun c_4 => ?_)
    · replace hm := hm_f c_4 hm
      refine lv_iconst (v := 0) hx hb dX3_writeOn_30 (by decide) ?_
      obtain rfl := Option.some.inj hm
      exact J31 _ _ _ hP hD hS (lv_sub hl [0, 1, 2] rfl)
    · replace hm := hm_t c_4 hm
      refine lv_lload_n hx hb dX3_writeOn_20 rfl (lv_at hl 2 rfl) ?_
      refine lv_lconst (v := 0) hx hb dX3_writeOn_21 (by decide) ?_
      refine W.lcmp hx hb dX3_writeOn_22 ?_
      refine lv_if_ge (tgt := 30) hx hb dX3_writeOn_23 (by decide) (fun c_46 => ?_) (fun c_46 => ?_)
      · replace hm := hm_t c_46 hm
        refine lv_iconst (v := 0) hx hb dX3_writeOn_30 (by decide) ?_
        obtain rfl := Option.some.inj hm
        exact J31 _ _ _ hP hD hS (lv_sub hl [0, 1, 2] rfl)
      · replace hm := hm_f c_46 hm
        refine lv_iconst (v := 1) hx hb dX3_writeOn_26 (by decide) ?_
        refine lv_goto (tgt := 31) hx hb dX3_writeOn_27 (by decide) ?_
        obtain rfl := Option.some.inj hm
        exact J31 _ _ _ hP hD hS (lv_sub hl [0, 1, 2] rfl)
  replace hm := hreg
  refine lv_if_eq (tgt := 11) hx hb dX3_writeOn_4 (by decide) (fun c_2 => ?_) (fun c_2 => ?_)
  · replace hm := hm_t c_2 hm
    refine lv_bipush (v := 10) hx hb dX3_writeOn_11 (by decide) ?_
    obtain rfl := Option.some.inj hm
    exact J13 _ _ _ hP hD hS (lv_sub hl [0, 1, 3] rfl)
  · replace hm := hm_f c_2 hm
    refine lv_iload_n hx hb dX3_writeOn_7 rfl (lv_at hl 2 rfl) ?_
    refine lv_goto (tgt := 13) hx hb dX3_writeOn_8 (by decide) ?_
    obtain rfl := Option.some.inj hm
    exact J13 _ _ _ hP hD hS (lv_sub hl [0, 1, 3] rfl)
theorem dX5_mostSize_0 : decode cX5_mostSize 0 = .ok (.iload_n 1, 1) := by decide +kernel
theorem dX5_mostSize_1 : decode cX5_mostSize 1 = .ok (.ifCond .eq 17, 3) := by decide +kernel
theorem dX5_mostSize_4 : decode cX5_mostSize 4 = .ok (.iload_n 2, 1) := by decide +kernel
theorem dX5_mostSize_5 : decode cX5_mostSize 5 = .ok (.ifCond .eq 9, 3) := by decide +kernel
theorem dX5_mostSize_8 : decode cX5_mostSize 8 = .ok (.ldc2_w 44, 3) := by decide +kernel
theorem dX5_mostSize_11 : decode cX5_mostSize 11 = .ok (.goto 6, 3) := by decide +kernel
theorem dX5_mostSize_14 : decode cX5_mostSize 14 = .ok (.ldc2_w 46, 3) := by decide +kernel
theorem dX5_mostSize_17 : decode cX5_mostSize 17 = .ok (.lreturn, 1) := by decide +kernel
theorem dX5_mostSize_18 : decode cX5_mostSize 18 = .ok (.iload_n 2, 1) := by decide +kernel
theorem dX5_mostSize_19 : decode cX5_mostSize 19 = .ok (.ifCond .eq 9, 3) := by decide +kernel
theorem dX5_mostSize_22 : decode cX5_mostSize 22 = .ok (.ldc2_w 48, 3) := by decide +kernel
theorem dX5_mostSize_25 : decode cX5_mostSize 25 = .ok (.goto 6, 3) := by decide +kernel
theorem dX5_mostSize_28 : decode cX5_mostSize 28 = .ok (.ldc2_w 50, 3) := by decide +kernel
theorem dX5_mostSize_31 : decode cX5_mostSize 31 = .ok (.lstore_n 3, 1) := by decide +kernel
theorem dX5_mostSize_32 : decode cX5_mostSize 32 = .ok (.iload_n 0, 1) := by decide +kernel
theorem dX5_mostSize_33 : decode cX5_mostSize 33 = .ok (.ifCond .eq 9, 3) := by decide +kernel
theorem dX5_mostSize_36 : decode cX5_mostSize 36 = .ok (.lload_n 3, 1) := by decide +kernel
theorem dX5_mostSize_37 : decode cX5_mostSize 37 = .ok (.lconst 1, 1) := by decide +kernel
theorem dX5_mostSize_38 : decode cX5_mostSize 38 = .ok (.ladd, 1) := by decide +kernel
theorem dX5_mostSize_39 : decode cX5_mostSize 39 = .ok (.goto 4, 3) := by decide +kernel
theorem dX5_mostSize_42 : decode cX5_mostSize 42 = .ok (.lload_n 3, 1) := by decide +kernel
theorem dX5_mostSize_43 : decode cX5_mostSize 43 = .ok (.lreturn, 1) := by decide +kernel
def mX5_mostSize (p1 : Int32) (p2 : Int32) (p3 : Int32) : Option (Int64) := (if p2 = 0 then (((if p3 = 0 then some 2147483647 else some 9223372036854775807) : Option (Int64)).bind (fun x_3 => (if p1 = 0 then some x_3 else some (x_3 + 1)))) else (if p3 = 0 then some 4294967295 else some (-1)))
set_option maxHeartbeats 4000000 in
set_option maxRecDepth 100000 in
theorem kcX5_mostSize (l : Launch) (D : va_G) (cy : Nat → ClassId) (g : Nat → Nat) (p1 : Int32) (p2 : Int32) (p3 : Int32) (R : Int64) (hm : mX5_mostSize p1 p2 p3 = some R) : Con l D cy g yX5_mostSize cX5_mostSize 5 (some .long) 0 0 0 0 [.int p1, .int p2, .int p3] [] [] (some (.long R)) := by
  refine Con.of (by decide +kernel) (Nat.le_of_ble_eq_true rfl) ?_
  intro p e RM s m ar below meth c A Qc ls hx hb hr hml hown hlocks hnm ht hK hP hD hS hA hR hC hQc hl
  have hown : s.vm.findClass RX5 = some m.cls := hown
  have hl : lv_has ls 5 [(0, .int p1), (1, .int p2), (2, .int p3)] := hl
  rw [mX5_mostSize] at hm
  refine lv_iload_n hx hb dX5_mostSize_0 rfl (lv_at hl 1 rfl) ?_
  refine lv_if_eq (tgt := 18) hx hb dX5_mostSize_1 (by decide) (fun c_1 => ?_) (fun c_1 => ?_)
  · replace hm := hm_t c_1 hm
    refine lv_iload_n hx hb dX5_mostSize_18 rfl (lv_at hl 2 rfl) ?_
    obtain ⟨x_3, hreg, hm⟩ := hm_b hm
    have J31 : ∀ (H : Heap) (locs : List Loc) (ls : Array Slot), va_P D classes [] H → va_D A [] → va_S A s.heap H locs → lv_has ls 5 [(0, .int p1)] → W p l e RM s m ar below meth c H locs 0 0 (MQ below Qc ar s 0 0 A) (F0 m 31 ls [.long x_3]) := by
      intro H locs ls hP hD hS hl
      refine lv_lstore_n (lv' := [(3, .long x_3), (0, .int p1)]) hx hb dX5_mostSize_31 rfl hl (by decide) rfl (fun ls hl => ?_)
      refine lv_iload_n hx hb dX5_mostSize_32 rfl (lv_at hl 1 rfl) ?_
      refine lv_if_eq (tgt := 42) hx hb dX5_mostSize_33 (by decide) (fun c_4 => ?_) (fun c_4 => ?_)
      · replace hm := hm_t c_4 hm
        refine lv_lload_n hx hb dX5_mostSize_42 rfl (lv_at hl 0 rfl) ?_
        obtain rfl := Option.some.inj hm
        exact k_lret hx hb hr hlocks hQc hP hS rfl rfl dX5_mostSize_43
      · replace hm := hm_f c_4 hm
        refine lv_lload_n hx hb dX5_mostSize_36 rfl (lv_at hl 0 rfl) ?_
        refine lv_lconst (v := 1) hx hb dX5_mostSize_37 (by decide) ?_
        refine lv_ladd hx hb dX5_mostSize_38 ?_
        refine lv_goto (tgt := 43) hx hb dX5_mostSize_39 (by decide) ?_
        obtain rfl := Option.some.inj hm
        exact k_lret hx hb hr hlocks hQc hP hS rfl rfl dX5_mostSize_43
    replace hm := hreg
    refine lv_if_eq (tgt := 28) hx hb dX5_mostSize_19 (by decide) (fun c_2 => ?_) (fun c_2 => ?_)
    · replace hm := hm_t c_2 hm
      refine lv_ldc2 (v := 2147483647) hx hb hown (ht _ q_547) dX5_mostSize_28 ?_
      obtain rfl := Option.some.inj hm
      exact J31 _ _ _ hP hD hS (lv_sub hl [0] rfl)
    · replace hm := hm_f c_2 hm
      refine lv_ldc2 (v := 9223372036854775807) hx hb hown (ht _ q_546) dX5_mostSize_22 ?_
      refine lv_goto (tgt := 31) hx hb dX5_mostSize_25 (by decide) ?_
      obtain rfl := Option.some.inj hm
      exact J31 _ _ _ hP hD hS (lv_sub hl [0] rfl)
  · replace hm := hm_f c_1 hm
    refine lv_iload_n hx hb dX5_mostSize_4 rfl (lv_at hl 2 rfl) ?_
    refine lv_if_eq (tgt := 14) hx hb dX5_mostSize_5 (by decide) (fun c_5 => ?_) (fun c_5 => ?_)
    · replace hm := hm_t c_5 hm
      refine lv_ldc2 (v := 4294967295) hx hb hown (ht _ q_545) dX5_mostSize_14 ?_
      obtain rfl := Option.some.inj hm
      exact k_lret hx hb hr hlocks hQc hP hS rfl rfl dX5_mostSize_17
    · replace hm := hm_f c_5 hm
      refine lv_ldc2 (v := (-1)) hx hb hown (ht _ q_544) dX5_mostSize_8 ?_
      refine lv_goto (tgt := 17) hx hb dX5_mostSize_11 (by decide) ?_
      obtain rfl := Option.some.inj hm
      exact k_lret hx hb hr hlocks hQc hP hS rfl rfl dX5_mostSize_17
theorem dX5_canRead_0 : decode cX5_canRead 0 = .ok (.aload_n 1, 1) := by decide +kernel
theorem dX5_canRead_1 : decode cX5_canRead 1 = .ok (.iload_n 2, 1) := by decide +kernel
theorem dX5_canRead_2 : decode cX5_canRead 2 = .ok (.invokevirtual 9, 3) := by decide +kernel
theorem dX5_canRead_5 : decode cX5_canRead 5 = .ok (.istore 7, 2) := by decide +kernel
theorem dX5_canRead_7 : decode cX5_canRead 7 = .ok (.iload 7, 2) := by decide +kernel
theorem dX5_canRead_9 : decode cX5_canRead 9 = .ok (.bipush 45, 2) := by decide +kernel
theorem dX5_canRead_11 : decode cX5_canRead 11 = .ok (.if_icmp .ne 7, 3) := by decide +kernel
theorem dX5_canRead_14 : decode cX5_canRead 14 = .ok (.iconst 1, 1) := by decide +kernel
theorem dX5_canRead_15 : decode cX5_canRead 15 = .ok (.goto 4, 3) := by decide +kernel
theorem dX5_canRead_18 : decode cX5_canRead 18 = .ok (.iconst 0, 1) := by decide +kernel
theorem dX5_canRead_19 : decode cX5_canRead 19 = .ok (.istore 8, 2) := by decide +kernel
theorem dX5_canRead_21 : decode cX5_canRead 21 = .ok (.iload 8, 2) := by decide +kernel
theorem dX5_canRead_23 : decode cX5_canRead 23 = .ok (.ifCond .ne 10, 3) := by decide +kernel
theorem dX5_canRead_26 : decode cX5_canRead 26 = .ok (.iload 7, 2) := by decide +kernel
theorem dX5_canRead_28 : decode cX5_canRead 28 = .ok (.bipush 43, 2) := by decide +kernel
theorem dX5_canRead_30 : decode cX5_canRead 30 = .ok (.if_icmp .ne 9, 3) := by decide +kernel
theorem dX5_canRead_33 : decode cX5_canRead 33 = .ok (.iload_n 2, 1) := by decide +kernel
theorem dX5_canRead_34 : decode cX5_canRead 34 = .ok (.iconst 1, 1) := by decide +kernel
theorem dX5_canRead_35 : decode cX5_canRead 35 = .ok (.iadd, 1) := by decide +kernel
theorem dX5_canRead_36 : decode cX5_canRead 36 = .ok (.goto 4, 3) := by decide +kernel
theorem dX5_canRead_39 : decode cX5_canRead 39 = .ok (.iload_n 2, 1) := by decide +kernel
theorem dX5_canRead_40 : decode cX5_canRead 40 = .ok (.istore 9, 2) := by decide +kernel
theorem dX5_canRead_42 : decode cX5_canRead 42 = .ok (.iload 4, 2) := by decide +kernel
theorem dX5_canRead_44 : decode cX5_canRead 44 = .ok (.invokestatic 15, 3) := by decide +kernel
theorem dX5_canRead_47 : decode cX5_canRead 47 = .ok (.ifCond .eq 19, 3) := by decide +kernel
theorem dX5_canRead_50 : decode cX5_canRead 50 = .ok (.iload 9, 2) := by decide +kernel
theorem dX5_canRead_52 : decode cX5_canRead 52 = .ok (.iload_n 3, 1) := by decide +kernel
theorem dX5_canRead_53 : decode cX5_canRead 53 = .ok (.if_icmp .ge 13, 3) := by decide +kernel
theorem dX5_canRead_56 : decode cX5_canRead 56 = .ok (.iload 8, 2) := by decide +kernel
theorem dX5_canRead_58 : decode cX5_canRead 58 = .ok (.ifCond .eq 10, 3) := by decide +kernel
theorem dX5_canRead_61 : decode cX5_canRead 61 = .ok (.iload 5, 2) := by decide +kernel
theorem dX5_canRead_63 : decode cX5_canRead 63 = .ok (.ifCond .eq 5, 3) := by decide +kernel
theorem dX5_canRead_66 : decode cX5_canRead 66 = .ok (.iconst 0, 1) := by decide +kernel
theorem dX5_canRead_67 : decode cX5_canRead 67 = .ok (.ireturn, 1) := by decide +kernel
theorem dX5_canRead_68 : decode cX5_canRead 68 = .ok (.iload 8, 2) := by decide +kernel
theorem dX5_canRead_70 : decode cX5_canRead 70 = .ok (.iload 5, 2) := by decide +kernel
theorem dX5_canRead_72 : decode cX5_canRead 72 = .ok (.iload 6, 2) := by decide +kernel
theorem dX5_canRead_74 : decode cX5_canRead 74 = .ok (.invokestatic 21, 3) := by decide +kernel
theorem dX5_canRead_77 : decode cX5_canRead 77 = .ok (.lstore 10, 2) := by decide +kernel
theorem dX5_canRead_79 : decode cX5_canRead 79 = .ok (.lload 10, 2) := by decide +kernel
theorem dX5_canRead_81 : decode cX5_canRead 81 = .ok (.iload 4, 2) := by decide +kernel
theorem dX5_canRead_83 : decode cX5_canRead 83 = .ok (.i2l, 1) := by decide +kernel
theorem dX5_canRead_84 : decode cX5_canRead 84 = .ok (.invokestatic 27, 3) := by decide +kernel
theorem dX5_canRead_87 : decode cX5_canRead 87 = .ok (.lstore 12, 2) := by decide +kernel
theorem dX5_canRead_89 : decode cX5_canRead 89 = .ok (.lload 10, 2) := by decide +kernel
theorem dX5_canRead_91 : decode cX5_canRead 91 = .ok (.lload 12, 2) := by decide +kernel
theorem dX5_canRead_93 : decode cX5_canRead 93 = .ok (.iload 4, 2) := by decide +kernel
theorem dX5_canRead_95 : decode cX5_canRead 95 = .ok (.i2l, 1) := by decide +kernel
theorem dX5_canRead_96 : decode cX5_canRead 96 = .ok (.lmul, 1) := by decide +kernel
theorem dX5_canRead_97 : decode cX5_canRead 97 = .ok (.lsub, 1) := by decide +kernel
theorem dX5_canRead_98 : decode cX5_canRead 98 = .ok (.lstore 14, 2) := by decide +kernel
theorem dX5_canRead_100 : decode cX5_canRead 100 = .ok (.lconst 0, 1) := by decide +kernel
theorem dX5_canRead_101 : decode cX5_canRead 101 = .ok (.lstore 16, 2) := by decide +kernel
theorem dX5_canRead_103 : decode cX5_canRead 103 = .ok (.iload 9, 2) := by decide +kernel
theorem dX5_canRead_105 : decode cX5_canRead 105 = .ok (.istore 18, 2) := by decide +kernel
theorem dX5_canRead_107 : decode cX5_canRead 107 = .ok (.iload 18, 2) := by decide +kernel
theorem dX5_canRead_109 : decode cX5_canRead 109 = .ok (.iload_n 3, 1) := by decide +kernel
theorem dX5_canRead_110 : decode cX5_canRead 110 = .ok (.if_icmp .ge 76, 3) := by decide +kernel
theorem dX5_canRead_113 : decode cX5_canRead 113 = .ok (.aload_n 1, 1) := by decide +kernel
theorem dX5_canRead_114 : decode cX5_canRead 114 = .ok (.iload 18, 2) := by decide +kernel
theorem dX5_canRead_116 : decode cX5_canRead 116 = .ok (.invokevirtual 9, 3) := by decide +kernel
theorem dX5_canRead_119 : decode cX5_canRead 119 = .ok (.invokestatic 33, 3) := by decide +kernel
theorem dX5_canRead_122 : decode cX5_canRead 122 = .ok (.istore 19, 2) := by decide +kernel
theorem dX5_canRead_124 : decode cX5_canRead 124 = .ok (.iload 19, 2) := by decide +kernel
theorem dX5_canRead_126 : decode cX5_canRead 126 = .ok (.ifCond .lt 10, 3) := by decide +kernel
theorem dX5_canRead_129 : decode cX5_canRead 129 = .ok (.iload 19, 2) := by decide +kernel
theorem dX5_canRead_131 : decode cX5_canRead 131 = .ok (.iload 4, 2) := by decide +kernel
theorem dX5_canRead_133 : decode cX5_canRead 133 = .ok (.if_icmp .lt 5, 3) := by decide +kernel
theorem dX5_canRead_136 : decode cX5_canRead 136 = .ok (.iconst 0, 1) := by decide +kernel
theorem dX5_canRead_137 : decode cX5_canRead 137 = .ok (.ireturn, 1) := by decide +kernel
theorem dX5_canRead_138 : decode cX5_canRead 138 = .ok (.lload 16, 2) := by decide +kernel
theorem dX5_canRead_140 : decode cX5_canRead 140 = .ok (.lload 12, 2) := by decide +kernel
theorem dX5_canRead_142 : decode cX5_canRead 142 = .ok (.invokestatic 36, 3) := by decide +kernel
theorem dX5_canRead_145 : decode cX5_canRead 145 = .ok (.istore 20, 2) := by decide +kernel
theorem dX5_canRead_147 : decode cX5_canRead 147 = .ok (.iload 20, 2) := by decide +kernel
theorem dX5_canRead_149 : decode cX5_canRead 149 = .ok (.ifCond .gt 17, 3) := by decide +kernel
theorem dX5_canRead_152 : decode cX5_canRead 152 = .ok (.iload 20, 2) := by decide +kernel
theorem dX5_canRead_154 : decode cX5_canRead 154 = .ok (.ifCond .ne 14, 3) := by decide +kernel
theorem dX5_canRead_157 : decode cX5_canRead 157 = .ok (.iload 19, 2) := by decide +kernel
theorem dX5_canRead_159 : decode cX5_canRead 159 = .ok (.i2l, 1) := by decide +kernel
theorem dX5_canRead_160 : decode cX5_canRead 160 = .ok (.lload 14, 2) := by decide +kernel
theorem dX5_canRead_162 : decode cX5_canRead 162 = .ok (.lcmp, 1) := by decide +kernel
theorem dX5_canRead_163 : decode cX5_canRead 163 = .ok (.ifCond .le 5, 3) := by decide +kernel
theorem dX5_canRead_166 : decode cX5_canRead 166 = .ok (.iconst 0, 1) := by decide +kernel
theorem dX5_canRead_167 : decode cX5_canRead 167 = .ok (.ireturn, 1) := by decide +kernel
theorem dX5_canRead_168 : decode cX5_canRead 168 = .ok (.lload 16, 2) := by decide +kernel
theorem dX5_canRead_170 : decode cX5_canRead 170 = .ok (.iload 4, 2) := by decide +kernel
theorem dX5_canRead_172 : decode cX5_canRead 172 = .ok (.i2l, 1) := by decide +kernel
theorem dX5_canRead_173 : decode cX5_canRead 173 = .ok (.lmul, 1) := by decide +kernel
theorem dX5_canRead_174 : decode cX5_canRead 174 = .ok (.iload 19, 2) := by decide +kernel
theorem dX5_canRead_176 : decode cX5_canRead 176 = .ok (.i2l, 1) := by decide +kernel
theorem dX5_canRead_177 : decode cX5_canRead 177 = .ok (.ladd, 1) := by decide +kernel
theorem dX5_canRead_178 : decode cX5_canRead 178 = .ok (.lstore 16, 2) := by decide +kernel
theorem dX5_canRead_180 : decode cX5_canRead 180 = .ok (.iinc 18 1, 3) := by decide +kernel
theorem dX5_canRead_183 : decode cX5_canRead 183 = .ok (.goto (-76), 3) := by decide +kernel
theorem dX5_canRead_186 : decode cX5_canRead 186 = .ok (.aload_n 0, 1) := by decide +kernel
theorem dX5_canRead_187 : decode cX5_canRead 187 = .ok (.iload 8, 2) := by decide +kernel
theorem dX5_canRead_189 : decode cX5_canRead 189 = .ok (.ifCond .eq 9, 3) := by decide +kernel
theorem dX5_canRead_192 : decode cX5_canRead 192 = .ok (.lload 16, 2) := by decide +kernel
theorem dX5_canRead_194 : decode cX5_canRead 194 = .ok (.lneg, 1) := by decide +kernel
theorem dX5_canRead_195 : decode cX5_canRead 195 = .ok (.goto 5, 3) := by decide +kernel
theorem dX5_canRead_198 : decode cX5_canRead 198 = .ok (.lload 16, 2) := by decide +kernel
theorem dX5_canRead_200 : decode cX5_canRead 200 = .ok (.putfield 40, 3) := by decide +kernel
theorem dX5_canRead_203 : decode cX5_canRead 203 = .ok (.iconst 1, 1) := by decide +kernel
theorem dX5_canRead_204 : decode cX5_canRead 204 = .ok (.ireturn, 1) := by decide +kernel
def mX5_canRead_L107 (p3 : Int32) (x_3 : Int32) (n_p1_bytes : Nat) (f_p1_bytes : Nat → Int32) (v_p1_length : Int32) (v_t_value : Int64) (p4 : Int32) (r_13 : Int64) (x_14 : Int64) : Nat → Int64 → Int32 → Option (Int32 × Int64)
  | 0, _, _ => none
  | n_ + 1, y_39, y_40 => (if p3 ≤ y_40 then (((if x_3 = 0 then some y_39 else some (-y_39)) : Option (Int64)).bind (fun x_43 => some (1, x_43))) else ((mX6_byteAt n_p1_bytes f_p1_bytes v_p1_length y_40).bind (fun r_44 => ((mX3_valueOf r_44).bind (fun r_45 => (if r_45 < 0 then some (0, v_t_value) else (if r_45 < p4 then ((mX1_plainOrder y_39 r_13).bind (fun r_48 => (if (0 : Int32) < r_48 then some (0, v_t_value) else ((fun (j_53 : Unit → Option (Int32 × Int64)) => (if r_48 = 0 then (if (lg_cmp (r_45.toInt64) x_14) ≤ 0 then (j_53 ()) else some (0, v_t_value)) else (j_53 ()))) (fun _ => ((some ((y_39 * (p4.toInt64)) + (r_45.toInt64)) : Option Int64).bind (fun x_52 => (mX5_canRead_L107 p3 x_3 n_p1_bytes f_p1_bytes v_p1_length v_t_value p4 r_13 x_14 n_ x_52 (y_40 + 1))))))))) else some (0, v_t_value))))))))
def mX5_canRead_j68 (x_3 : Int32) (p5 : Int32) (p6 : Int32) (p4 : Int32) (p3 : Int32) (n_p1_bytes : Nat) (f_p1_bytes : Nat → Int32) (v_p1_length : Int32) (v_t_value : Int64) (k : Nat) (x_6 : Int32) : Option (Int32 × Int64) := ((mX5_mostSize x_3 p5 p6).bind (fun r_12 => ((mX1_plainQuotient r_12 (p4.toInt64)).bind (fun r_13 => ((some (r_12 - (r_13 * (p4.toInt64))) : Option Int64).bind (fun x_14 => (mX5_canRead_L107 p3 x_3 n_p1_bytes f_p1_bytes v_p1_length v_t_value p4 r_13 x_14 k 0 x_6)))))))
def mX5_canRead (k : Nat) (n_p1_bytes : Nat) (v_t_value : Int64) (f_p1_bytes : Nat → Int32) (v_p1_length : Int32) (p2 : Int32) (p3 : Int32) (p4 : Int32) (p5 : Int32) (p6 : Int32) : Option (Int32 × Int64) := ((mX6_byteAt n_p1_bytes f_p1_bytes v_p1_length p2).bind (fun r_1 => (((if r_1 = 45 then some 1 else some 0) : Option (Int32)).bind (fun x_3 => (((if x_3 = 0 then (if r_1 = 43 then some (p2 + 1) else some p2) else some (p2 + 1)) : Option (Int32)).bind (fun x_6 => ((mX3_isRadix p4).bind (fun r_7 => (if r_7 = 0 then some (0, v_t_value) else (if p3 ≤ x_6 then some (0, v_t_value) else (if x_3 = 0 then (mX5_canRead_j68 x_3 p5 p6 p4 p3 n_p1_bytes f_p1_bytes v_p1_length v_t_value k x_6) else (if p5 = 0 then (mX5_canRead_j68 x_3 p5 p6 p4 p3 n_p1_bytes f_p1_bytes v_p1_length v_t_value k x_6) else some (0, v_t_value)))))))))))))
set_option maxHeartbeats 4000000 in
set_option maxRecDepth 100000 in
theorem kcX5_canRead (l : Launch) (D : va_G) (cy : Nat → ClassId) (g : Nat → Nat) (a_t : Nat) (a_p1 : Nat) (a_p1_bytes : Nat) (n_p1_bytes : Nat) (v_t_value : Int64) (f_p1_bytes : Nat → Int32) (v_p1_length : Int32) (p2 : Int32) (p3 : Int32) (p4 : Int32) (p5 : Int32) (p6 : Int32) (k : Nat) (R : Int32 × Int64) (hm : mX5_canRead k n_p1_bytes v_t_value f_p1_bytes v_p1_length p2 p3 p4 p5 p6 = some R) : Con l D cy g yX5_canRead cX5_canRead 21 (some .boolean) 1 27 0 0 [.ref a_t, .ref a_p1, .int p2, .int p3, .int p4, .int p5, .int p6] [(a_t, .inr (2, [.long v_t_value])), (a_p1, .inr (3, [.ref a_p1_bytes, .int v_p1_length])), (a_p1_bytes, .inl (cy 0, n_p1_bytes, .inl f_p1_bytes))] [(a_t, .inr (2, [.long R.2])), (a_p1, .inr (3, [.ref a_p1_bytes, .int v_p1_length])), (a_p1_bytes, .inl (cy 0, n_p1_bytes, .inl f_p1_bytes))] (some (.int R.1)) := by
  refine Con.of (by decide +kernel) (Nat.le_of_ble_eq_true rfl) ?_
  intro p e RM s m ar below meth c A Qc ls hx hb hr hml hown hlocks hnm ht hK hP hD hS hA hR hC hQc hl
  have hown : s.vm.findClass RX5 = some m.cls := hown
  have hl : lv_has ls 21 [(0, .ref a_t), (1, .ref a_p1), (2, .int p2), (3, .int p3), (4, .int p4), (5, .int p5), (6, .int p6)] := hl
  rw [mX5_canRead] at hm
  refine lv_aload_n hx hb dX5_canRead_0 rfl (lv_at hl 1 rfl) ?_
  refine lv_iload_n hx hb dX5_canRead_1 rfl (lv_at hl 2 rfl) ?_
  obtain ⟨r_1, hr_1, hm⟩ := hm_b hm
  refine k_V (as := [.int p2]) (rest := []) (ws' := [(a_t, .inr (2, [.long v_t_value])), (a_p1, .inr (3, [.ref a_p1_bytes, .int v_p1_length])), (a_p1_bytes, .inl (cy 0, n_p1_bytes, .inl f_p1_bytes))]) (st2 := [.int r_1]) (i0 := 1) hx hb hml hown ht hK hP hD hS hA hC hR hl (kcX6_byteAt l D cy g a_p1 a_p1_bytes n_p1_bytes f_p1_bytes v_p1_length p2 r_1 hr_1) [1, 2] q_539 q_362 q_363 q_45 q_364 hyX6_byteAt ⟨rfl, rfl, rfl⟩ ⟨Nat.le_of_ble_eq_true rfl, Nat.le_of_ble_eq_true rfl, Nat.le_of_ble_eq_true rfl, Nat.le_of_ble_eq_true rfl⟩ rfl rfl rfl rfl (Nat.le_of_ble_eq_true rfl) dX5_canRead_2 rfl rfl (fun H locs hP hD hS => ?_)
  refine lv_istore (lv' := [(7, .int r_1), (0, .ref a_t), (1, .ref a_p1), (2, .int p2), (3, .int p3), (4, .int p4), (5, .int p5), (6, .int p6)]) hx hb dX5_canRead_5 hl (by decide) rfl (fun ls hl => ?_)
  refine lv_iload hx hb dX5_canRead_7 (lv_at hl 0 rfl) ?_
  refine lv_bipush (v := 45) hx hb dX5_canRead_9 (by decide) ?_
  obtain ⟨x_3, hreg, hm⟩ := hm_b hm
  have J19 : ∀ (H : Heap) (locs : List Loc) (ls : Array Slot), va_P D classes [(a_t, .inr (2, [.long v_t_value])), (a_p1, .inr (3, [.ref a_p1_bytes, .int v_p1_length])), (a_p1_bytes, .inl (cy 0, n_p1_bytes, .inl f_p1_bytes))] H → va_D A [(a_t, .inr (2, [.long v_t_value])), (a_p1, .inr (3, [.ref a_p1_bytes, .int v_p1_length])), (a_p1_bytes, .inl (cy 0, n_p1_bytes, .inl f_p1_bytes))] → va_S A s.heap H locs → lv_has ls 21 [(7, .int r_1), (0, .ref a_t), (1, .ref a_p1), (2, .int p2), (3, .int p3), (4, .int p4), (5, .int p5), (6, .int p6)] → W p l e RM s m ar below meth c H locs 0 0 (MQ below Qc ar s 0 0 A) (F0 m 19 ls [.int x_3]) := by
    intro H locs ls hP hD hS hl
    refine lv_istore (lv' := [(8, .int x_3), (7, .int r_1), (0, .ref a_t), (1, .ref a_p1), (2, .int p2), (3, .int p3), (4, .int p4), (5, .int p5), (6, .int p6)]) hx hb dX5_canRead_19 hl (by decide) rfl (fun ls hl => ?_)
    refine lv_iload hx hb dX5_canRead_21 (lv_at hl 0 rfl) ?_
    obtain ⟨x_6, hreg, hm⟩ := hm_b hm
    have J40 : ∀ (H : Heap) (locs : List Loc) (ls : Array Slot), va_P D classes [(a_t, .inr (2, [.long v_t_value])), (a_p1, .inr (3, [.ref a_p1_bytes, .int v_p1_length])), (a_p1_bytes, .inl (cy 0, n_p1_bytes, .inl f_p1_bytes))] H → va_D A [(a_t, .inr (2, [.long v_t_value])), (a_p1, .inr (3, [.ref a_p1_bytes, .int v_p1_length])), (a_p1_bytes, .inl (cy 0, n_p1_bytes, .inl f_p1_bytes))] → va_S A s.heap H locs → lv_has ls 21 [(8, .int x_3), (0, .ref a_t), (1, .ref a_p1), (3, .int p3), (4, .int p4), (5, .int p5), (6, .int p6)] → W p l e RM s m ar below meth c H locs 0 0 (MQ below Qc ar s 0 0 A) (F0 m 40 ls [.int x_6]) := by
      intro H locs ls hP hD hS hl
      refine lv_istore (lv' := [(9, .int x_6), (8, .int x_3), (0, .ref a_t), (1, .ref a_p1), (3, .int p3), (4, .int p4), (5, .int p5), (6, .int p6)]) hx hb dX5_canRead_40 hl (by decide) rfl (fun ls hl => ?_)
      refine lv_iload hx hb dX5_canRead_42 (lv_at hl 5 rfl) ?_
      obtain ⟨r_7, hr_7, hm⟩ := hm_b hm
      refine k_S (as := [.int p4]) (rest := []) (ws' := [(a_t, .inr (2, [.long v_t_value])), (a_p1, .inr (3, [.ref a_p1_bytes, .int v_p1_length])), (a_p1_bytes, .inl (cy 0, n_p1_bytes, .inl f_p1_bytes))]) (st2 := [.int r_7]) hx hb hml hown ht hK hP hD hS hA hC hR hl (kcX3_isRadix l D cy g p4 r_7 hr_7) [] q_540 q_343 q_67 q_344 hyX3_isRadix ⟨Nat.le_of_ble_eq_true rfl, Nat.le_of_ble_eq_true rfl, Nat.le_of_ble_eq_true rfl, Nat.le_of_ble_eq_true rfl⟩ rfl rfl rfl rfl (Nat.le_of_ble_eq_true rfl) dX5_canRead_44 rfl rfl (fun H locs hP hD hS => ?_)
      refine lv_if_eq (tgt := 66) hx hb dX5_canRead_47 (by decide) (fun c_8 => ?_) (fun c_8 => ?_)
      · replace hm := hm_t c_8 hm
        refine lv_iconst (v := 0) hx hb dX5_canRead_66 (by decide) ?_
        obtain rfl := Option.some.inj hm
        exact k_zret hx hb hr hlocks hQc rfl hP hS rfl rfl dX5_canRead_67
      · replace hm := hm_f c_8 hm
        refine lv_iload hx hb dX5_canRead_50 (lv_at hl 0 rfl) ?_
        refine lv_iload_n hx hb dX5_canRead_52 rfl (lv_at hl 4 rfl) ?_
        refine lv_icmp_ge (tgt := 66) hx hb dX5_canRead_53 (by decide) (fun c_9 => ?_) (fun c_9 => ?_)
        · replace hm := hm_t c_9 hm
          refine lv_iconst (v := 0) hx hb dX5_canRead_66 (by decide) ?_
          obtain rfl := Option.some.inj hm
          exact k_zret hx hb hr hlocks hQc rfl hP hS rfl rfl dX5_canRead_67
        · replace hm := hm_f c_9 hm
          refine lv_iload hx hb dX5_canRead_56 (lv_at hl 1 rfl) ?_
          have J68 : ∀ (_ : Unit), mX5_canRead_j68 x_3 p5 p6 p4 p3 n_p1_bytes f_p1_bytes v_p1_length v_t_value k x_6 = some R → ∀ (H : Heap) (locs : List Loc) (ls : Array Slot), va_P D classes [(a_t, .inr (2, [.long v_t_value])), (a_p1, .inr (3, [.ref a_p1_bytes, .int v_p1_length])), (a_p1_bytes, .inl (cy 0, n_p1_bytes, .inl f_p1_bytes))] H → va_D A [(a_t, .inr (2, [.long v_t_value])), (a_p1, .inr (3, [.ref a_p1_bytes, .int v_p1_length])), (a_p1_bytes, .inl (cy 0, n_p1_bytes, .inl f_p1_bytes))] → va_S A s.heap H locs → lv_has ls 21 [(9, .int x_6), (8, .int x_3), (0, .ref a_t), (1, .ref a_p1), (3, .int p3), (4, .int p4), (5, .int p5), (6, .int p6)] → W p l e RM s m ar below meth c H locs 0 0 (MQ below Qc ar s 0 0 A) (F0 m 68 ls []) := by
            intro _ hm H locs ls hP hD hS hl
            rw [mX5_canRead_j68] at hm
            refine lv_iload hx hb dX5_canRead_68 (lv_at hl 1 rfl) ?_
            refine lv_iload hx hb dX5_canRead_70 (lv_at hl 6 rfl) ?_
            refine lv_iload hx hb dX5_canRead_72 (lv_at hl 7 rfl) ?_
            obtain ⟨r_12, hr_12, hm⟩ := hm_b hm
            refine k_S (as := [.int x_3, .int p5, .int p6]) (rest := []) (ws' := [(a_t, .inr (2, [.long v_t_value])), (a_p1, .inr (3, [.ref a_p1_bytes, .int v_p1_length])), (a_p1_bytes, .inl (cy 0, n_p1_bytes, .inl f_p1_bytes))]) (st2 := [.long r_12]) hx hb hml hown ht hK hP hD hS hA hC hR hl (kcX5_mostSize l D cy g x_3 p5 p6 r_12 hr_12) [] q_541 q_542 q_47 q_543 hyX5_mostSize ⟨Nat.le_of_ble_eq_true rfl, Nat.le_of_ble_eq_true rfl, Nat.le_of_ble_eq_true rfl, Nat.le_of_ble_eq_true rfl⟩ rfl rfl rfl rfl (Nat.le_of_ble_eq_true rfl) dX5_canRead_74 rfl rfl (fun H locs hP hD hS => ?_)
            refine lv_lstore (lv' := [(10, .long r_12), (9, .int x_6), (8, .int x_3), (0, .ref a_t), (1, .ref a_p1), (3, .int p3), (4, .int p4), (5, .int p5), (6, .int p6)]) hx hb dX5_canRead_77 hl (by decide) rfl (fun ls hl => ?_)
            refine lv_lload hx hb dX5_canRead_79 (lv_at hl 0 rfl) ?_
            refine lv_iload hx hb dX5_canRead_81 (lv_at hl 6 rfl) ?_
            refine lv_i2l hx hb dX5_canRead_83 rfl ?_
            obtain ⟨r_13, hr_13, hm⟩ := hm_b hm
            refine k_S (as := [.long r_12, .long (p4.toInt64)]) (rest := []) (ws' := [(a_t, .inr (2, [.long v_t_value])), (a_p1, .inr (3, [.ref a_p1_bytes, .int v_p1_length])), (a_p1_bytes, .inl (cy 0, n_p1_bytes, .inl f_p1_bytes))]) (st2 := [.long r_13]) hx hb hml hown ht hK hP hD hS hA hC hR hl (kcX1_plainQuotient l D cy g r_12 (p4.toInt64) r_13 hr_13) [] q_548 q_347 q_60 q_348 hyX1_plainQuotient ⟨Nat.le_of_ble_eq_true rfl, Nat.le_of_ble_eq_true rfl, Nat.le_of_ble_eq_true rfl, Nat.le_of_ble_eq_true rfl⟩ rfl rfl rfl rfl (Nat.le_of_ble_eq_true rfl) dX5_canRead_84 rfl rfl (fun H locs hP hD hS => ?_)
            refine lv_lstore (lv' := [(12, .long r_13), (10, .long r_12), (9, .int x_6), (8, .int x_3), (0, .ref a_t), (1, .ref a_p1), (3, .int p3), (4, .int p4), (5, .int p5), (6, .int p6)]) hx hb dX5_canRead_87 hl (by decide) rfl (fun ls hl => ?_)
            refine lv_lload hx hb dX5_canRead_89 (lv_at hl 1 rfl) ?_
            refine lv_lload hx hb dX5_canRead_91 (lv_at hl 0 rfl) ?_
            refine lv_iload hx hb dX5_canRead_93 (lv_at hl 7 rfl) ?_
            refine lv_i2l hx hb dX5_canRead_95 rfl ?_
            refine lv_lmul hx hb dX5_canRead_96 ?_
            refine lv_lsub hx hb dX5_canRead_97 ?_
            obtain ⟨x_14, hx_, hm⟩ := hm_b hm
            refine k_topl (y := x_14) (Option.some.inj hx_) ?_
            refine lv_lstore (lv' := [(14, .long x_14), (12, .long r_13), (10, .long r_12), (9, .int x_6), (8, .int x_3), (0, .ref a_t), (1, .ref a_p1), (3, .int p3), (4, .int p4), (5, .int p5), (6, .int p6)]) hx hb dX5_canRead_98 hl (by decide) rfl (fun ls hl => ?_)
            refine lv_lconst (v := 0) hx hb dX5_canRead_100 (by decide) ?_
            refine lv_lstore (lv' := [(16, .long 0), (14, .long x_14), (12, .long r_13), (10, .long r_12), (9, .int x_6), (8, .int x_3), (0, .ref a_t), (1, .ref a_p1), (3, .int p3), (4, .int p4), (5, .int p5), (6, .int p6)]) hx hb dX5_canRead_101 hl (by decide) rfl (fun ls hl => ?_)
            refine lv_iload hx hb dX5_canRead_103 (lv_at hl 4 rfl) ?_
            refine lv_istore (lv' := [(18, .int x_6), (16, .long 0), (14, .long x_14), (12, .long r_13), (10, .long r_12), (9, .int x_6), (8, .int x_3), (0, .ref a_t), (1, .ref a_p1), (3, .int p3), (4, .int p4), (5, .int p5), (6, .int p6)]) hx hb dX5_canRead_105 hl (by decide) rfl (fun ls hl => ?_)
            have L107 : ∀ (n_ : Nat), ∀ (y_39 : Int64) (y_40 : Int32), mX5_canRead_L107 p3 x_3 n_p1_bytes f_p1_bytes v_p1_length v_t_value p4 r_13 x_14 n_ y_39 y_40 = some R → ∀ (H : Heap) (locs : List Loc) (ls : Array Slot), va_P D classes [(a_t, .inr (2, [.long v_t_value])), (a_p1, .inr (3, [.ref a_p1_bytes, .int v_p1_length])), (a_p1_bytes, .inl (cy 0, n_p1_bytes, .inl f_p1_bytes))] H → va_D A [(a_t, .inr (2, [.long v_t_value])), (a_p1, .inr (3, [.ref a_p1_bytes, .int v_p1_length])), (a_p1_bytes, .inl (cy 0, n_p1_bytes, .inl f_p1_bytes))] → va_S A s.heap H locs → lv_has ls 21 [(18, .int y_40), (16, .long y_39), (14, .long x_14), (12, .long r_13), (8, .int x_3), (0, .ref a_t), (1, .ref a_p1), (3, .int p3), (4, .int p4)] → W p l e RM s m ar below meth c H locs 0 0 (MQ below Qc ar s 0 0 A) (F0 m 107 ls []) := by
              intro n_
              induction n_ with
              | zero => intro y_39 y_40 hm; rw [mX5_canRead_L107] at hm; cases hm
              | succ n_ ih =>
                intro y_39 y_40 hm H locs ls hP hD hS hl
                rw [mX5_canRead_L107] at hm
                refine lv_iload hx hb dX5_canRead_107 (lv_at hl 0 rfl) ?_
                refine lv_iload_n hx hb dX5_canRead_109 rfl (lv_at hl 7 rfl) ?_
                refine lv_icmp_ge (tgt := 186) hx hb dX5_canRead_110 (by decide) (fun c_41 => ?_) (fun c_41 => ?_)
                · replace hm := hm_t c_41 hm
                  refine lv_aload_n hx hb dX5_canRead_186 rfl (lv_at hl 5 rfl) ?_
                  refine lv_iload hx hb dX5_canRead_187 (lv_at hl 4 rfl) ?_
                  obtain ⟨x_43, hreg, hm⟩ := hm_b hm
                  have J200 : ∀ (H : Heap) (locs : List Loc) (ls : Array Slot), va_P D classes [(a_t, .inr (2, [.long v_t_value])), (a_p1, .inr (3, [.ref a_p1_bytes, .int v_p1_length])), (a_p1_bytes, .inl (cy 0, n_p1_bytes, .inl f_p1_bytes))] H → va_D A [(a_t, .inr (2, [.long v_t_value])), (a_p1, .inr (3, [.ref a_p1_bytes, .int v_p1_length])), (a_p1_bytes, .inl (cy 0, n_p1_bytes, .inl f_p1_bytes))] → va_S A s.heap H locs → lv_has ls 21 [] → W p l e RM s m ar below meth c H locs 0 0 (MQ below Qc ar s 0 0 A) (F0 m 200 ls [.long x_43, .ref a_t]) := by
                    intro H locs ls hP hD hS hl
                    refine va_put (D := D) (cl := classes) (ci := 2) (v := .long x_43) (ty := .long) (C := RX5) (T := TX5) (N := 1) hx hb ht in_RX5 tyX5 tyX5_ok nmX5 hown hK.1 hP hD hS 0 rfl rfl 0 (by decide) (ht _ q_117) (fun _ h9 => h9) rfl (by decide +kernel) rfl rfl (Nat.le_of_ble_eq_true rfl) dX5_canRead_200 (fun H locs hP hD hS => ?_)
                    have hP : va_P D classes [(a_t, .inr (2, [.long x_43])), (a_p1, .inr (3, [.ref a_p1_bytes, .int v_p1_length])), (a_p1_bytes, .inl (cy 0, n_p1_bytes, .inl f_p1_bytes))] H := hP
                    have hD : va_D A [(a_t, .inr (2, [.long x_43])), (a_p1, .inr (3, [.ref a_p1_bytes, .int v_p1_length])), (a_p1_bytes, .inl (cy 0, n_p1_bytes, .inl f_p1_bytes))] := hD
                    refine lv_iconst (v := 1) hx hb dX5_canRead_203 (by decide) ?_
                    obtain rfl := Option.some.inj hm
                    exact k_zret hx hb hr hlocks hQc rfl hP hS rfl rfl dX5_canRead_204
                  replace hm := hreg
                  refine lv_if_eq (tgt := 198) hx hb dX5_canRead_189 (by decide) (fun c_42 => ?_) (fun c_42 => ?_)
                  · replace hm := hm_t c_42 hm
                    refine lv_lload hx hb dX5_canRead_198 (lv_at hl 1 rfl) ?_
                    obtain rfl := Option.some.inj hm
                    exact J200 _ _ _ hP hD hS (lv_sub hl [] rfl)
                  · replace hm := hm_f c_42 hm
                    refine lv_lload hx hb dX5_canRead_192 (lv_at hl 1 rfl) ?_
                    refine lv_lneg hx hb dX5_canRead_194 ?_
                    refine lv_goto (tgt := 200) hx hb dX5_canRead_195 (by decide) ?_
                    obtain rfl := Option.some.inj hm
                    exact J200 _ _ _ hP hD hS (lv_sub hl [] rfl)
                · replace hm := hm_f c_41 hm
                  refine lv_aload_n hx hb dX5_canRead_113 rfl (lv_at hl 6 rfl) ?_
                  refine lv_iload hx hb dX5_canRead_114 (lv_at hl 0 rfl) ?_
                  obtain ⟨r_44, hr_44, hm⟩ := hm_b hm
                  refine k_V (as := [.int y_40]) (rest := []) (ws' := [(a_t, .inr (2, [.long v_t_value])), (a_p1, .inr (3, [.ref a_p1_bytes, .int v_p1_length])), (a_p1_bytes, .inl (cy 0, n_p1_bytes, .inl f_p1_bytes))]) (st2 := [.int r_44]) (i0 := 1) hx hb hml hown ht hK hP hD hS hA hC hR hl (kcX6_byteAt l D cy g a_p1 a_p1_bytes n_p1_bytes f_p1_bytes v_p1_length y_40 r_44 hr_44) [1, 2] q_539 q_362 q_363 q_45 q_364 hyX6_byteAt ⟨rfl, rfl, rfl⟩ ⟨Nat.le_of_ble_eq_true rfl, Nat.le_of_ble_eq_true rfl, Nat.le_of_ble_eq_true rfl, Nat.le_of_ble_eq_true rfl⟩ rfl rfl rfl rfl (Nat.le_of_ble_eq_true rfl) dX5_canRead_116 rfl rfl (fun H locs hP hD hS => ?_)
                  obtain ⟨r_45, hr_45, hm⟩ := hm_b hm
                  refine k_S (as := [.int r_44]) (rest := []) (ws' := [(a_t, .inr (2, [.long v_t_value])), (a_p1, .inr (3, [.ref a_p1_bytes, .int v_p1_length])), (a_p1_bytes, .inl (cy 0, n_p1_bytes, .inl f_p1_bytes))]) (st2 := [.int r_45]) hx hb hml hown ht hK hP hD hS hA hC hR hl (kcX3_valueOf l D cy g r_44 r_45 hr_45) [] q_549 q_550 q_67 q_551 hyX3_valueOf ⟨Nat.le_of_ble_eq_true rfl, Nat.le_of_ble_eq_true rfl, Nat.le_of_ble_eq_true rfl, Nat.le_of_ble_eq_true rfl⟩ rfl rfl rfl rfl (Nat.le_of_ble_eq_true rfl) dX5_canRead_119 rfl rfl (fun H locs hP hD hS => ?_)
                  refine lv_istore (lv' := [(19, .int r_45), (18, .int y_40), (16, .long y_39), (14, .long x_14), (12, .long r_13), (8, .int x_3), (0, .ref a_t), (1, .ref a_p1), (3, .int p3), (4, .int p4)]) hx hb dX5_canRead_122 hl (by decide) rfl (fun ls hl => ?_)
                  refine lv_iload hx hb dX5_canRead_124 (lv_at hl 0 rfl) ?_
                  refine lv_if_lt (tgt := 136) hx hb dX5_canRead_126 (by decide) (fun c_46 => ?_) (fun c_46 => ?_)
                  · replace hm := hm_t c_46 hm
                    refine lv_iconst (v := 0) hx hb dX5_canRead_136 (by decide) ?_
                    obtain rfl := Option.some.inj hm
                    exact k_zret hx hb hr hlocks hQc rfl hP hS rfl rfl dX5_canRead_137
                  · replace hm := hm_f c_46 hm
                    refine lv_iload hx hb dX5_canRead_129 (lv_at hl 0 rfl) ?_
                    refine lv_iload hx hb dX5_canRead_131 (lv_at hl 9 rfl) ?_
                    refine lv_icmp_lt (tgt := 138) hx hb dX5_canRead_133 (by decide) (fun c_47 => ?_) (fun c_47 => ?_)
                    · replace hm := hm_t c_47 hm
                      refine lv_lload hx hb dX5_canRead_138 (lv_at hl 2 rfl) ?_
                      refine lv_lload hx hb dX5_canRead_140 (lv_at hl 4 rfl) ?_
                      obtain ⟨r_48, hr_48, hm⟩ := hm_b hm
                      refine k_S (as := [.long y_39, .long r_13]) (rest := []) (ws' := [(a_t, .inr (2, [.long v_t_value])), (a_p1, .inr (3, [.ref a_p1_bytes, .int v_p1_length])), (a_p1_bytes, .inl (cy 0, n_p1_bytes, .inl f_p1_bytes))]) (st2 := [.int r_48]) hx hb hml hown ht hK hP hD hS hA hC hR hl (kcX1_plainOrder l D cy g y_39 r_13 r_48 hr_48) [] q_552 q_383 q_60 q_384 hyX1_plainOrder ⟨Nat.le_of_ble_eq_true rfl, Nat.le_of_ble_eq_true rfl, Nat.le_of_ble_eq_true rfl, Nat.le_of_ble_eq_true rfl⟩ rfl rfl rfl rfl (Nat.le_of_ble_eq_true rfl) dX5_canRead_142 rfl rfl (fun H locs hP hD hS => ?_)
                      refine lv_istore (lv' := [(20, .int r_48), (19, .int r_45), (18, .int y_40), (16, .long y_39), (14, .long x_14), (12, .long r_13), (8, .int x_3), (0, .ref a_t), (1, .ref a_p1), (3, .int p3), (4, .int p4)]) hx hb dX5_canRead_145 hl (by decide) rfl (fun ls hl => ?_)
                      refine lv_iload hx hb dX5_canRead_147 (lv_at hl 0 rfl) ?_
                      refine lv_if_gt (tgt := 166) hx hb dX5_canRead_149 (by decide) (fun c_49 => ?_) (fun c_49 => ?_)
                      · replace hm := hm_t c_49 hm
                        refine lv_iconst (v := 0) hx hb dX5_canRead_166 (by decide) ?_
                        obtain rfl := Option.some.inj hm
                        exact k_zret hx hb hr hlocks hQc rfl hP hS rfl rfl dX5_canRead_167
                      · replace hm := hm_f c_49 hm
                        refine lv_iload hx hb dX5_canRead_152 (lv_at hl 0 rfl) ?_
                        have J168 : ∀ (_ : Unit), ((some ((y_39 * (p4.toInt64)) + (r_45.toInt64)) : Option Int64).bind (fun x_52 => (mX5_canRead_L107 p3 x_3 n_p1_bytes f_p1_bytes v_p1_length v_t_value p4 r_13 x_14 n_ x_52 (y_40 + 1)))) = some R → ∀ (H : Heap) (locs : List Loc) (ls : Array Slot), va_P D classes [(a_t, .inr (2, [.long v_t_value])), (a_p1, .inr (3, [.ref a_p1_bytes, .int v_p1_length])), (a_p1_bytes, .inl (cy 0, n_p1_bytes, .inl f_p1_bytes))] H → va_D A [(a_t, .inr (2, [.long v_t_value])), (a_p1, .inr (3, [.ref a_p1_bytes, .int v_p1_length])), (a_p1_bytes, .inl (cy 0, n_p1_bytes, .inl f_p1_bytes))] → va_S A s.heap H locs → lv_has ls 21 [(19, .int r_45), (18, .int y_40), (16, .long y_39), (14, .long x_14), (12, .long r_13), (8, .int x_3), (0, .ref a_t), (1, .ref a_p1), (3, .int p3), (4, .int p4)] → W p l e RM s m ar below meth c H locs 0 0 (MQ below Qc ar s 0 0 A) (F0 m 168 ls []) := by
                          intro _ hm H locs ls hP hD hS hl
                          refine lv_lload hx hb dX5_canRead_168 (lv_at hl 2 rfl) ?_
                          refine lv_iload hx hb dX5_canRead_170 (lv_at hl 9 rfl) ?_
                          refine lv_i2l hx hb dX5_canRead_172 rfl ?_
                          refine lv_lmul hx hb dX5_canRead_173 ?_
                          refine lv_iload hx hb dX5_canRead_174 (lv_at hl 0 rfl) ?_
                          refine lv_i2l hx hb dX5_canRead_176 rfl ?_
                          refine lv_ladd hx hb dX5_canRead_177 ?_
                          obtain ⟨x_52, hx_, hm⟩ := hm_b hm
                          refine k_topl (y := x_52) (Option.some.inj hx_) ?_
                          refine lv_lstore (lv' := [(16, .long x_52), (19, .int r_45), (18, .int y_40), (14, .long x_14), (12, .long r_13), (8, .int x_3), (0, .ref a_t), (1, .ref a_p1), (3, .int p3), (4, .int p4)]) hx hb dX5_canRead_178 hl (by decide) rfl (fun ls hl => ?_)
                          refine lv_iinc (v := (y_40 + 1)) (lv' := [(18, .int (y_40 + 1)), (16, .long x_52), (19, .int r_45), (14, .long x_14), (12, .long r_13), (8, .int x_3), (0, .ref a_t), (1, .ref a_p1), (3, .int p3), (4, .int p4)]) hx hb dX5_canRead_180 hl (k := 2) rfl rfl (by decide) rfl (fun ls hl => ?_)
                          refine lv_goto (tgt := 107) hx hb dX5_canRead_183 (by decide) ?_
                          exact ih x_52 (y_40 + 1) hm _ _ _ hP hD hS (lv_sub hl [0, 1, 3, 4, 5, 6, 7, 8, 9] rfl)
                        refine lv_if_ne (tgt := 168) hx hb dX5_canRead_154 (by decide) (fun c_50 => ?_) (fun c_50 => ?_)
                        · replace hm := hm_f c_50 hm
                          exact J168 () hm _ _ _ hP hD hS (lv_sub hl [1, 2, 3, 4, 5, 6, 7, 8, 9, 10] rfl)
                        · replace hm := hm_t c_50 hm
                          refine lv_iload hx hb dX5_canRead_157 (lv_at hl 1 rfl) ?_
                          refine lv_i2l hx hb dX5_canRead_159 rfl ?_
                          refine lv_lload hx hb dX5_canRead_160 (lv_at hl 4 rfl) ?_
                          refine W.lcmp hx hb dX5_canRead_162 ?_
                          refine lv_if_le (tgt := 168) hx hb dX5_canRead_163 (by decide) (fun c_54 => ?_) (fun c_54 => ?_)
                          · replace hm := hm_t c_54 hm
                            exact J168 () hm _ _ _ hP hD hS (lv_sub hl [1, 2, 3, 4, 5, 6, 7, 8, 9, 10] rfl)
                          · replace hm := hm_f c_54 hm
                            refine lv_iconst (v := 0) hx hb dX5_canRead_166 (by decide) ?_
                            obtain rfl := Option.some.inj hm
                            exact k_zret hx hb hr hlocks hQc rfl hP hS rfl rfl dX5_canRead_167
                    · replace hm := hm_f c_47 hm
                      refine lv_iconst (v := 0) hx hb dX5_canRead_136 (by decide) ?_
                      obtain rfl := Option.some.inj hm
                      exact k_zret hx hb hr hlocks hQc rfl hP hS rfl rfl dX5_canRead_137
            exact L107 k 0 x_6 hm _ _ _ hP hD hS (lv_sub hl [0, 1, 2, 3, 6, 7, 8, 9, 10] rfl)
          refine lv_if_eq (tgt := 68) hx hb dX5_canRead_58 (by decide) (fun c_10 => ?_) (fun c_10 => ?_)
          · replace hm := hm_t c_10 hm
            exact J68 () hm _ _ _ hP hD hS (lv_sub hl [0, 1, 2, 3, 4, 5, 6, 7] rfl)
          · replace hm := hm_f c_10 hm
            refine lv_iload hx hb dX5_canRead_61 (lv_at hl 6 rfl) ?_
            refine lv_if_eq (tgt := 68) hx hb dX5_canRead_63 (by decide) (fun c_55 => ?_) (fun c_55 => ?_)
            · replace hm := hm_t c_55 hm
              exact J68 () hm _ _ _ hP hD hS (lv_sub hl [0, 1, 2, 3, 4, 5, 6, 7] rfl)
            · replace hm := hm_f c_55 hm
              refine lv_iconst (v := 0) hx hb dX5_canRead_66 (by decide) ?_
              obtain rfl := Option.some.inj hm
              exact k_zret hx hb hr hlocks hQc rfl hP hS rfl rfl dX5_canRead_67
    replace hm := hreg
    refine lv_if_ne (tgt := 33) hx hb dX5_canRead_23 (by decide) (fun c_4 => ?_) (fun c_4 => ?_)
    · replace hm := hm_f c_4 hm
      refine lv_iload_n hx hb dX5_canRead_33 rfl (lv_at hl 4 rfl) ?_
      refine lv_iconst (v := 1) hx hb dX5_canRead_34 (by decide) ?_
      refine lv_iadd hx hb dX5_canRead_35 ?_
      refine lv_goto (tgt := 40) hx hb dX5_canRead_36 (by decide) ?_
      obtain rfl := Option.some.inj hm
      exact J40 _ _ _ hP hD hS (lv_sub hl [0, 2, 3, 5, 6, 7, 8] rfl)
    · replace hm := hm_t c_4 hm
      refine lv_iload hx hb dX5_canRead_26 (lv_at hl 1 rfl) ?_
      refine lv_bipush (v := 43) hx hb dX5_canRead_28 (by decide) ?_
      refine lv_icmp_ne (tgt := 39) hx hb dX5_canRead_30 (by decide) (fun c_56 => ?_) (fun c_56 => ?_)
      · replace hm := hm_f c_56 hm
        refine lv_iload_n hx hb dX5_canRead_39 rfl (lv_at hl 4 rfl) ?_
        obtain rfl := Option.some.inj hm
        exact J40 _ _ _ hP hD hS (lv_sub hl [0, 2, 3, 5, 6, 7, 8] rfl)
      · replace hm := hm_t c_56 hm
        refine lv_iload_n hx hb dX5_canRead_33 rfl (lv_at hl 4 rfl) ?_
        refine lv_iconst (v := 1) hx hb dX5_canRead_34 (by decide) ?_
        refine lv_iadd hx hb dX5_canRead_35 ?_
        refine lv_goto (tgt := 40) hx hb dX5_canRead_36 (by decide) ?_
        obtain rfl := Option.some.inj hm
        exact J40 _ _ _ hP hD hS (lv_sub hl [0, 2, 3, 5, 6, 7, 8] rfl)
  replace hm := hreg
  refine lv_icmp_ne (tgt := 18) hx hb dX5_canRead_11 (by decide) (fun c_2 => ?_) (fun c_2 => ?_)
  · replace hm := hm_f c_2 hm
    refine lv_iconst (v := 0) hx hb dX5_canRead_18 (by decide) ?_
    obtain rfl := Option.some.inj hm
    exact J19 _ _ _ hP hD hS (lv_sub hl [0, 1, 2, 3, 4, 5, 6, 7] rfl)
  · replace hm := hm_t c_2 hm
    refine lv_iconst (v := 1) hx hb dX5_canRead_14 (by decide) ?_
    refine lv_goto (tgt := 19) hx hb dX5_canRead_15 (by decide) ?_
    obtain rfl := Option.some.inj hm
    exact J19 _ _ _ hP hD hS (lv_sub hl [0, 1, 2, 3, 4, 5, 6, 7] rfl)
theorem dX2_allBits_0 : decode cX2_allBits 0 = .ok (.iload_n 1, 1) := by decide +kernel
theorem dX2_allBits_1 : decode cX2_allBits 1 = .ok (.ifCond .lt 21, 3) := by decide +kernel
theorem dX2_allBits_4 : decode cX2_allBits 4 = .ok (.iload_n 1, 1) := by decide +kernel
theorem dX2_allBits_5 : decode cX2_allBits 5 = .ok (.aload_n 0, 1) := by decide +kernel
theorem dX2_allBits_6 : decode cX2_allBits 6 = .ok (.getfield 9, 3) := by decide +kernel
theorem dX2_allBits_9 : decode cX2_allBits 9 = .ok (.arraylength, 1) := by decide +kernel
theorem dX2_allBits_10 : decode cX2_allBits 10 = .ok (.if_icmp .ge 12, 3) := by decide +kernel
theorem dX2_allBits_13 : decode cX2_allBits 13 = .ok (.aload_n 0, 1) := by decide +kernel
theorem dX2_allBits_14 : decode cX2_allBits 14 = .ok (.getfield 9, 3) := by decide +kernel
theorem dX2_allBits_17 : decode cX2_allBits 17 = .ok (.iload_n 1, 1) := by decide +kernel
theorem dX2_allBits_18 : decode cX2_allBits 18 = .ok (.laload, 1) := by decide +kernel
theorem dX2_allBits_19 : decode cX2_allBits 19 = .ok (.goto 4, 3) := by decide +kernel
theorem dX2_allBits_22 : decode cX2_allBits 22 = .ok (.lconst 0, 1) := by decide +kernel
theorem dX2_allBits_23 : decode cX2_allBits 23 = .ok (.lreturn, 1) := by decide +kernel
def mX2_allBits (f_t_cells : Nat → Int64) (p1 : Int32) : Option (Int64) := (if p1 < 0 then some 0 else (if (8 : Int32) ≤ p1 then some 0 else (if p1 < 0 ∨ 8 ≤ p1.toNatClampNeg then none else some (f_t_cells p1.toNatClampNeg))))
set_option maxHeartbeats 4000000 in
set_option maxRecDepth 100000 in
theorem kcX2_allBits (l : Launch) (D : va_G) (cy : Nat → ClassId) (g : Nat → Nat) (a_t : Nat) (a_t_cells : Nat) (a_t_cellsBefore : Nat) (a_t_page : Nat) (a_t_page_bytes : Nat) (a_t_reader : Nat) (n_t_page_bytes : Nat) (f_t_cells : Nat → Int64) (f_t_cellsBefore : Nat → Int64) (f_t_page_bytes : Nat → Int32) (v_t_page_length : Int32) (v_t_reader_value : Int64) (v_t_isWide : Int32) (p1 : Int32) (R : Int64) (hm : mX2_allBits f_t_cells p1 = some R) : Con l D cy g yX2_allBits cX2_allBits 2 (some .long) 0 0 0 0 [.ref a_t, .int p1] [(a_t, .inr (0, [.ref a_t_cells, .ref a_t_cellsBefore, .ref a_t_page, .ref a_t_reader, .int v_t_isWide])), (a_t_cells, .inl (cy 1, 8, .inr (.inl f_t_cells))), (a_t_cellsBefore, .inl (cy 1, 8, .inr (.inl f_t_cellsBefore))), (a_t_page, .inr (3, [.ref a_t_page_bytes, .int v_t_page_length])), (a_t_page_bytes, .inl (cy 0, n_t_page_bytes, .inl f_t_page_bytes)), (a_t_reader, .inr (2, [.long v_t_reader_value]))] [(a_t, .inr (0, [.ref a_t_cells, .ref a_t_cellsBefore, .ref a_t_page, .ref a_t_reader, .int v_t_isWide])), (a_t_cells, .inl (cy 1, 8, .inr (.inl f_t_cells))), (a_t_cellsBefore, .inl (cy 1, 8, .inr (.inl f_t_cellsBefore))), (a_t_page, .inr (3, [.ref a_t_page_bytes, .int v_t_page_length])), (a_t_page_bytes, .inl (cy 0, n_t_page_bytes, .inl f_t_page_bytes)), (a_t_reader, .inr (2, [.long v_t_reader_value]))] (some (.long R)) := by
  refine Con.of (by decide +kernel) (Nat.le_of_ble_eq_true rfl) ?_
  intro p e RM s m ar below meth c A Qc ls hx hb hr hml hown hlocks hnm ht hK hP hD hS hA hR hC hQc hl
  have hown : s.vm.findClass RX2 = some m.cls := hown
  have hl : lv_has ls 2 [(0, .ref a_t), (1, .int p1)] := hl
  rw [mX2_allBits] at hm
  refine lv_iload_n hx hb dX2_allBits_0 rfl (lv_at hl 1 rfl) ?_
  refine lv_if_lt (tgt := 22) hx hb dX2_allBits_1 (by decide) (fun c_1 => ?_) (fun c_1 => ?_)
  · replace hm := hm_t c_1 hm
    refine lv_lconst (v := 0) hx hb dX2_allBits_22 (by decide) ?_
    obtain rfl := Option.some.inj hm
    exact k_lret hx hb hr hlocks hQc hP hS rfl rfl dX2_allBits_23
  · replace hm := hm_f c_1 hm
    refine lv_iload_n hx hb dX2_allBits_4 rfl (lv_at hl 1 rfl) ?_
    refine lv_aload_n hx hb dX2_allBits_5 rfl (lv_at hl 0 rfl) ?_
    refine va_get (D := D) (cl := classes) (ci := 0) (v := .ref a_t_cells) (C := RX2) (T := TX2) (N := 5) hx hb ht in_RX2 hown hK.1 hP 0 rfl rfl 0 (by decide) (ht _ q_124) (fun _ h9 => h9) rfl dX2_allBits_6 ?_
    refine va_alen (v := 8) hx hb hK.1 hP 1 1 rfl rfl rfl dX2_allBits_9 ?_
    refine lv_icmp_ge (tgt := 22) hx hb dX2_allBits_10 (by decide) (fun c_2 => ?_) (fun c_2 => ?_)
    · replace hm := hm_t c_2 hm
      refine lv_lconst (v := 0) hx hb dX2_allBits_22 (by decide) ?_
      obtain rfl := Option.some.inj hm
      exact k_lret hx hb hr hlocks hQc hP hS rfl rfl dX2_allBits_23
    · replace hm := hm_f c_2 hm
      refine lv_aload_n hx hb dX2_allBits_13 rfl (lv_at hl 0 rfl) ?_
      refine va_get (D := D) (cl := classes) (ci := 0) (v := .ref a_t_cells) (C := RX2) (T := TX2) (N := 5) hx hb ht in_RX2 hown hK.1 hP 0 rfl rfl 0 (by decide) (ht _ q_124) (fun _ h9 => h9) rfl dX2_allBits_14 ?_
      refine lv_iload_n hx hb dX2_allBits_17 rfl (lv_at hl 1 rfl) ?_
      obtain ⟨hin, hm⟩ := hm_g hm
      refine va_lald hx hb hK.1 hP 1 1 rfl rfl hin dX2_allBits_18 ?_
      refine lv_goto (tgt := 23) hx hb dX2_allBits_19 (by decide) ?_
      obtain rfl := Option.some.inj hm
      exact k_lret hx hb hr hlocks hQc hP hS rfl rfl dX2_allBits_23
theorem dX2_keep_0 : decode cX2_keep 0 = .ok (.iload_n 1, 1) := by decide +kernel
theorem dX2_keep_1 : decode cX2_keep 1 = .ok (.ifCond .lt 19, 3) := by decide +kernel
theorem dX2_keep_4 : decode cX2_keep 4 = .ok (.iload_n 1, 1) := by decide +kernel
theorem dX2_keep_5 : decode cX2_keep 5 = .ok (.aload_n 0, 1) := by decide +kernel
theorem dX2_keep_6 : decode cX2_keep 6 = .ok (.getfield 9, 3) := by decide +kernel
theorem dX2_keep_9 : decode cX2_keep 9 = .ok (.arraylength, 1) := by decide +kernel
theorem dX2_keep_10 : decode cX2_keep 10 = .ok (.if_icmp .ge 10, 3) := by decide +kernel
theorem dX2_keep_13 : decode cX2_keep 13 = .ok (.aload_n 0, 1) := by decide +kernel
theorem dX2_keep_14 : decode cX2_keep 14 = .ok (.getfield 9, 3) := by decide +kernel
theorem dX2_keep_17 : decode cX2_keep 17 = .ok (.iload_n 1, 1) := by decide +kernel
theorem dX2_keep_18 : decode cX2_keep 18 = .ok (.lload_n 2, 1) := by decide +kernel
theorem dX2_keep_19 : decode cX2_keep 19 = .ok (.lastore, 1) := by decide +kernel
theorem dX2_keep_20 : decode cX2_keep 20 = .ok (.return_, 1) := by decide +kernel
def mX2_keep (f_t_cells : Nat → Int64) (p1 : Int32) (p2 : Int64) : Option ((Nat → Int64)) := (if p1 < 0 then some f_t_cells else (if (8 : Int32) ≤ p1 then some f_t_cells else (if p1 < 0 ∨ 8 ≤ p1.toNatClampNeg then none else some (vp_updL f_t_cells p1.toNatClampNeg p2))))
set_option maxHeartbeats 4000000 in
set_option maxRecDepth 100000 in
theorem kcX2_keep (l : Launch) (D : va_G) (cy : Nat → ClassId) (g : Nat → Nat) (a_t : Nat) (a_t_cells : Nat) (a_t_cellsBefore : Nat) (a_t_page : Nat) (a_t_page_bytes : Nat) (a_t_reader : Nat) (n_t_page_bytes : Nat) (f_t_cells : Nat → Int64) (f_t_cellsBefore : Nat → Int64) (f_t_page_bytes : Nat → Int32) (v_t_page_length : Int32) (v_t_reader_value : Int64) (v_t_isWide : Int32) (p1 : Int32) (p2 : Int64) (R : (Nat → Int64)) (hm : mX2_keep f_t_cells p1 p2 = some R) : Con l D cy g yX2_keep cX2_keep 4 none 0 0 0 0 [.ref a_t, .int p1, .long p2] [(a_t, .inr (0, [.ref a_t_cells, .ref a_t_cellsBefore, .ref a_t_page, .ref a_t_reader, .int v_t_isWide])), (a_t_cells, .inl (cy 1, 8, .inr (.inl f_t_cells))), (a_t_cellsBefore, .inl (cy 1, 8, .inr (.inl f_t_cellsBefore))), (a_t_page, .inr (3, [.ref a_t_page_bytes, .int v_t_page_length])), (a_t_page_bytes, .inl (cy 0, n_t_page_bytes, .inl f_t_page_bytes)), (a_t_reader, .inr (2, [.long v_t_reader_value]))] [(a_t, .inr (0, [.ref a_t_cells, .ref a_t_cellsBefore, .ref a_t_page, .ref a_t_reader, .int v_t_isWide])), (a_t_cells, .inl (cy 1, 8, .inr (.inl R))), (a_t_cellsBefore, .inl (cy 1, 8, .inr (.inl f_t_cellsBefore))), (a_t_page, .inr (3, [.ref a_t_page_bytes, .int v_t_page_length])), (a_t_page_bytes, .inl (cy 0, n_t_page_bytes, .inl f_t_page_bytes)), (a_t_reader, .inr (2, [.long v_t_reader_value]))] none := by
  refine Con.of (by decide +kernel) (Nat.le_of_ble_eq_true rfl) ?_
  intro p e RM s m ar below meth c A Qc ls hx hb hr hml hown hlocks hnm ht hK hP hD hS hA hR hC hQc hl
  have hown : s.vm.findClass RX2 = some m.cls := hown
  have hl : lv_has ls 4 [(0, .ref a_t), (1, .int p1), (2, .long p2)] := hl
  rw [mX2_keep] at hm
  refine lv_iload_n hx hb dX2_keep_0 rfl (lv_at hl 1 rfl) ?_
  refine lv_if_lt (tgt := 20) hx hb dX2_keep_1 (by decide) (fun c_1 => ?_) (fun c_1 => ?_)
  · replace hm := hm_t c_1 hm
    obtain rfl := Option.some.inj hm
    exact k_vret hx hb hr hlocks hQc hP hS rfl rfl dX2_keep_20
  · replace hm := hm_f c_1 hm
    refine lv_iload_n hx hb dX2_keep_4 rfl (lv_at hl 1 rfl) ?_
    refine lv_aload_n hx hb dX2_keep_5 rfl (lv_at hl 0 rfl) ?_
    refine va_get (D := D) (cl := classes) (ci := 0) (v := .ref a_t_cells) (C := RX2) (T := TX2) (N := 5) hx hb ht in_RX2 hown hK.1 hP 0 rfl rfl 0 (by decide) (ht _ q_124) (fun _ h9 => h9) rfl dX2_keep_6 ?_
    refine va_alen (v := 8) hx hb hK.1 hP 1 1 rfl rfl rfl dX2_keep_9 ?_
    refine lv_icmp_ge (tgt := 20) hx hb dX2_keep_10 (by decide) (fun c_2 => ?_) (fun c_2 => ?_)
    · replace hm := hm_t c_2 hm
      obtain rfl := Option.some.inj hm
      exact k_vret hx hb hr hlocks hQc hP hS rfl rfl dX2_keep_20
    · replace hm := hm_f c_2 hm
      refine lv_aload_n hx hb dX2_keep_13 rfl (lv_at hl 0 rfl) ?_
      refine va_get (D := D) (cl := classes) (ci := 0) (v := .ref a_t_cells) (C := RX2) (T := TX2) (N := 5) hx hb ht in_RX2 hown hK.1 hP 0 rfl rfl 0 (by decide) (ht _ q_124) (fun _ h9 => h9) rfl dX2_keep_14 ?_
      refine lv_iload_n hx hb dX2_keep_17 rfl (lv_at hl 1 rfl) ?_
      refine lv_lload_n hx hb dX2_keep_18 rfl (lv_at hl 2 rfl) ?_
      obtain ⟨hin, hm⟩ := hm_g hm
      refine va_last hx hb hK.1 hP hD hS 1 1 rfl rfl hin dX2_keep_19 (fun H locs hP hD hS => ?_)
      have hP : va_P D classes [(a_t, .inr (0, [.ref a_t_cells, .ref a_t_cellsBefore, .ref a_t_page, .ref a_t_reader, .int v_t_isWide])), (a_t_cells, .inl (cy 1, 8, .inr (.inl (vp_updL f_t_cells p1.toNatClampNeg p2)))), (a_t_cellsBefore, .inl (cy 1, 8, .inr (.inl f_t_cellsBefore))), (a_t_page, .inr (3, [.ref a_t_page_bytes, .int v_t_page_length])), (a_t_page_bytes, .inl (cy 0, n_t_page_bytes, .inl f_t_page_bytes)), (a_t_reader, .inr (2, [.long v_t_reader_value]))] H := hP
      have hD : va_D A [(a_t, .inr (0, [.ref a_t_cells, .ref a_t_cellsBefore, .ref a_t_page, .ref a_t_reader, .int v_t_isWide])), (a_t_cells, .inl (cy 1, 8, .inr (.inl (vp_updL f_t_cells p1.toNatClampNeg p2)))), (a_t_cellsBefore, .inl (cy 1, 8, .inr (.inl f_t_cellsBefore))), (a_t_page, .inr (3, [.ref a_t_page_bytes, .int v_t_page_length])), (a_t_page_bytes, .inl (cy 0, n_t_page_bytes, .inl f_t_page_bytes)), (a_t_reader, .inr (2, [.long v_t_reader_value]))] := hD
      obtain rfl := Option.some.inj hm
      exact k_vret hx hb hr hlocks hQc hP hS rfl rfl dX2_keep_20
theorem dX2_put_0 : decode cX2_put 0 = .ok (.lload_n 2, 1) := by decide +kernel
theorem dX2_put_1 : decode cX2_put 1 = .ok (.aload_n 0, 1) := by decide +kernel
theorem dX2_put_2 : decode cX2_put 2 = .ok (.getfield 42, 3) := by decide +kernel
theorem dX2_put_5 : decode cX2_put 5 = .ok (.invokestatic 46, 3) := by decide +kernel
theorem dX2_put_8 : decode cX2_put 8 = .ok (.lstore 4, 2) := by decide +kernel
theorem dX2_put_10 : decode cX2_put 10 = .ok (.aload_n 0, 1) := by decide +kernel
theorem dX2_put_11 : decode cX2_put 11 = .ok (.iload_n 1, 1) := by decide +kernel
theorem dX2_put_12 : decode cX2_put 12 = .ok (.lload 4, 2) := by decide +kernel
theorem dX2_put_14 : decode cX2_put 14 = .ok (.invokevirtual 52, 3) := by decide +kernel
theorem dX2_put_17 : decode cX2_put 17 = .ok (.lload 4, 2) := by decide +kernel
theorem dX2_put_19 : decode cX2_put 19 = .ok (.lreturn, 1) := by decide +kernel
def mX2_put (f_t_cells : Nat → Int64) (v_t_isWide : Int32) (p1 : Int32) (p2 : Int64) : Option (Int64 × (Nat → Int64)) := ((mX1_signed p2 v_t_isWide).bind (fun r_1 => ((mX2_keep f_t_cells p1 r_1).bind (fun r_2 => some (r_1, r_2)))))
set_option maxHeartbeats 4000000 in
set_option maxRecDepth 100000 in
theorem kcX2_put (l : Launch) (D : va_G) (cy : Nat → ClassId) (g : Nat → Nat) (a_t : Nat) (a_t_cells : Nat) (a_t_cellsBefore : Nat) (a_t_page : Nat) (a_t_page_bytes : Nat) (a_t_reader : Nat) (n_t_page_bytes : Nat) (f_t_cells : Nat → Int64) (f_t_cellsBefore : Nat → Int64) (f_t_page_bytes : Nat → Int32) (v_t_page_length : Int32) (v_t_reader_value : Int64) (v_t_isWide : Int32) (p1 : Int32) (p2 : Int64) (R : Int64 × (Nat → Int64)) (hm : mX2_put f_t_cells v_t_isWide p1 p2 = some R) : Con l D cy g yX2_put cX2_put 6 (some .long) 1 23 0 0 [.ref a_t, .int p1, .long p2] [(a_t, .inr (0, [.ref a_t_cells, .ref a_t_cellsBefore, .ref a_t_page, .ref a_t_reader, .int v_t_isWide])), (a_t_cells, .inl (cy 1, 8, .inr (.inl f_t_cells))), (a_t_cellsBefore, .inl (cy 1, 8, .inr (.inl f_t_cellsBefore))), (a_t_page, .inr (3, [.ref a_t_page_bytes, .int v_t_page_length])), (a_t_page_bytes, .inl (cy 0, n_t_page_bytes, .inl f_t_page_bytes)), (a_t_reader, .inr (2, [.long v_t_reader_value]))] [(a_t, .inr (0, [.ref a_t_cells, .ref a_t_cellsBefore, .ref a_t_page, .ref a_t_reader, .int v_t_isWide])), (a_t_cells, .inl (cy 1, 8, .inr (.inl R.2))), (a_t_cellsBefore, .inl (cy 1, 8, .inr (.inl f_t_cellsBefore))), (a_t_page, .inr (3, [.ref a_t_page_bytes, .int v_t_page_length])), (a_t_page_bytes, .inl (cy 0, n_t_page_bytes, .inl f_t_page_bytes)), (a_t_reader, .inr (2, [.long v_t_reader_value]))] (some (.long R.1)) := by
  refine Con.of (by decide +kernel) (Nat.le_of_ble_eq_true rfl) ?_
  intro p e RM s m ar below meth c A Qc ls hx hb hr hml hown hlocks hnm ht hK hP hD hS hA hR hC hQc hl
  have hown : s.vm.findClass RX2 = some m.cls := hown
  have hl : lv_has ls 6 [(0, .ref a_t), (1, .int p1), (2, .long p2)] := hl
  rw [mX2_put] at hm
  refine lv_lload_n hx hb dX2_put_0 rfl (lv_at hl 2 rfl) ?_
  refine lv_aload_n hx hb dX2_put_1 rfl (lv_at hl 0 rfl) ?_
  refine va_get (D := D) (cl := classes) (ci := 0) (v := .int v_t_isWide) (C := RX2) (T := TX2) (N := 5) hx hb ht in_RX2 hown hK.1 hP 0 rfl rfl 4 (by decide) (ht _ q_130) (fun _ h9 => h9) rfl dX2_put_2 ?_
  obtain ⟨r_1, hr_1, hm⟩ := hm_b hm
  refine k_S (as := [.long p2, .int v_t_isWide]) (rest := []) (ws' := [(a_t, .inr (0, [.ref a_t_cells, .ref a_t_cellsBefore, .ref a_t_page, .ref a_t_reader, .int v_t_isWide])), (a_t_cells, .inl (cy 1, 8, .inr (.inl f_t_cells))), (a_t_cellsBefore, .inl (cy 1, 8, .inr (.inl f_t_cellsBefore))), (a_t_page, .inr (3, [.ref a_t_page_bytes, .int v_t_page_length])), (a_t_page_bytes, .inl (cy 0, n_t_page_bytes, .inl f_t_page_bytes)), (a_t_reader, .inr (2, [.long v_t_reader_value]))]) (st2 := [.long r_1]) hx hb hml hown ht hK hP hD hS hA hC hR hl (kcX1_signed l D cy g p2 v_t_isWide r_1 hr_1) [] q_295 q_296 q_60 q_297 hyX1_signed ⟨Nat.le_of_ble_eq_true rfl, Nat.le_of_ble_eq_true rfl, Nat.le_of_ble_eq_true rfl, Nat.le_of_ble_eq_true rfl⟩ rfl rfl rfl rfl (Nat.le_of_ble_eq_true rfl) dX2_put_5 rfl rfl (fun H locs hP hD hS => ?_)
  refine lv_lstore (lv' := [(4, .long r_1), (0, .ref a_t), (1, .int p1), (2, .long p2)]) hx hb dX2_put_8 hl (by decide) rfl (fun ls hl => ?_)
  refine lv_aload_n hx hb dX2_put_10 rfl (lv_at hl 1 rfl) ?_
  refine lv_iload_n hx hb dX2_put_11 rfl (lv_at hl 2 rfl) ?_
  refine lv_lload hx hb dX2_put_12 (lv_at hl 0 rfl) ?_
  obtain ⟨r_2, hr_2, hm⟩ := hm_b hm
  refine k_V (as := [.int p1, .long r_1]) (rest := []) (ws' := [(a_t, .inr (0, [.ref a_t_cells, .ref a_t_cellsBefore, .ref a_t_page, .ref a_t_reader, .int v_t_isWide])), (a_t_cells, .inl (cy 1, 8, .inr (.inl r_2))), (a_t_cellsBefore, .inl (cy 1, 8, .inr (.inl f_t_cellsBefore))), (a_t_page, .inr (3, [.ref a_t_page_bytes, .int v_t_page_length])), (a_t_page_bytes, .inl (cy 0, n_t_page_bytes, .inl f_t_page_bytes)), (a_t_reader, .inr (2, [.long v_t_reader_value]))]) (st2 := []) (i0 := 0) hx hb hml hown ht hK hP hD hS hA hC hR hl (kcX2_keep l D cy g a_t a_t_cells a_t_cellsBefore a_t_page a_t_page_bytes a_t_reader n_t_page_bytes f_t_cells f_t_cellsBefore f_t_page_bytes v_t_page_length v_t_reader_value v_t_isWide p1 r_1 r_2 hr_2) [0, 1, 2, 3, 4, 5] q_392 q_284 q_285 q_44 q_286 hyX2_keep ⟨rfl, rfl, rfl⟩ ⟨Nat.le_of_ble_eq_true rfl, Nat.le_of_ble_eq_true rfl, Nat.le_of_ble_eq_true rfl, Nat.le_of_ble_eq_true rfl⟩ rfl rfl rfl rfl (Nat.le_of_ble_eq_true rfl) dX2_put_14 rfl rfl (fun H locs hP hD hS => ?_)
  refine lv_lload hx hb dX2_put_17 (lv_at hl 0 rfl) ?_
  obtain rfl := Option.some.inj hm
  exact k_lret hx hb hr hlocks hQc hP hS rfl rfl dX2_put_19
theorem dX2_signed_0 : decode cX2_signed 0 = .ok (.aload_n 0, 1) := by decide +kernel
theorem dX2_signed_1 : decode cX2_signed 1 = .ok (.iload_n 1, 1) := by decide +kernel
theorem dX2_signed_2 : decode cX2_signed 2 = .ok (.invokevirtual 34, 3) := by decide +kernel
theorem dX2_signed_5 : decode cX2_signed 5 = .ok (.aload_n 0, 1) := by decide +kernel
theorem dX2_signed_6 : decode cX2_signed 6 = .ok (.getfield 42, 3) := by decide +kernel
theorem dX2_signed_9 : decode cX2_signed 9 = .ok (.invokestatic 46, 3) := by decide +kernel
theorem dX2_signed_12 : decode cX2_signed 12 = .ok (.lreturn, 1) := by decide +kernel
def mX2_signed (f_t_cells : Nat → Int64) (v_t_isWide : Int32) (p1 : Int32) : Option (Int64) := ((mX2_allBits f_t_cells p1).bind (fun r_1 => ((mX1_signed r_1 v_t_isWide).bind (fun r_2 => some r_2))))
set_option maxHeartbeats 4000000 in
set_option maxRecDepth 100000 in
theorem kcX2_signed (l : Launch) (D : va_G) (cy : Nat → ClassId) (g : Nat → Nat) (a_t : Nat) (a_t_cells : Nat) (a_t_cellsBefore : Nat) (a_t_page : Nat) (a_t_page_bytes : Nat) (a_t_reader : Nat) (n_t_page_bytes : Nat) (f_t_cells : Nat → Int64) (f_t_cellsBefore : Nat → Int64) (f_t_page_bytes : Nat → Int32) (v_t_page_length : Int32) (v_t_reader_value : Int64) (v_t_isWide : Int32) (p1 : Int32) (R : Int64) (hm : mX2_signed f_t_cells v_t_isWide p1 = some R) : Con l D cy g yX2_signed cX2_signed 2 (some .long) 1 22 0 0 [.ref a_t, .int p1] [(a_t, .inr (0, [.ref a_t_cells, .ref a_t_cellsBefore, .ref a_t_page, .ref a_t_reader, .int v_t_isWide])), (a_t_cells, .inl (cy 1, 8, .inr (.inl f_t_cells))), (a_t_cellsBefore, .inl (cy 1, 8, .inr (.inl f_t_cellsBefore))), (a_t_page, .inr (3, [.ref a_t_page_bytes, .int v_t_page_length])), (a_t_page_bytes, .inl (cy 0, n_t_page_bytes, .inl f_t_page_bytes)), (a_t_reader, .inr (2, [.long v_t_reader_value]))] [(a_t, .inr (0, [.ref a_t_cells, .ref a_t_cellsBefore, .ref a_t_page, .ref a_t_reader, .int v_t_isWide])), (a_t_cells, .inl (cy 1, 8, .inr (.inl f_t_cells))), (a_t_cellsBefore, .inl (cy 1, 8, .inr (.inl f_t_cellsBefore))), (a_t_page, .inr (3, [.ref a_t_page_bytes, .int v_t_page_length])), (a_t_page_bytes, .inl (cy 0, n_t_page_bytes, .inl f_t_page_bytes)), (a_t_reader, .inr (2, [.long v_t_reader_value]))] (some (.long R)) := by
  refine Con.of (by decide +kernel) (Nat.le_of_ble_eq_true rfl) ?_
  intro p e RM s m ar below meth c A Qc ls hx hb hr hml hown hlocks hnm ht hK hP hD hS hA hR hC hQc hl
  have hown : s.vm.findClass RX2 = some m.cls := hown
  have hl : lv_has ls 2 [(0, .ref a_t), (1, .int p1)] := hl
  rw [mX2_signed] at hm
  refine lv_aload_n hx hb dX2_signed_0 rfl (lv_at hl 0 rfl) ?_
  refine lv_iload_n hx hb dX2_signed_1 rfl (lv_at hl 1 rfl) ?_
  obtain ⟨r_1, hr_1, hm⟩ := hm_b hm
  refine k_V (as := [.int p1]) (rest := []) (ws' := [(a_t, .inr (0, [.ref a_t_cells, .ref a_t_cellsBefore, .ref a_t_page, .ref a_t_reader, .int v_t_isWide])), (a_t_cells, .inl (cy 1, 8, .inr (.inl f_t_cells))), (a_t_cellsBefore, .inl (cy 1, 8, .inr (.inl f_t_cellsBefore))), (a_t_page, .inr (3, [.ref a_t_page_bytes, .int v_t_page_length])), (a_t_page_bytes, .inl (cy 0, n_t_page_bytes, .inl f_t_page_bytes)), (a_t_reader, .inr (2, [.long v_t_reader_value]))]) (st2 := [.long r_1]) (i0 := 0) hx hb hml hown ht hK hP hD hS hA hC hR hl (kcX2_allBits l D cy g a_t a_t_cells a_t_cellsBefore a_t_page a_t_page_bytes a_t_reader n_t_page_bytes f_t_cells f_t_cellsBefore f_t_page_bytes v_t_page_length v_t_reader_value v_t_isWide p1 r_1 hr_1) [0, 1, 2, 3, 4, 5] q_291 q_292 q_293 q_44 q_294 hyX2_allBits ⟨rfl, rfl, rfl⟩ ⟨Nat.le_of_ble_eq_true rfl, Nat.le_of_ble_eq_true rfl, Nat.le_of_ble_eq_true rfl, Nat.le_of_ble_eq_true rfl⟩ rfl rfl rfl rfl (Nat.le_of_ble_eq_true rfl) dX2_signed_2 rfl rfl (fun H locs hP hD hS => ?_)
  refine lv_aload_n hx hb dX2_signed_5 rfl (lv_at hl 0 rfl) ?_
  refine va_get (D := D) (cl := classes) (ci := 0) (v := .int v_t_isWide) (C := RX2) (T := TX2) (N := 5) hx hb ht in_RX2 hown hK.1 hP 0 rfl rfl 4 (by decide) (ht _ q_130) (fun _ h9 => h9) rfl dX2_signed_6 ?_
  obtain ⟨r_2, hr_2, hm⟩ := hm_b hm
  refine k_S (as := [.long r_1, .int v_t_isWide]) (rest := []) (ws' := [(a_t, .inr (0, [.ref a_t_cells, .ref a_t_cellsBefore, .ref a_t_page, .ref a_t_reader, .int v_t_isWide])), (a_t_cells, .inl (cy 1, 8, .inr (.inl f_t_cells))), (a_t_cellsBefore, .inl (cy 1, 8, .inr (.inl f_t_cellsBefore))), (a_t_page, .inr (3, [.ref a_t_page_bytes, .int v_t_page_length])), (a_t_page_bytes, .inl (cy 0, n_t_page_bytes, .inl f_t_page_bytes)), (a_t_reader, .inr (2, [.long v_t_reader_value]))]) (st2 := [.long r_2]) hx hb hml hown ht hK hP hD hS hA hC hR hl (kcX1_signed l D cy g r_1 v_t_isWide r_2 hr_2) [] q_295 q_296 q_60 q_297 hyX1_signed ⟨Nat.le_of_ble_eq_true rfl, Nat.le_of_ble_eq_true rfl, Nat.le_of_ble_eq_true rfl, Nat.le_of_ble_eq_true rfl⟩ rfl rfl rfl rfl (Nat.le_of_ble_eq_true rfl) dX2_signed_9 rfl rfl (fun H locs hP hD hS => ?_)
  obtain rfl := Option.some.inj hm
  exact k_lret hx hb hr hlocks hQc hP hS rfl rfl dX2_signed_12
theorem dX2_plain_0 : decode cX2_plain 0 = .ok (.aload_n 0, 1) := by decide +kernel
theorem dX2_plain_1 : decode cX2_plain 1 = .ok (.iload_n 1, 1) := by decide +kernel
theorem dX2_plain_2 : decode cX2_plain 2 = .ok (.invokevirtual 34, 3) := by decide +kernel
theorem dX2_plain_5 : decode cX2_plain 5 = .ok (.aload_n 0, 1) := by decide +kernel
theorem dX2_plain_6 : decode cX2_plain 6 = .ok (.getfield 42, 3) := by decide +kernel
theorem dX2_plain_9 : decode cX2_plain 9 = .ok (.invokestatic 56, 3) := by decide +kernel
theorem dX2_plain_12 : decode cX2_plain 12 = .ok (.lreturn, 1) := by decide +kernel
def mX2_plain (f_t_cells : Nat → Int64) (v_t_isWide : Int32) (p1 : Int32) : Option (Int64) := ((mX2_allBits f_t_cells p1).bind (fun r_1 => ((mX1_plain r_1 v_t_isWide).bind (fun r_2 => some r_2))))
set_option maxHeartbeats 4000000 in
set_option maxRecDepth 100000 in
theorem kcX2_plain (l : Launch) (D : va_G) (cy : Nat → ClassId) (g : Nat → Nat) (a_t : Nat) (a_t_cells : Nat) (a_t_cellsBefore : Nat) (a_t_page : Nat) (a_t_page_bytes : Nat) (a_t_reader : Nat) (n_t_page_bytes : Nat) (f_t_cells : Nat → Int64) (f_t_cellsBefore : Nat → Int64) (f_t_page_bytes : Nat → Int32) (v_t_page_length : Int32) (v_t_reader_value : Int64) (v_t_isWide : Int32) (p1 : Int32) (R : Int64) (hm : mX2_plain f_t_cells v_t_isWide p1 = some R) : Con l D cy g yX2_plain cX2_plain 2 (some .long) 1 22 0 0 [.ref a_t, .int p1] [(a_t, .inr (0, [.ref a_t_cells, .ref a_t_cellsBefore, .ref a_t_page, .ref a_t_reader, .int v_t_isWide])), (a_t_cells, .inl (cy 1, 8, .inr (.inl f_t_cells))), (a_t_cellsBefore, .inl (cy 1, 8, .inr (.inl f_t_cellsBefore))), (a_t_page, .inr (3, [.ref a_t_page_bytes, .int v_t_page_length])), (a_t_page_bytes, .inl (cy 0, n_t_page_bytes, .inl f_t_page_bytes)), (a_t_reader, .inr (2, [.long v_t_reader_value]))] [(a_t, .inr (0, [.ref a_t_cells, .ref a_t_cellsBefore, .ref a_t_page, .ref a_t_reader, .int v_t_isWide])), (a_t_cells, .inl (cy 1, 8, .inr (.inl f_t_cells))), (a_t_cellsBefore, .inl (cy 1, 8, .inr (.inl f_t_cellsBefore))), (a_t_page, .inr (3, [.ref a_t_page_bytes, .int v_t_page_length])), (a_t_page_bytes, .inl (cy 0, n_t_page_bytes, .inl f_t_page_bytes)), (a_t_reader, .inr (2, [.long v_t_reader_value]))] (some (.long R)) := by
  refine Con.of (by decide +kernel) (Nat.le_of_ble_eq_true rfl) ?_
  intro p e RM s m ar below meth c A Qc ls hx hb hr hml hown hlocks hnm ht hK hP hD hS hA hR hC hQc hl
  have hown : s.vm.findClass RX2 = some m.cls := hown
  have hl : lv_has ls 2 [(0, .ref a_t), (1, .int p1)] := hl
  rw [mX2_plain] at hm
  refine lv_aload_n hx hb dX2_plain_0 rfl (lv_at hl 0 rfl) ?_
  refine lv_iload_n hx hb dX2_plain_1 rfl (lv_at hl 1 rfl) ?_
  obtain ⟨r_1, hr_1, hm⟩ := hm_b hm
  refine k_V (as := [.int p1]) (rest := []) (ws' := [(a_t, .inr (0, [.ref a_t_cells, .ref a_t_cellsBefore, .ref a_t_page, .ref a_t_reader, .int v_t_isWide])), (a_t_cells, .inl (cy 1, 8, .inr (.inl f_t_cells))), (a_t_cellsBefore, .inl (cy 1, 8, .inr (.inl f_t_cellsBefore))), (a_t_page, .inr (3, [.ref a_t_page_bytes, .int v_t_page_length])), (a_t_page_bytes, .inl (cy 0, n_t_page_bytes, .inl f_t_page_bytes)), (a_t_reader, .inr (2, [.long v_t_reader_value]))]) (st2 := [.long r_1]) (i0 := 0) hx hb hml hown ht hK hP hD hS hA hC hR hl (kcX2_allBits l D cy g a_t a_t_cells a_t_cellsBefore a_t_page a_t_page_bytes a_t_reader n_t_page_bytes f_t_cells f_t_cellsBefore f_t_page_bytes v_t_page_length v_t_reader_value v_t_isWide p1 r_1 hr_1) [0, 1, 2, 3, 4, 5] q_291 q_292 q_293 q_44 q_294 hyX2_allBits ⟨rfl, rfl, rfl⟩ ⟨Nat.le_of_ble_eq_true rfl, Nat.le_of_ble_eq_true rfl, Nat.le_of_ble_eq_true rfl, Nat.le_of_ble_eq_true rfl⟩ rfl rfl rfl rfl (Nat.le_of_ble_eq_true rfl) dX2_plain_2 rfl rfl (fun H locs hP hD hS => ?_)
  refine lv_aload_n hx hb dX2_plain_5 rfl (lv_at hl 0 rfl) ?_
  refine va_get (D := D) (cl := classes) (ci := 0) (v := .int v_t_isWide) (C := RX2) (T := TX2) (N := 5) hx hb ht in_RX2 hown hK.1 hP 0 rfl rfl 4 (by decide) (ht _ q_130) (fun _ h9 => h9) rfl dX2_plain_6 ?_
  obtain ⟨r_2, hr_2, hm⟩ := hm_b hm
  refine k_S (as := [.long r_1, .int v_t_isWide]) (rest := []) (ws' := [(a_t, .inr (0, [.ref a_t_cells, .ref a_t_cellsBefore, .ref a_t_page, .ref a_t_reader, .int v_t_isWide])), (a_t_cells, .inl (cy 1, 8, .inr (.inl f_t_cells))), (a_t_cellsBefore, .inl (cy 1, 8, .inr (.inl f_t_cellsBefore))), (a_t_page, .inr (3, [.ref a_t_page_bytes, .int v_t_page_length])), (a_t_page_bytes, .inl (cy 0, n_t_page_bytes, .inl f_t_page_bytes)), (a_t_reader, .inr (2, [.long v_t_reader_value]))]) (st2 := [.long r_2]) hx hb hml hown ht hK hP hD hS hA hC hR hl (kcX1_plain l D cy g r_1 v_t_isWide r_2 hr_2) [] q_334 q_335 q_60 q_336 hyX1_plain ⟨Nat.le_of_ble_eq_true rfl, Nat.le_of_ble_eq_true rfl, Nat.le_of_ble_eq_true rfl, Nat.le_of_ble_eq_true rfl⟩ rfl rfl rfl rfl (Nat.le_of_ble_eq_true rfl) dX2_plain_9 rfl rfl (fun H locs hP hD hS => ?_)
  obtain rfl := Option.some.inj hm
  exact k_lret hx hb hr hlocks hQc hP hS rfl rfl dX2_plain_12
theorem dX2_valueOf_0 : decode cX2_valueOf 0 = .ok (.iload_n 2, 1) := by decide +kernel
theorem dX2_valueOf_1 : decode cX2_valueOf 1 = .ok (.ifCond .eq 11, 3) := by decide +kernel
theorem dX2_valueOf_4 : decode cX2_valueOf 4 = .ok (.aload_n 0, 1) := by decide +kernel
theorem dX2_valueOf_5 : decode cX2_valueOf 5 = .ok (.iload_n 1, 1) := by decide +kernel
theorem dX2_valueOf_6 : decode cX2_valueOf 6 = .ok (.invokevirtual 59, 3) := by decide +kernel
theorem dX2_valueOf_9 : decode cX2_valueOf 9 = .ok (.goto 8, 3) := by decide +kernel
theorem dX2_valueOf_12 : decode cX2_valueOf 12 = .ok (.aload_n 0, 1) := by decide +kernel
theorem dX2_valueOf_13 : decode cX2_valueOf 13 = .ok (.iload_n 1, 1) := by decide +kernel
theorem dX2_valueOf_14 : decode cX2_valueOf 14 = .ok (.invokevirtual 61, 3) := by decide +kernel
theorem dX2_valueOf_17 : decode cX2_valueOf 17 = .ok (.lreturn, 1) := by decide +kernel
def mX2_valueOf (f_t_cells : Nat → Int64) (v_t_isWide : Int32) (p1 : Int32) (p2 : Int32) : Option (Int64) := (if p2 = 0 then ((mX2_signed f_t_cells v_t_isWide p1).bind (fun r_2 => some r_2)) else ((mX2_plain f_t_cells v_t_isWide p1).bind (fun r_3 => some r_3)))
set_option maxHeartbeats 4000000 in
set_option maxRecDepth 100000 in
theorem kcX2_valueOf (l : Launch) (D : va_G) (cy : Nat → ClassId) (g : Nat → Nat) (a_t : Nat) (a_t_cells : Nat) (a_t_cellsBefore : Nat) (a_t_page : Nat) (a_t_page_bytes : Nat) (a_t_reader : Nat) (n_t_page_bytes : Nat) (f_t_cells : Nat → Int64) (f_t_cellsBefore : Nat → Int64) (f_t_page_bytes : Nat → Int32) (v_t_page_length : Int32) (v_t_reader_value : Int64) (v_t_isWide : Int32) (p1 : Int32) (p2 : Int32) (R : Int64) (hm : mX2_valueOf f_t_cells v_t_isWide p1 p2 = some R) : Con l D cy g yX2_valueOf cX2_valueOf 3 (some .long) 2 43 0 0 [.ref a_t, .int p1, .int p2] [(a_t, .inr (0, [.ref a_t_cells, .ref a_t_cellsBefore, .ref a_t_page, .ref a_t_reader, .int v_t_isWide])), (a_t_cells, .inl (cy 1, 8, .inr (.inl f_t_cells))), (a_t_cellsBefore, .inl (cy 1, 8, .inr (.inl f_t_cellsBefore))), (a_t_page, .inr (3, [.ref a_t_page_bytes, .int v_t_page_length])), (a_t_page_bytes, .inl (cy 0, n_t_page_bytes, .inl f_t_page_bytes)), (a_t_reader, .inr (2, [.long v_t_reader_value]))] [(a_t, .inr (0, [.ref a_t_cells, .ref a_t_cellsBefore, .ref a_t_page, .ref a_t_reader, .int v_t_isWide])), (a_t_cells, .inl (cy 1, 8, .inr (.inl f_t_cells))), (a_t_cellsBefore, .inl (cy 1, 8, .inr (.inl f_t_cellsBefore))), (a_t_page, .inr (3, [.ref a_t_page_bytes, .int v_t_page_length])), (a_t_page_bytes, .inl (cy 0, n_t_page_bytes, .inl f_t_page_bytes)), (a_t_reader, .inr (2, [.long v_t_reader_value]))] (some (.long R)) := by
  refine Con.of (by decide +kernel) (Nat.le_of_ble_eq_true rfl) ?_
  intro p e RM s m ar below meth c A Qc ls hx hb hr hml hown hlocks hnm ht hK hP hD hS hA hR hC hQc hl
  have hown : s.vm.findClass RX2 = some m.cls := hown
  have hl : lv_has ls 3 [(0, .ref a_t), (1, .int p1), (2, .int p2)] := hl
  rw [mX2_valueOf] at hm
  refine lv_iload_n hx hb dX2_valueOf_0 rfl (lv_at hl 2 rfl) ?_
  refine lv_if_eq (tgt := 12) hx hb dX2_valueOf_1 (by decide) (fun c_1 => ?_) (fun c_1 => ?_)
  · replace hm := hm_t c_1 hm
    refine lv_aload_n hx hb dX2_valueOf_12 rfl (lv_at hl 0 rfl) ?_
    refine lv_iload_n hx hb dX2_valueOf_13 rfl (lv_at hl 1 rfl) ?_
    obtain ⟨r_2, hr_2, hm⟩ := hm_b hm
    refine k_V (as := [.int p1]) (rest := []) (ws' := [(a_t, .inr (0, [.ref a_t_cells, .ref a_t_cellsBefore, .ref a_t_page, .ref a_t_reader, .int v_t_isWide])), (a_t_cells, .inl (cy 1, 8, .inr (.inl f_t_cells))), (a_t_cellsBefore, .inl (cy 1, 8, .inr (.inl f_t_cellsBefore))), (a_t_page, .inr (3, [.ref a_t_page_bytes, .int v_t_page_length])), (a_t_page_bytes, .inl (cy 0, n_t_page_bytes, .inl f_t_page_bytes)), (a_t_reader, .inr (2, [.long v_t_reader_value]))]) (st2 := [.long r_2]) (i0 := 0) hx hb hml hown ht hK hP hD hS hA hC hR hl (kcX2_signed l D cy g a_t a_t_cells a_t_cellsBefore a_t_page a_t_page_bytes a_t_reader n_t_page_bytes f_t_cells f_t_cellsBefore f_t_page_bytes v_t_page_length v_t_reader_value v_t_isWide p1 r_2 hr_2) [0, 1, 2, 3, 4, 5] q_338 q_288 q_289 q_44 q_290 hyX2_signed ⟨rfl, rfl, rfl⟩ ⟨Nat.le_of_ble_eq_true rfl, Nat.le_of_ble_eq_true rfl, Nat.le_of_ble_eq_true rfl, Nat.le_of_ble_eq_true rfl⟩ rfl rfl rfl rfl (Nat.le_of_ble_eq_true rfl) dX2_valueOf_14 rfl rfl (fun H locs hP hD hS => ?_)
    obtain rfl := Option.some.inj hm
    exact k_lret hx hb hr hlocks hQc hP hS rfl rfl dX2_valueOf_17
  · replace hm := hm_f c_1 hm
    refine lv_aload_n hx hb dX2_valueOf_4 rfl (lv_at hl 0 rfl) ?_
    refine lv_iload_n hx hb dX2_valueOf_5 rfl (lv_at hl 1 rfl) ?_
    obtain ⟨r_3, hr_3, hm⟩ := hm_b hm
    refine k_V (as := [.int p1]) (rest := []) (ws' := [(a_t, .inr (0, [.ref a_t_cells, .ref a_t_cellsBefore, .ref a_t_page, .ref a_t_reader, .int v_t_isWide])), (a_t_cells, .inl (cy 1, 8, .inr (.inl f_t_cells))), (a_t_cellsBefore, .inl (cy 1, 8, .inr (.inl f_t_cellsBefore))), (a_t_page, .inr (3, [.ref a_t_page_bytes, .int v_t_page_length])), (a_t_page_bytes, .inl (cy 0, n_t_page_bytes, .inl f_t_page_bytes)), (a_t_reader, .inr (2, [.long v_t_reader_value]))]) (st2 := [.long r_3]) (i0 := 0) hx hb hml hown ht hK hP hD hS hA hC hR hl (kcX2_plain l D cy g a_t a_t_cells a_t_cellsBefore a_t_page a_t_page_bytes a_t_reader n_t_page_bytes f_t_cells f_t_cellsBefore f_t_page_bytes v_t_page_length v_t_reader_value v_t_isWide p1 r_3 hr_3) [0, 1, 2, 3, 4, 5] q_330 q_331 q_332 q_44 q_333 hyX2_plain ⟨rfl, rfl, rfl⟩ ⟨Nat.le_of_ble_eq_true rfl, Nat.le_of_ble_eq_true rfl, Nat.le_of_ble_eq_true rfl, Nat.le_of_ble_eq_true rfl⟩ rfl rfl rfl rfl (Nat.le_of_ble_eq_true rfl) dX2_valueOf_6 rfl rfl (fun H locs hP hD hS => ?_)
    refine lv_goto (tgt := 17) hx hb dX2_valueOf_9 (by decide) ?_
    obtain rfl := Option.some.inj hm
    exact k_lret hx hb hr hlocks hQc hP hS rfl rfl dX2_valueOf_17
theorem dX2_writePage_0 : decode cX2_writePage 0 = .ok (.aload_n 0, 1) := by decide +kernel
theorem dX2_writePage_1 : decode cX2_writePage 1 = .ok (.getfield 23, 3) := by decide +kernel
theorem dX2_writePage_4 : decode cX2_writePage 4 = .ok (.aload_n 0, 1) := by decide +kernel
theorem dX2_writePage_5 : decode cX2_writePage 5 = .ok (.iload_n 1, 1) := by decide +kernel
theorem dX2_writePage_6 : decode cX2_writePage 6 = .ok (.iload_n 3, 1) := by decide +kernel
theorem dX2_writePage_7 : decode cX2_writePage 7 = .ok (.invokevirtual 63, 3) := by decide +kernel
theorem dX2_writePage_10 : decode cX2_writePage 10 = .ok (.iload_n 2, 1) := by decide +kernel
theorem dX2_writePage_11 : decode cX2_writePage 11 = .ok (.iload_n 3, 1) := by decide +kernel
theorem dX2_writePage_12 : decode cX2_writePage 12 = .ok (.invokestatic 67, 3) := by decide +kernel
theorem dX2_writePage_15 : decode cX2_writePage 15 = .ok (.return_, 1) := by decide +kernel
def mX2_writePage (k : Nat) (n_t_page_bytes : Nat) (f_t_cells : Nat → Int64) (f_t_page_bytes : Nat → Int32) (v_t_isWide : Int32) (p1 : Int32) (p2 : Int32) (p3 : Int32) : Option ((Nat → Int32) × Int32) := ((mX2_valueOf f_t_cells v_t_isWide p1 p3).bind (fun r_1 => ((mX3_writeOn k n_t_page_bytes f_t_page_bytes r_1 p2 p3).bind (fun r_2 => some (r_2.1, r_2.2)))))
set_option maxHeartbeats 4000000 in
set_option maxRecDepth 100000 in
theorem kcX2_writePage (l : Launch) (D : va_G) (cy : Nat → ClassId) (g : Nat → Nat) (a_t : Nat) (a_t_cells : Nat) (a_t_cellsBefore : Nat) (a_t_page : Nat) (a_t_page_bytes : Nat) (a_t_reader : Nat) (n_t_page_bytes : Nat) (f_t_cells : Nat → Int64) (f_t_cellsBefore : Nat → Int64) (f_t_page_bytes : Nat → Int32) (v_t_page_length : Int32) (v_t_reader_value : Int64) (v_t_isWide : Int32) (p1 : Int32) (p2 : Int32) (p3 : Int32) (k : Nat) (R : (Nat → Int32) × Int32) (hm : mX2_writePage k n_t_page_bytes f_t_cells f_t_page_bytes v_t_isWide p1 p2 p3 = some R) : Con l D cy g yX2_writePage cX2_writePage 4 none 3 65 0 0 [.ref a_t, .int p1, .int p2, .int p3] [(a_t, .inr (0, [.ref a_t_cells, .ref a_t_cellsBefore, .ref a_t_page, .ref a_t_reader, .int v_t_isWide])), (a_t_cells, .inl (cy 1, 8, .inr (.inl f_t_cells))), (a_t_cellsBefore, .inl (cy 1, 8, .inr (.inl f_t_cellsBefore))), (a_t_page, .inr (3, [.ref a_t_page_bytes, .int v_t_page_length])), (a_t_page_bytes, .inl (cy 0, n_t_page_bytes, .inl f_t_page_bytes)), (a_t_reader, .inr (2, [.long v_t_reader_value]))] [(a_t, .inr (0, [.ref a_t_cells, .ref a_t_cellsBefore, .ref a_t_page, .ref a_t_reader, .int v_t_isWide])), (a_t_cells, .inl (cy 1, 8, .inr (.inl f_t_cells))), (a_t_cellsBefore, .inl (cy 1, 8, .inr (.inl f_t_cellsBefore))), (a_t_page, .inr (3, [.ref a_t_page_bytes, .int R.2])), (a_t_page_bytes, .inl (cy 0, n_t_page_bytes, .inl R.1)), (a_t_reader, .inr (2, [.long v_t_reader_value]))] none := by
  refine Con.of (by decide +kernel) (Nat.le_of_ble_eq_true rfl) ?_
  intro p e RM s m ar below meth c A Qc ls hx hb hr hml hown hlocks hnm ht hK hP hD hS hA hR hC hQc hl
  have hown : s.vm.findClass RX2 = some m.cls := hown
  have hl : lv_has ls 4 [(0, .ref a_t), (1, .int p1), (2, .int p2), (3, .int p3)] := hl
  rw [mX2_writePage] at hm
  refine lv_aload_n hx hb dX2_writePage_0 rfl (lv_at hl 0 rfl) ?_
  refine va_get (D := D) (cl := classes) (ci := 0) (v := .ref a_t_page) (C := RX2) (T := TX2) (N := 5) hx hb ht in_RX2 hown hK.1 hP 0 rfl rfl 2 (by decide) (ht _ q_126) (fun _ h9 => h9) rfl dX2_writePage_1 ?_
  refine lv_aload_n hx hb dX2_writePage_4 rfl (lv_at hl 0 rfl) ?_
  refine lv_iload_n hx hb dX2_writePage_5 rfl (lv_at hl 1 rfl) ?_
  refine lv_iload_n hx hb dX2_writePage_6 rfl (lv_at hl 3 rfl) ?_
  obtain ⟨r_1, hr_1, hm⟩ := hm_b hm
  refine k_V (as := [.int p1, .int p3]) (rest := [.ref a_t_page]) (ws' := [(a_t, .inr (0, [.ref a_t_cells, .ref a_t_cellsBefore, .ref a_t_page, .ref a_t_reader, .int v_t_isWide])), (a_t_cells, .inl (cy 1, 8, .inr (.inl f_t_cells))), (a_t_cellsBefore, .inl (cy 1, 8, .inr (.inl f_t_cellsBefore))), (a_t_page, .inr (3, [.ref a_t_page_bytes, .int v_t_page_length])), (a_t_page_bytes, .inl (cy 0, n_t_page_bytes, .inl f_t_page_bytes)), (a_t_reader, .inr (2, [.long v_t_reader_value]))]) (st2 := [.long r_1, .ref a_t_page]) (i0 := 0) hx hb hml hown ht hK hP hD hS hA hC hR hl (kcX2_valueOf l D cy g a_t a_t_cells a_t_cellsBefore a_t_page a_t_page_bytes a_t_reader n_t_page_bytes f_t_cells f_t_cellsBefore f_t_page_bytes v_t_page_length v_t_reader_value v_t_isWide p1 p3 r_1 hr_1) [0, 1, 2, 3, 4, 5] q_381 q_327 q_328 q_44 q_329 hyX2_valueOf ⟨rfl, rfl, rfl⟩ ⟨Nat.le_of_ble_eq_true rfl, Nat.le_of_ble_eq_true rfl, Nat.le_of_ble_eq_true rfl, Nat.le_of_ble_eq_true rfl⟩ rfl rfl rfl rfl (Nat.le_of_ble_eq_true rfl) dX2_writePage_7 rfl rfl (fun H locs hP hD hS => ?_)
  refine lv_iload_n hx hb dX2_writePage_10 rfl (lv_at hl 2 rfl) ?_
  refine lv_iload_n hx hb dX2_writePage_11 rfl (lv_at hl 3 rfl) ?_
  obtain ⟨r_2, hr_2, hm⟩ := hm_b hm
  refine k_S (as := [.ref a_t_page, .long r_1, .int p2, .int p3]) (rest := []) (ws' := [(a_t, .inr (0, [.ref a_t_cells, .ref a_t_cellsBefore, .ref a_t_page, .ref a_t_reader, .int v_t_isWide])), (a_t_cells, .inl (cy 1, 8, .inr (.inl f_t_cells))), (a_t_cellsBefore, .inl (cy 1, 8, .inr (.inl f_t_cellsBefore))), (a_t_page, .inr (3, [.ref a_t_page_bytes, .int r_2.2])), (a_t_page_bytes, .inl (cy 0, n_t_page_bytes, .inl r_2.1)), (a_t_reader, .inr (2, [.long v_t_reader_value]))]) (st2 := []) hx hb hml hown ht hK hP hD hS hA hC hR hl (kcX3_writeOn l D cy g a_t_page a_t_page_bytes n_t_page_bytes f_t_page_bytes v_t_page_length r_1 p2 p3 k r_2 hr_2) [3, 4] q_616 q_340 q_67 q_341 hyX3_writeOn ⟨Nat.le_of_ble_eq_true rfl, Nat.le_of_ble_eq_true rfl, Nat.le_of_ble_eq_true rfl, Nat.le_of_ble_eq_true rfl⟩ rfl rfl rfl rfl (Nat.le_of_ble_eq_true rfl) dX2_writePage_12 rfl rfl (fun H locs hP hD hS => ?_)
  obtain rfl := Option.some.inj hm
  exact k_vret hx hb hr hlocks hQc hP hS rfl rfl dX2_writePage_15
theorem dX2_takePiece_0 : decode cX2_takePiece 0 = .ok (.aload_n 0, 1) := by decide +kernel
theorem dX2_takePiece_1 : decode cX2_takePiece 1 = .ok (.getfield 30, 3) := by decide +kernel
theorem dX2_takePiece_4 : decode cX2_takePiece 4 = .ok (.aload_n 2, 1) := by decide +kernel
theorem dX2_takePiece_5 : decode cX2_takePiece 5 = .ok (.iload_n 3, 1) := by decide +kernel
theorem dX2_takePiece_6 : decode cX2_takePiece 6 = .ok (.iload 4, 2) := by decide +kernel
theorem dX2_takePiece_8 : decode cX2_takePiece 8 = .ok (.iload 5, 2) := by decide +kernel
theorem dX2_takePiece_10 : decode cX2_takePiece 10 = .ok (.iload 6, 2) := by decide +kernel
theorem dX2_takePiece_12 : decode cX2_takePiece 12 = .ok (.aload_n 0, 1) := by decide +kernel
theorem dX2_takePiece_13 : decode cX2_takePiece 13 = .ok (.getfield 42, 3) := by decide +kernel
theorem dX2_takePiece_16 : decode cX2_takePiece 16 = .ok (.invokevirtual 81, 3) := by decide +kernel
theorem dX2_takePiece_19 : decode cX2_takePiece 19 = .ok (.ifCond .ne 5, 3) := by decide +kernel
theorem dX2_takePiece_22 : decode cX2_takePiece 22 = .ok (.iconst 0, 1) := by decide +kernel
theorem dX2_takePiece_23 : decode cX2_takePiece 23 = .ok (.ireturn, 1) := by decide +kernel
theorem dX2_takePiece_24 : decode cX2_takePiece 24 = .ok (.aload_n 0, 1) := by decide +kernel
theorem dX2_takePiece_25 : decode cX2_takePiece 25 = .ok (.iload_n 1, 1) := by decide +kernel
theorem dX2_takePiece_26 : decode cX2_takePiece 26 = .ok (.aload_n 0, 1) := by decide +kernel
theorem dX2_takePiece_27 : decode cX2_takePiece 27 = .ok (.getfield 30, 3) := by decide +kernel
theorem dX2_takePiece_30 : decode cX2_takePiece 30 = .ok (.getfield 85, 3) := by decide +kernel
theorem dX2_takePiece_33 : decode cX2_takePiece 33 = .ok (.invokevirtual 89, 3) := by decide +kernel
theorem dX2_takePiece_36 : decode cX2_takePiece 36 = .ok (.pop2, 1) := by decide +kernel
theorem dX2_takePiece_37 : decode cX2_takePiece 37 = .ok (.iconst 1, 1) := by decide +kernel
theorem dX2_takePiece_38 : decode cX2_takePiece 38 = .ok (.ireturn, 1) := by decide +kernel
def mX2_takePiece_x (k : Nat) (n_p2_bytes : Nat) (f_t_cells : Nat → Int64) (v_t_reader_value : Int64) (v_t_isWide : Int32) (f_p2_bytes : Nat → Int32) (v_p2_length : Int32) (p1 : Int32) (p3 : Int32) (p4 : Int32) (p5 : Int32) (p6 : Int32) : Option (Int32 × (Nat → Int64) × Int64) := ((mX5_canRead k n_p2_bytes v_t_reader_value f_p2_bytes v_p2_length p3 p4 p5 p6 v_t_isWide).bind (fun r_1 => (if r_1.1 = 0 then some (0, f_t_cells, r_1.2) else ((mX2_put f_t_cells v_t_isWide p1 r_1.2).bind (fun r_3 => some (1, r_3.2, r_1.2))))))
set_option maxHeartbeats 4000000 in
set_option maxRecDepth 100000 in
theorem kcX2_takePiece_x (l : Launch) (D : va_G) (cy : Nat → ClassId) (g : Nat → Nat) (a_t : Nat) (a_t_cells : Nat) (a_t_cellsBefore : Nat) (a_t_page : Nat) (a_t_page_bytes : Nat) (a_t_reader : Nat) (a_p2 : Nat) (a_p2_bytes : Nat) (n_t_page_bytes : Nat) (n_p2_bytes : Nat) (f_t_cells : Nat → Int64) (f_t_cellsBefore : Nat → Int64) (f_t_page_bytes : Nat → Int32) (v_t_page_length : Int32) (v_t_reader_value : Int64) (v_t_isWide : Int32) (f_p2_bytes : Nat → Int32) (v_p2_length : Int32) (p1 : Int32) (p3 : Int32) (p4 : Int32) (p5 : Int32) (p6 : Int32) (k : Nat) (R : Int32 × (Nat → Int64) × Int64) (hm : mX2_takePiece_x k n_p2_bytes f_t_cells v_t_reader_value v_t_isWide f_p2_bytes v_p2_length p1 p3 p4 p5 p6 = some R) : Con l D cy g yX2_takePiece cX2_takePiece 7 (some .boolean) 2 67 0 0 [.ref a_t, .int p1, .ref a_p2, .int p3, .int p4, .int p5, .int p6] [(a_t, .inr (0, [.ref a_t_cells, .ref a_t_cellsBefore, .ref a_t_page, .ref a_t_reader, .int v_t_isWide])), (a_t_cells, .inl (cy 1, 8, .inr (.inl f_t_cells))), (a_t_cellsBefore, .inl (cy 1, 8, .inr (.inl f_t_cellsBefore))), (a_t_page, .inr (3, [.ref a_t_page_bytes, .int v_t_page_length])), (a_t_page_bytes, .inl (cy 0, n_t_page_bytes, .inl f_t_page_bytes)), (a_t_reader, .inr (2, [.long v_t_reader_value])), (a_p2, .inr (3, [.ref a_p2_bytes, .int v_p2_length])), (a_p2_bytes, .inl (cy 0, n_p2_bytes, .inl f_p2_bytes))] [(a_t, .inr (0, [.ref a_t_cells, .ref a_t_cellsBefore, .ref a_t_page, .ref a_t_reader, .int v_t_isWide])), (a_t_cells, .inl (cy 1, 8, .inr (.inl R.2.1))), (a_t_cellsBefore, .inl (cy 1, 8, .inr (.inl f_t_cellsBefore))), (a_t_page, .inr (3, [.ref a_t_page_bytes, .int v_t_page_length])), (a_t_page_bytes, .inl (cy 0, n_t_page_bytes, .inl f_t_page_bytes)), (a_t_reader, .inr (2, [.long R.2.2])), (a_p2, .inr (3, [.ref a_p2_bytes, .int v_p2_length])), (a_p2_bytes, .inl (cy 0, n_p2_bytes, .inl f_p2_bytes))] (some (.int R.1)) := by
  refine Con.of (by decide +kernel) (Nat.le_of_ble_eq_true rfl) ?_
  intro p e RM s m ar below meth c A Qc ls hx hb hr hml hown hlocks hnm ht hK hP hD hS hA hR hC hQc hl
  have hown : s.vm.findClass RX2 = some m.cls := hown
  have hl : lv_has ls 7 [(0, .ref a_t), (1, .int p1), (2, .ref a_p2), (3, .int p3), (4, .int p4), (5, .int p5), (6, .int p6)] := hl
  rw [mX2_takePiece_x] at hm
  refine lv_aload_n hx hb dX2_takePiece_0 rfl (lv_at hl 0 rfl) ?_
  refine va_get (D := D) (cl := classes) (ci := 0) (v := .ref a_t_reader) (C := RX2) (T := TX2) (N := 5) hx hb ht in_RX2 hown hK.1 hP 0 rfl rfl 3 (by decide) (ht _ q_128) (fun _ h9 => h9) rfl dX2_takePiece_1 ?_
  refine lv_aload_n hx hb dX2_takePiece_4 rfl (lv_at hl 2 rfl) ?_
  refine lv_iload_n hx hb dX2_takePiece_5 rfl (lv_at hl 3 rfl) ?_
  refine lv_iload hx hb dX2_takePiece_6 (lv_at hl 4 rfl) ?_
  refine lv_iload hx hb dX2_takePiece_8 (lv_at hl 5 rfl) ?_
  refine lv_iload hx hb dX2_takePiece_10 (lv_at hl 6 rfl) ?_
  refine lv_aload_n hx hb dX2_takePiece_12 rfl (lv_at hl 0 rfl) ?_
  refine va_get (D := D) (cl := classes) (ci := 0) (v := .int v_t_isWide) (C := RX2) (T := TX2) (N := 5) hx hb ht in_RX2 hown hK.1 hP 0 rfl rfl 4 (by decide) (ht _ q_130) (fun _ h9 => h9) rfl dX2_takePiece_13 ?_
  obtain ⟨r_1, hr_1, hm⟩ := hm_b hm
  refine k_V (as := [.ref a_p2, .int p3, .int p4, .int p5, .int p6, .int v_t_isWide]) (rest := []) (ws' := [(a_t, .inr (0, [.ref a_t_cells, .ref a_t_cellsBefore, .ref a_t_page, .ref a_t_reader, .int v_t_isWide])), (a_t_cells, .inl (cy 1, 8, .inr (.inl f_t_cells))), (a_t_cellsBefore, .inl (cy 1, 8, .inr (.inl f_t_cellsBefore))), (a_t_page, .inr (3, [.ref a_t_page_bytes, .int v_t_page_length])), (a_t_page_bytes, .inl (cy 0, n_t_page_bytes, .inl f_t_page_bytes)), (a_t_reader, .inr (2, [.long r_1.2])), (a_p2, .inr (3, [.ref a_p2_bytes, .int v_p2_length])), (a_p2_bytes, .inl (cy 0, n_p2_bytes, .inl f_p2_bytes))]) (st2 := [.int r_1.1]) (i0 := 5) hx hb hml hown ht hK hP hD hS hA hC hR hl (kcX5_canRead l D cy g a_t_reader a_p2 a_p2_bytes n_p2_bytes v_t_reader_value f_p2_bytes v_p2_length p3 p4 p5 p6 v_t_isWide k r_1 hr_1) [5, 6, 7] q_607 q_536 q_537 q_47 q_538 hyX5_canRead ⟨rfl, rfl, rfl⟩ ⟨Nat.le_of_ble_eq_true rfl, Nat.le_of_ble_eq_true rfl, Nat.le_of_ble_eq_true rfl, Nat.le_of_ble_eq_true rfl⟩ rfl rfl rfl rfl (Nat.le_of_ble_eq_true rfl) dX2_takePiece_16 rfl rfl (fun H locs hP hD hS => ?_)
  refine lv_if_ne (tgt := 24) hx hb dX2_takePiece_19 (by decide) (fun c_2 => ?_) (fun c_2 => ?_)
  · replace hm := hm_f c_2 hm
    refine lv_aload_n hx hb dX2_takePiece_24 rfl (lv_at hl 0 rfl) ?_
    refine lv_iload_n hx hb dX2_takePiece_25 rfl (lv_at hl 1 rfl) ?_
    refine lv_aload_n hx hb dX2_takePiece_26 rfl (lv_at hl 0 rfl) ?_
    refine va_get (D := D) (cl := classes) (ci := 0) (v := .ref a_t_reader) (C := RX2) (T := TX2) (N := 5) hx hb ht in_RX2 hown hK.1 hP 0 rfl rfl 3 (by decide) (ht _ q_128) (fun _ h9 => h9) rfl dX2_takePiece_27 ?_
    refine va_getN (D := D) (cl := classes) (ci := 2) (v := .long r_1.2) (C := RX5) (T := TX5) (N := 1) hx hb ht in_RX5 hown hK.1 hP 5 rfl rfl 0 (by decide) (va_Nw.use rfl (hK.2 _ qn_78)) (fun _ h9 => h9) rfl dX2_takePiece_30 ?_
    obtain ⟨r_3, hr_3, hm⟩ := hm_b hm
    refine k_V (as := [.int p1, .long r_1.2]) (rest := []) (ws' := [(a_t, .inr (0, [.ref a_t_cells, .ref a_t_cellsBefore, .ref a_t_page, .ref a_t_reader, .int v_t_isWide])), (a_t_cells, .inl (cy 1, 8, .inr (.inl r_3.2))), (a_t_cellsBefore, .inl (cy 1, 8, .inr (.inl f_t_cellsBefore))), (a_t_page, .inr (3, [.ref a_t_page_bytes, .int v_t_page_length])), (a_t_page_bytes, .inl (cy 0, n_t_page_bytes, .inl f_t_page_bytes)), (a_t_reader, .inr (2, [.long r_1.2])), (a_p2, .inr (3, [.ref a_p2_bytes, .int v_p2_length])), (a_p2_bytes, .inl (cy 0, n_p2_bytes, .inl f_p2_bytes))]) (st2 := [.long r_3.1]) (i0 := 0) hx hb hml hown ht hK hP hD hS hA hC hR hl (kcX2_put l D cy g a_t a_t_cells a_t_cellsBefore a_t_page a_t_page_bytes a_t_reader n_t_page_bytes f_t_cells f_t_cellsBefore f_t_page_bytes v_t_page_length r_1.2 v_t_isWide p1 r_1.2 r_3 hr_3) [0, 1, 2, 3, 4, 5] q_608 q_609 q_610 q_44 q_611 hyX2_put ⟨rfl, rfl, rfl⟩ ⟨Nat.le_of_ble_eq_true rfl, Nat.le_of_ble_eq_true rfl, Nat.le_of_ble_eq_true rfl, Nat.le_of_ble_eq_true rfl⟩ rfl rfl rfl rfl (Nat.le_of_ble_eq_true rfl) dX2_takePiece_33 rfl rfl (fun H locs hP hD hS => ?_)
    refine lv_pop2_2 hx hb dX2_takePiece_36 rfl ?_
    refine lv_iconst (v := 1) hx hb dX2_takePiece_37 (by decide) ?_
    obtain rfl := Option.some.inj hm
    exact k_zret hx hb hr hlocks hQc rfl hP hS rfl rfl dX2_takePiece_38
  · replace hm := hm_t c_2 hm
    refine lv_iconst (v := 0) hx hb dX2_takePiece_22 (by decide) ?_
    obtain rfl := Option.some.inj hm
    exact k_zret hx hb hr hlocks hQc rfl hP hS rfl rfl dX2_takePiece_23
def mX2_takePiece_o (k : Nat) (n_t_page_bytes : Nat) (f_t_cells : Nat → Int64) (f_t_page_bytes : Nat → Int32) (v_t_page_length : Int32) (v_t_reader_value : Int64) (v_t_isWide : Int32) (p1 : Int32) (p3 : Int32) (p4 : Int32) (p5 : Int32) (p6 : Int32) : Option (Int32 × (Nat → Int64) × Int64) := ((mX5_canRead k n_t_page_bytes v_t_reader_value f_t_page_bytes v_t_page_length p3 p4 p5 p6 v_t_isWide).bind (fun r_1 => (if r_1.1 = 0 then some (0, f_t_cells, r_1.2) else ((mX2_put f_t_cells v_t_isWide p1 r_1.2).bind (fun r_3 => some (1, r_3.2, r_1.2))))))
set_option maxHeartbeats 4000000 in
set_option maxRecDepth 100000 in
theorem kcX2_takePiece_o (l : Launch) (D : va_G) (cy : Nat → ClassId) (g : Nat → Nat) (a_t : Nat) (a_t_cells : Nat) (a_t_cellsBefore : Nat) (a_t_page : Nat) (a_t_page_bytes : Nat) (a_t_reader : Nat) (n_t_page_bytes : Nat) (f_t_cells : Nat → Int64) (f_t_cellsBefore : Nat → Int64) (f_t_page_bytes : Nat → Int32) (v_t_page_length : Int32) (v_t_reader_value : Int64) (v_t_isWide : Int32) (p1 : Int32) (p3 : Int32) (p4 : Int32) (p5 : Int32) (p6 : Int32) (k : Nat) (R : Int32 × (Nat → Int64) × Int64) (hm : mX2_takePiece_o k n_t_page_bytes f_t_cells f_t_page_bytes v_t_page_length v_t_reader_value v_t_isWide p1 p3 p4 p5 p6 = some R) : Con l D cy g yX2_takePiece cX2_takePiece 7 (some .boolean) 2 67 0 0 [.ref a_t, .int p1, .ref a_t_page, .int p3, .int p4, .int p5, .int p6] [(a_t, .inr (0, [.ref a_t_cells, .ref a_t_cellsBefore, .ref a_t_page, .ref a_t_reader, .int v_t_isWide])), (a_t_cells, .inl (cy 1, 8, .inr (.inl f_t_cells))), (a_t_cellsBefore, .inl (cy 1, 8, .inr (.inl f_t_cellsBefore))), (a_t_page, .inr (3, [.ref a_t_page_bytes, .int v_t_page_length])), (a_t_page_bytes, .inl (cy 0, n_t_page_bytes, .inl f_t_page_bytes)), (a_t_reader, .inr (2, [.long v_t_reader_value]))] [(a_t, .inr (0, [.ref a_t_cells, .ref a_t_cellsBefore, .ref a_t_page, .ref a_t_reader, .int v_t_isWide])), (a_t_cells, .inl (cy 1, 8, .inr (.inl R.2.1))), (a_t_cellsBefore, .inl (cy 1, 8, .inr (.inl f_t_cellsBefore))), (a_t_page, .inr (3, [.ref a_t_page_bytes, .int v_t_page_length])), (a_t_page_bytes, .inl (cy 0, n_t_page_bytes, .inl f_t_page_bytes)), (a_t_reader, .inr (2, [.long R.2.2]))] (some (.int R.1)) := by
  refine Con.of (by decide +kernel) (Nat.le_of_ble_eq_true rfl) ?_
  intro p e RM s m ar below meth c A Qc ls hx hb hr hml hown hlocks hnm ht hK hP hD hS hA hR hC hQc hl
  have hown : s.vm.findClass RX2 = some m.cls := hown
  have hl : lv_has ls 7 [(0, .ref a_t), (1, .int p1), (2, .ref a_t_page), (3, .int p3), (4, .int p4), (5, .int p5), (6, .int p6)] := hl
  rw [mX2_takePiece_o] at hm
  refine lv_aload_n hx hb dX2_takePiece_0 rfl (lv_at hl 0 rfl) ?_
  refine va_get (D := D) (cl := classes) (ci := 0) (v := .ref a_t_reader) (C := RX2) (T := TX2) (N := 5) hx hb ht in_RX2 hown hK.1 hP 0 rfl rfl 3 (by decide) (ht _ q_128) (fun _ h9 => h9) rfl dX2_takePiece_1 ?_
  refine lv_aload_n hx hb dX2_takePiece_4 rfl (lv_at hl 2 rfl) ?_
  refine lv_iload_n hx hb dX2_takePiece_5 rfl (lv_at hl 3 rfl) ?_
  refine lv_iload hx hb dX2_takePiece_6 (lv_at hl 4 rfl) ?_
  refine lv_iload hx hb dX2_takePiece_8 (lv_at hl 5 rfl) ?_
  refine lv_iload hx hb dX2_takePiece_10 (lv_at hl 6 rfl) ?_
  refine lv_aload_n hx hb dX2_takePiece_12 rfl (lv_at hl 0 rfl) ?_
  refine va_get (D := D) (cl := classes) (ci := 0) (v := .int v_t_isWide) (C := RX2) (T := TX2) (N := 5) hx hb ht in_RX2 hown hK.1 hP 0 rfl rfl 4 (by decide) (ht _ q_130) (fun _ h9 => h9) rfl dX2_takePiece_13 ?_
  obtain ⟨r_1, hr_1, hm⟩ := hm_b hm
  refine k_V (as := [.ref a_t_page, .int p3, .int p4, .int p5, .int p6, .int v_t_isWide]) (rest := []) (ws' := [(a_t, .inr (0, [.ref a_t_cells, .ref a_t_cellsBefore, .ref a_t_page, .ref a_t_reader, .int v_t_isWide])), (a_t_cells, .inl (cy 1, 8, .inr (.inl f_t_cells))), (a_t_cellsBefore, .inl (cy 1, 8, .inr (.inl f_t_cellsBefore))), (a_t_page, .inr (3, [.ref a_t_page_bytes, .int v_t_page_length])), (a_t_page_bytes, .inl (cy 0, n_t_page_bytes, .inl f_t_page_bytes)), (a_t_reader, .inr (2, [.long r_1.2]))]) (st2 := [.int r_1.1]) (i0 := 5) hx hb hml hown ht hK hP hD hS hA hC hR hl (kcX5_canRead l D cy g a_t_reader a_t_page a_t_page_bytes n_t_page_bytes v_t_reader_value f_t_page_bytes v_t_page_length p3 p4 p5 p6 v_t_isWide k r_1 hr_1) [5, 3, 4] q_607 q_536 q_537 q_47 q_538 hyX5_canRead ⟨rfl, rfl, rfl⟩ ⟨Nat.le_of_ble_eq_true rfl, Nat.le_of_ble_eq_true rfl, Nat.le_of_ble_eq_true rfl, Nat.le_of_ble_eq_true rfl⟩ rfl rfl rfl rfl (Nat.le_of_ble_eq_true rfl) dX2_takePiece_16 rfl rfl (fun H locs hP hD hS => ?_)
  refine lv_if_ne (tgt := 24) hx hb dX2_takePiece_19 (by decide) (fun c_2 => ?_) (fun c_2 => ?_)
  · replace hm := hm_f c_2 hm
    refine lv_aload_n hx hb dX2_takePiece_24 rfl (lv_at hl 0 rfl) ?_
    refine lv_iload_n hx hb dX2_takePiece_25 rfl (lv_at hl 1 rfl) ?_
    refine lv_aload_n hx hb dX2_takePiece_26 rfl (lv_at hl 0 rfl) ?_
    refine va_get (D := D) (cl := classes) (ci := 0) (v := .ref a_t_reader) (C := RX2) (T := TX2) (N := 5) hx hb ht in_RX2 hown hK.1 hP 0 rfl rfl 3 (by decide) (ht _ q_128) (fun _ h9 => h9) rfl dX2_takePiece_27 ?_
    refine va_getN (D := D) (cl := classes) (ci := 2) (v := .long r_1.2) (C := RX5) (T := TX5) (N := 1) hx hb ht in_RX5 hown hK.1 hP 5 rfl rfl 0 (by decide) (va_Nw.use rfl (hK.2 _ qn_78)) (fun _ h9 => h9) rfl dX2_takePiece_30 ?_
    obtain ⟨r_3, hr_3, hm⟩ := hm_b hm
    refine k_V (as := [.int p1, .long r_1.2]) (rest := []) (ws' := [(a_t, .inr (0, [.ref a_t_cells, .ref a_t_cellsBefore, .ref a_t_page, .ref a_t_reader, .int v_t_isWide])), (a_t_cells, .inl (cy 1, 8, .inr (.inl r_3.2))), (a_t_cellsBefore, .inl (cy 1, 8, .inr (.inl f_t_cellsBefore))), (a_t_page, .inr (3, [.ref a_t_page_bytes, .int v_t_page_length])), (a_t_page_bytes, .inl (cy 0, n_t_page_bytes, .inl f_t_page_bytes)), (a_t_reader, .inr (2, [.long r_1.2]))]) (st2 := [.long r_3.1]) (i0 := 0) hx hb hml hown ht hK hP hD hS hA hC hR hl (kcX2_put l D cy g a_t a_t_cells a_t_cellsBefore a_t_page a_t_page_bytes a_t_reader n_t_page_bytes f_t_cells f_t_cellsBefore f_t_page_bytes v_t_page_length r_1.2 v_t_isWide p1 r_1.2 r_3 hr_3) [0, 1, 2, 3, 4, 5] q_608 q_609 q_610 q_44 q_611 hyX2_put ⟨rfl, rfl, rfl⟩ ⟨Nat.le_of_ble_eq_true rfl, Nat.le_of_ble_eq_true rfl, Nat.le_of_ble_eq_true rfl, Nat.le_of_ble_eq_true rfl⟩ rfl rfl rfl rfl (Nat.le_of_ble_eq_true rfl) dX2_takePiece_33 rfl rfl (fun H locs hP hD hS => ?_)
    refine lv_pop2_2 hx hb dX2_takePiece_36 rfl ?_
    refine lv_iconst (v := 1) hx hb dX2_takePiece_37 (by decide) ?_
    obtain rfl := Option.some.inj hm
    exact k_zret hx hb hr hlocks hQc rfl hP hS rfl rfl dX2_takePiece_38
  · replace hm := hm_t c_2 hm
    refine lv_iconst (v := 0) hx hb dX2_takePiece_22 (by decide) ?_
    obtain rfl := Option.some.inj hm
    exact k_zret hx hb hr hlocks hQc rfl hP hS rfl rfl dX2_takePiece_23
theorem dX2_takePage_0 : decode cX2_takePage 0 = .ok (.aload_n 0, 1) := by decide +kernel
theorem dX2_takePage_1 : decode cX2_takePage 1 = .ok (.iload_n 1, 1) := by decide +kernel
theorem dX2_takePage_2 : decode cX2_takePage 2 = .ok (.aload_n 0, 1) := by decide +kernel
theorem dX2_takePage_3 : decode cX2_takePage 3 = .ok (.getfield 23, 3) := by decide +kernel
theorem dX2_takePage_6 : decode cX2_takePage 6 = .ok (.iconst 0, 1) := by decide +kernel
theorem dX2_takePage_7 : decode cX2_takePage 7 = .ok (.aload_n 0, 1) := by decide +kernel
theorem dX2_takePage_8 : decode cX2_takePage 8 = .ok (.getfield 23, 3) := by decide +kernel
theorem dX2_takePage_11 : decode cX2_takePage 11 = .ok (.invokevirtual 73, 3) := by decide +kernel
theorem dX2_takePage_14 : decode cX2_takePage 14 = .ok (.iload_n 2, 1) := by decide +kernel
theorem dX2_takePage_15 : decode cX2_takePage 15 = .ok (.iload_n 3, 1) := by decide +kernel
theorem dX2_takePage_16 : decode cX2_takePage 16 = .ok (.invokevirtual 77, 3) := by decide +kernel
theorem dX2_takePage_19 : decode cX2_takePage 19 = .ok (.ireturn, 1) := by decide +kernel
def mX2_takePage (k : Nat) (n_t_page_bytes : Nat) (f_t_cells : Nat → Int64) (f_t_page_bytes : Nat → Int32) (v_t_page_length : Int32) (v_t_reader_value : Int64) (v_t_isWide : Int32) (p1 : Int32) (p2 : Int32) (p3 : Int32) : Option (Int32 × (Nat → Int64) × Int64) := ((mX6_size v_t_page_length).bind (fun r_1 => ((mX2_takePiece_o k n_t_page_bytes f_t_cells f_t_page_bytes v_t_page_length v_t_reader_value v_t_isWide p1 0 r_1 p2 p3).bind (fun r_2 => (if ¬ (r_2.1 = 0 ∨ r_2.1 = 1) then none else some (r_2.1, r_2.2.1, r_2.2.2))))))
set_option maxHeartbeats 4000000 in
set_option maxRecDepth 100000 in
theorem kcX2_takePage (l : Launch) (D : va_G) (cy : Nat → ClassId) (g : Nat → Nat) (a_t : Nat) (a_t_cells : Nat) (a_t_cellsBefore : Nat) (a_t_page : Nat) (a_t_page_bytes : Nat) (a_t_reader : Nat) (n_t_page_bytes : Nat) (f_t_cells : Nat → Int64) (f_t_cellsBefore : Nat → Int64) (f_t_page_bytes : Nat → Int32) (v_t_page_length : Int32) (v_t_reader_value : Int64) (v_t_isWide : Int32) (p1 : Int32) (p2 : Int32) (p3 : Int32) (k : Nat) (R : Int32 × (Nat → Int64) × Int64) (hm : mX2_takePage k n_t_page_bytes f_t_cells f_t_page_bytes v_t_page_length v_t_reader_value v_t_isWide p1 p2 p3 = some R) : Con l D cy g yX2_takePage cX2_takePage 4 (some .boolean) 3 93 0 0 [.ref a_t, .int p1, .int p2, .int p3] [(a_t, .inr (0, [.ref a_t_cells, .ref a_t_cellsBefore, .ref a_t_page, .ref a_t_reader, .int v_t_isWide])), (a_t_cells, .inl (cy 1, 8, .inr (.inl f_t_cells))), (a_t_cellsBefore, .inl (cy 1, 8, .inr (.inl f_t_cellsBefore))), (a_t_page, .inr (3, [.ref a_t_page_bytes, .int v_t_page_length])), (a_t_page_bytes, .inl (cy 0, n_t_page_bytes, .inl f_t_page_bytes)), (a_t_reader, .inr (2, [.long v_t_reader_value]))] [(a_t, .inr (0, [.ref a_t_cells, .ref a_t_cellsBefore, .ref a_t_page, .ref a_t_reader, .int v_t_isWide])), (a_t_cells, .inl (cy 1, 8, .inr (.inl R.2.1))), (a_t_cellsBefore, .inl (cy 1, 8, .inr (.inl f_t_cellsBefore))), (a_t_page, .inr (3, [.ref a_t_page_bytes, .int v_t_page_length])), (a_t_page_bytes, .inl (cy 0, n_t_page_bytes, .inl f_t_page_bytes)), (a_t_reader, .inr (2, [.long R.2.2]))] (some (.int R.1)) := by
  refine Con.of (by decide +kernel) (Nat.le_of_ble_eq_true rfl) ?_
  intro p e RM s m ar below meth c A Qc ls hx hb hr hml hown hlocks hnm ht hK hP hD hS hA hR hC hQc hl
  have hown : s.vm.findClass RX2 = some m.cls := hown
  have hl : lv_has ls 4 [(0, .ref a_t), (1, .int p1), (2, .int p2), (3, .int p3)] := hl
  rw [mX2_takePage] at hm
  refine lv_aload_n hx hb dX2_takePage_0 rfl (lv_at hl 0 rfl) ?_
  refine lv_iload_n hx hb dX2_takePage_1 rfl (lv_at hl 1 rfl) ?_
  refine lv_aload_n hx hb dX2_takePage_2 rfl (lv_at hl 0 rfl) ?_
  refine va_get (D := D) (cl := classes) (ci := 0) (v := .ref a_t_page) (C := RX2) (T := TX2) (N := 5) hx hb ht in_RX2 hown hK.1 hP 0 rfl rfl 2 (by decide) (ht _ q_126) (fun _ h9 => h9) rfl dX2_takePage_3 ?_
  refine lv_iconst (v := 0) hx hb dX2_takePage_6 (by decide) ?_
  refine lv_aload_n hx hb dX2_takePage_7 rfl (lv_at hl 0 rfl) ?_
  refine va_get (D := D) (cl := classes) (ci := 0) (v := .ref a_t_page) (C := RX2) (T := TX2) (N := 5) hx hb ht in_RX2 hown hK.1 hP 0 rfl rfl 2 (by decide) (ht _ q_126) (fun _ h9 => h9) rfl dX2_takePage_8 ?_
  obtain ⟨r_1, hr_1, hm⟩ := hm_b hm
  refine k_V (as := []) (rest := [.int 0, .ref a_t_page, .int p1, .ref a_t]) (ws' := [(a_t, .inr (0, [.ref a_t_cells, .ref a_t_cellsBefore, .ref a_t_page, .ref a_t_reader, .int v_t_isWide])), (a_t_cells, .inl (cy 1, 8, .inr (.inl f_t_cells))), (a_t_cellsBefore, .inl (cy 1, 8, .inr (.inl f_t_cellsBefore))), (a_t_page, .inr (3, [.ref a_t_page_bytes, .int v_t_page_length])), (a_t_page_bytes, .inl (cy 0, n_t_page_bytes, .inl f_t_page_bytes)), (a_t_reader, .inr (2, [.long v_t_reader_value]))]) (st2 := [.int r_1, .int 0, .ref a_t_page, .int p1, .ref a_t]) (i0 := 3) hx hb hml hown ht hK hP hD hS hA hC hR hl (kcX6_size l D cy g a_t_page a_t_page_bytes n_t_page_bytes f_t_page_bytes v_t_page_length r_1 hr_1) [3, 4] q_621 q_303 q_304 q_45 q_305 hyX6_size ⟨rfl, rfl, rfl⟩ ⟨Nat.le_of_ble_eq_true rfl, Nat.le_of_ble_eq_true rfl, Nat.le_of_ble_eq_true rfl, Nat.le_of_ble_eq_true rfl⟩ rfl rfl rfl rfl (Nat.le_of_ble_eq_true rfl) dX2_takePage_11 rfl rfl (fun H locs hP hD hS => ?_)
  refine lv_iload_n hx hb dX2_takePage_14 rfl (lv_at hl 2 rfl) ?_
  refine lv_iload_n hx hb dX2_takePage_15 rfl (lv_at hl 3 rfl) ?_
  obtain ⟨r_2, hr_2, hm⟩ := hm_b hm
  refine k_V (as := [.int p1, .ref a_t_page, .int 0, .int r_1, .int p2, .int p3]) (rest := []) (ws' := [(a_t, .inr (0, [.ref a_t_cells, .ref a_t_cellsBefore, .ref a_t_page, .ref a_t_reader, .int v_t_isWide])), (a_t_cells, .inl (cy 1, 8, .inr (.inl r_2.2.1))), (a_t_cellsBefore, .inl (cy 1, 8, .inr (.inl f_t_cellsBefore))), (a_t_page, .inr (3, [.ref a_t_page_bytes, .int v_t_page_length])), (a_t_page_bytes, .inl (cy 0, n_t_page_bytes, .inl f_t_page_bytes)), (a_t_reader, .inr (2, [.long r_2.2.2]))]) (st2 := [.int r_2.1]) (i0 := 0) hx hb hml hown ht hK hP hD hS hA hC hR hl (kcX2_takePiece_o l D cy g a_t a_t_cells a_t_cellsBefore a_t_page a_t_page_bytes a_t_reader n_t_page_bytes f_t_cells f_t_cellsBefore f_t_page_bytes v_t_page_length v_t_reader_value v_t_isWide p1 0 r_1 p2 p3 k r_2 hr_2) [0, 1, 2, 3, 4, 5] q_622 q_604 q_605 q_44 q_606 hyX2_takePiece ⟨rfl, rfl, rfl⟩ ⟨Nat.le_of_ble_eq_true rfl, Nat.le_of_ble_eq_true rfl, Nat.le_of_ble_eq_true rfl, Nat.le_of_ble_eq_true rfl⟩ rfl rfl rfl rfl (Nat.le_of_ble_eq_true rfl) dX2_takePage_16 rfl rfl (fun H locs hP hD hS => ?_)
  obtain ⟨hbz, hm⟩ := hm_g hm
  obtain rfl := Option.some.inj hm
  exact k_zret hx hb hr hlocks hQc (k_narz hbz) hP hS rfl rfl dX2_takePage_19
theorem dX2_ones_0 : decode cX2_ones 0 = .ok (.aload_n 0, 1) := by decide +kernel
theorem dX2_ones_1 : decode cX2_ones 1 = .ok (.iload_n 1, 1) := by decide +kernel
theorem dX2_ones_2 : decode cX2_ones 2 = .ok (.invokevirtual 59, 3) := by decide +kernel
theorem dX2_ones_5 : decode cX2_ones 5 = .ok (.invokestatic 93, 3) := by decide +kernel
theorem dX2_ones_8 : decode cX2_ones 8 = .ok (.ireturn, 1) := by decide +kernel
def mX2_ones (f_t_cells : Nat → Int64) (v_t_isWide : Int32) (p1 : Int32) : Option (Int32) := ((mX2_plain f_t_cells v_t_isWide p1).bind (fun r_1 => ((mJ13_bitCount_95d88 r_1).bind (fun r_2 => some r_2))))
set_option maxHeartbeats 4000000 in
set_option maxRecDepth 100000 in
theorem kcX2_ones (l : Launch) (D : va_G) (cy : Nat → ClassId) (g : Nat → Nat) (a_t : Nat) (a_t_cells : Nat) (a_t_cellsBefore : Nat) (a_t_page : Nat) (a_t_page_bytes : Nat) (a_t_reader : Nat) (n_t_page_bytes : Nat) (f_t_cells : Nat → Int64) (f_t_cellsBefore : Nat → Int64) (f_t_page_bytes : Nat → Int32) (v_t_page_length : Int32) (v_t_reader_value : Int64) (v_t_isWide : Int32) (p1 : Int32) (R : Int32) (hm : mX2_ones f_t_cells v_t_isWide p1 = some R) : Con l D cy g yX2_ones cX2_ones 2 (some .int) 2 43 0 0 [.ref a_t, .int p1] [(a_t, .inr (0, [.ref a_t_cells, .ref a_t_cellsBefore, .ref a_t_page, .ref a_t_reader, .int v_t_isWide])), (a_t_cells, .inl (cy 1, 8, .inr (.inl f_t_cells))), (a_t_cellsBefore, .inl (cy 1, 8, .inr (.inl f_t_cellsBefore))), (a_t_page, .inr (3, [.ref a_t_page_bytes, .int v_t_page_length])), (a_t_page_bytes, .inl (cy 0, n_t_page_bytes, .inl f_t_page_bytes)), (a_t_reader, .inr (2, [.long v_t_reader_value]))] [(a_t, .inr (0, [.ref a_t_cells, .ref a_t_cellsBefore, .ref a_t_page, .ref a_t_reader, .int v_t_isWide])), (a_t_cells, .inl (cy 1, 8, .inr (.inl f_t_cells))), (a_t_cellsBefore, .inl (cy 1, 8, .inr (.inl f_t_cellsBefore))), (a_t_page, .inr (3, [.ref a_t_page_bytes, .int v_t_page_length])), (a_t_page_bytes, .inl (cy 0, n_t_page_bytes, .inl f_t_page_bytes)), (a_t_reader, .inr (2, [.long v_t_reader_value]))] (some (.int R)) := by
  refine Con.of (by decide +kernel) (Nat.le_of_ble_eq_true rfl) ?_
  intro p e RM s m ar below meth c A Qc ls hx hb hr hml hown hlocks hnm ht hK hP hD hS hA hR hC hQc hl
  have hown : s.vm.findClass RX2 = some m.cls := hown
  have hl : lv_has ls 2 [(0, .ref a_t), (1, .int p1)] := hl
  rw [mX2_ones] at hm
  refine lv_aload_n hx hb dX2_ones_0 rfl (lv_at hl 0 rfl) ?_
  refine lv_iload_n hx hb dX2_ones_1 rfl (lv_at hl 1 rfl) ?_
  obtain ⟨r_1, hr_1, hm⟩ := hm_b hm
  refine k_V (as := [.int p1]) (rest := []) (ws' := [(a_t, .inr (0, [.ref a_t_cells, .ref a_t_cellsBefore, .ref a_t_page, .ref a_t_reader, .int v_t_isWide])), (a_t_cells, .inl (cy 1, 8, .inr (.inl f_t_cells))), (a_t_cellsBefore, .inl (cy 1, 8, .inr (.inl f_t_cellsBefore))), (a_t_page, .inr (3, [.ref a_t_page_bytes, .int v_t_page_length])), (a_t_page_bytes, .inl (cy 0, n_t_page_bytes, .inl f_t_page_bytes)), (a_t_reader, .inr (2, [.long v_t_reader_value]))]) (st2 := [.long r_1]) (i0 := 0) hx hb hml hown ht hK hP hD hS hA hC hR hl (kcX2_plain l D cy g a_t a_t_cells a_t_cellsBefore a_t_page a_t_page_bytes a_t_reader n_t_page_bytes f_t_cells f_t_cellsBefore f_t_page_bytes v_t_page_length v_t_reader_value v_t_isWide p1 r_1 hr_1) [0, 1, 2, 3, 4, 5] q_330 q_331 q_332 q_44 q_333 hyX2_plain ⟨rfl, rfl, rfl⟩ ⟨Nat.le_of_ble_eq_true rfl, Nat.le_of_ble_eq_true rfl, Nat.le_of_ble_eq_true rfl, Nat.le_of_ble_eq_true rfl⟩ rfl rfl rfl rfl (Nat.le_of_ble_eq_true rfl) dX2_ones_2 rfl rfl (fun H locs hP hD hS => ?_)
  obtain ⟨r_2, hr_2, hm⟩ := hm_b hm
  refine k_S (as := [.long r_1]) (rest := []) (ws' := [(a_t, .inr (0, [.ref a_t_cells, .ref a_t_cellsBefore, .ref a_t_page, .ref a_t_reader, .int v_t_isWide])), (a_t_cells, .inl (cy 1, 8, .inr (.inl f_t_cells))), (a_t_cellsBefore, .inl (cy 1, 8, .inr (.inl f_t_cellsBefore))), (a_t_page, .inr (3, [.ref a_t_page_bytes, .int v_t_page_length])), (a_t_page_bytes, .inl (cy 0, n_t_page_bytes, .inl f_t_page_bytes)), (a_t_reader, .inr (2, [.long v_t_reader_value]))]) (st2 := [.int r_2]) hx hb hml hown ht hK hP hD hS hA hC hR hl (kcJ13_bitCount_95d88 l D cy g r_1 r_2 hr_2) [] q_639 q_640 q_70 q_641 hyJ13_bitCount_95d88 ⟨Nat.le_of_ble_eq_true rfl, Nat.le_of_ble_eq_true rfl, Nat.le_of_ble_eq_true rfl, Nat.le_of_ble_eq_true rfl⟩ rfl rfl rfl rfl (Nat.le_of_ble_eq_true rfl) dX2_ones_5 rfl rfl (fun H locs hP hD hS => ?_)
  obtain rfl := Option.some.inj hm
  exact k_iret hx hb hr hlocks hQc hP hS rfl rfl dX2_ones_8
theorem dX2_zerosInFront_0 : decode cX2_zerosInFront 0 = .ok (.aload_n 0, 1) := by decide +kernel
theorem dX2_zerosInFront_1 : decode cX2_zerosInFront 1 = .ok (.iload_n 1, 1) := by decide +kernel
theorem dX2_zerosInFront_2 : decode cX2_zerosInFront 2 = .ok (.invokevirtual 34, 3) := by decide +kernel
theorem dX2_zerosInFront_5 : decode cX2_zerosInFront 5 = .ok (.aload_n 0, 1) := by decide +kernel
theorem dX2_zerosInFront_6 : decode cX2_zerosInFront 6 = .ok (.getfield 42, 3) := by decide +kernel
theorem dX2_zerosInFront_9 : decode cX2_zerosInFront 9 = .ok (.invokestatic 99, 3) := by decide +kernel
theorem dX2_zerosInFront_12 : decode cX2_zerosInFront 12 = .ok (.ireturn, 1) := by decide +kernel
def mX2_zerosInFront (f_t_cells : Nat → Int64) (v_t_isWide : Int32) (p1 : Int32) : Option (Int32) := ((mX2_allBits f_t_cells p1).bind (fun r_1 => ((mX1_zerosInFront r_1 v_t_isWide).bind (fun r_2 => some r_2))))
set_option maxHeartbeats 4000000 in
set_option maxRecDepth 100000 in
theorem kcX2_zerosInFront (l : Launch) (D : va_G) (cy : Nat → ClassId) (g : Nat → Nat) (a_t : Nat) (a_t_cells : Nat) (a_t_cellsBefore : Nat) (a_t_page : Nat) (a_t_page_bytes : Nat) (a_t_reader : Nat) (n_t_page_bytes : Nat) (f_t_cells : Nat → Int64) (f_t_cellsBefore : Nat → Int64) (f_t_page_bytes : Nat → Int32) (v_t_page_length : Int32) (v_t_reader_value : Int64) (v_t_isWide : Int32) (p1 : Int32) (R : Int32) (hm : mX2_zerosInFront f_t_cells v_t_isWide p1 = some R) : Con l D cy g yX2_zerosInFront cX2_zerosInFront 2 (some .int) 3 65 0 0 [.ref a_t, .int p1] [(a_t, .inr (0, [.ref a_t_cells, .ref a_t_cellsBefore, .ref a_t_page, .ref a_t_reader, .int v_t_isWide])), (a_t_cells, .inl (cy 1, 8, .inr (.inl f_t_cells))), (a_t_cellsBefore, .inl (cy 1, 8, .inr (.inl f_t_cellsBefore))), (a_t_page, .inr (3, [.ref a_t_page_bytes, .int v_t_page_length])), (a_t_page_bytes, .inl (cy 0, n_t_page_bytes, .inl f_t_page_bytes)), (a_t_reader, .inr (2, [.long v_t_reader_value]))] [(a_t, .inr (0, [.ref a_t_cells, .ref a_t_cellsBefore, .ref a_t_page, .ref a_t_reader, .int v_t_isWide])), (a_t_cells, .inl (cy 1, 8, .inr (.inl f_t_cells))), (a_t_cellsBefore, .inl (cy 1, 8, .inr (.inl f_t_cellsBefore))), (a_t_page, .inr (3, [.ref a_t_page_bytes, .int v_t_page_length])), (a_t_page_bytes, .inl (cy 0, n_t_page_bytes, .inl f_t_page_bytes)), (a_t_reader, .inr (2, [.long v_t_reader_value]))] (some (.int R)) := by
  refine Con.of (by decide +kernel) (Nat.le_of_ble_eq_true rfl) ?_
  intro p e RM s m ar below meth c A Qc ls hx hb hr hml hown hlocks hnm ht hK hP hD hS hA hR hC hQc hl
  have hown : s.vm.findClass RX2 = some m.cls := hown
  have hl : lv_has ls 2 [(0, .ref a_t), (1, .int p1)] := hl
  rw [mX2_zerosInFront] at hm
  refine lv_aload_n hx hb dX2_zerosInFront_0 rfl (lv_at hl 0 rfl) ?_
  refine lv_iload_n hx hb dX2_zerosInFront_1 rfl (lv_at hl 1 rfl) ?_
  obtain ⟨r_1, hr_1, hm⟩ := hm_b hm
  refine k_V (as := [.int p1]) (rest := []) (ws' := [(a_t, .inr (0, [.ref a_t_cells, .ref a_t_cellsBefore, .ref a_t_page, .ref a_t_reader, .int v_t_isWide])), (a_t_cells, .inl (cy 1, 8, .inr (.inl f_t_cells))), (a_t_cellsBefore, .inl (cy 1, 8, .inr (.inl f_t_cellsBefore))), (a_t_page, .inr (3, [.ref a_t_page_bytes, .int v_t_page_length])), (a_t_page_bytes, .inl (cy 0, n_t_page_bytes, .inl f_t_page_bytes)), (a_t_reader, .inr (2, [.long v_t_reader_value]))]) (st2 := [.long r_1]) (i0 := 0) hx hb hml hown ht hK hP hD hS hA hC hR hl (kcX2_allBits l D cy g a_t a_t_cells a_t_cellsBefore a_t_page a_t_page_bytes a_t_reader n_t_page_bytes f_t_cells f_t_cellsBefore f_t_page_bytes v_t_page_length v_t_reader_value v_t_isWide p1 r_1 hr_1) [0, 1, 2, 3, 4, 5] q_291 q_292 q_293 q_44 q_294 hyX2_allBits ⟨rfl, rfl, rfl⟩ ⟨Nat.le_of_ble_eq_true rfl, Nat.le_of_ble_eq_true rfl, Nat.le_of_ble_eq_true rfl, Nat.le_of_ble_eq_true rfl⟩ rfl rfl rfl rfl (Nat.le_of_ble_eq_true rfl) dX2_zerosInFront_2 rfl rfl (fun H locs hP hD hS => ?_)
  refine lv_aload_n hx hb dX2_zerosInFront_5 rfl (lv_at hl 0 rfl) ?_
  refine va_get (D := D) (cl := classes) (ci := 0) (v := .int v_t_isWide) (C := RX2) (T := TX2) (N := 5) hx hb ht in_RX2 hown hK.1 hP 0 rfl rfl 4 (by decide) (ht _ q_130) (fun _ h9 => h9) rfl dX2_zerosInFront_6 ?_
  obtain ⟨r_2, hr_2, hm⟩ := hm_b hm
  refine k_S (as := [.long r_1, .int v_t_isWide]) (rest := []) (ws' := [(a_t, .inr (0, [.ref a_t_cells, .ref a_t_cellsBefore, .ref a_t_page, .ref a_t_reader, .int v_t_isWide])), (a_t_cells, .inl (cy 1, 8, .inr (.inl f_t_cells))), (a_t_cellsBefore, .inl (cy 1, 8, .inr (.inl f_t_cellsBefore))), (a_t_page, .inr (3, [.ref a_t_page_bytes, .int v_t_page_length])), (a_t_page_bytes, .inl (cy 0, n_t_page_bytes, .inl f_t_page_bytes)), (a_t_reader, .inr (2, [.long v_t_reader_value]))]) (st2 := [.int r_2]) hx hb hml hown ht hK hP hD hS hA hC hR hl (kcX1_zerosInFront l D cy g r_1 v_t_isWide r_2 hr_2) [] q_649 q_650 q_60 q_651 hyX1_zerosInFront ⟨Nat.le_of_ble_eq_true rfl, Nat.le_of_ble_eq_true rfl, Nat.le_of_ble_eq_true rfl, Nat.le_of_ble_eq_true rfl⟩ rfl rfl rfl rfl (Nat.le_of_ble_eq_true rfl) dX2_zerosInFront_9 rfl rfl (fun H locs hP hD hS => ?_)
  obtain rfl := Option.some.inj hm
  exact k_iret hx hb hr hlocks hQc hP hS rfl rfl dX2_zerosInFront_12
theorem dX2_zerosBehind_0 : decode cX2_zerosBehind 0 = .ok (.aload_n 0, 1) := by decide +kernel
theorem dX2_zerosBehind_1 : decode cX2_zerosBehind 1 = .ok (.iload_n 1, 1) := by decide +kernel
theorem dX2_zerosBehind_2 : decode cX2_zerosBehind 2 = .ok (.invokevirtual 34, 3) := by decide +kernel
theorem dX2_zerosBehind_5 : decode cX2_zerosBehind 5 = .ok (.aload_n 0, 1) := by decide +kernel
theorem dX2_zerosBehind_6 : decode cX2_zerosBehind 6 = .ok (.getfield 42, 3) := by decide +kernel
theorem dX2_zerosBehind_9 : decode cX2_zerosBehind 9 = .ok (.invokestatic 103, 3) := by decide +kernel
theorem dX2_zerosBehind_12 : decode cX2_zerosBehind 12 = .ok (.ireturn, 1) := by decide +kernel
def mX2_zerosBehind (f_t_cells : Nat → Int64) (v_t_isWide : Int32) (p1 : Int32) : Option (Int32) := ((mX2_allBits f_t_cells p1).bind (fun r_1 => ((mX1_zerosBehind r_1 v_t_isWide).bind (fun r_2 => some r_2))))
set_option maxHeartbeats 4000000 in
set_option maxRecDepth 100000 in
theorem kcX2_zerosBehind (l : Launch) (D : va_G) (cy : Nat → ClassId) (g : Nat → Nat) (a_t : Nat) (a_t_cells : Nat) (a_t_cellsBefore : Nat) (a_t_page : Nat) (a_t_page_bytes : Nat) (a_t_reader : Nat) (n_t_page_bytes : Nat) (f_t_cells : Nat → Int64) (f_t_cellsBefore : Nat → Int64) (f_t_page_bytes : Nat → Int32) (v_t_page_length : Int32) (v_t_reader_value : Int64) (v_t_isWide : Int32) (p1 : Int32) (R : Int32) (hm : mX2_zerosBehind f_t_cells v_t_isWide p1 = some R) : Con l D cy g yX2_zerosBehind cX2_zerosBehind 2 (some .int) 3 65 0 0 [.ref a_t, .int p1] [(a_t, .inr (0, [.ref a_t_cells, .ref a_t_cellsBefore, .ref a_t_page, .ref a_t_reader, .int v_t_isWide])), (a_t_cells, .inl (cy 1, 8, .inr (.inl f_t_cells))), (a_t_cellsBefore, .inl (cy 1, 8, .inr (.inl f_t_cellsBefore))), (a_t_page, .inr (3, [.ref a_t_page_bytes, .int v_t_page_length])), (a_t_page_bytes, .inl (cy 0, n_t_page_bytes, .inl f_t_page_bytes)), (a_t_reader, .inr (2, [.long v_t_reader_value]))] [(a_t, .inr (0, [.ref a_t_cells, .ref a_t_cellsBefore, .ref a_t_page, .ref a_t_reader, .int v_t_isWide])), (a_t_cells, .inl (cy 1, 8, .inr (.inl f_t_cells))), (a_t_cellsBefore, .inl (cy 1, 8, .inr (.inl f_t_cellsBefore))), (a_t_page, .inr (3, [.ref a_t_page_bytes, .int v_t_page_length])), (a_t_page_bytes, .inl (cy 0, n_t_page_bytes, .inl f_t_page_bytes)), (a_t_reader, .inr (2, [.long v_t_reader_value]))] (some (.int R)) := by
  refine Con.of (by decide +kernel) (Nat.le_of_ble_eq_true rfl) ?_
  intro p e RM s m ar below meth c A Qc ls hx hb hr hml hown hlocks hnm ht hK hP hD hS hA hR hC hQc hl
  have hown : s.vm.findClass RX2 = some m.cls := hown
  have hl : lv_has ls 2 [(0, .ref a_t), (1, .int p1)] := hl
  rw [mX2_zerosBehind] at hm
  refine lv_aload_n hx hb dX2_zerosBehind_0 rfl (lv_at hl 0 rfl) ?_
  refine lv_iload_n hx hb dX2_zerosBehind_1 rfl (lv_at hl 1 rfl) ?_
  obtain ⟨r_1, hr_1, hm⟩ := hm_b hm
  refine k_V (as := [.int p1]) (rest := []) (ws' := [(a_t, .inr (0, [.ref a_t_cells, .ref a_t_cellsBefore, .ref a_t_page, .ref a_t_reader, .int v_t_isWide])), (a_t_cells, .inl (cy 1, 8, .inr (.inl f_t_cells))), (a_t_cellsBefore, .inl (cy 1, 8, .inr (.inl f_t_cellsBefore))), (a_t_page, .inr (3, [.ref a_t_page_bytes, .int v_t_page_length])), (a_t_page_bytes, .inl (cy 0, n_t_page_bytes, .inl f_t_page_bytes)), (a_t_reader, .inr (2, [.long v_t_reader_value]))]) (st2 := [.long r_1]) (i0 := 0) hx hb hml hown ht hK hP hD hS hA hC hR hl (kcX2_allBits l D cy g a_t a_t_cells a_t_cellsBefore a_t_page a_t_page_bytes a_t_reader n_t_page_bytes f_t_cells f_t_cellsBefore f_t_page_bytes v_t_page_length v_t_reader_value v_t_isWide p1 r_1 hr_1) [0, 1, 2, 3, 4, 5] q_291 q_292 q_293 q_44 q_294 hyX2_allBits ⟨rfl, rfl, rfl⟩ ⟨Nat.le_of_ble_eq_true rfl, Nat.le_of_ble_eq_true rfl, Nat.le_of_ble_eq_true rfl, Nat.le_of_ble_eq_true rfl⟩ rfl rfl rfl rfl (Nat.le_of_ble_eq_true rfl) dX2_zerosBehind_2 rfl rfl (fun H locs hP hD hS => ?_)
  refine lv_aload_n hx hb dX2_zerosBehind_5 rfl (lv_at hl 0 rfl) ?_
  refine va_get (D := D) (cl := classes) (ci := 0) (v := .int v_t_isWide) (C := RX2) (T := TX2) (N := 5) hx hb ht in_RX2 hown hK.1 hP 0 rfl rfl 4 (by decide) (ht _ q_130) (fun _ h9 => h9) rfl dX2_zerosBehind_6 ?_
  obtain ⟨r_2, hr_2, hm⟩ := hm_b hm
  refine k_S (as := [.long r_1, .int v_t_isWide]) (rest := []) (ws' := [(a_t, .inr (0, [.ref a_t_cells, .ref a_t_cellsBefore, .ref a_t_page, .ref a_t_reader, .int v_t_isWide])), (a_t_cells, .inl (cy 1, 8, .inr (.inl f_t_cells))), (a_t_cellsBefore, .inl (cy 1, 8, .inr (.inl f_t_cellsBefore))), (a_t_page, .inr (3, [.ref a_t_page_bytes, .int v_t_page_length])), (a_t_page_bytes, .inl (cy 0, n_t_page_bytes, .inl f_t_page_bytes)), (a_t_reader, .inr (2, [.long v_t_reader_value]))]) (st2 := [.int r_2]) hx hb hml hown ht hK hP hD hS hA hC hR hl (kcX1_zerosBehind l D cy g r_1 v_t_isWide r_2 hr_2) [] q_664 q_665 q_60 q_666 hyX1_zerosBehind ⟨Nat.le_of_ble_eq_true rfl, Nat.le_of_ble_eq_true rfl, Nat.le_of_ble_eq_true rfl, Nat.le_of_ble_eq_true rfl⟩ rfl rfl rfl rfl (Nat.le_of_ble_eq_true rfl) dX2_zerosBehind_9 rfl rfl (fun H locs hP hD hS => ?_)
  obtain rfl := Option.some.inj hm
  exact k_iret hx hb hr hlocks hQc hP hS rfl rfl dX2_zerosBehind_12
theorem dX2_onesInFront_0 : decode cX2_onesInFront 0 = .ok (.aload_n 0, 1) := by decide +kernel
theorem dX2_onesInFront_1 : decode cX2_onesInFront 1 = .ok (.iload_n 1, 1) := by decide +kernel
theorem dX2_onesInFront_2 : decode cX2_onesInFront 2 = .ok (.invokevirtual 34, 3) := by decide +kernel
theorem dX2_onesInFront_5 : decode cX2_onesInFront 5 = .ok (.ldc2_w 106, 3) := by decide +kernel
theorem dX2_onesInFront_8 : decode cX2_onesInFront 8 = .ok (.lxor, 1) := by decide +kernel
theorem dX2_onesInFront_9 : decode cX2_onesInFront 9 = .ok (.aload_n 0, 1) := by decide +kernel
theorem dX2_onesInFront_10 : decode cX2_onesInFront 10 = .ok (.getfield 42, 3) := by decide +kernel
theorem dX2_onesInFront_13 : decode cX2_onesInFront 13 = .ok (.invokestatic 99, 3) := by decide +kernel
theorem dX2_onesInFront_16 : decode cX2_onesInFront 16 = .ok (.ireturn, 1) := by decide +kernel
def mX2_onesInFront (f_t_cells : Nat → Int64) (v_t_isWide : Int32) (p1 : Int32) : Option (Int32) := ((mX2_allBits f_t_cells p1).bind (fun r_1 => ((mX1_zerosInFront (r_1 ^^^ (-1)) v_t_isWide).bind (fun r_2 => some r_2))))
set_option maxHeartbeats 4000000 in
set_option maxRecDepth 100000 in
theorem kcX2_onesInFront (l : Launch) (D : va_G) (cy : Nat → ClassId) (g : Nat → Nat) (a_t : Nat) (a_t_cells : Nat) (a_t_cellsBefore : Nat) (a_t_page : Nat) (a_t_page_bytes : Nat) (a_t_reader : Nat) (n_t_page_bytes : Nat) (f_t_cells : Nat → Int64) (f_t_cellsBefore : Nat → Int64) (f_t_page_bytes : Nat → Int32) (v_t_page_length : Int32) (v_t_reader_value : Int64) (v_t_isWide : Int32) (p1 : Int32) (R : Int32) (hm : mX2_onesInFront f_t_cells v_t_isWide p1 = some R) : Con l D cy g yX2_onesInFront cX2_onesInFront 2 (some .int) 3 65 0 0 [.ref a_t, .int p1] [(a_t, .inr (0, [.ref a_t_cells, .ref a_t_cellsBefore, .ref a_t_page, .ref a_t_reader, .int v_t_isWide])), (a_t_cells, .inl (cy 1, 8, .inr (.inl f_t_cells))), (a_t_cellsBefore, .inl (cy 1, 8, .inr (.inl f_t_cellsBefore))), (a_t_page, .inr (3, [.ref a_t_page_bytes, .int v_t_page_length])), (a_t_page_bytes, .inl (cy 0, n_t_page_bytes, .inl f_t_page_bytes)), (a_t_reader, .inr (2, [.long v_t_reader_value]))] [(a_t, .inr (0, [.ref a_t_cells, .ref a_t_cellsBefore, .ref a_t_page, .ref a_t_reader, .int v_t_isWide])), (a_t_cells, .inl (cy 1, 8, .inr (.inl f_t_cells))), (a_t_cellsBefore, .inl (cy 1, 8, .inr (.inl f_t_cellsBefore))), (a_t_page, .inr (3, [.ref a_t_page_bytes, .int v_t_page_length])), (a_t_page_bytes, .inl (cy 0, n_t_page_bytes, .inl f_t_page_bytes)), (a_t_reader, .inr (2, [.long v_t_reader_value]))] (some (.int R)) := by
  refine Con.of (by decide +kernel) (Nat.le_of_ble_eq_true rfl) ?_
  intro p e RM s m ar below meth c A Qc ls hx hb hr hml hown hlocks hnm ht hK hP hD hS hA hR hC hQc hl
  have hown : s.vm.findClass RX2 = some m.cls := hown
  have hl : lv_has ls 2 [(0, .ref a_t), (1, .int p1)] := hl
  rw [mX2_onesInFront] at hm
  refine lv_aload_n hx hb dX2_onesInFront_0 rfl (lv_at hl 0 rfl) ?_
  refine lv_iload_n hx hb dX2_onesInFront_1 rfl (lv_at hl 1 rfl) ?_
  obtain ⟨r_1, hr_1, hm⟩ := hm_b hm
  refine k_V (as := [.int p1]) (rest := []) (ws' := [(a_t, .inr (0, [.ref a_t_cells, .ref a_t_cellsBefore, .ref a_t_page, .ref a_t_reader, .int v_t_isWide])), (a_t_cells, .inl (cy 1, 8, .inr (.inl f_t_cells))), (a_t_cellsBefore, .inl (cy 1, 8, .inr (.inl f_t_cellsBefore))), (a_t_page, .inr (3, [.ref a_t_page_bytes, .int v_t_page_length])), (a_t_page_bytes, .inl (cy 0, n_t_page_bytes, .inl f_t_page_bytes)), (a_t_reader, .inr (2, [.long v_t_reader_value]))]) (st2 := [.long r_1]) (i0 := 0) hx hb hml hown ht hK hP hD hS hA hC hR hl (kcX2_allBits l D cy g a_t a_t_cells a_t_cellsBefore a_t_page a_t_page_bytes a_t_reader n_t_page_bytes f_t_cells f_t_cellsBefore f_t_page_bytes v_t_page_length v_t_reader_value v_t_isWide p1 r_1 hr_1) [0, 1, 2, 3, 4, 5] q_291 q_292 q_293 q_44 q_294 hyX2_allBits ⟨rfl, rfl, rfl⟩ ⟨Nat.le_of_ble_eq_true rfl, Nat.le_of_ble_eq_true rfl, Nat.le_of_ble_eq_true rfl, Nat.le_of_ble_eq_true rfl⟩ rfl rfl rfl rfl (Nat.le_of_ble_eq_true rfl) dX2_onesInFront_2 rfl rfl (fun H locs hP hD hS => ?_)
  refine lv_ldc2 (v := (-1)) hx hb hown (ht _ q_678) dX2_onesInFront_5 ?_
  refine lv_lxor hx hb dX2_onesInFront_8 ?_
  refine lv_aload_n hx hb dX2_onesInFront_9 rfl (lv_at hl 0 rfl) ?_
  refine va_get (D := D) (cl := classes) (ci := 0) (v := .int v_t_isWide) (C := RX2) (T := TX2) (N := 5) hx hb ht in_RX2 hown hK.1 hP 0 rfl rfl 4 (by decide) (ht _ q_130) (fun _ h9 => h9) rfl dX2_onesInFront_10 ?_
  obtain ⟨r_2, hr_2, hm⟩ := hm_b hm
  refine k_S (as := [.long (r_1 ^^^ (-1)), .int v_t_isWide]) (rest := []) (ws' := [(a_t, .inr (0, [.ref a_t_cells, .ref a_t_cellsBefore, .ref a_t_page, .ref a_t_reader, .int v_t_isWide])), (a_t_cells, .inl (cy 1, 8, .inr (.inl f_t_cells))), (a_t_cellsBefore, .inl (cy 1, 8, .inr (.inl f_t_cellsBefore))), (a_t_page, .inr (3, [.ref a_t_page_bytes, .int v_t_page_length])), (a_t_page_bytes, .inl (cy 0, n_t_page_bytes, .inl f_t_page_bytes)), (a_t_reader, .inr (2, [.long v_t_reader_value]))]) (st2 := [.int r_2]) hx hb hml hown ht hK hP hD hS hA hC hR hl (kcX1_zerosInFront l D cy g (r_1 ^^^ (-1)) v_t_isWide r_2 hr_2) [] q_649 q_650 q_60 q_651 hyX1_zerosInFront ⟨Nat.le_of_ble_eq_true rfl, Nat.le_of_ble_eq_true rfl, Nat.le_of_ble_eq_true rfl, Nat.le_of_ble_eq_true rfl⟩ rfl rfl rfl rfl (Nat.le_of_ble_eq_true rfl) dX2_onesInFront_13 rfl rfl (fun H locs hP hD hS => ?_)
  obtain rfl := Option.some.inj hm
  exact k_iret hx hb hr hlocks hQc hP hS rfl rfl dX2_onesInFront_16
theorem dX2_onesBehind_0 : decode cX2_onesBehind 0 = .ok (.aload_n 0, 1) := by decide +kernel
theorem dX2_onesBehind_1 : decode cX2_onesBehind 1 = .ok (.iload_n 1, 1) := by decide +kernel
theorem dX2_onesBehind_2 : decode cX2_onesBehind 2 = .ok (.invokevirtual 34, 3) := by decide +kernel
theorem dX2_onesBehind_5 : decode cX2_onesBehind 5 = .ok (.ldc2_w 106, 3) := by decide +kernel
theorem dX2_onesBehind_8 : decode cX2_onesBehind 8 = .ok (.lxor, 1) := by decide +kernel
theorem dX2_onesBehind_9 : decode cX2_onesBehind 9 = .ok (.aload_n 0, 1) := by decide +kernel
theorem dX2_onesBehind_10 : decode cX2_onesBehind 10 = .ok (.getfield 42, 3) := by decide +kernel
theorem dX2_onesBehind_13 : decode cX2_onesBehind 13 = .ok (.invokestatic 103, 3) := by decide +kernel
theorem dX2_onesBehind_16 : decode cX2_onesBehind 16 = .ok (.ireturn, 1) := by decide +kernel
def mX2_onesBehind (f_t_cells : Nat → Int64) (v_t_isWide : Int32) (p1 : Int32) : Option (Int32) := ((mX2_allBits f_t_cells p1).bind (fun r_1 => ((mX1_zerosBehind (r_1 ^^^ (-1)) v_t_isWide).bind (fun r_2 => some r_2))))
set_option maxHeartbeats 4000000 in
set_option maxRecDepth 100000 in
theorem kcX2_onesBehind (l : Launch) (D : va_G) (cy : Nat → ClassId) (g : Nat → Nat) (a_t : Nat) (a_t_cells : Nat) (a_t_cellsBefore : Nat) (a_t_page : Nat) (a_t_page_bytes : Nat) (a_t_reader : Nat) (n_t_page_bytes : Nat) (f_t_cells : Nat → Int64) (f_t_cellsBefore : Nat → Int64) (f_t_page_bytes : Nat → Int32) (v_t_page_length : Int32) (v_t_reader_value : Int64) (v_t_isWide : Int32) (p1 : Int32) (R : Int32) (hm : mX2_onesBehind f_t_cells v_t_isWide p1 = some R) : Con l D cy g yX2_onesBehind cX2_onesBehind 2 (some .int) 3 65 0 0 [.ref a_t, .int p1] [(a_t, .inr (0, [.ref a_t_cells, .ref a_t_cellsBefore, .ref a_t_page, .ref a_t_reader, .int v_t_isWide])), (a_t_cells, .inl (cy 1, 8, .inr (.inl f_t_cells))), (a_t_cellsBefore, .inl (cy 1, 8, .inr (.inl f_t_cellsBefore))), (a_t_page, .inr (3, [.ref a_t_page_bytes, .int v_t_page_length])), (a_t_page_bytes, .inl (cy 0, n_t_page_bytes, .inl f_t_page_bytes)), (a_t_reader, .inr (2, [.long v_t_reader_value]))] [(a_t, .inr (0, [.ref a_t_cells, .ref a_t_cellsBefore, .ref a_t_page, .ref a_t_reader, .int v_t_isWide])), (a_t_cells, .inl (cy 1, 8, .inr (.inl f_t_cells))), (a_t_cellsBefore, .inl (cy 1, 8, .inr (.inl f_t_cellsBefore))), (a_t_page, .inr (3, [.ref a_t_page_bytes, .int v_t_page_length])), (a_t_page_bytes, .inl (cy 0, n_t_page_bytes, .inl f_t_page_bytes)), (a_t_reader, .inr (2, [.long v_t_reader_value]))] (some (.int R)) := by
  refine Con.of (by decide +kernel) (Nat.le_of_ble_eq_true rfl) ?_
  intro p e RM s m ar below meth c A Qc ls hx hb hr hml hown hlocks hnm ht hK hP hD hS hA hR hC hQc hl
  have hown : s.vm.findClass RX2 = some m.cls := hown
  have hl : lv_has ls 2 [(0, .ref a_t), (1, .int p1)] := hl
  rw [mX2_onesBehind] at hm
  refine lv_aload_n hx hb dX2_onesBehind_0 rfl (lv_at hl 0 rfl) ?_
  refine lv_iload_n hx hb dX2_onesBehind_1 rfl (lv_at hl 1 rfl) ?_
  obtain ⟨r_1, hr_1, hm⟩ := hm_b hm
  refine k_V (as := [.int p1]) (rest := []) (ws' := [(a_t, .inr (0, [.ref a_t_cells, .ref a_t_cellsBefore, .ref a_t_page, .ref a_t_reader, .int v_t_isWide])), (a_t_cells, .inl (cy 1, 8, .inr (.inl f_t_cells))), (a_t_cellsBefore, .inl (cy 1, 8, .inr (.inl f_t_cellsBefore))), (a_t_page, .inr (3, [.ref a_t_page_bytes, .int v_t_page_length])), (a_t_page_bytes, .inl (cy 0, n_t_page_bytes, .inl f_t_page_bytes)), (a_t_reader, .inr (2, [.long v_t_reader_value]))]) (st2 := [.long r_1]) (i0 := 0) hx hb hml hown ht hK hP hD hS hA hC hR hl (kcX2_allBits l D cy g a_t a_t_cells a_t_cellsBefore a_t_page a_t_page_bytes a_t_reader n_t_page_bytes f_t_cells f_t_cellsBefore f_t_page_bytes v_t_page_length v_t_reader_value v_t_isWide p1 r_1 hr_1) [0, 1, 2, 3, 4, 5] q_291 q_292 q_293 q_44 q_294 hyX2_allBits ⟨rfl, rfl, rfl⟩ ⟨Nat.le_of_ble_eq_true rfl, Nat.le_of_ble_eq_true rfl, Nat.le_of_ble_eq_true rfl, Nat.le_of_ble_eq_true rfl⟩ rfl rfl rfl rfl (Nat.le_of_ble_eq_true rfl) dX2_onesBehind_2 rfl rfl (fun H locs hP hD hS => ?_)
  refine lv_ldc2 (v := (-1)) hx hb hown (ht _ q_678) dX2_onesBehind_5 ?_
  refine lv_lxor hx hb dX2_onesBehind_8 ?_
  refine lv_aload_n hx hb dX2_onesBehind_9 rfl (lv_at hl 0 rfl) ?_
  refine va_get (D := D) (cl := classes) (ci := 0) (v := .int v_t_isWide) (C := RX2) (T := TX2) (N := 5) hx hb ht in_RX2 hown hK.1 hP 0 rfl rfl 4 (by decide) (ht _ q_130) (fun _ h9 => h9) rfl dX2_onesBehind_10 ?_
  obtain ⟨r_2, hr_2, hm⟩ := hm_b hm
  refine k_S (as := [.long (r_1 ^^^ (-1)), .int v_t_isWide]) (rest := []) (ws' := [(a_t, .inr (0, [.ref a_t_cells, .ref a_t_cellsBefore, .ref a_t_page, .ref a_t_reader, .int v_t_isWide])), (a_t_cells, .inl (cy 1, 8, .inr (.inl f_t_cells))), (a_t_cellsBefore, .inl (cy 1, 8, .inr (.inl f_t_cellsBefore))), (a_t_page, .inr (3, [.ref a_t_page_bytes, .int v_t_page_length])), (a_t_page_bytes, .inl (cy 0, n_t_page_bytes, .inl f_t_page_bytes)), (a_t_reader, .inr (2, [.long v_t_reader_value]))]) (st2 := [.int r_2]) hx hb hml hown ht hK hP hD hS hA hC hR hl (kcX1_zerosBehind l D cy g (r_1 ^^^ (-1)) v_t_isWide r_2 hr_2) [] q_664 q_665 q_60 q_666 hyX1_zerosBehind ⟨Nat.le_of_ble_eq_true rfl, Nat.le_of_ble_eq_true rfl, Nat.le_of_ble_eq_true rfl, Nat.le_of_ble_eq_true rfl⟩ rfl rfl rfl rfl (Nat.le_of_ble_eq_true rfl) dX2_onesBehind_13 rfl rfl (fun H locs hP hD hS => ?_)
  obtain rfl := Option.some.inj hm
  exact k_iret hx hb hr hlocks hQc hP hS rfl rfl dX2_onesBehind_16
theorem dX2_bitsTurned_0 : decode cX2_bitsTurned 0 = .ok (.aload_n 0, 1) := by decide +kernel
theorem dX2_bitsTurned_1 : decode cX2_bitsTurned 1 = .ok (.iload_n 1, 1) := by decide +kernel
theorem dX2_bitsTurned_2 : decode cX2_bitsTurned 2 = .ok (.invokevirtual 34, 3) := by decide +kernel
theorem dX2_bitsTurned_5 : decode cX2_bitsTurned 5 = .ok (.aload_n 0, 1) := by decide +kernel
theorem dX2_bitsTurned_6 : decode cX2_bitsTurned 6 = .ok (.getfield 42, 3) := by decide +kernel
theorem dX2_bitsTurned_9 : decode cX2_bitsTurned 9 = .ok (.invokestatic 108, 3) := by decide +kernel
theorem dX2_bitsTurned_12 : decode cX2_bitsTurned 12 = .ok (.lreturn, 1) := by decide +kernel
def mX2_bitsTurned (f_t_cells : Nat → Int64) (v_t_isWide : Int32) (p1 : Int32) : Option (Int64) := ((mX2_allBits f_t_cells p1).bind (fun r_1 => ((mX1_turned r_1 v_t_isWide).bind (fun r_2 => some r_2))))
set_option maxHeartbeats 4000000 in
set_option maxRecDepth 100000 in
theorem kcX2_bitsTurned (l : Launch) (D : va_G) (cy : Nat → ClassId) (g : Nat → Nat) (a_t : Nat) (a_t_cells : Nat) (a_t_cellsBefore : Nat) (a_t_page : Nat) (a_t_page_bytes : Nat) (a_t_reader : Nat) (n_t_page_bytes : Nat) (f_t_cells : Nat → Int64) (f_t_cellsBefore : Nat → Int64) (f_t_page_bytes : Nat → Int32) (v_t_page_length : Int32) (v_t_reader_value : Int64) (v_t_isWide : Int32) (p1 : Int32) (R : Int64) (hm : mX2_bitsTurned f_t_cells v_t_isWide p1 = some R) : Con l D cy g yX2_bitsTurned cX2_bitsTurned 2 (some .long) 3 64 0 0 [.ref a_t, .int p1] [(a_t, .inr (0, [.ref a_t_cells, .ref a_t_cellsBefore, .ref a_t_page, .ref a_t_reader, .int v_t_isWide])), (a_t_cells, .inl (cy 1, 8, .inr (.inl f_t_cells))), (a_t_cellsBefore, .inl (cy 1, 8, .inr (.inl f_t_cellsBefore))), (a_t_page, .inr (3, [.ref a_t_page_bytes, .int v_t_page_length])), (a_t_page_bytes, .inl (cy 0, n_t_page_bytes, .inl f_t_page_bytes)), (a_t_reader, .inr (2, [.long v_t_reader_value]))] [(a_t, .inr (0, [.ref a_t_cells, .ref a_t_cellsBefore, .ref a_t_page, .ref a_t_reader, .int v_t_isWide])), (a_t_cells, .inl (cy 1, 8, .inr (.inl f_t_cells))), (a_t_cellsBefore, .inl (cy 1, 8, .inr (.inl f_t_cellsBefore))), (a_t_page, .inr (3, [.ref a_t_page_bytes, .int v_t_page_length])), (a_t_page_bytes, .inl (cy 0, n_t_page_bytes, .inl f_t_page_bytes)), (a_t_reader, .inr (2, [.long v_t_reader_value]))] (some (.long R)) := by
  refine Con.of (by decide +kernel) (Nat.le_of_ble_eq_true rfl) ?_
  intro p e RM s m ar below meth c A Qc ls hx hb hr hml hown hlocks hnm ht hK hP hD hS hA hR hC hQc hl
  have hown : s.vm.findClass RX2 = some m.cls := hown
  have hl : lv_has ls 2 [(0, .ref a_t), (1, .int p1)] := hl
  rw [mX2_bitsTurned] at hm
  refine lv_aload_n hx hb dX2_bitsTurned_0 rfl (lv_at hl 0 rfl) ?_
  refine lv_iload_n hx hb dX2_bitsTurned_1 rfl (lv_at hl 1 rfl) ?_
  obtain ⟨r_1, hr_1, hm⟩ := hm_b hm
  refine k_V (as := [.int p1]) (rest := []) (ws' := [(a_t, .inr (0, [.ref a_t_cells, .ref a_t_cellsBefore, .ref a_t_page, .ref a_t_reader, .int v_t_isWide])), (a_t_cells, .inl (cy 1, 8, .inr (.inl f_t_cells))), (a_t_cellsBefore, .inl (cy 1, 8, .inr (.inl f_t_cellsBefore))), (a_t_page, .inr (3, [.ref a_t_page_bytes, .int v_t_page_length])), (a_t_page_bytes, .inl (cy 0, n_t_page_bytes, .inl f_t_page_bytes)), (a_t_reader, .inr (2, [.long v_t_reader_value]))]) (st2 := [.long r_1]) (i0 := 0) hx hb hml hown ht hK hP hD hS hA hC hR hl (kcX2_allBits l D cy g a_t a_t_cells a_t_cellsBefore a_t_page a_t_page_bytes a_t_reader n_t_page_bytes f_t_cells f_t_cellsBefore f_t_page_bytes v_t_page_length v_t_reader_value v_t_isWide p1 r_1 hr_1) [0, 1, 2, 3, 4, 5] q_291 q_292 q_293 q_44 q_294 hyX2_allBits ⟨rfl, rfl, rfl⟩ ⟨Nat.le_of_ble_eq_true rfl, Nat.le_of_ble_eq_true rfl, Nat.le_of_ble_eq_true rfl, Nat.le_of_ble_eq_true rfl⟩ rfl rfl rfl rfl (Nat.le_of_ble_eq_true rfl) dX2_bitsTurned_2 rfl rfl (fun H locs hP hD hS => ?_)
  refine lv_aload_n hx hb dX2_bitsTurned_5 rfl (lv_at hl 0 rfl) ?_
  refine va_get (D := D) (cl := classes) (ci := 0) (v := .int v_t_isWide) (C := RX2) (T := TX2) (N := 5) hx hb ht in_RX2 hown hK.1 hP 0 rfl rfl 4 (by decide) (ht _ q_130) (fun _ h9 => h9) rfl dX2_bitsTurned_6 ?_
  obtain ⟨r_2, hr_2, hm⟩ := hm_b hm
  refine k_S (as := [.long r_1, .int v_t_isWide]) (rest := []) (ws' := [(a_t, .inr (0, [.ref a_t_cells, .ref a_t_cellsBefore, .ref a_t_page, .ref a_t_reader, .int v_t_isWide])), (a_t_cells, .inl (cy 1, 8, .inr (.inl f_t_cells))), (a_t_cellsBefore, .inl (cy 1, 8, .inr (.inl f_t_cellsBefore))), (a_t_page, .inr (3, [.ref a_t_page_bytes, .int v_t_page_length])), (a_t_page_bytes, .inl (cy 0, n_t_page_bytes, .inl f_t_page_bytes)), (a_t_reader, .inr (2, [.long v_t_reader_value]))]) (st2 := [.long r_2]) hx hb hml hown ht hK hP hD hS hA hC hR hl (kcX1_turned l D cy g r_1 v_t_isWide r_2 hr_2) [] q_687 q_688 q_60 q_689 hyX1_turned ⟨Nat.le_of_ble_eq_true rfl, Nat.le_of_ble_eq_true rfl, Nat.le_of_ble_eq_true rfl, Nat.le_of_ble_eq_true rfl⟩ rfl rfl rfl rfl (Nat.le_of_ble_eq_true rfl) dX2_bitsTurned_9 rfl rfl (fun H locs hP hD hS => ?_)
  obtain rfl := Option.some.inj hm
  exact k_lret hx hb hr hlocks hQc hP hS rfl rfl dX2_bitsTurned_12
theorem dX2_bytesTurned_0 : decode cX2_bytesTurned 0 = .ok (.aload_n 0, 1) := by decide +kernel
theorem dX2_bytesTurned_1 : decode cX2_bytesTurned 1 = .ok (.iload_n 1, 1) := by decide +kernel
theorem dX2_bytesTurned_2 : decode cX2_bytesTurned 2 = .ok (.invokevirtual 34, 3) := by decide +kernel
theorem dX2_bytesTurned_5 : decode cX2_bytesTurned 5 = .ok (.aload_n 0, 1) := by decide +kernel
theorem dX2_bytesTurned_6 : decode cX2_bytesTurned 6 = .ok (.getfield 42, 3) := by decide +kernel
theorem dX2_bytesTurned_9 : decode cX2_bytesTurned 9 = .ok (.invokestatic 111, 3) := by decide +kernel
theorem dX2_bytesTurned_12 : decode cX2_bytesTurned 12 = .ok (.lreturn, 1) := by decide +kernel
def mX2_bytesTurned (f_t_cells : Nat → Int64) (v_t_isWide : Int32) (p1 : Int32) : Option (Int64) := ((mX2_allBits f_t_cells p1).bind (fun r_1 => ((mX1_bytesTurned r_1 v_t_isWide).bind (fun r_2 => some r_2))))
set_option maxHeartbeats 4000000 in
set_option maxRecDepth 100000 in
theorem kcX2_bytesTurned (l : Launch) (D : va_G) (cy : Nat → ClassId) (g : Nat → Nat) (a_t : Nat) (a_t_cells : Nat) (a_t_cellsBefore : Nat) (a_t_page : Nat) (a_t_page_bytes : Nat) (a_t_reader : Nat) (n_t_page_bytes : Nat) (f_t_cells : Nat → Int64) (f_t_cellsBefore : Nat → Int64) (f_t_page_bytes : Nat → Int32) (v_t_page_length : Int32) (v_t_reader_value : Int64) (v_t_isWide : Int32) (p1 : Int32) (R : Int64) (hm : mX2_bytesTurned f_t_cells v_t_isWide p1 = some R) : Con l D cy g yX2_bytesTurned cX2_bytesTurned 2 (some .long) 2 43 0 0 [.ref a_t, .int p1] [(a_t, .inr (0, [.ref a_t_cells, .ref a_t_cellsBefore, .ref a_t_page, .ref a_t_reader, .int v_t_isWide])), (a_t_cells, .inl (cy 1, 8, .inr (.inl f_t_cells))), (a_t_cellsBefore, .inl (cy 1, 8, .inr (.inl f_t_cellsBefore))), (a_t_page, .inr (3, [.ref a_t_page_bytes, .int v_t_page_length])), (a_t_page_bytes, .inl (cy 0, n_t_page_bytes, .inl f_t_page_bytes)), (a_t_reader, .inr (2, [.long v_t_reader_value]))] [(a_t, .inr (0, [.ref a_t_cells, .ref a_t_cellsBefore, .ref a_t_page, .ref a_t_reader, .int v_t_isWide])), (a_t_cells, .inl (cy 1, 8, .inr (.inl f_t_cells))), (a_t_cellsBefore, .inl (cy 1, 8, .inr (.inl f_t_cellsBefore))), (a_t_page, .inr (3, [.ref a_t_page_bytes, .int v_t_page_length])), (a_t_page_bytes, .inl (cy 0, n_t_page_bytes, .inl f_t_page_bytes)), (a_t_reader, .inr (2, [.long v_t_reader_value]))] (some (.long R)) := by
  refine Con.of (by decide +kernel) (Nat.le_of_ble_eq_true rfl) ?_
  intro p e RM s m ar below meth c A Qc ls hx hb hr hml hown hlocks hnm ht hK hP hD hS hA hR hC hQc hl
  have hown : s.vm.findClass RX2 = some m.cls := hown
  have hl : lv_has ls 2 [(0, .ref a_t), (1, .int p1)] := hl
  rw [mX2_bytesTurned] at hm
  refine lv_aload_n hx hb dX2_bytesTurned_0 rfl (lv_at hl 0 rfl) ?_
  refine lv_iload_n hx hb dX2_bytesTurned_1 rfl (lv_at hl 1 rfl) ?_
  obtain ⟨r_1, hr_1, hm⟩ := hm_b hm
  refine k_V (as := [.int p1]) (rest := []) (ws' := [(a_t, .inr (0, [.ref a_t_cells, .ref a_t_cellsBefore, .ref a_t_page, .ref a_t_reader, .int v_t_isWide])), (a_t_cells, .inl (cy 1, 8, .inr (.inl f_t_cells))), (a_t_cellsBefore, .inl (cy 1, 8, .inr (.inl f_t_cellsBefore))), (a_t_page, .inr (3, [.ref a_t_page_bytes, .int v_t_page_length])), (a_t_page_bytes, .inl (cy 0, n_t_page_bytes, .inl f_t_page_bytes)), (a_t_reader, .inr (2, [.long v_t_reader_value]))]) (st2 := [.long r_1]) (i0 := 0) hx hb hml hown ht hK hP hD hS hA hC hR hl (kcX2_allBits l D cy g a_t a_t_cells a_t_cellsBefore a_t_page a_t_page_bytes a_t_reader n_t_page_bytes f_t_cells f_t_cellsBefore f_t_page_bytes v_t_page_length v_t_reader_value v_t_isWide p1 r_1 hr_1) [0, 1, 2, 3, 4, 5] q_291 q_292 q_293 q_44 q_294 hyX2_allBits ⟨rfl, rfl, rfl⟩ ⟨Nat.le_of_ble_eq_true rfl, Nat.le_of_ble_eq_true rfl, Nat.le_of_ble_eq_true rfl, Nat.le_of_ble_eq_true rfl⟩ rfl rfl rfl rfl (Nat.le_of_ble_eq_true rfl) dX2_bytesTurned_2 rfl rfl (fun H locs hP hD hS => ?_)
  refine lv_aload_n hx hb dX2_bytesTurned_5 rfl (lv_at hl 0 rfl) ?_
  refine va_get (D := D) (cl := classes) (ci := 0) (v := .int v_t_isWide) (C := RX2) (T := TX2) (N := 5) hx hb ht in_RX2 hown hK.1 hP 0 rfl rfl 4 (by decide) (ht _ q_130) (fun _ h9 => h9) rfl dX2_bytesTurned_6 ?_
  obtain ⟨r_2, hr_2, hm⟩ := hm_b hm
  refine k_S (as := [.long r_1, .int v_t_isWide]) (rest := []) (ws' := [(a_t, .inr (0, [.ref a_t_cells, .ref a_t_cellsBefore, .ref a_t_page, .ref a_t_reader, .int v_t_isWide])), (a_t_cells, .inl (cy 1, 8, .inr (.inl f_t_cells))), (a_t_cellsBefore, .inl (cy 1, 8, .inr (.inl f_t_cellsBefore))), (a_t_page, .inr (3, [.ref a_t_page_bytes, .int v_t_page_length])), (a_t_page_bytes, .inl (cy 0, n_t_page_bytes, .inl f_t_page_bytes)), (a_t_reader, .inr (2, [.long v_t_reader_value]))]) (st2 := [.long r_2]) hx hb hml hown ht hK hP hD hS hA hC hR hl (kcX1_bytesTurned l D cy g r_1 v_t_isWide r_2 hr_2) [] q_712 q_713 q_60 q_714 hyX1_bytesTurned ⟨Nat.le_of_ble_eq_true rfl, Nat.le_of_ble_eq_true rfl, Nat.le_of_ble_eq_true rfl, Nat.le_of_ble_eq_true rfl⟩ rfl rfl rfl rfl (Nat.le_of_ble_eq_true rfl) dX2_bytesTurned_9 rfl rfl (fun H locs hP hD hS => ?_)
  obtain rfl := Option.some.inj hm
  exact k_lret hx hb hr hlocks hQc hP hS rfl rfl dX2_bytesTurned_12
theorem dX2_highestBit_0 : decode cX2_highestBit 0 = .ok (.aload_n 0, 1) := by decide +kernel
theorem dX2_highestBit_1 : decode cX2_highestBit 1 = .ok (.iload_n 1, 1) := by decide +kernel
theorem dX2_highestBit_2 : decode cX2_highestBit 2 = .ok (.invokevirtual 34, 3) := by decide +kernel
theorem dX2_highestBit_5 : decode cX2_highestBit 5 = .ok (.aload_n 0, 1) := by decide +kernel
theorem dX2_highestBit_6 : decode cX2_highestBit 6 = .ok (.getfield 42, 3) := by decide +kernel
theorem dX2_highestBit_9 : decode cX2_highestBit 9 = .ok (.invokestatic 121, 3) := by decide +kernel
theorem dX2_highestBit_12 : decode cX2_highestBit 12 = .ok (.lreturn, 1) := by decide +kernel
def mX2_highestBit (f_t_cells : Nat → Int64) (v_t_isWide : Int32) (p1 : Int32) : Option (Int64) := ((mX2_allBits f_t_cells p1).bind (fun r_1 => ((mX1_highestBit r_1 v_t_isWide).bind (fun r_2 => some r_2))))
set_option maxHeartbeats 4000000 in
set_option maxRecDepth 100000 in
theorem kcX2_highestBit (l : Launch) (D : va_G) (cy : Nat → ClassId) (g : Nat → Nat) (a_t : Nat) (a_t_cells : Nat) (a_t_cellsBefore : Nat) (a_t_page : Nat) (a_t_page_bytes : Nat) (a_t_reader : Nat) (n_t_page_bytes : Nat) (f_t_cells : Nat → Int64) (f_t_cellsBefore : Nat → Int64) (f_t_page_bytes : Nat → Int32) (v_t_page_length : Int32) (v_t_reader_value : Int64) (v_t_isWide : Int32) (p1 : Int32) (R : Int64) (hm : mX2_highestBit f_t_cells v_t_isWide p1 = some R) : Con l D cy g yX2_highestBit cX2_highestBit 2 (some .long) 4 86 0 0 [.ref a_t, .int p1] [(a_t, .inr (0, [.ref a_t_cells, .ref a_t_cellsBefore, .ref a_t_page, .ref a_t_reader, .int v_t_isWide])), (a_t_cells, .inl (cy 1, 8, .inr (.inl f_t_cells))), (a_t_cellsBefore, .inl (cy 1, 8, .inr (.inl f_t_cellsBefore))), (a_t_page, .inr (3, [.ref a_t_page_bytes, .int v_t_page_length])), (a_t_page_bytes, .inl (cy 0, n_t_page_bytes, .inl f_t_page_bytes)), (a_t_reader, .inr (2, [.long v_t_reader_value]))] [(a_t, .inr (0, [.ref a_t_cells, .ref a_t_cellsBefore, .ref a_t_page, .ref a_t_reader, .int v_t_isWide])), (a_t_cells, .inl (cy 1, 8, .inr (.inl f_t_cells))), (a_t_cellsBefore, .inl (cy 1, 8, .inr (.inl f_t_cellsBefore))), (a_t_page, .inr (3, [.ref a_t_page_bytes, .int v_t_page_length])), (a_t_page_bytes, .inl (cy 0, n_t_page_bytes, .inl f_t_page_bytes)), (a_t_reader, .inr (2, [.long v_t_reader_value]))] (some (.long R)) := by
  refine Con.of (by decide +kernel) (Nat.le_of_ble_eq_true rfl) ?_
  intro p e RM s m ar below meth c A Qc ls hx hb hr hml hown hlocks hnm ht hK hP hD hS hA hR hC hQc hl
  have hown : s.vm.findClass RX2 = some m.cls := hown
  have hl : lv_has ls 2 [(0, .ref a_t), (1, .int p1)] := hl
  rw [mX2_highestBit] at hm
  refine lv_aload_n hx hb dX2_highestBit_0 rfl (lv_at hl 0 rfl) ?_
  refine lv_iload_n hx hb dX2_highestBit_1 rfl (lv_at hl 1 rfl) ?_
  obtain ⟨r_1, hr_1, hm⟩ := hm_b hm
  refine k_V (as := [.int p1]) (rest := []) (ws' := [(a_t, .inr (0, [.ref a_t_cells, .ref a_t_cellsBefore, .ref a_t_page, .ref a_t_reader, .int v_t_isWide])), (a_t_cells, .inl (cy 1, 8, .inr (.inl f_t_cells))), (a_t_cellsBefore, .inl (cy 1, 8, .inr (.inl f_t_cellsBefore))), (a_t_page, .inr (3, [.ref a_t_page_bytes, .int v_t_page_length])), (a_t_page_bytes, .inl (cy 0, n_t_page_bytes, .inl f_t_page_bytes)), (a_t_reader, .inr (2, [.long v_t_reader_value]))]) (st2 := [.long r_1]) (i0 := 0) hx hb hml hown ht hK hP hD hS hA hC hR hl (kcX2_allBits l D cy g a_t a_t_cells a_t_cellsBefore a_t_page a_t_page_bytes a_t_reader n_t_page_bytes f_t_cells f_t_cellsBefore f_t_page_bytes v_t_page_length v_t_reader_value v_t_isWide p1 r_1 hr_1) [0, 1, 2, 3, 4, 5] q_291 q_292 q_293 q_44 q_294 hyX2_allBits ⟨rfl, rfl, rfl⟩ ⟨Nat.le_of_ble_eq_true rfl, Nat.le_of_ble_eq_true rfl, Nat.le_of_ble_eq_true rfl, Nat.le_of_ble_eq_true rfl⟩ rfl rfl rfl rfl (Nat.le_of_ble_eq_true rfl) dX2_highestBit_2 rfl rfl (fun H locs hP hD hS => ?_)
  refine lv_aload_n hx hb dX2_highestBit_5 rfl (lv_at hl 0 rfl) ?_
  refine va_get (D := D) (cl := classes) (ci := 0) (v := .int v_t_isWide) (C := RX2) (T := TX2) (N := 5) hx hb ht in_RX2 hown hK.1 hP 0 rfl rfl 4 (by decide) (ht _ q_130) (fun _ h9 => h9) rfl dX2_highestBit_6 ?_
  obtain ⟨r_2, hr_2, hm⟩ := hm_b hm
  refine k_S (as := [.long r_1, .int v_t_isWide]) (rest := []) (ws' := [(a_t, .inr (0, [.ref a_t_cells, .ref a_t_cellsBefore, .ref a_t_page, .ref a_t_reader, .int v_t_isWide])), (a_t_cells, .inl (cy 1, 8, .inr (.inl f_t_cells))), (a_t_cellsBefore, .inl (cy 1, 8, .inr (.inl f_t_cellsBefore))), (a_t_page, .inr (3, [.ref a_t_page_bytes, .int v_t_page_length])), (a_t_page_bytes, .inl (cy 0, n_t_page_bytes, .inl f_t_page_bytes)), (a_t_reader, .inr (2, [.long v_t_reader_value]))]) (st2 := [.long r_2]) hx hb hml hown ht hK hP hD hS hA hC hR hl (kcX1_highestBit l D cy g r_1 v_t_isWide r_2 hr_2) [] q_721 q_722 q_60 q_723 hyX1_highestBit ⟨Nat.le_of_ble_eq_true rfl, Nat.le_of_ble_eq_true rfl, Nat.le_of_ble_eq_true rfl, Nat.le_of_ble_eq_true rfl⟩ rfl rfl rfl rfl (Nat.le_of_ble_eq_true rfl) dX2_highestBit_9 rfl rfl (fun H locs hP hD hS => ?_)
  obtain rfl := Option.some.inj hm
  exact k_lret hx hb hr hlocks hQc hP hS rfl rfl dX2_highestBit_12
theorem dX2_lowestBit_0 : decode cX2_lowestBit 0 = .ok (.aload_n 0, 1) := by decide +kernel
theorem dX2_lowestBit_1 : decode cX2_lowestBit 1 = .ok (.iload_n 1, 1) := by decide +kernel
theorem dX2_lowestBit_2 : decode cX2_lowestBit 2 = .ok (.invokevirtual 34, 3) := by decide +kernel
theorem dX2_lowestBit_5 : decode cX2_lowestBit 5 = .ok (.aload_n 0, 1) := by decide +kernel
theorem dX2_lowestBit_6 : decode cX2_lowestBit 6 = .ok (.getfield 42, 3) := by decide +kernel
theorem dX2_lowestBit_9 : decode cX2_lowestBit 9 = .ok (.invokestatic 124, 3) := by decide +kernel
theorem dX2_lowestBit_12 : decode cX2_lowestBit 12 = .ok (.lreturn, 1) := by decide +kernel
def mX2_lowestBit (f_t_cells : Nat → Int64) (v_t_isWide : Int32) (p1 : Int32) : Option (Int64) := ((mX2_allBits f_t_cells p1).bind (fun r_1 => ((mX1_lowestBit r_1 v_t_isWide).bind (fun r_2 => some r_2))))
set_option maxHeartbeats 4000000 in
set_option maxRecDepth 100000 in
theorem kcX2_lowestBit (l : Launch) (D : va_G) (cy : Nat → ClassId) (g : Nat → Nat) (a_t : Nat) (a_t_cells : Nat) (a_t_cellsBefore : Nat) (a_t_page : Nat) (a_t_page_bytes : Nat) (a_t_reader : Nat) (n_t_page_bytes : Nat) (f_t_cells : Nat → Int64) (f_t_cellsBefore : Nat → Int64) (f_t_page_bytes : Nat → Int32) (v_t_page_length : Int32) (v_t_reader_value : Int64) (v_t_isWide : Int32) (p1 : Int32) (R : Int64) (hm : mX2_lowestBit f_t_cells v_t_isWide p1 = some R) : Con l D cy g yX2_lowestBit cX2_lowestBit 2 (some .long) 2 43 0 0 [.ref a_t, .int p1] [(a_t, .inr (0, [.ref a_t_cells, .ref a_t_cellsBefore, .ref a_t_page, .ref a_t_reader, .int v_t_isWide])), (a_t_cells, .inl (cy 1, 8, .inr (.inl f_t_cells))), (a_t_cellsBefore, .inl (cy 1, 8, .inr (.inl f_t_cellsBefore))), (a_t_page, .inr (3, [.ref a_t_page_bytes, .int v_t_page_length])), (a_t_page_bytes, .inl (cy 0, n_t_page_bytes, .inl f_t_page_bytes)), (a_t_reader, .inr (2, [.long v_t_reader_value]))] [(a_t, .inr (0, [.ref a_t_cells, .ref a_t_cellsBefore, .ref a_t_page, .ref a_t_reader, .int v_t_isWide])), (a_t_cells, .inl (cy 1, 8, .inr (.inl f_t_cells))), (a_t_cellsBefore, .inl (cy 1, 8, .inr (.inl f_t_cellsBefore))), (a_t_page, .inr (3, [.ref a_t_page_bytes, .int v_t_page_length])), (a_t_page_bytes, .inl (cy 0, n_t_page_bytes, .inl f_t_page_bytes)), (a_t_reader, .inr (2, [.long v_t_reader_value]))] (some (.long R)) := by
  refine Con.of (by decide +kernel) (Nat.le_of_ble_eq_true rfl) ?_
  intro p e RM s m ar below meth c A Qc ls hx hb hr hml hown hlocks hnm ht hK hP hD hS hA hR hC hQc hl
  have hown : s.vm.findClass RX2 = some m.cls := hown
  have hl : lv_has ls 2 [(0, .ref a_t), (1, .int p1)] := hl
  rw [mX2_lowestBit] at hm
  refine lv_aload_n hx hb dX2_lowestBit_0 rfl (lv_at hl 0 rfl) ?_
  refine lv_iload_n hx hb dX2_lowestBit_1 rfl (lv_at hl 1 rfl) ?_
  obtain ⟨r_1, hr_1, hm⟩ := hm_b hm
  refine k_V (as := [.int p1]) (rest := []) (ws' := [(a_t, .inr (0, [.ref a_t_cells, .ref a_t_cellsBefore, .ref a_t_page, .ref a_t_reader, .int v_t_isWide])), (a_t_cells, .inl (cy 1, 8, .inr (.inl f_t_cells))), (a_t_cellsBefore, .inl (cy 1, 8, .inr (.inl f_t_cellsBefore))), (a_t_page, .inr (3, [.ref a_t_page_bytes, .int v_t_page_length])), (a_t_page_bytes, .inl (cy 0, n_t_page_bytes, .inl f_t_page_bytes)), (a_t_reader, .inr (2, [.long v_t_reader_value]))]) (st2 := [.long r_1]) (i0 := 0) hx hb hml hown ht hK hP hD hS hA hC hR hl (kcX2_allBits l D cy g a_t a_t_cells a_t_cellsBefore a_t_page a_t_page_bytes a_t_reader n_t_page_bytes f_t_cells f_t_cellsBefore f_t_page_bytes v_t_page_length v_t_reader_value v_t_isWide p1 r_1 hr_1) [0, 1, 2, 3, 4, 5] q_291 q_292 q_293 q_44 q_294 hyX2_allBits ⟨rfl, rfl, rfl⟩ ⟨Nat.le_of_ble_eq_true rfl, Nat.le_of_ble_eq_true rfl, Nat.le_of_ble_eq_true rfl, Nat.le_of_ble_eq_true rfl⟩ rfl rfl rfl rfl (Nat.le_of_ble_eq_true rfl) dX2_lowestBit_2 rfl rfl (fun H locs hP hD hS => ?_)
  refine lv_aload_n hx hb dX2_lowestBit_5 rfl (lv_at hl 0 rfl) ?_
  refine va_get (D := D) (cl := classes) (ci := 0) (v := .int v_t_isWide) (C := RX2) (T := TX2) (N := 5) hx hb ht in_RX2 hown hK.1 hP 0 rfl rfl 4 (by decide) (ht _ q_130) (fun _ h9 => h9) rfl dX2_lowestBit_6 ?_
  obtain ⟨r_2, hr_2, hm⟩ := hm_b hm
  refine k_S (as := [.long r_1, .int v_t_isWide]) (rest := []) (ws' := [(a_t, .inr (0, [.ref a_t_cells, .ref a_t_cellsBefore, .ref a_t_page, .ref a_t_reader, .int v_t_isWide])), (a_t_cells, .inl (cy 1, 8, .inr (.inl f_t_cells))), (a_t_cellsBefore, .inl (cy 1, 8, .inr (.inl f_t_cellsBefore))), (a_t_page, .inr (3, [.ref a_t_page_bytes, .int v_t_page_length])), (a_t_page_bytes, .inl (cy 0, n_t_page_bytes, .inl f_t_page_bytes)), (a_t_reader, .inr (2, [.long v_t_reader_value]))]) (st2 := [.long r_2]) hx hb hml hown ht hK hP hD hS hA hC hR hl (kcX1_lowestBit l D cy g r_1 v_t_isWide r_2 hr_2) [] q_738 q_739 q_60 q_740 hyX1_lowestBit ⟨Nat.le_of_ble_eq_true rfl, Nat.le_of_ble_eq_true rfl, Nat.le_of_ble_eq_true rfl, Nat.le_of_ble_eq_true rfl⟩ rfl rfl rfl rfl (Nat.le_of_ble_eq_true rfl) dX2_lowestBit_9 rfl rfl (fun H locs hP hD hS => ?_)
  obtain rfl := Option.some.inj hm
  exact k_lret hx hb hr hlocks hQc hP hS rfl rfl dX2_lowestBit_12
theorem dX2_clearUpperHalf_0 : decode cX2_clearUpperHalf 0 = .ok (.aload_n 0, 1) := by decide +kernel
theorem dX2_clearUpperHalf_1 : decode cX2_clearUpperHalf 1 = .ok (.iload_n 1, 1) := by decide +kernel
theorem dX2_clearUpperHalf_2 : decode cX2_clearUpperHalf 2 = .ok (.aload_n 0, 1) := by decide +kernel
theorem dX2_clearUpperHalf_3 : decode cX2_clearUpperHalf 3 = .ok (.iload_n 1, 1) := by decide +kernel
theorem dX2_clearUpperHalf_4 : decode cX2_clearUpperHalf 4 = .ok (.invokevirtual 34, 3) := by decide +kernel
theorem dX2_clearUpperHalf_7 : decode cX2_clearUpperHalf 7 = .ok (.ldc2_w 127, 3) := by decide +kernel
theorem dX2_clearUpperHalf_10 : decode cX2_clearUpperHalf 10 = .ok (.land, 1) := by decide +kernel
theorem dX2_clearUpperHalf_11 : decode cX2_clearUpperHalf 11 = .ok (.invokevirtual 52, 3) := by decide +kernel
theorem dX2_clearUpperHalf_14 : decode cX2_clearUpperHalf 14 = .ok (.return_, 1) := by decide +kernel
def mX2_clearUpperHalf (f_t_cells : Nat → Int64) (p1 : Int32) : Option ((Nat → Int64)) := ((mX2_allBits f_t_cells p1).bind (fun r_1 => ((mX2_keep f_t_cells p1 (r_1 &&& 4294967295)).bind (fun r_2 => some r_2))))
set_option maxHeartbeats 4000000 in
set_option maxRecDepth 100000 in
theorem kcX2_clearUpperHalf (l : Launch) (D : va_G) (cy : Nat → ClassId) (g : Nat → Nat) (a_t : Nat) (a_t_cells : Nat) (a_t_cellsBefore : Nat) (a_t_page : Nat) (a_t_page_bytes : Nat) (a_t_reader : Nat) (n_t_page_bytes : Nat) (f_t_cells : Nat → Int64) (f_t_cellsBefore : Nat → Int64) (f_t_page_bytes : Nat → Int32) (v_t_page_length : Int32) (v_t_reader_value : Int64) (v_t_isWide : Int32) (p1 : Int32) (R : (Nat → Int64)) (hm : mX2_clearUpperHalf f_t_cells p1 = some R) : Con l D cy g yX2_clearUpperHalf cX2_clearUpperHalf 2 none 1 23 0 0 [.ref a_t, .int p1] [(a_t, .inr (0, [.ref a_t_cells, .ref a_t_cellsBefore, .ref a_t_page, .ref a_t_reader, .int v_t_isWide])), (a_t_cells, .inl (cy 1, 8, .inr (.inl f_t_cells))), (a_t_cellsBefore, .inl (cy 1, 8, .inr (.inl f_t_cellsBefore))), (a_t_page, .inr (3, [.ref a_t_page_bytes, .int v_t_page_length])), (a_t_page_bytes, .inl (cy 0, n_t_page_bytes, .inl f_t_page_bytes)), (a_t_reader, .inr (2, [.long v_t_reader_value]))] [(a_t, .inr (0, [.ref a_t_cells, .ref a_t_cellsBefore, .ref a_t_page, .ref a_t_reader, .int v_t_isWide])), (a_t_cells, .inl (cy 1, 8, .inr (.inl R))), (a_t_cellsBefore, .inl (cy 1, 8, .inr (.inl f_t_cellsBefore))), (a_t_page, .inr (3, [.ref a_t_page_bytes, .int v_t_page_length])), (a_t_page_bytes, .inl (cy 0, n_t_page_bytes, .inl f_t_page_bytes)), (a_t_reader, .inr (2, [.long v_t_reader_value]))] none := by
  refine Con.of (by decide +kernel) (Nat.le_of_ble_eq_true rfl) ?_
  intro p e RM s m ar below meth c A Qc ls hx hb hr hml hown hlocks hnm ht hK hP hD hS hA hR hC hQc hl
  have hown : s.vm.findClass RX2 = some m.cls := hown
  have hl : lv_has ls 2 [(0, .ref a_t), (1, .int p1)] := hl
  rw [mX2_clearUpperHalf] at hm
  refine lv_aload_n hx hb dX2_clearUpperHalf_0 rfl (lv_at hl 0 rfl) ?_
  refine lv_iload_n hx hb dX2_clearUpperHalf_1 rfl (lv_at hl 1 rfl) ?_
  refine lv_aload_n hx hb dX2_clearUpperHalf_2 rfl (lv_at hl 0 rfl) ?_
  refine lv_iload_n hx hb dX2_clearUpperHalf_3 rfl (lv_at hl 1 rfl) ?_
  obtain ⟨r_1, hr_1, hm⟩ := hm_b hm
  refine k_V (as := [.int p1]) (rest := [.int p1, .ref a_t]) (ws' := [(a_t, .inr (0, [.ref a_t_cells, .ref a_t_cellsBefore, .ref a_t_page, .ref a_t_reader, .int v_t_isWide])), (a_t_cells, .inl (cy 1, 8, .inr (.inl f_t_cells))), (a_t_cellsBefore, .inl (cy 1, 8, .inr (.inl f_t_cellsBefore))), (a_t_page, .inr (3, [.ref a_t_page_bytes, .int v_t_page_length])), (a_t_page_bytes, .inl (cy 0, n_t_page_bytes, .inl f_t_page_bytes)), (a_t_reader, .inr (2, [.long v_t_reader_value]))]) (st2 := [.long r_1, .int p1, .ref a_t]) (i0 := 0) hx hb hml hown ht hK hP hD hS hA hC hR hl (kcX2_allBits l D cy g a_t a_t_cells a_t_cellsBefore a_t_page a_t_page_bytes a_t_reader n_t_page_bytes f_t_cells f_t_cellsBefore f_t_page_bytes v_t_page_length v_t_reader_value v_t_isWide p1 r_1 hr_1) [0, 1, 2, 3, 4, 5] q_291 q_292 q_293 q_44 q_294 hyX2_allBits ⟨rfl, rfl, rfl⟩ ⟨Nat.le_of_ble_eq_true rfl, Nat.le_of_ble_eq_true rfl, Nat.le_of_ble_eq_true rfl, Nat.le_of_ble_eq_true rfl⟩ rfl rfl rfl rfl (Nat.le_of_ble_eq_true rfl) dX2_clearUpperHalf_4 rfl rfl (fun H locs hP hD hS => ?_)
  refine lv_ldc2 (v := 4294967295) hx hb hown (ht _ q_627) dX2_clearUpperHalf_7 ?_
  refine lv_land hx hb dX2_clearUpperHalf_10 ?_
  obtain ⟨r_2, hr_2, hm⟩ := hm_b hm
  refine k_V (as := [.int p1, .long (r_1 &&& 4294967295)]) (rest := []) (ws' := [(a_t, .inr (0, [.ref a_t_cells, .ref a_t_cellsBefore, .ref a_t_page, .ref a_t_reader, .int v_t_isWide])), (a_t_cells, .inl (cy 1, 8, .inr (.inl r_2))), (a_t_cellsBefore, .inl (cy 1, 8, .inr (.inl f_t_cellsBefore))), (a_t_page, .inr (3, [.ref a_t_page_bytes, .int v_t_page_length])), (a_t_page_bytes, .inl (cy 0, n_t_page_bytes, .inl f_t_page_bytes)), (a_t_reader, .inr (2, [.long v_t_reader_value]))]) (st2 := []) (i0 := 0) hx hb hml hown ht hK hP hD hS hA hC hR hl (kcX2_keep l D cy g a_t a_t_cells a_t_cellsBefore a_t_page a_t_page_bytes a_t_reader n_t_page_bytes f_t_cells f_t_cellsBefore f_t_page_bytes v_t_page_length v_t_reader_value v_t_isWide p1 (r_1 &&& 4294967295) r_2 hr_2) [0, 1, 2, 3, 4, 5] q_392 q_284 q_285 q_44 q_286 hyX2_keep ⟨rfl, rfl, rfl⟩ ⟨Nat.le_of_ble_eq_true rfl, Nat.le_of_ble_eq_true rfl, Nat.le_of_ble_eq_true rfl, Nat.le_of_ble_eq_true rfl⟩ rfl rfl rfl rfl (Nat.le_of_ble_eq_true rfl) dX2_clearUpperHalf_11 rfl rfl (fun H locs hP hD hS => ?_)
  obtain rfl := Option.some.inj hm
  exact k_vret hx hb hr hlocks hQc hP hS rfl rfl dX2_clearUpperHalf_14
theorem dX2_rotated_0 : decode cX2_rotated 0 = .ok (.aload_n 0, 1) := by decide +kernel
theorem dX2_rotated_1 : decode cX2_rotated 1 = .ok (.iload_n 1, 1) := by decide +kernel
theorem dX2_rotated_2 : decode cX2_rotated 2 = .ok (.invokevirtual 34, 3) := by decide +kernel
theorem dX2_rotated_5 : decode cX2_rotated 5 = .ok (.lstore 4, 2) := by decide +kernel
theorem dX2_rotated_7 : decode cX2_rotated 7 = .ok (.iload_n 3, 1) := by decide +kernel
theorem dX2_rotated_8 : decode cX2_rotated 8 = .ok (.ifCond .eq 16, 3) := by decide +kernel
theorem dX2_rotated_11 : decode cX2_rotated 11 = .ok (.lload 4, 2) := by decide +kernel
theorem dX2_rotated_13 : decode cX2_rotated 13 = .ok (.iload_n 2, 1) := by decide +kernel
theorem dX2_rotated_14 : decode cX2_rotated 14 = .ok (.aload_n 0, 1) := by decide +kernel
theorem dX2_rotated_15 : decode cX2_rotated 15 = .ok (.getfield 42, 3) := by decide +kernel
theorem dX2_rotated_18 : decode cX2_rotated 18 = .ok (.invokestatic 114, 3) := by decide +kernel
theorem dX2_rotated_21 : decode cX2_rotated 21 = .ok (.goto 13, 3) := by decide +kernel
theorem dX2_rotated_24 : decode cX2_rotated 24 = .ok (.lload 4, 2) := by decide +kernel
theorem dX2_rotated_26 : decode cX2_rotated 26 = .ok (.iload_n 2, 1) := by decide +kernel
theorem dX2_rotated_27 : decode cX2_rotated 27 = .ok (.aload_n 0, 1) := by decide +kernel
theorem dX2_rotated_28 : decode cX2_rotated 28 = .ok (.getfield 42, 3) := by decide +kernel
theorem dX2_rotated_31 : decode cX2_rotated 31 = .ok (.invokestatic 118, 3) := by decide +kernel
theorem dX2_rotated_34 : decode cX2_rotated 34 = .ok (.lreturn, 1) := by decide +kernel
def mX2_rotated (f_t_cells : Nat → Int64) (v_t_isWide : Int32) (p1 : Int32) (p2 : Int32) (p3 : Int32) : Option (Int64) := ((mX2_allBits f_t_cells p1).bind (fun r_1 => (if p3 = 0 then ((mX1_rotatedRight r_1 p2 v_t_isWide).bind (fun r_3 => some r_3)) else ((mX1_rotatedLeft r_1 p2 v_t_isWide).bind (fun r_4 => some r_4)))))
set_option maxHeartbeats 4000000 in
set_option maxRecDepth 100000 in
theorem kcX2_rotated (l : Launch) (D : va_G) (cy : Nat → ClassId) (g : Nat → Nat) (a_t : Nat) (a_t_cells : Nat) (a_t_cellsBefore : Nat) (a_t_page : Nat) (a_t_page_bytes : Nat) (a_t_reader : Nat) (n_t_page_bytes : Nat) (f_t_cells : Nat → Int64) (f_t_cellsBefore : Nat → Int64) (f_t_page_bytes : Nat → Int32) (v_t_page_length : Int32) (v_t_reader_value : Int64) (v_t_isWide : Int32) (p1 : Int32) (p2 : Int32) (p3 : Int32) (R : Int64) (hm : mX2_rotated f_t_cells v_t_isWide p1 p2 p3 = some R) : Con l D cy g yX2_rotated cX2_rotated 6 (some .long) 2 45 0 0 [.ref a_t, .int p1, .int p2, .int p3] [(a_t, .inr (0, [.ref a_t_cells, .ref a_t_cellsBefore, .ref a_t_page, .ref a_t_reader, .int v_t_isWide])), (a_t_cells, .inl (cy 1, 8, .inr (.inl f_t_cells))), (a_t_cellsBefore, .inl (cy 1, 8, .inr (.inl f_t_cellsBefore))), (a_t_page, .inr (3, [.ref a_t_page_bytes, .int v_t_page_length])), (a_t_page_bytes, .inl (cy 0, n_t_page_bytes, .inl f_t_page_bytes)), (a_t_reader, .inr (2, [.long v_t_reader_value]))] [(a_t, .inr (0, [.ref a_t_cells, .ref a_t_cellsBefore, .ref a_t_page, .ref a_t_reader, .int v_t_isWide])), (a_t_cells, .inl (cy 1, 8, .inr (.inl f_t_cells))), (a_t_cellsBefore, .inl (cy 1, 8, .inr (.inl f_t_cellsBefore))), (a_t_page, .inr (3, [.ref a_t_page_bytes, .int v_t_page_length])), (a_t_page_bytes, .inl (cy 0, n_t_page_bytes, .inl f_t_page_bytes)), (a_t_reader, .inr (2, [.long v_t_reader_value]))] (some (.long R)) := by
  refine Con.of (by decide +kernel) (Nat.le_of_ble_eq_true rfl) ?_
  intro p e RM s m ar below meth c A Qc ls hx hb hr hml hown hlocks hnm ht hK hP hD hS hA hR hC hQc hl
  have hown : s.vm.findClass RX2 = some m.cls := hown
  have hl : lv_has ls 6 [(0, .ref a_t), (1, .int p1), (2, .int p2), (3, .int p3)] := hl
  rw [mX2_rotated] at hm
  refine lv_aload_n hx hb dX2_rotated_0 rfl (lv_at hl 0 rfl) ?_
  refine lv_iload_n hx hb dX2_rotated_1 rfl (lv_at hl 1 rfl) ?_
  obtain ⟨r_1, hr_1, hm⟩ := hm_b hm
  refine k_V (as := [.int p1]) (rest := []) (ws' := [(a_t, .inr (0, [.ref a_t_cells, .ref a_t_cellsBefore, .ref a_t_page, .ref a_t_reader, .int v_t_isWide])), (a_t_cells, .inl (cy 1, 8, .inr (.inl f_t_cells))), (a_t_cellsBefore, .inl (cy 1, 8, .inr (.inl f_t_cellsBefore))), (a_t_page, .inr (3, [.ref a_t_page_bytes, .int v_t_page_length])), (a_t_page_bytes, .inl (cy 0, n_t_page_bytes, .inl f_t_page_bytes)), (a_t_reader, .inr (2, [.long v_t_reader_value]))]) (st2 := [.long r_1]) (i0 := 0) hx hb hml hown ht hK hP hD hS hA hC hR hl (kcX2_allBits l D cy g a_t a_t_cells a_t_cellsBefore a_t_page a_t_page_bytes a_t_reader n_t_page_bytes f_t_cells f_t_cellsBefore f_t_page_bytes v_t_page_length v_t_reader_value v_t_isWide p1 r_1 hr_1) [0, 1, 2, 3, 4, 5] q_291 q_292 q_293 q_44 q_294 hyX2_allBits ⟨rfl, rfl, rfl⟩ ⟨Nat.le_of_ble_eq_true rfl, Nat.le_of_ble_eq_true rfl, Nat.le_of_ble_eq_true rfl, Nat.le_of_ble_eq_true rfl⟩ rfl rfl rfl rfl (Nat.le_of_ble_eq_true rfl) dX2_rotated_2 rfl rfl (fun H locs hP hD hS => ?_)
  refine lv_lstore (lv' := [(4, .long r_1), (0, .ref a_t), (1, .int p1), (2, .int p2), (3, .int p3)]) hx hb dX2_rotated_5 hl (by decide) rfl (fun ls hl => ?_)
  refine lv_iload_n hx hb dX2_rotated_7 rfl (lv_at hl 4 rfl) ?_
  refine lv_if_eq (tgt := 24) hx hb dX2_rotated_8 (by decide) (fun c_2 => ?_) (fun c_2 => ?_)
  · replace hm := hm_t c_2 hm
    refine lv_lload hx hb dX2_rotated_24 (lv_at hl 0 rfl) ?_
    refine lv_iload_n hx hb dX2_rotated_26 rfl (lv_at hl 3 rfl) ?_
    refine lv_aload_n hx hb dX2_rotated_27 rfl (lv_at hl 1 rfl) ?_
    refine va_get (D := D) (cl := classes) (ci := 0) (v := .int v_t_isWide) (C := RX2) (T := TX2) (N := 5) hx hb ht in_RX2 hown hK.1 hP 0 rfl rfl 4 (by decide) (ht _ q_130) (fun _ h9 => h9) rfl dX2_rotated_28 ?_
    obtain ⟨r_3, hr_3, hm⟩ := hm_b hm
    refine k_S (as := [.long r_1, .int p2, .int v_t_isWide]) (rest := []) (ws' := [(a_t, .inr (0, [.ref a_t_cells, .ref a_t_cellsBefore, .ref a_t_page, .ref a_t_reader, .int v_t_isWide])), (a_t_cells, .inl (cy 1, 8, .inr (.inl f_t_cells))), (a_t_cellsBefore, .inl (cy 1, 8, .inr (.inl f_t_cellsBefore))), (a_t_page, .inr (3, [.ref a_t_page_bytes, .int v_t_page_length])), (a_t_page_bytes, .inl (cy 0, n_t_page_bytes, .inl f_t_page_bytes)), (a_t_reader, .inr (2, [.long v_t_reader_value]))]) (st2 := [.long r_3]) hx hb hml hown ht hK hP hD hS hA hC hR hl (kcX1_rotatedRight l D cy g r_1 p2 v_t_isWide r_3 hr_3) [] q_761 q_762 q_60 q_763 hyX1_rotatedRight ⟨Nat.le_of_ble_eq_true rfl, Nat.le_of_ble_eq_true rfl, Nat.le_of_ble_eq_true rfl, Nat.le_of_ble_eq_true rfl⟩ rfl rfl rfl rfl (Nat.le_of_ble_eq_true rfl) dX2_rotated_31 rfl rfl (fun H locs hP hD hS => ?_)
    obtain rfl := Option.some.inj hm
    exact k_lret hx hb hr hlocks hQc hP hS rfl rfl dX2_rotated_34
  · replace hm := hm_f c_2 hm
    refine lv_lload hx hb dX2_rotated_11 (lv_at hl 0 rfl) ?_
    refine lv_iload_n hx hb dX2_rotated_13 rfl (lv_at hl 3 rfl) ?_
    refine lv_aload_n hx hb dX2_rotated_14 rfl (lv_at hl 1 rfl) ?_
    refine va_get (D := D) (cl := classes) (ci := 0) (v := .int v_t_isWide) (C := RX2) (T := TX2) (N := 5) hx hb ht in_RX2 hown hK.1 hP 0 rfl rfl 4 (by decide) (ht _ q_130) (fun _ h9 => h9) rfl dX2_rotated_15 ?_
    obtain ⟨r_4, hr_4, hm⟩ := hm_b hm
    refine k_S (as := [.long r_1, .int p2, .int v_t_isWide]) (rest := []) (ws' := [(a_t, .inr (0, [.ref a_t_cells, .ref a_t_cellsBefore, .ref a_t_page, .ref a_t_reader, .int v_t_isWide])), (a_t_cells, .inl (cy 1, 8, .inr (.inl f_t_cells))), (a_t_cellsBefore, .inl (cy 1, 8, .inr (.inl f_t_cellsBefore))), (a_t_page, .inr (3, [.ref a_t_page_bytes, .int v_t_page_length])), (a_t_page_bytes, .inl (cy 0, n_t_page_bytes, .inl f_t_page_bytes)), (a_t_reader, .inr (2, [.long v_t_reader_value]))]) (st2 := [.long r_4]) hx hb hml hown ht hK hP hD hS hA hC hR hl (kcX1_rotatedLeft l D cy g r_1 p2 v_t_isWide r_4 hr_4) [] q_752 q_753 q_60 q_754 hyX1_rotatedLeft ⟨Nat.le_of_ble_eq_true rfl, Nat.le_of_ble_eq_true rfl, Nat.le_of_ble_eq_true rfl, Nat.le_of_ble_eq_true rfl⟩ rfl rfl rfl rfl (Nat.le_of_ble_eq_true rfl) dX2_rotated_18 rfl rfl (fun H locs hP hD hS => ?_)
    refine lv_goto (tgt := 34) hx hb dX2_rotated_21 (by decide) ?_
    obtain rfl := Option.some.inj hm
    exact k_lret hx hb hr hlocks hQc hP hS rfl rfl dX2_rotated_34
theorem dX2_combined_0 : decode cX2_combined 0 = .ok (.aload_n 0, 1) := by decide +kernel
theorem dX2_combined_1 : decode cX2_combined 1 = .ok (.iload_n 1, 1) := by decide +kernel
theorem dX2_combined_2 : decode cX2_combined 2 = .ok (.invokevirtual 61, 3) := by decide +kernel
theorem dX2_combined_5 : decode cX2_combined 5 = .ok (.lstore 4, 2) := by decide +kernel
theorem dX2_combined_7 : decode cX2_combined 7 = .ok (.aload_n 0, 1) := by decide +kernel
theorem dX2_combined_8 : decode cX2_combined 8 = .ok (.iload_n 2, 1) := by decide +kernel
theorem dX2_combined_9 : decode cX2_combined 9 = .ok (.invokevirtual 61, 3) := by decide +kernel
theorem dX2_combined_12 : decode cX2_combined 12 = .ok (.lstore 6, 2) := by decide +kernel
theorem dX2_combined_14 : decode cX2_combined 14 = .ok (.iload_n 3, 1) := by decide +kernel
theorem dX2_combined_15 : decode cX2_combined 15 = .ok (.tableswitch 63 0 4 #[33, 39, 45, 51, 57], 33) := by decide +kernel
theorem dX2_combined_48 : decode cX2_combined 48 = .ok (.lload 4, 2) := by decide +kernel
theorem dX2_combined_50 : decode cX2_combined 50 = .ok (.lload 6, 2) := by decide +kernel
theorem dX2_combined_52 : decode cX2_combined 52 = .ok (.ladd, 1) := by decide +kernel
theorem dX2_combined_53 : decode cX2_combined 53 = .ok (.lreturn, 1) := by decide +kernel
theorem dX2_combined_54 : decode cX2_combined 54 = .ok (.lload 4, 2) := by decide +kernel
theorem dX2_combined_56 : decode cX2_combined 56 = .ok (.lload 6, 2) := by decide +kernel
theorem dX2_combined_58 : decode cX2_combined 58 = .ok (.lsub, 1) := by decide +kernel
theorem dX2_combined_59 : decode cX2_combined 59 = .ok (.lreturn, 1) := by decide +kernel
theorem dX2_combined_60 : decode cX2_combined 60 = .ok (.lload 4, 2) := by decide +kernel
theorem dX2_combined_62 : decode cX2_combined 62 = .ok (.lload 6, 2) := by decide +kernel
theorem dX2_combined_64 : decode cX2_combined 64 = .ok (.lmul, 1) := by decide +kernel
theorem dX2_combined_65 : decode cX2_combined 65 = .ok (.lreturn, 1) := by decide +kernel
theorem dX2_combined_66 : decode cX2_combined 66 = .ok (.lload 4, 2) := by decide +kernel
theorem dX2_combined_68 : decode cX2_combined 68 = .ok (.lload 6, 2) := by decide +kernel
theorem dX2_combined_70 : decode cX2_combined 70 = .ok (.land, 1) := by decide +kernel
theorem dX2_combined_71 : decode cX2_combined 71 = .ok (.lreturn, 1) := by decide +kernel
theorem dX2_combined_72 : decode cX2_combined 72 = .ok (.lload 4, 2) := by decide +kernel
theorem dX2_combined_74 : decode cX2_combined 74 = .ok (.lload 6, 2) := by decide +kernel
theorem dX2_combined_76 : decode cX2_combined 76 = .ok (.lor, 1) := by decide +kernel
theorem dX2_combined_77 : decode cX2_combined 77 = .ok (.lreturn, 1) := by decide +kernel
theorem dX2_combined_78 : decode cX2_combined 78 = .ok (.lload 4, 2) := by decide +kernel
theorem dX2_combined_80 : decode cX2_combined 80 = .ok (.lload 6, 2) := by decide +kernel
theorem dX2_combined_82 : decode cX2_combined 82 = .ok (.lxor, 1) := by decide +kernel
theorem dX2_combined_83 : decode cX2_combined 83 = .ok (.lreturn, 1) := by decide +kernel
def mX2_combined (f_t_cells : Nat → Int64) (v_t_isWide : Int32) (p1 : Int32) (p2 : Int32) (p3 : Int32) : Option (Int64) := ((mX2_signed f_t_cells v_t_isWide p1).bind (fun r_1 => ((mX2_signed f_t_cells v_t_isWide p2).bind (fun r_2 => (if p3 = 0 then some (r_1 + r_2) else (if p3 = 1 then some (r_1 - r_2) else (if p3 = 2 then some (r_1 * r_2) else (if p3 = 3 then some (r_1 &&& r_2) else (if p3 = 4 then some (r_1 ||| r_2) else some (r_1 ^^^ r_2))))))))))
set_option maxHeartbeats 4000000 in
set_option maxRecDepth 100000 in
theorem kcX2_combined (l : Launch) (D : va_G) (cy : Nat → ClassId) (g : Nat → Nat) (a_t : Nat) (a_t_cells : Nat) (a_t_cellsBefore : Nat) (a_t_page : Nat) (a_t_page_bytes : Nat) (a_t_reader : Nat) (n_t_page_bytes : Nat) (f_t_cells : Nat → Int64) (f_t_cellsBefore : Nat → Int64) (f_t_page_bytes : Nat → Int32) (v_t_page_length : Int32) (v_t_reader_value : Int64) (v_t_isWide : Int32) (p1 : Int32) (p2 : Int32) (p3 : Int32) (R : Int64) (hm : mX2_combined f_t_cells v_t_isWide p1 p2 p3 = some R) : Con l D cy g yX2_combined cX2_combined 8 (some .long) 2 43 0 0 [.ref a_t, .int p1, .int p2, .int p3] [(a_t, .inr (0, [.ref a_t_cells, .ref a_t_cellsBefore, .ref a_t_page, .ref a_t_reader, .int v_t_isWide])), (a_t_cells, .inl (cy 1, 8, .inr (.inl f_t_cells))), (a_t_cellsBefore, .inl (cy 1, 8, .inr (.inl f_t_cellsBefore))), (a_t_page, .inr (3, [.ref a_t_page_bytes, .int v_t_page_length])), (a_t_page_bytes, .inl (cy 0, n_t_page_bytes, .inl f_t_page_bytes)), (a_t_reader, .inr (2, [.long v_t_reader_value]))] [(a_t, .inr (0, [.ref a_t_cells, .ref a_t_cellsBefore, .ref a_t_page, .ref a_t_reader, .int v_t_isWide])), (a_t_cells, .inl (cy 1, 8, .inr (.inl f_t_cells))), (a_t_cellsBefore, .inl (cy 1, 8, .inr (.inl f_t_cellsBefore))), (a_t_page, .inr (3, [.ref a_t_page_bytes, .int v_t_page_length])), (a_t_page_bytes, .inl (cy 0, n_t_page_bytes, .inl f_t_page_bytes)), (a_t_reader, .inr (2, [.long v_t_reader_value]))] (some (.long R)) := by
  refine Con.of (by decide +kernel) (Nat.le_of_ble_eq_true rfl) ?_
  intro p e RM s m ar below meth c A Qc ls hx hb hr hml hown hlocks hnm ht hK hP hD hS hA hR hC hQc hl
  have hown : s.vm.findClass RX2 = some m.cls := hown
  have hl : lv_has ls 8 [(0, .ref a_t), (1, .int p1), (2, .int p2), (3, .int p3)] := hl
  rw [mX2_combined] at hm
  refine lv_aload_n hx hb dX2_combined_0 rfl (lv_at hl 0 rfl) ?_
  refine lv_iload_n hx hb dX2_combined_1 rfl (lv_at hl 1 rfl) ?_
  obtain ⟨r_1, hr_1, hm⟩ := hm_b hm
  refine k_V (as := [.int p1]) (rest := []) (ws' := [(a_t, .inr (0, [.ref a_t_cells, .ref a_t_cellsBefore, .ref a_t_page, .ref a_t_reader, .int v_t_isWide])), (a_t_cells, .inl (cy 1, 8, .inr (.inl f_t_cells))), (a_t_cellsBefore, .inl (cy 1, 8, .inr (.inl f_t_cellsBefore))), (a_t_page, .inr (3, [.ref a_t_page_bytes, .int v_t_page_length])), (a_t_page_bytes, .inl (cy 0, n_t_page_bytes, .inl f_t_page_bytes)), (a_t_reader, .inr (2, [.long v_t_reader_value]))]) (st2 := [.long r_1]) (i0 := 0) hx hb hml hown ht hK hP hD hS hA hC hR hl (kcX2_signed l D cy g a_t a_t_cells a_t_cellsBefore a_t_page a_t_page_bytes a_t_reader n_t_page_bytes f_t_cells f_t_cellsBefore f_t_page_bytes v_t_page_length v_t_reader_value v_t_isWide p1 r_1 hr_1) [0, 1, 2, 3, 4, 5] q_338 q_288 q_289 q_44 q_290 hyX2_signed ⟨rfl, rfl, rfl⟩ ⟨Nat.le_of_ble_eq_true rfl, Nat.le_of_ble_eq_true rfl, Nat.le_of_ble_eq_true rfl, Nat.le_of_ble_eq_true rfl⟩ rfl rfl rfl rfl (Nat.le_of_ble_eq_true rfl) dX2_combined_2 rfl rfl (fun H locs hP hD hS => ?_)
  refine lv_lstore (lv' := [(4, .long r_1), (0, .ref a_t), (1, .int p1), (2, .int p2), (3, .int p3)]) hx hb dX2_combined_5 hl (by decide) rfl (fun ls hl => ?_)
  refine lv_aload_n hx hb dX2_combined_7 rfl (lv_at hl 1 rfl) ?_
  refine lv_iload_n hx hb dX2_combined_8 rfl (lv_at hl 3 rfl) ?_
  obtain ⟨r_2, hr_2, hm⟩ := hm_b hm
  refine k_V (as := [.int p2]) (rest := []) (ws' := [(a_t, .inr (0, [.ref a_t_cells, .ref a_t_cellsBefore, .ref a_t_page, .ref a_t_reader, .int v_t_isWide])), (a_t_cells, .inl (cy 1, 8, .inr (.inl f_t_cells))), (a_t_cellsBefore, .inl (cy 1, 8, .inr (.inl f_t_cellsBefore))), (a_t_page, .inr (3, [.ref a_t_page_bytes, .int v_t_page_length])), (a_t_page_bytes, .inl (cy 0, n_t_page_bytes, .inl f_t_page_bytes)), (a_t_reader, .inr (2, [.long v_t_reader_value]))]) (st2 := [.long r_2]) (i0 := 0) hx hb hml hown ht hK hP hD hS hA hC hR hl (kcX2_signed l D cy g a_t a_t_cells a_t_cellsBefore a_t_page a_t_page_bytes a_t_reader n_t_page_bytes f_t_cells f_t_cellsBefore f_t_page_bytes v_t_page_length v_t_reader_value v_t_isWide p2 r_2 hr_2) [0, 1, 2, 3, 4, 5] q_338 q_288 q_289 q_44 q_290 hyX2_signed ⟨rfl, rfl, rfl⟩ ⟨Nat.le_of_ble_eq_true rfl, Nat.le_of_ble_eq_true rfl, Nat.le_of_ble_eq_true rfl, Nat.le_of_ble_eq_true rfl⟩ rfl rfl rfl rfl (Nat.le_of_ble_eq_true rfl) dX2_combined_9 rfl rfl (fun H locs hP hD hS => ?_)
  refine lv_lstore (lv' := [(6, .long r_2), (4, .long r_1), (0, .ref a_t), (1, .int p1), (2, .int p2), (3, .int p3)]) hx hb dX2_combined_12 hl (by decide) rfl (fun ls hl => ?_)
  refine lv_iload_n hx hb dX2_combined_14 rfl (lv_at hl 5 rfl) ?_
  rcases Decidable.em (p3 = 0) with c_3 | c_3
  · replace hm := hm_t c_3 hm
    refine lv_tableIn (tgt := 48) (off := 33) hx hb dX2_combined_15 (by rw [c_3]; decide) (by rw [c_3]; decide) (by rw [c_3]; rfl) (by decide) ?_
    refine lv_lload hx hb dX2_combined_48 (lv_at hl 1 rfl) ?_
    refine lv_lload hx hb dX2_combined_50 (lv_at hl 0 rfl) ?_
    refine lv_ladd hx hb dX2_combined_52 ?_
    obtain rfl := Option.some.inj hm
    exact k_lret hx hb hr hlocks hQc hP hS rfl rfl dX2_combined_53
  replace hm := hm_f c_3 hm
  rcases Decidable.em (p3 = 1) with c_4 | c_4
  · replace hm := hm_t c_4 hm
    refine lv_tableIn (tgt := 54) (off := 39) hx hb dX2_combined_15 (by rw [c_4]; decide) (by rw [c_4]; decide) (by rw [c_4]; rfl) (by decide) ?_
    refine lv_lload hx hb dX2_combined_54 (lv_at hl 1 rfl) ?_
    refine lv_lload hx hb dX2_combined_56 (lv_at hl 0 rfl) ?_
    refine lv_lsub hx hb dX2_combined_58 ?_
    obtain rfl := Option.some.inj hm
    exact k_lret hx hb hr hlocks hQc hP hS rfl rfl dX2_combined_59
  replace hm := hm_f c_4 hm
  rcases Decidable.em (p3 = 2) with c_5 | c_5
  · replace hm := hm_t c_5 hm
    refine lv_tableIn (tgt := 60) (off := 45) hx hb dX2_combined_15 (by rw [c_5]; decide) (by rw [c_5]; decide) (by rw [c_5]; rfl) (by decide) ?_
    refine lv_lload hx hb dX2_combined_60 (lv_at hl 1 rfl) ?_
    refine lv_lload hx hb dX2_combined_62 (lv_at hl 0 rfl) ?_
    refine lv_lmul hx hb dX2_combined_64 ?_
    obtain rfl := Option.some.inj hm
    exact k_lret hx hb hr hlocks hQc hP hS rfl rfl dX2_combined_65
  replace hm := hm_f c_5 hm
  rcases Decidable.em (p3 = 3) with c_6 | c_6
  · replace hm := hm_t c_6 hm
    refine lv_tableIn (tgt := 66) (off := 51) hx hb dX2_combined_15 (by rw [c_6]; decide) (by rw [c_6]; decide) (by rw [c_6]; rfl) (by decide) ?_
    refine lv_lload hx hb dX2_combined_66 (lv_at hl 1 rfl) ?_
    refine lv_lload hx hb dX2_combined_68 (lv_at hl 0 rfl) ?_
    refine lv_land hx hb dX2_combined_70 ?_
    obtain rfl := Option.some.inj hm
    exact k_lret hx hb hr hlocks hQc hP hS rfl rfl dX2_combined_71
  replace hm := hm_f c_6 hm
  rcases Decidable.em (p3 = 4) with c_7 | c_7
  · replace hm := hm_t c_7 hm
    refine lv_tableIn (tgt := 72) (off := 57) hx hb dX2_combined_15 (by rw [c_7]; decide) (by rw [c_7]; decide) (by rw [c_7]; rfl) (by decide) ?_
    refine lv_lload hx hb dX2_combined_72 (lv_at hl 1 rfl) ?_
    refine lv_lload hx hb dX2_combined_74 (lv_at hl 0 rfl) ?_
    refine lv_lor hx hb dX2_combined_76 ?_
    obtain rfl := Option.some.inj hm
    exact k_lret hx hb hr hlocks hQc hP hS rfl rfl dX2_combined_77
  replace hm := hm_f c_7 hm
  refine lv_tableOut (tgt := 78) hx hb dX2_combined_15 (k_swout (fun j h1 h2 => by
    rcases (show j = 0 ∨ j = 1 ∨ j = 2 ∨ j = 3 ∨ j = 4 by omega) with rfl | rfl | rfl | rfl | rfl
    · exact c_3
    · exact c_4
    · exact c_5
    · exact c_6
    · exact c_7)) (by decide) ?_
  refine lv_lload hx hb dX2_combined_78 (lv_at hl 1 rfl) ?_
  refine lv_lload hx hb dX2_combined_80 (lv_at hl 0 rfl) ?_
  refine lv_lxor hx hb dX2_combined_82 ?_
  obtain rfl := Option.some.inj hm
  exact k_lret hx hb hr hlocks hQc hP hS rfl rfl dX2_combined_83
theorem dX2_divideInto_0 : decode cX2_divideInto 0 = .ok (.aload_n 0, 1) := by decide +kernel
theorem dX2_divideInto_1 : decode cX2_divideInto 1 = .ok (.iload_n 1, 1) := by decide +kernel
theorem dX2_divideInto_2 : decode cX2_divideInto 2 = .ok (.iload 4, 2) := by decide +kernel
theorem dX2_divideInto_4 : decode cX2_divideInto 4 = .ok (.invokevirtual 63, 3) := by decide +kernel
theorem dX2_divideInto_7 : decode cX2_divideInto 7 = .ok (.lstore 5, 2) := by decide +kernel
theorem dX2_divideInto_9 : decode cX2_divideInto 9 = .ok (.aload_n 0, 1) := by decide +kernel
theorem dX2_divideInto_10 : decode cX2_divideInto 10 = .ok (.iload_n 2, 1) := by decide +kernel
theorem dX2_divideInto_11 : decode cX2_divideInto 11 = .ok (.iload 4, 2) := by decide +kernel
theorem dX2_divideInto_13 : decode cX2_divideInto 13 = .ok (.invokevirtual 63, 3) := by decide +kernel
theorem dX2_divideInto_16 : decode cX2_divideInto 16 = .ok (.lstore 7, 2) := by decide +kernel
theorem dX2_divideInto_18 : decode cX2_divideInto 18 = .ok (.lload 7, 2) := by decide +kernel
theorem dX2_divideInto_20 : decode cX2_divideInto 20 = .ok (.lconst 0, 1) := by decide +kernel
theorem dX2_divideInto_21 : decode cX2_divideInto 21 = .ok (.lcmp, 1) := by decide +kernel
theorem dX2_divideInto_22 : decode cX2_divideInto 22 = .ok (.ifCond .ne 5, 3) := by decide +kernel
theorem dX2_divideInto_25 : decode cX2_divideInto 25 = .ok (.iconst 0, 1) := by decide +kernel
theorem dX2_divideInto_26 : decode cX2_divideInto 26 = .ok (.ireturn, 1) := by decide +kernel
theorem dX2_divideInto_27 : decode cX2_divideInto 27 = .ok (.iload 4, 2) := by decide +kernel
theorem dX2_divideInto_29 : decode cX2_divideInto 29 = .ok (.ifCond .eq 13, 3) := by decide +kernel
theorem dX2_divideInto_32 : decode cX2_divideInto 32 = .ok (.lload 5, 2) := by decide +kernel
theorem dX2_divideInto_34 : decode cX2_divideInto 34 = .ok (.lload 7, 2) := by decide +kernel
theorem dX2_divideInto_36 : decode cX2_divideInto 36 = .ok (.invokestatic 129, 3) := by decide +kernel
theorem dX2_divideInto_39 : decode cX2_divideInto 39 = .ok (.goto 8, 3) := by decide +kernel
theorem dX2_divideInto_42 : decode cX2_divideInto 42 = .ok (.lload 5, 2) := by decide +kernel
theorem dX2_divideInto_44 : decode cX2_divideInto 44 = .ok (.lload 7, 2) := by decide +kernel
theorem dX2_divideInto_46 : decode cX2_divideInto 46 = .ok (.ldiv, 1) := by decide +kernel
theorem dX2_divideInto_47 : decode cX2_divideInto 47 = .ok (.lstore 9, 2) := by decide +kernel
theorem dX2_divideInto_49 : decode cX2_divideInto 49 = .ok (.aload_n 0, 1) := by decide +kernel
theorem dX2_divideInto_50 : decode cX2_divideInto 50 = .ok (.iload_n 1, 1) := by decide +kernel
theorem dX2_divideInto_51 : decode cX2_divideInto 51 = .ok (.lload 9, 2) := by decide +kernel
theorem dX2_divideInto_53 : decode cX2_divideInto 53 = .ok (.invokevirtual 89, 3) := by decide +kernel
theorem dX2_divideInto_56 : decode cX2_divideInto 56 = .ok (.pop2, 1) := by decide +kernel
theorem dX2_divideInto_57 : decode cX2_divideInto 57 = .ok (.aload_n 0, 1) := by decide +kernel
theorem dX2_divideInto_58 : decode cX2_divideInto 58 = .ok (.iload_n 3, 1) := by decide +kernel
theorem dX2_divideInto_59 : decode cX2_divideInto 59 = .ok (.lload 5, 2) := by decide +kernel
theorem dX2_divideInto_61 : decode cX2_divideInto 61 = .ok (.lload 9, 2) := by decide +kernel
theorem dX2_divideInto_63 : decode cX2_divideInto 63 = .ok (.lload 7, 2) := by decide +kernel
theorem dX2_divideInto_65 : decode cX2_divideInto 65 = .ok (.lmul, 1) := by decide +kernel
theorem dX2_divideInto_66 : decode cX2_divideInto 66 = .ok (.lsub, 1) := by decide +kernel
theorem dX2_divideInto_67 : decode cX2_divideInto 67 = .ok (.invokevirtual 89, 3) := by decide +kernel
theorem dX2_divideInto_70 : decode cX2_divideInto 70 = .ok (.pop2, 1) := by decide +kernel
theorem dX2_divideInto_71 : decode cX2_divideInto 71 = .ok (.iconst 1, 1) := by decide +kernel
theorem dX2_divideInto_72 : decode cX2_divideInto 72 = .ok (.ireturn, 1) := by decide +kernel
def mX2_divideInto (f_t_cells : Nat → Int64) (v_t_isWide : Int32) (p1 : Int32) (p2 : Int32) (p3 : Int32) (p4 : Int32) : Option (Int32 × (Nat → Int64)) := ((mX2_valueOf f_t_cells v_t_isWide p1 p4).bind (fun r_1 => ((mX2_valueOf f_t_cells v_t_isWide p2 p4).bind (fun r_2 => (if (lg_cmp r_2 0) = 0 then some (0, f_t_cells) else (((if p4 = 0 then (if r_2 = 0 then none else some (r_1 / r_2)) else ((mX1_plainQuotient r_1 r_2).bind (fun r_9 => some r_9))) : Option (Int64)).bind (fun x_6 => ((mX2_put f_t_cells v_t_isWide p1 x_6).bind (fun r_7 => ((mX2_put r_7.2 v_t_isWide p3 (r_1 - (x_6 * r_2))).bind (fun r_8 => some (1, r_8.2))))))))))))
set_option maxHeartbeats 4000000 in
set_option maxRecDepth 100000 in
theorem kcX2_divideInto (l : Launch) (D : va_G) (cy : Nat → ClassId) (g : Nat → Nat) (a_t : Nat) (a_t_cells : Nat) (a_t_cellsBefore : Nat) (a_t_page : Nat) (a_t_page_bytes : Nat) (a_t_reader : Nat) (n_t_page_bytes : Nat) (f_t_cells : Nat → Int64) (f_t_cellsBefore : Nat → Int64) (f_t_page_bytes : Nat → Int32) (v_t_page_length : Int32) (v_t_reader_value : Int64) (v_t_isWide : Int32) (p1 : Int32) (p2 : Int32) (p3 : Int32) (p4 : Int32) (R : Int32 × (Nat → Int64)) (hm : mX2_divideInto f_t_cells v_t_isWide p1 p2 p3 p4 = some R) : Con l D cy g yX2_divideInto cX2_divideInto 11 (some .boolean) 3 65 0 0 [.ref a_t, .int p1, .int p2, .int p3, .int p4] [(a_t, .inr (0, [.ref a_t_cells, .ref a_t_cellsBefore, .ref a_t_page, .ref a_t_reader, .int v_t_isWide])), (a_t_cells, .inl (cy 1, 8, .inr (.inl f_t_cells))), (a_t_cellsBefore, .inl (cy 1, 8, .inr (.inl f_t_cellsBefore))), (a_t_page, .inr (3, [.ref a_t_page_bytes, .int v_t_page_length])), (a_t_page_bytes, .inl (cy 0, n_t_page_bytes, .inl f_t_page_bytes)), (a_t_reader, .inr (2, [.long v_t_reader_value]))] [(a_t, .inr (0, [.ref a_t_cells, .ref a_t_cellsBefore, .ref a_t_page, .ref a_t_reader, .int v_t_isWide])), (a_t_cells, .inl (cy 1, 8, .inr (.inl R.2))), (a_t_cellsBefore, .inl (cy 1, 8, .inr (.inl f_t_cellsBefore))), (a_t_page, .inr (3, [.ref a_t_page_bytes, .int v_t_page_length])), (a_t_page_bytes, .inl (cy 0, n_t_page_bytes, .inl f_t_page_bytes)), (a_t_reader, .inr (2, [.long v_t_reader_value]))] (some (.int R.1)) := by
  refine Con.of (by decide +kernel) (Nat.le_of_ble_eq_true rfl) ?_
  intro p e RM s m ar below meth c A Qc ls hx hb hr hml hown hlocks hnm ht hK hP hD hS hA hR hC hQc hl
  have hown : s.vm.findClass RX2 = some m.cls := hown
  have hl : lv_has ls 11 [(0, .ref a_t), (1, .int p1), (2, .int p2), (3, .int p3), (4, .int p4)] := hl
  rw [mX2_divideInto] at hm
  refine lv_aload_n hx hb dX2_divideInto_0 rfl (lv_at hl 0 rfl) ?_
  refine lv_iload_n hx hb dX2_divideInto_1 rfl (lv_at hl 1 rfl) ?_
  refine lv_iload hx hb dX2_divideInto_2 (lv_at hl 4 rfl) ?_
  obtain ⟨r_1, hr_1, hm⟩ := hm_b hm
  refine k_V (as := [.int p1, .int p4]) (rest := []) (ws' := [(a_t, .inr (0, [.ref a_t_cells, .ref a_t_cellsBefore, .ref a_t_page, .ref a_t_reader, .int v_t_isWide])), (a_t_cells, .inl (cy 1, 8, .inr (.inl f_t_cells))), (a_t_cellsBefore, .inl (cy 1, 8, .inr (.inl f_t_cellsBefore))), (a_t_page, .inr (3, [.ref a_t_page_bytes, .int v_t_page_length])), (a_t_page_bytes, .inl (cy 0, n_t_page_bytes, .inl f_t_page_bytes)), (a_t_reader, .inr (2, [.long v_t_reader_value]))]) (st2 := [.long r_1]) (i0 := 0) hx hb hml hown ht hK hP hD hS hA hC hR hl (kcX2_valueOf l D cy g a_t a_t_cells a_t_cellsBefore a_t_page a_t_page_bytes a_t_reader n_t_page_bytes f_t_cells f_t_cellsBefore f_t_page_bytes v_t_page_length v_t_reader_value v_t_isWide p1 p4 r_1 hr_1) [0, 1, 2, 3, 4, 5] q_381 q_327 q_328 q_44 q_329 hyX2_valueOf ⟨rfl, rfl, rfl⟩ ⟨Nat.le_of_ble_eq_true rfl, Nat.le_of_ble_eq_true rfl, Nat.le_of_ble_eq_true rfl, Nat.le_of_ble_eq_true rfl⟩ rfl rfl rfl rfl (Nat.le_of_ble_eq_true rfl) dX2_divideInto_4 rfl rfl (fun H locs hP hD hS => ?_)
  refine lv_lstore (lv' := [(5, .long r_1), (0, .ref a_t), (1, .int p1), (2, .int p2), (3, .int p3), (4, .int p4)]) hx hb dX2_divideInto_7 hl (by decide) rfl (fun ls hl => ?_)
  refine lv_aload_n hx hb dX2_divideInto_9 rfl (lv_at hl 1 rfl) ?_
  refine lv_iload_n hx hb dX2_divideInto_10 rfl (lv_at hl 3 rfl) ?_
  refine lv_iload hx hb dX2_divideInto_11 (lv_at hl 5 rfl) ?_
  obtain ⟨r_2, hr_2, hm⟩ := hm_b hm
  refine k_V (as := [.int p2, .int p4]) (rest := []) (ws' := [(a_t, .inr (0, [.ref a_t_cells, .ref a_t_cellsBefore, .ref a_t_page, .ref a_t_reader, .int v_t_isWide])), (a_t_cells, .inl (cy 1, 8, .inr (.inl f_t_cells))), (a_t_cellsBefore, .inl (cy 1, 8, .inr (.inl f_t_cellsBefore))), (a_t_page, .inr (3, [.ref a_t_page_bytes, .int v_t_page_length])), (a_t_page_bytes, .inl (cy 0, n_t_page_bytes, .inl f_t_page_bytes)), (a_t_reader, .inr (2, [.long v_t_reader_value]))]) (st2 := [.long r_2]) (i0 := 0) hx hb hml hown ht hK hP hD hS hA hC hR hl (kcX2_valueOf l D cy g a_t a_t_cells a_t_cellsBefore a_t_page a_t_page_bytes a_t_reader n_t_page_bytes f_t_cells f_t_cellsBefore f_t_page_bytes v_t_page_length v_t_reader_value v_t_isWide p2 p4 r_2 hr_2) [0, 1, 2, 3, 4, 5] q_381 q_327 q_328 q_44 q_329 hyX2_valueOf ⟨rfl, rfl, rfl⟩ ⟨Nat.le_of_ble_eq_true rfl, Nat.le_of_ble_eq_true rfl, Nat.le_of_ble_eq_true rfl, Nat.le_of_ble_eq_true rfl⟩ rfl rfl rfl rfl (Nat.le_of_ble_eq_true rfl) dX2_divideInto_13 rfl rfl (fun H locs hP hD hS => ?_)
  refine lv_lstore (lv' := [(7, .long r_2), (5, .long r_1), (0, .ref a_t), (1, .int p1), (2, .int p2), (3, .int p3), (4, .int p4)]) hx hb dX2_divideInto_16 hl (by decide) rfl (fun ls hl => ?_)
  refine lv_lload hx hb dX2_divideInto_18 (lv_at hl 0 rfl) ?_
  refine lv_lconst (v := 0) hx hb dX2_divideInto_20 (by decide) ?_
  refine W.lcmp hx hb dX2_divideInto_21 ?_
  refine lv_if_ne (tgt := 27) hx hb dX2_divideInto_22 (by decide) (fun c_3 => ?_) (fun c_3 => ?_)
  · replace hm := hm_f c_3 hm
    refine lv_iload hx hb dX2_divideInto_27 (lv_at hl 6 rfl) ?_
    obtain ⟨x_6, hreg, hm⟩ := hm_b hm
    have J47 : ∀ (H : Heap) (locs : List Loc) (ls : Array Slot), va_P D classes [(a_t, .inr (0, [.ref a_t_cells, .ref a_t_cellsBefore, .ref a_t_page, .ref a_t_reader, .int v_t_isWide])), (a_t_cells, .inl (cy 1, 8, .inr (.inl f_t_cells))), (a_t_cellsBefore, .inl (cy 1, 8, .inr (.inl f_t_cellsBefore))), (a_t_page, .inr (3, [.ref a_t_page_bytes, .int v_t_page_length])), (a_t_page_bytes, .inl (cy 0, n_t_page_bytes, .inl f_t_page_bytes)), (a_t_reader, .inr (2, [.long v_t_reader_value]))] H → va_D A [(a_t, .inr (0, [.ref a_t_cells, .ref a_t_cellsBefore, .ref a_t_page, .ref a_t_reader, .int v_t_isWide])), (a_t_cells, .inl (cy 1, 8, .inr (.inl f_t_cells))), (a_t_cellsBefore, .inl (cy 1, 8, .inr (.inl f_t_cellsBefore))), (a_t_page, .inr (3, [.ref a_t_page_bytes, .int v_t_page_length])), (a_t_page_bytes, .inl (cy 0, n_t_page_bytes, .inl f_t_page_bytes)), (a_t_reader, .inr (2, [.long v_t_reader_value]))] → va_S A s.heap H locs → lv_has ls 11 [(7, .long r_2), (5, .long r_1), (0, .ref a_t), (1, .int p1), (3, .int p3)] → W p l e RM s m ar below meth c H locs 0 0 (MQ below Qc ar s 0 0 A) (F0 m 47 ls [.long x_6]) := by
      intro H locs ls hP hD hS hl
      refine lv_lstore (lv' := [(9, .long x_6), (7, .long r_2), (5, .long r_1), (0, .ref a_t), (1, .int p1), (3, .int p3)]) hx hb dX2_divideInto_47 hl (by decide) rfl (fun ls hl => ?_)
      refine lv_aload_n hx hb dX2_divideInto_49 rfl (lv_at hl 3 rfl) ?_
      refine lv_iload_n hx hb dX2_divideInto_50 rfl (lv_at hl 4 rfl) ?_
      refine lv_lload hx hb dX2_divideInto_51 (lv_at hl 0 rfl) ?_
      obtain ⟨r_7, hr_7, hm⟩ := hm_b hm
      refine k_V (as := [.int p1, .long x_6]) (rest := []) (ws' := [(a_t, .inr (0, [.ref a_t_cells, .ref a_t_cellsBefore, .ref a_t_page, .ref a_t_reader, .int v_t_isWide])), (a_t_cells, .inl (cy 1, 8, .inr (.inl r_7.2))), (a_t_cellsBefore, .inl (cy 1, 8, .inr (.inl f_t_cellsBefore))), (a_t_page, .inr (3, [.ref a_t_page_bytes, .int v_t_page_length])), (a_t_page_bytes, .inl (cy 0, n_t_page_bytes, .inl f_t_page_bytes)), (a_t_reader, .inr (2, [.long v_t_reader_value]))]) (st2 := [.long r_7.1]) (i0 := 0) hx hb hml hown ht hK hP hD hS hA hC hR hl (kcX2_put l D cy g a_t a_t_cells a_t_cellsBefore a_t_page a_t_page_bytes a_t_reader n_t_page_bytes f_t_cells f_t_cellsBefore f_t_page_bytes v_t_page_length v_t_reader_value v_t_isWide p1 x_6 r_7 hr_7) [0, 1, 2, 3, 4, 5] q_608 q_609 q_610 q_44 q_611 hyX2_put ⟨rfl, rfl, rfl⟩ ⟨Nat.le_of_ble_eq_true rfl, Nat.le_of_ble_eq_true rfl, Nat.le_of_ble_eq_true rfl, Nat.le_of_ble_eq_true rfl⟩ rfl rfl rfl rfl (Nat.le_of_ble_eq_true rfl) dX2_divideInto_53 rfl rfl (fun H locs hP hD hS => ?_)
      refine lv_pop2_2 hx hb dX2_divideInto_56 rfl ?_
      refine lv_aload_n hx hb dX2_divideInto_57 rfl (lv_at hl 3 rfl) ?_
      refine lv_iload_n hx hb dX2_divideInto_58 rfl (lv_at hl 5 rfl) ?_
      refine lv_lload hx hb dX2_divideInto_59 (lv_at hl 2 rfl) ?_
      refine lv_lload hx hb dX2_divideInto_61 (lv_at hl 0 rfl) ?_
      refine lv_lload hx hb dX2_divideInto_63 (lv_at hl 1 rfl) ?_
      refine lv_lmul hx hb dX2_divideInto_65 ?_
      refine lv_lsub hx hb dX2_divideInto_66 ?_
      obtain ⟨r_8, hr_8, hm⟩ := hm_b hm
      refine k_V (as := [.int p3, .long (r_1 - (x_6 * r_2))]) (rest := []) (ws' := [(a_t, .inr (0, [.ref a_t_cells, .ref a_t_cellsBefore, .ref a_t_page, .ref a_t_reader, .int v_t_isWide])), (a_t_cells, .inl (cy 1, 8, .inr (.inl r_8.2))), (a_t_cellsBefore, .inl (cy 1, 8, .inr (.inl f_t_cellsBefore))), (a_t_page, .inr (3, [.ref a_t_page_bytes, .int v_t_page_length])), (a_t_page_bytes, .inl (cy 0, n_t_page_bytes, .inl f_t_page_bytes)), (a_t_reader, .inr (2, [.long v_t_reader_value]))]) (st2 := [.long r_8.1]) (i0 := 0) hx hb hml hown ht hK hP hD hS hA hC hR hl (kcX2_put l D cy g a_t a_t_cells a_t_cellsBefore a_t_page a_t_page_bytes a_t_reader n_t_page_bytes r_7.2 f_t_cellsBefore f_t_page_bytes v_t_page_length v_t_reader_value v_t_isWide p3 (r_1 - (x_6 * r_2)) r_8 hr_8) [0, 1, 2, 3, 4, 5] q_608 q_609 q_610 q_44 q_611 hyX2_put ⟨rfl, rfl, rfl⟩ ⟨Nat.le_of_ble_eq_true rfl, Nat.le_of_ble_eq_true rfl, Nat.le_of_ble_eq_true rfl, Nat.le_of_ble_eq_true rfl⟩ rfl rfl rfl rfl (Nat.le_of_ble_eq_true rfl) dX2_divideInto_67 rfl rfl (fun H locs hP hD hS => ?_)
      refine lv_pop2_2 hx hb dX2_divideInto_70 rfl ?_
      refine lv_iconst (v := 1) hx hb dX2_divideInto_71 (by decide) ?_
      obtain rfl := Option.some.inj hm
      exact k_zret hx hb hr hlocks hQc rfl hP hS rfl rfl dX2_divideInto_72
    replace hm := hreg
    refine lv_if_eq (tgt := 42) hx hb dX2_divideInto_29 (by decide) (fun c_4 => ?_) (fun c_4 => ?_)
    · replace hm := hm_t c_4 hm
      refine lv_lload hx hb dX2_divideInto_42 (lv_at hl 1 rfl) ?_
      refine lv_lload hx hb dX2_divideInto_44 (lv_at hl 0 rfl) ?_
      obtain ⟨hne, hm⟩ := hm_g hm
      refine lv_ldiv hx hb dX2_divideInto_46 hne ?_
      obtain rfl := Option.some.inj hm
      exact J47 _ _ _ hP hD hS (lv_sub hl [0, 1, 2, 3, 5] rfl)
    · replace hm := hm_f c_4 hm
      refine lv_lload hx hb dX2_divideInto_32 (lv_at hl 1 rfl) ?_
      refine lv_lload hx hb dX2_divideInto_34 (lv_at hl 0 rfl) ?_
      obtain ⟨r_9, hr_9, hm⟩ := hm_b hm
      refine k_S (as := [.long r_1, .long r_2]) (rest := []) (ws' := [(a_t, .inr (0, [.ref a_t_cells, .ref a_t_cellsBefore, .ref a_t_page, .ref a_t_reader, .int v_t_isWide])), (a_t_cells, .inl (cy 1, 8, .inr (.inl f_t_cells))), (a_t_cellsBefore, .inl (cy 1, 8, .inr (.inl f_t_cellsBefore))), (a_t_page, .inr (3, [.ref a_t_page_bytes, .int v_t_page_length])), (a_t_page_bytes, .inl (cy 0, n_t_page_bytes, .inl f_t_page_bytes)), (a_t_reader, .inr (2, [.long v_t_reader_value]))]) (st2 := [.long r_9]) hx hb hml hown ht hK hP hD hS hA hC hR hl (kcX1_plainQuotient l D cy g r_1 r_2 r_9 hr_9) [] q_632 q_347 q_60 q_348 hyX1_plainQuotient ⟨Nat.le_of_ble_eq_true rfl, Nat.le_of_ble_eq_true rfl, Nat.le_of_ble_eq_true rfl, Nat.le_of_ble_eq_true rfl⟩ rfl rfl rfl rfl (Nat.le_of_ble_eq_true rfl) dX2_divideInto_36 rfl rfl (fun H locs hP hD hS => ?_)
      refine lv_goto (tgt := 47) hx hb dX2_divideInto_39 (by decide) ?_
      obtain rfl := Option.some.inj hm
      exact J47 _ _ _ hP hD hS (lv_sub hl [0, 1, 2, 3, 5] rfl)
  · replace hm := hm_t c_3 hm
    refine lv_iconst (v := 0) hx hb dX2_divideInto_25 (by decide) ?_
    obtain rfl := Option.some.inj hm
    exact k_zret hx hb hr hlocks hQc rfl hP hS rfl rfl dX2_divideInto_26
theorem dX2_compared_0 : decode cX2_compared 0 = .ok (.aload_n 0, 1) := by decide +kernel
theorem dX2_compared_1 : decode cX2_compared 1 = .ok (.iload_n 1, 1) := by decide +kernel
theorem dX2_compared_2 : decode cX2_compared 2 = .ok (.iload_n 3, 1) := by decide +kernel
theorem dX2_compared_3 : decode cX2_compared 3 = .ok (.invokevirtual 63, 3) := by decide +kernel
theorem dX2_compared_6 : decode cX2_compared 6 = .ok (.lstore 4, 2) := by decide +kernel
theorem dX2_compared_8 : decode cX2_compared 8 = .ok (.aload_n 0, 1) := by decide +kernel
theorem dX2_compared_9 : decode cX2_compared 9 = .ok (.iload_n 2, 1) := by decide +kernel
theorem dX2_compared_10 : decode cX2_compared 10 = .ok (.iload_n 3, 1) := by decide +kernel
theorem dX2_compared_11 : decode cX2_compared 11 = .ok (.invokevirtual 63, 3) := by decide +kernel
theorem dX2_compared_14 : decode cX2_compared 14 = .ok (.lstore 6, 2) := by decide +kernel
theorem dX2_compared_16 : decode cX2_compared 16 = .ok (.iload_n 3, 1) := by decide +kernel
theorem dX2_compared_17 : decode cX2_compared 17 = .ok (.ifCond .eq 13, 3) := by decide +kernel
theorem dX2_compared_20 : decode cX2_compared 20 = .ok (.lload 4, 2) := by decide +kernel
theorem dX2_compared_22 : decode cX2_compared 22 = .ok (.lload 6, 2) := by decide +kernel
theorem dX2_compared_24 : decode cX2_compared 24 = .ok (.invokestatic 133, 3) := by decide +kernel
theorem dX2_compared_27 : decode cX2_compared 27 = .ok (.goto 13, 3) := by decide +kernel
theorem dX2_compared_30 : decode cX2_compared 30 = .ok (.lload 4, 2) := by decide +kernel
theorem dX2_compared_32 : decode cX2_compared 32 = .ok (.lload 6, 2) := by decide +kernel
theorem dX2_compared_34 : decode cX2_compared 34 = .ok (.invokestatic 137, 3) := by decide +kernel
theorem dX2_compared_37 : decode cX2_compared 37 = .ok (.invokestatic 140, 3) := by decide +kernel
theorem dX2_compared_40 : decode cX2_compared 40 = .ok (.ireturn, 1) := by decide +kernel
def mX2_compared (f_t_cells : Nat → Int64) (v_t_isWide : Int32) (p1 : Int32) (p2 : Int32) (p3 : Int32) : Option (Int32) := ((mX2_valueOf f_t_cells v_t_isWide p1 p3).bind (fun r_1 => ((mX2_valueOf f_t_cells v_t_isWide p2 p3).bind (fun r_2 => (if p3 = 0 then ((mJ13_compare_74951 r_1 r_2).bind (fun r_4 => ((mJ6_signum_0f7a4 r_4).bind (fun r_5 => some r_5)))) else ((mX1_plainOrder r_1 r_2).bind (fun r_6 => some r_6)))))))
set_option maxHeartbeats 4000000 in
set_option maxRecDepth 100000 in
theorem kcX2_compared (l : Launch) (D : va_G) (cy : Nat → ClassId) (g : Nat → Nat) (a_t : Nat) (a_t_cells : Nat) (a_t_cellsBefore : Nat) (a_t_page : Nat) (a_t_page_bytes : Nat) (a_t_reader : Nat) (n_t_page_bytes : Nat) (f_t_cells : Nat → Int64) (f_t_cellsBefore : Nat → Int64) (f_t_page_bytes : Nat → Int32) (v_t_page_length : Int32) (v_t_reader_value : Int64) (v_t_isWide : Int32) (p1 : Int32) (p2 : Int32) (p3 : Int32) (R : Int32) (hm : mX2_compared f_t_cells v_t_isWide p1 p2 p3 = some R) : Con l D cy g yX2_compared cX2_compared 8 (some .int) 3 65 0 0 [.ref a_t, .int p1, .int p2, .int p3] [(a_t, .inr (0, [.ref a_t_cells, .ref a_t_cellsBefore, .ref a_t_page, .ref a_t_reader, .int v_t_isWide])), (a_t_cells, .inl (cy 1, 8, .inr (.inl f_t_cells))), (a_t_cellsBefore, .inl (cy 1, 8, .inr (.inl f_t_cellsBefore))), (a_t_page, .inr (3, [.ref a_t_page_bytes, .int v_t_page_length])), (a_t_page_bytes, .inl (cy 0, n_t_page_bytes, .inl f_t_page_bytes)), (a_t_reader, .inr (2, [.long v_t_reader_value]))] [(a_t, .inr (0, [.ref a_t_cells, .ref a_t_cellsBefore, .ref a_t_page, .ref a_t_reader, .int v_t_isWide])), (a_t_cells, .inl (cy 1, 8, .inr (.inl f_t_cells))), (a_t_cellsBefore, .inl (cy 1, 8, .inr (.inl f_t_cellsBefore))), (a_t_page, .inr (3, [.ref a_t_page_bytes, .int v_t_page_length])), (a_t_page_bytes, .inl (cy 0, n_t_page_bytes, .inl f_t_page_bytes)), (a_t_reader, .inr (2, [.long v_t_reader_value]))] (some (.int R)) := by
  refine Con.of (by decide +kernel) (Nat.le_of_ble_eq_true rfl) ?_
  intro p e RM s m ar below meth c A Qc ls hx hb hr hml hown hlocks hnm ht hK hP hD hS hA hR hC hQc hl
  have hown : s.vm.findClass RX2 = some m.cls := hown
  have hl : lv_has ls 8 [(0, .ref a_t), (1, .int p1), (2, .int p2), (3, .int p3)] := hl
  rw [mX2_compared] at hm
  refine lv_aload_n hx hb dX2_compared_0 rfl (lv_at hl 0 rfl) ?_
  refine lv_iload_n hx hb dX2_compared_1 rfl (lv_at hl 1 rfl) ?_
  refine lv_iload_n hx hb dX2_compared_2 rfl (lv_at hl 3 rfl) ?_
  obtain ⟨r_1, hr_1, hm⟩ := hm_b hm
  refine k_V (as := [.int p1, .int p3]) (rest := []) (ws' := [(a_t, .inr (0, [.ref a_t_cells, .ref a_t_cellsBefore, .ref a_t_page, .ref a_t_reader, .int v_t_isWide])), (a_t_cells, .inl (cy 1, 8, .inr (.inl f_t_cells))), (a_t_cellsBefore, .inl (cy 1, 8, .inr (.inl f_t_cellsBefore))), (a_t_page, .inr (3, [.ref a_t_page_bytes, .int v_t_page_length])), (a_t_page_bytes, .inl (cy 0, n_t_page_bytes, .inl f_t_page_bytes)), (a_t_reader, .inr (2, [.long v_t_reader_value]))]) (st2 := [.long r_1]) (i0 := 0) hx hb hml hown ht hK hP hD hS hA hC hR hl (kcX2_valueOf l D cy g a_t a_t_cells a_t_cellsBefore a_t_page a_t_page_bytes a_t_reader n_t_page_bytes f_t_cells f_t_cellsBefore f_t_page_bytes v_t_page_length v_t_reader_value v_t_isWide p1 p3 r_1 hr_1) [0, 1, 2, 3, 4, 5] q_381 q_327 q_328 q_44 q_329 hyX2_valueOf ⟨rfl, rfl, rfl⟩ ⟨Nat.le_of_ble_eq_true rfl, Nat.le_of_ble_eq_true rfl, Nat.le_of_ble_eq_true rfl, Nat.le_of_ble_eq_true rfl⟩ rfl rfl rfl rfl (Nat.le_of_ble_eq_true rfl) dX2_compared_3 rfl rfl (fun H locs hP hD hS => ?_)
  refine lv_lstore (lv' := [(4, .long r_1), (0, .ref a_t), (1, .int p1), (2, .int p2), (3, .int p3)]) hx hb dX2_compared_6 hl (by decide) rfl (fun ls hl => ?_)
  refine lv_aload_n hx hb dX2_compared_8 rfl (lv_at hl 1 rfl) ?_
  refine lv_iload_n hx hb dX2_compared_9 rfl (lv_at hl 3 rfl) ?_
  refine lv_iload_n hx hb dX2_compared_10 rfl (lv_at hl 4 rfl) ?_
  obtain ⟨r_2, hr_2, hm⟩ := hm_b hm
  refine k_V (as := [.int p2, .int p3]) (rest := []) (ws' := [(a_t, .inr (0, [.ref a_t_cells, .ref a_t_cellsBefore, .ref a_t_page, .ref a_t_reader, .int v_t_isWide])), (a_t_cells, .inl (cy 1, 8, .inr (.inl f_t_cells))), (a_t_cellsBefore, .inl (cy 1, 8, .inr (.inl f_t_cellsBefore))), (a_t_page, .inr (3, [.ref a_t_page_bytes, .int v_t_page_length])), (a_t_page_bytes, .inl (cy 0, n_t_page_bytes, .inl f_t_page_bytes)), (a_t_reader, .inr (2, [.long v_t_reader_value]))]) (st2 := [.long r_2]) (i0 := 0) hx hb hml hown ht hK hP hD hS hA hC hR hl (kcX2_valueOf l D cy g a_t a_t_cells a_t_cellsBefore a_t_page a_t_page_bytes a_t_reader n_t_page_bytes f_t_cells f_t_cellsBefore f_t_page_bytes v_t_page_length v_t_reader_value v_t_isWide p2 p3 r_2 hr_2) [0, 1, 2, 3, 4, 5] q_381 q_327 q_328 q_44 q_329 hyX2_valueOf ⟨rfl, rfl, rfl⟩ ⟨Nat.le_of_ble_eq_true rfl, Nat.le_of_ble_eq_true rfl, Nat.le_of_ble_eq_true rfl, Nat.le_of_ble_eq_true rfl⟩ rfl rfl rfl rfl (Nat.le_of_ble_eq_true rfl) dX2_compared_11 rfl rfl (fun H locs hP hD hS => ?_)
  refine lv_lstore (lv' := [(6, .long r_2), (4, .long r_1), (0, .ref a_t), (1, .int p1), (2, .int p2), (3, .int p3)]) hx hb dX2_compared_14 hl (by decide) rfl (fun ls hl => ?_)
  refine lv_iload_n hx hb dX2_compared_16 rfl (lv_at hl 5 rfl) ?_
  refine lv_if_eq (tgt := 30) hx hb dX2_compared_17 (by decide) (fun c_3 => ?_) (fun c_3 => ?_)
  · replace hm := hm_t c_3 hm
    refine lv_lload hx hb dX2_compared_30 (lv_at hl 1 rfl) ?_
    refine lv_lload hx hb dX2_compared_32 (lv_at hl 0 rfl) ?_
    obtain ⟨r_4, hr_4, hm⟩ := hm_b hm
    refine k_S (as := [.long r_1, .long r_2]) (rest := []) (ws' := [(a_t, .inr (0, [.ref a_t_cells, .ref a_t_cellsBefore, .ref a_t_page, .ref a_t_reader, .int v_t_isWide])), (a_t_cells, .inl (cy 1, 8, .inr (.inl f_t_cells))), (a_t_cellsBefore, .inl (cy 1, 8, .inr (.inl f_t_cellsBefore))), (a_t_page, .inr (3, [.ref a_t_page_bytes, .int v_t_page_length])), (a_t_page_bytes, .inl (cy 0, n_t_page_bytes, .inl f_t_page_bytes)), (a_t_reader, .inr (2, [.long v_t_reader_value]))]) (st2 := [.int r_4]) hx hb hml hown ht hK hP hD hS hA hC hR hl (kcJ13_compare_74951 l D cy g r_1 r_2 r_4 hr_4) [] q_386 q_387 q_70 q_388 hyJ13_compare_74951 ⟨Nat.le_of_ble_eq_true rfl, Nat.le_of_ble_eq_true rfl, Nat.le_of_ble_eq_true rfl, Nat.le_of_ble_eq_true rfl⟩ rfl rfl rfl rfl (Nat.le_of_ble_eq_true rfl) dX2_compared_34 rfl rfl (fun H locs hP hD hS => ?_)
    obtain ⟨r_5, hr_5, hm⟩ := hm_b hm
    refine k_S (as := [.int r_4]) (rest := []) (ws' := [(a_t, .inr (0, [.ref a_t_cells, .ref a_t_cellsBefore, .ref a_t_page, .ref a_t_reader, .int v_t_isWide])), (a_t_cells, .inl (cy 1, 8, .inr (.inl f_t_cells))), (a_t_cellsBefore, .inl (cy 1, 8, .inr (.inl f_t_cellsBefore))), (a_t_page, .inr (3, [.ref a_t_page_bytes, .int v_t_page_length])), (a_t_page_bytes, .inl (cy 0, n_t_page_bytes, .inl f_t_page_bytes)), (a_t_reader, .inr (2, [.long v_t_reader_value]))]) (st2 := [.int r_5]) hx hb hml hown ht hK hP hD hS hA hC hR hl (kcJ6_signum_0f7a4 l D cy g r_4 r_5 hr_5) [] q_389 q_390 q_71 q_391 hyJ6_signum_0f7a4 ⟨Nat.le_of_ble_eq_true rfl, Nat.le_of_ble_eq_true rfl, Nat.le_of_ble_eq_true rfl, Nat.le_of_ble_eq_true rfl⟩ rfl rfl rfl rfl (Nat.le_of_ble_eq_true rfl) dX2_compared_37 rfl rfl (fun H locs hP hD hS => ?_)
    obtain rfl := Option.some.inj hm
    exact k_iret hx hb hr hlocks hQc hP hS rfl rfl dX2_compared_40
  · replace hm := hm_f c_3 hm
    refine lv_lload hx hb dX2_compared_20 (lv_at hl 1 rfl) ?_
    refine lv_lload hx hb dX2_compared_22 (lv_at hl 0 rfl) ?_
    obtain ⟨r_6, hr_6, hm⟩ := hm_b hm
    refine k_S (as := [.long r_1, .long r_2]) (rest := []) (ws' := [(a_t, .inr (0, [.ref a_t_cells, .ref a_t_cellsBefore, .ref a_t_page, .ref a_t_reader, .int v_t_isWide])), (a_t_cells, .inl (cy 1, 8, .inr (.inl f_t_cells))), (a_t_cellsBefore, .inl (cy 1, 8, .inr (.inl f_t_cellsBefore))), (a_t_page, .inr (3, [.ref a_t_page_bytes, .int v_t_page_length])), (a_t_page_bytes, .inl (cy 0, n_t_page_bytes, .inl f_t_page_bytes)), (a_t_reader, .inr (2, [.long v_t_reader_value]))]) (st2 := [.int r_6]) hx hb hml hown ht hK hP hD hS hA hC hR hl (kcX1_plainOrder l D cy g r_1 r_2 r_6 hr_6) [] q_382 q_383 q_60 q_384 hyX1_plainOrder ⟨Nat.le_of_ble_eq_true rfl, Nat.le_of_ble_eq_true rfl, Nat.le_of_ble_eq_true rfl, Nat.le_of_ble_eq_true rfl⟩ rfl rfl rfl rfl (Nat.le_of_ble_eq_true rfl) dX2_compared_24 rfl rfl (fun H locs hP hD hS => ?_)
    refine lv_goto (tgt := 40) hx hb dX2_compared_27 (by decide) ?_
    obtain rfl := Option.some.inj hm
    exact k_iret hx hb hr hlocks hQc hP hS rfl rfl dX2_compared_40
theorem dX2_moveForward_0 : decode cX2_moveForward 0 = .ok (.iload_n 1, 1) := by decide +kernel
theorem dX2_moveForward_1 : decode cX2_moveForward 1 = .ok (.istore_n 3, 1) := by decide +kernel
theorem dX2_moveForward_2 : decode cX2_moveForward 2 = .ok (.iload_n 3, 1) := by decide +kernel
theorem dX2_moveForward_3 : decode cX2_moveForward 3 = .ok (.ifCond .le 49, 3) := by decide +kernel
theorem dX2_moveForward_6 : decode cX2_moveForward 6 = .ok (.aload_n 0, 1) := by decide +kernel
theorem dX2_moveForward_7 : decode cX2_moveForward 7 = .ok (.iload_n 3, 1) := by decide +kernel
theorem dX2_moveForward_8 : decode cX2_moveForward 8 = .ok (.iconst 1, 1) := by decide +kernel
theorem dX2_moveForward_9 : decode cX2_moveForward 9 = .ok (.isub, 1) := by decide +kernel
theorem dX2_moveForward_10 : decode cX2_moveForward 10 = .ok (.iload_n 3, 1) := by decide +kernel
theorem dX2_moveForward_11 : decode cX2_moveForward 11 = .ok (.iload_n 2, 1) := by decide +kernel
theorem dX2_moveForward_12 : decode cX2_moveForward 12 = .ok (.invokevirtual 150, 3) := by decide +kernel
theorem dX2_moveForward_15 : decode cX2_moveForward 15 = .ok (.ifCond .le 37, 3) := by decide +kernel
theorem dX2_moveForward_18 : decode cX2_moveForward 18 = .ok (.aload_n 0, 1) := by decide +kernel
theorem dX2_moveForward_19 : decode cX2_moveForward 19 = .ok (.iload_n 3, 1) := by decide +kernel
theorem dX2_moveForward_20 : decode cX2_moveForward 20 = .ok (.invokevirtual 34, 3) := by decide +kernel
theorem dX2_moveForward_23 : decode cX2_moveForward 23 = .ok (.lstore 4, 2) := by decide +kernel
theorem dX2_moveForward_25 : decode cX2_moveForward 25 = .ok (.aload_n 0, 1) := by decide +kernel
theorem dX2_moveForward_26 : decode cX2_moveForward 26 = .ok (.iload_n 3, 1) := by decide +kernel
theorem dX2_moveForward_27 : decode cX2_moveForward 27 = .ok (.aload_n 0, 1) := by decide +kernel
theorem dX2_moveForward_28 : decode cX2_moveForward 28 = .ok (.iload_n 3, 1) := by decide +kernel
theorem dX2_moveForward_29 : decode cX2_moveForward 29 = .ok (.iconst 1, 1) := by decide +kernel
theorem dX2_moveForward_30 : decode cX2_moveForward 30 = .ok (.isub, 1) := by decide +kernel
theorem dX2_moveForward_31 : decode cX2_moveForward 31 = .ok (.invokevirtual 34, 3) := by decide +kernel
theorem dX2_moveForward_34 : decode cX2_moveForward 34 = .ok (.invokevirtual 52, 3) := by decide +kernel
theorem dX2_moveForward_37 : decode cX2_moveForward 37 = .ok (.aload_n 0, 1) := by decide +kernel
theorem dX2_moveForward_38 : decode cX2_moveForward 38 = .ok (.iload_n 3, 1) := by decide +kernel
theorem dX2_moveForward_39 : decode cX2_moveForward 39 = .ok (.iconst 1, 1) := by decide +kernel
theorem dX2_moveForward_40 : decode cX2_moveForward 40 = .ok (.isub, 1) := by decide +kernel
theorem dX2_moveForward_41 : decode cX2_moveForward 41 = .ok (.lload 4, 2) := by decide +kernel
theorem dX2_moveForward_43 : decode cX2_moveForward 43 = .ok (.invokevirtual 52, 3) := by decide +kernel
theorem dX2_moveForward_46 : decode cX2_moveForward 46 = .ok (.iinc 3 (-1), 3) := by decide +kernel
theorem dX2_moveForward_49 : decode cX2_moveForward 49 = .ok (.goto (-47), 3) := by decide +kernel
theorem dX2_moveForward_52 : decode cX2_moveForward 52 = .ok (.return_, 1) := by decide +kernel
def mX2_moveForward_L2 (v_t_isWide : Int32) (p2 : Int32) : Nat → Int32 → (Nat → Int64) → Option ((Nat → Int64))
  | 0, _, _ => none
  | n_ + 1, y_17, y_18 => (if y_17 ≤ 0 then some y_18 else ((mX2_compared y_18 v_t_isWide (y_17 - 1) y_17 p2).bind (fun r_20 => (if r_20 ≤ 0 then some y_18 else ((mX2_allBits y_18 y_17).bind (fun r_22 => ((mX2_allBits y_18 (y_17 - 1)).bind (fun r_23 => ((mX2_keep y_18 y_17 r_23).bind (fun r_24 => ((mX2_keep r_24 (y_17 - 1) r_22).bind (fun r_25 => (mX2_moveForward_L2 v_t_isWide p2 n_ (y_17 + (-1)) r_25)))))))))))))
def mX2_moveForward (k : Nat) (f_t_cells : Nat → Int64) (v_t_isWide : Int32) (p1 : Int32) (p2 : Int32) : Option ((Nat → Int64)) := ((mX2_moveForward_L2 v_t_isWide p2 k p1 f_t_cells).bind (fun r_26 => some r_26))
set_option maxHeartbeats 4000000 in
set_option maxRecDepth 100000 in
theorem kcX2_moveForward (l : Launch) (D : va_G) (cy : Nat → ClassId) (g : Nat → Nat) (a_t : Nat) (a_t_cells : Nat) (a_t_cellsBefore : Nat) (a_t_page : Nat) (a_t_page_bytes : Nat) (a_t_reader : Nat) (n_t_page_bytes : Nat) (f_t_cells : Nat → Int64) (f_t_cellsBefore : Nat → Int64) (f_t_page_bytes : Nat → Int32) (v_t_page_length : Int32) (v_t_reader_value : Int64) (v_t_isWide : Int32) (p1 : Int32) (p2 : Int32) (k : Nat) (R : (Nat → Int64)) (hm : mX2_moveForward k f_t_cells v_t_isWide p1 p2 = some R) : Con l D cy g yX2_moveForward cX2_moveForward 6 none 4 92 0 0 [.ref a_t, .int p1, .int p2] [(a_t, .inr (0, [.ref a_t_cells, .ref a_t_cellsBefore, .ref a_t_page, .ref a_t_reader, .int v_t_isWide])), (a_t_cells, .inl (cy 1, 8, .inr (.inl f_t_cells))), (a_t_cellsBefore, .inl (cy 1, 8, .inr (.inl f_t_cellsBefore))), (a_t_page, .inr (3, [.ref a_t_page_bytes, .int v_t_page_length])), (a_t_page_bytes, .inl (cy 0, n_t_page_bytes, .inl f_t_page_bytes)), (a_t_reader, .inr (2, [.long v_t_reader_value]))] [(a_t, .inr (0, [.ref a_t_cells, .ref a_t_cellsBefore, .ref a_t_page, .ref a_t_reader, .int v_t_isWide])), (a_t_cells, .inl (cy 1, 8, .inr (.inl R))), (a_t_cellsBefore, .inl (cy 1, 8, .inr (.inl f_t_cellsBefore))), (a_t_page, .inr (3, [.ref a_t_page_bytes, .int v_t_page_length])), (a_t_page_bytes, .inl (cy 0, n_t_page_bytes, .inl f_t_page_bytes)), (a_t_reader, .inr (2, [.long v_t_reader_value]))] none := by
  refine Con.of (by decide +kernel) (Nat.le_of_ble_eq_true rfl) ?_
  intro p e RM s m ar below meth c A Qc ls hx hb hr hml hown hlocks hnm ht hK hP hD hS hA hR hC hQc hl
  have hown : s.vm.findClass RX2 = some m.cls := hown
  have hl : lv_has ls 6 [(0, .ref a_t), (1, .int p1), (2, .int p2)] := hl
  rw [mX2_moveForward] at hm
  refine lv_iload_n hx hb dX2_moveForward_0 rfl (lv_at hl 1 rfl) ?_
  refine lv_istore_n (lv' := [(3, .int p1), (0, .ref a_t), (1, .int p1), (2, .int p2)]) hx hb dX2_moveForward_1 rfl hl (by decide) rfl (fun ls hl => ?_)
  have L2 : ∀ (rr : (Nat → Int64)) (kk : ∀ (H : Heap) (locs : List Loc) (ls : Array Slot), va_P D classes [(a_t, .inr (0, [.ref a_t_cells, .ref a_t_cellsBefore, .ref a_t_page, .ref a_t_reader, .int v_t_isWide])), (a_t_cells, .inl (cy 1, 8, .inr (.inl rr))), (a_t_cellsBefore, .inl (cy 1, 8, .inr (.inl f_t_cellsBefore))), (a_t_page, .inr (3, [.ref a_t_page_bytes, .int v_t_page_length])), (a_t_page_bytes, .inl (cy 0, n_t_page_bytes, .inl f_t_page_bytes)), (a_t_reader, .inr (2, [.long v_t_reader_value]))] H → va_D A [(a_t, .inr (0, [.ref a_t_cells, .ref a_t_cellsBefore, .ref a_t_page, .ref a_t_reader, .int v_t_isWide])), (a_t_cells, .inl (cy 1, 8, .inr (.inl rr))), (a_t_cellsBefore, .inl (cy 1, 8, .inr (.inl f_t_cellsBefore))), (a_t_page, .inr (3, [.ref a_t_page_bytes, .int v_t_page_length])), (a_t_page_bytes, .inl (cy 0, n_t_page_bytes, .inl f_t_page_bytes)), (a_t_reader, .inr (2, [.long v_t_reader_value]))] → va_S A s.heap H locs → lv_has ls 6 [] → W p l e RM s m ar below meth c H locs 0 0 (MQ below Qc ar s 0 0 A) (F0 m 52 ls [])) (n_ : Nat), ∀ (y_17 : Int32) (y_18 : Nat → Int64), mX2_moveForward_L2 v_t_isWide p2 n_ y_17 y_18 = some rr → ∀ (H : Heap) (locs : List Loc) (ls : Array Slot), va_P D classes [(a_t, .inr (0, [.ref a_t_cells, .ref a_t_cellsBefore, .ref a_t_page, .ref a_t_reader, .int v_t_isWide])), (a_t_cells, .inl (cy 1, 8, .inr (.inl y_18))), (a_t_cellsBefore, .inl (cy 1, 8, .inr (.inl f_t_cellsBefore))), (a_t_page, .inr (3, [.ref a_t_page_bytes, .int v_t_page_length])), (a_t_page_bytes, .inl (cy 0, n_t_page_bytes, .inl f_t_page_bytes)), (a_t_reader, .inr (2, [.long v_t_reader_value]))] H → va_D A [(a_t, .inr (0, [.ref a_t_cells, .ref a_t_cellsBefore, .ref a_t_page, .ref a_t_reader, .int v_t_isWide])), (a_t_cells, .inl (cy 1, 8, .inr (.inl y_18))), (a_t_cellsBefore, .inl (cy 1, 8, .inr (.inl f_t_cellsBefore))), (a_t_page, .inr (3, [.ref a_t_page_bytes, .int v_t_page_length])), (a_t_page_bytes, .inl (cy 0, n_t_page_bytes, .inl f_t_page_bytes)), (a_t_reader, .inr (2, [.long v_t_reader_value]))] → va_S A s.heap H locs → lv_has ls 6 [(3, .int y_17), (0, .ref a_t), (2, .int p2)] → W p l e RM s m ar below meth c H locs 0 0 (MQ below Qc ar s 0 0 A) (F0 m 2 ls []) := by
    intro rr kk n_
    induction n_ with
    | zero => intro y_17 y_18 hm; rw [mX2_moveForward_L2] at hm; cases hm
    | succ n_ ih =>
      intro y_17 y_18 hm H locs ls hP hD hS hl
      rw [mX2_moveForward_L2] at hm
      refine lv_iload_n hx hb dX2_moveForward_2 rfl (lv_at hl 0 rfl) ?_
      refine lv_if_le (tgt := 52) hx hb dX2_moveForward_3 (by decide) (fun c_19 => ?_) (fun c_19 => ?_)
      · replace hm := hm_t c_19 hm
        obtain rfl := Option.some.inj hm
        exact kk _ _ _ hP hD hS (lv_sub hl [] rfl)
      · replace hm := hm_f c_19 hm
        refine lv_aload_n hx hb dX2_moveForward_6 rfl (lv_at hl 1 rfl) ?_
        refine lv_iload_n hx hb dX2_moveForward_7 rfl (lv_at hl 0 rfl) ?_
        refine lv_iconst (v := 1) hx hb dX2_moveForward_8 (by decide) ?_
        refine lv_isub hx hb dX2_moveForward_9 ?_
        refine lv_iload_n hx hb dX2_moveForward_10 rfl (lv_at hl 0 rfl) ?_
        refine lv_iload_n hx hb dX2_moveForward_11 rfl (lv_at hl 2 rfl) ?_
        obtain ⟨r_20, hr_20, hm⟩ := hm_b hm
        refine k_V (as := [.int (y_17 - 1), .int y_17, .int p2]) (rest := []) (ws' := [(a_t, .inr (0, [.ref a_t_cells, .ref a_t_cellsBefore, .ref a_t_page, .ref a_t_reader, .int v_t_isWide])), (a_t_cells, .inl (cy 1, 8, .inr (.inl y_18))), (a_t_cellsBefore, .inl (cy 1, 8, .inr (.inl f_t_cellsBefore))), (a_t_page, .inr (3, [.ref a_t_page_bytes, .int v_t_page_length])), (a_t_page_bytes, .inl (cy 0, n_t_page_bytes, .inl f_t_page_bytes)), (a_t_reader, .inr (2, [.long v_t_reader_value]))]) (st2 := [.int r_20]) (i0 := 0) hx hb hml hown ht hK hP hD hS hA hC hR hl (kcX2_compared l D cy g a_t a_t_cells a_t_cellsBefore a_t_page a_t_page_bytes a_t_reader n_t_page_bytes y_18 f_t_cellsBefore f_t_page_bytes v_t_page_length v_t_reader_value v_t_isWide (y_17 - 1) y_17 p2 r_20 hr_20) [0, 1, 2, 3, 4, 5] q_377 q_378 q_379 q_44 q_380 hyX2_compared ⟨rfl, rfl, rfl⟩ ⟨Nat.le_of_ble_eq_true rfl, Nat.le_of_ble_eq_true rfl, Nat.le_of_ble_eq_true rfl, Nat.le_of_ble_eq_true rfl⟩ rfl rfl rfl rfl (Nat.le_of_ble_eq_true rfl) dX2_moveForward_12 rfl rfl (fun H locs hP hD hS => ?_)
        refine lv_if_le (tgt := 52) hx hb dX2_moveForward_15 (by decide) (fun c_21 => ?_) (fun c_21 => ?_)
        · replace hm := hm_t c_21 hm
          obtain rfl := Option.some.inj hm
          exact kk _ _ _ hP hD hS (lv_sub hl [] rfl)
        · replace hm := hm_f c_21 hm
          refine lv_aload_n hx hb dX2_moveForward_18 rfl (lv_at hl 1 rfl) ?_
          refine lv_iload_n hx hb dX2_moveForward_19 rfl (lv_at hl 0 rfl) ?_
          obtain ⟨r_22, hr_22, hm⟩ := hm_b hm
          refine k_V (as := [.int y_17]) (rest := []) (ws' := [(a_t, .inr (0, [.ref a_t_cells, .ref a_t_cellsBefore, .ref a_t_page, .ref a_t_reader, .int v_t_isWide])), (a_t_cells, .inl (cy 1, 8, .inr (.inl y_18))), (a_t_cellsBefore, .inl (cy 1, 8, .inr (.inl f_t_cellsBefore))), (a_t_page, .inr (3, [.ref a_t_page_bytes, .int v_t_page_length])), (a_t_page_bytes, .inl (cy 0, n_t_page_bytes, .inl f_t_page_bytes)), (a_t_reader, .inr (2, [.long v_t_reader_value]))]) (st2 := [.long r_22]) (i0 := 0) hx hb hml hown ht hK hP hD hS hA hC hR hl (kcX2_allBits l D cy g a_t a_t_cells a_t_cellsBefore a_t_page a_t_page_bytes a_t_reader n_t_page_bytes y_18 f_t_cellsBefore f_t_page_bytes v_t_page_length v_t_reader_value v_t_isWide y_17 r_22 hr_22) [0, 1, 2, 3, 4, 5] q_291 q_292 q_293 q_44 q_294 hyX2_allBits ⟨rfl, rfl, rfl⟩ ⟨Nat.le_of_ble_eq_true rfl, Nat.le_of_ble_eq_true rfl, Nat.le_of_ble_eq_true rfl, Nat.le_of_ble_eq_true rfl⟩ rfl rfl rfl rfl (Nat.le_of_ble_eq_true rfl) dX2_moveForward_20 rfl rfl (fun H locs hP hD hS => ?_)
          refine lv_lstore (lv' := [(4, .long r_22), (3, .int y_17), (0, .ref a_t), (2, .int p2)]) hx hb dX2_moveForward_23 hl (by decide) rfl (fun ls hl => ?_)
          refine lv_aload_n hx hb dX2_moveForward_25 rfl (lv_at hl 2 rfl) ?_
          refine lv_iload_n hx hb dX2_moveForward_26 rfl (lv_at hl 1 rfl) ?_
          refine lv_aload_n hx hb dX2_moveForward_27 rfl (lv_at hl 2 rfl) ?_
          refine lv_iload_n hx hb dX2_moveForward_28 rfl (lv_at hl 1 rfl) ?_
          refine lv_iconst (v := 1) hx hb dX2_moveForward_29 (by decide) ?_
          refine lv_isub hx hb dX2_moveForward_30 ?_
          obtain ⟨r_23, hr_23, hm⟩ := hm_b hm
          refine k_V (as := [.int (y_17 - 1)]) (rest := [.int y_17, .ref a_t]) (ws' := [(a_t, .inr (0, [.ref a_t_cells, .ref a_t_cellsBefore, .ref a_t_page, .ref a_t_reader, .int v_t_isWide])), (a_t_cells, .inl (cy 1, 8, .inr (.inl y_18))), (a_t_cellsBefore, .inl (cy 1, 8, .inr (.inl f_t_cellsBefore))), (a_t_page, .inr (3, [.ref a_t_page_bytes, .int v_t_page_length])), (a_t_page_bytes, .inl (cy 0, n_t_page_bytes, .inl f_t_page_bytes)), (a_t_reader, .inr (2, [.long v_t_reader_value]))]) (st2 := [.long r_23, .int y_17, .ref a_t]) (i0 := 0) hx hb hml hown ht hK hP hD hS hA hC hR hl (kcX2_allBits l D cy g a_t a_t_cells a_t_cellsBefore a_t_page a_t_page_bytes a_t_reader n_t_page_bytes y_18 f_t_cellsBefore f_t_page_bytes v_t_page_length v_t_reader_value v_t_isWide (y_17 - 1) r_23 hr_23) [0, 1, 2, 3, 4, 5] q_291 q_292 q_293 q_44 q_294 hyX2_allBits ⟨rfl, rfl, rfl⟩ ⟨Nat.le_of_ble_eq_true rfl, Nat.le_of_ble_eq_true rfl, Nat.le_of_ble_eq_true rfl, Nat.le_of_ble_eq_true rfl⟩ rfl rfl rfl rfl (Nat.le_of_ble_eq_true rfl) dX2_moveForward_31 rfl rfl (fun H locs hP hD hS => ?_)
          obtain ⟨r_24, hr_24, hm⟩ := hm_b hm
          refine k_V (as := [.int y_17, .long r_23]) (rest := []) (ws' := [(a_t, .inr (0, [.ref a_t_cells, .ref a_t_cellsBefore, .ref a_t_page, .ref a_t_reader, .int v_t_isWide])), (a_t_cells, .inl (cy 1, 8, .inr (.inl r_24))), (a_t_cellsBefore, .inl (cy 1, 8, .inr (.inl f_t_cellsBefore))), (a_t_page, .inr (3, [.ref a_t_page_bytes, .int v_t_page_length])), (a_t_page_bytes, .inl (cy 0, n_t_page_bytes, .inl f_t_page_bytes)), (a_t_reader, .inr (2, [.long v_t_reader_value]))]) (st2 := []) (i0 := 0) hx hb hml hown ht hK hP hD hS hA hC hR hl (kcX2_keep l D cy g a_t a_t_cells a_t_cellsBefore a_t_page a_t_page_bytes a_t_reader n_t_page_bytes y_18 f_t_cellsBefore f_t_page_bytes v_t_page_length v_t_reader_value v_t_isWide y_17 r_23 r_24 hr_24) [0, 1, 2, 3, 4, 5] q_392 q_284 q_285 q_44 q_286 hyX2_keep ⟨rfl, rfl, rfl⟩ ⟨Nat.le_of_ble_eq_true rfl, Nat.le_of_ble_eq_true rfl, Nat.le_of_ble_eq_true rfl, Nat.le_of_ble_eq_true rfl⟩ rfl rfl rfl rfl (Nat.le_of_ble_eq_true rfl) dX2_moveForward_34 rfl rfl (fun H locs hP hD hS => ?_)
          refine lv_aload_n hx hb dX2_moveForward_37 rfl (lv_at hl 2 rfl) ?_
          refine lv_iload_n hx hb dX2_moveForward_38 rfl (lv_at hl 1 rfl) ?_
          refine lv_iconst (v := 1) hx hb dX2_moveForward_39 (by decide) ?_
          refine lv_isub hx hb dX2_moveForward_40 ?_
          refine lv_lload hx hb dX2_moveForward_41 (lv_at hl 0 rfl) ?_
          obtain ⟨r_25, hr_25, hm⟩ := hm_b hm
          refine k_V (as := [.int (y_17 - 1), .long r_22]) (rest := []) (ws' := [(a_t, .inr (0, [.ref a_t_cells, .ref a_t_cellsBefore, .ref a_t_page, .ref a_t_reader, .int v_t_isWide])), (a_t_cells, .inl (cy 1, 8, .inr (.inl r_25))), (a_t_cellsBefore, .inl (cy 1, 8, .inr (.inl f_t_cellsBefore))), (a_t_page, .inr (3, [.ref a_t_page_bytes, .int v_t_page_length])), (a_t_page_bytes, .inl (cy 0, n_t_page_bytes, .inl f_t_page_bytes)), (a_t_reader, .inr (2, [.long v_t_reader_value]))]) (st2 := []) (i0 := 0) hx hb hml hown ht hK hP hD hS hA hC hR hl (kcX2_keep l D cy g a_t a_t_cells a_t_cellsBefore a_t_page a_t_page_bytes a_t_reader n_t_page_bytes r_24 f_t_cellsBefore f_t_page_bytes v_t_page_length v_t_reader_value v_t_isWide (y_17 - 1) r_22 r_25 hr_25) [0, 1, 2, 3, 4, 5] q_392 q_284 q_285 q_44 q_286 hyX2_keep ⟨rfl, rfl, rfl⟩ ⟨Nat.le_of_ble_eq_true rfl, Nat.le_of_ble_eq_true rfl, Nat.le_of_ble_eq_true rfl, Nat.le_of_ble_eq_true rfl⟩ rfl rfl rfl rfl (Nat.le_of_ble_eq_true rfl) dX2_moveForward_43 rfl rfl (fun H locs hP hD hS => ?_)
          refine lv_iinc (v := (y_17 + (-1))) (lv' := [(3, .int (y_17 + (-1))), (4, .long r_22), (0, .ref a_t), (2, .int p2)]) hx hb dX2_moveForward_46 hl (k := 1) rfl rfl (by decide) rfl (fun ls hl => ?_)
          refine lv_goto (tgt := 2) hx hb dX2_moveForward_49 (by decide) ?_
          exact ih (y_17 + (-1)) r_25 hm _ _ _ hP hD hS (lv_sub hl [0, 2, 3] rfl)
  obtain ⟨r_26, hL, hm⟩ := hm_b hm
  refine L2 r_26 ?_ k p1 f_t_cells hL _ _ _ hP hD hS (lv_sub hl [0, 1, 3] rfl)
  intro H locs ls hP hD hS hl
  obtain rfl := Option.some.inj hm
  exact k_vret hx hb hr hlocks hQc hP hS rfl rfl dX2_moveForward_52
theorem dX2_sortCells_0 : decode cX2_sortCells 0 = .ok (.iconst 0, 1) := by decide +kernel
theorem dX2_sortCells_1 : decode cX2_sortCells 1 = .ok (.istore_n 2, 1) := by decide +kernel
theorem dX2_sortCells_2 : decode cX2_sortCells 2 = .ok (.iload_n 2, 1) := by decide +kernel
theorem dX2_sortCells_3 : decode cX2_sortCells 3 = .ok (.aload_n 0, 1) := by decide +kernel
theorem dX2_sortCells_4 : decode cX2_sortCells 4 = .ok (.getfield 15, 3) := by decide +kernel
theorem dX2_sortCells_7 : decode cX2_sortCells 7 = .ok (.arraylength, 1) := by decide +kernel
theorem dX2_sortCells_8 : decode cX2_sortCells 8 = .ok (.if_icmp .ge 20, 3) := by decide +kernel
theorem dX2_sortCells_11 : decode cX2_sortCells 11 = .ok (.aload_n 0, 1) := by decide +kernel
theorem dX2_sortCells_12 : decode cX2_sortCells 12 = .ok (.getfield 15, 3) := by decide +kernel
theorem dX2_sortCells_15 : decode cX2_sortCells 15 = .ok (.iload_n 2, 1) := by decide +kernel
theorem dX2_sortCells_16 : decode cX2_sortCells 16 = .ok (.aload_n 0, 1) := by decide +kernel
theorem dX2_sortCells_17 : decode cX2_sortCells 17 = .ok (.iload_n 2, 1) := by decide +kernel
theorem dX2_sortCells_18 : decode cX2_sortCells 18 = .ok (.invokevirtual 34, 3) := by decide +kernel
theorem dX2_sortCells_21 : decode cX2_sortCells 21 = .ok (.lastore, 1) := by decide +kernel
theorem dX2_sortCells_22 : decode cX2_sortCells 22 = .ok (.iinc 2 1, 3) := by decide +kernel
theorem dX2_sortCells_25 : decode cX2_sortCells 25 = .ok (.goto (-23), 3) := by decide +kernel
theorem dX2_sortCells_28 : decode cX2_sortCells 28 = .ok (.iconst 1, 1) := by decide +kernel
theorem dX2_sortCells_29 : decode cX2_sortCells 29 = .ok (.istore_n 2, 1) := by decide +kernel
theorem dX2_sortCells_30 : decode cX2_sortCells 30 = .ok (.iload_n 2, 1) := by decide +kernel
theorem dX2_sortCells_31 : decode cX2_sortCells 31 = .ok (.bipush 8, 2) := by decide +kernel
theorem dX2_sortCells_33 : decode cX2_sortCells 33 = .ok (.if_icmp .ge 15, 3) := by decide +kernel
theorem dX2_sortCells_36 : decode cX2_sortCells 36 = .ok (.aload_n 0, 1) := by decide +kernel
theorem dX2_sortCells_37 : decode cX2_sortCells 37 = .ok (.iload_n 2, 1) := by decide +kernel
theorem dX2_sortCells_38 : decode cX2_sortCells 38 = .ok (.iload_n 1, 1) := by decide +kernel
theorem dX2_sortCells_39 : decode cX2_sortCells 39 = .ok (.invokevirtual 146, 3) := by decide +kernel
theorem dX2_sortCells_42 : decode cX2_sortCells 42 = .ok (.iinc 2 1, 3) := by decide +kernel
theorem dX2_sortCells_45 : decode cX2_sortCells 45 = .ok (.goto (-15), 3) := by decide +kernel
theorem dX2_sortCells_48 : decode cX2_sortCells 48 = .ok (.iconst 0, 1) := by decide +kernel
theorem dX2_sortCells_49 : decode cX2_sortCells 49 = .ok (.istore_n 2, 1) := by decide +kernel
theorem dX2_sortCells_50 : decode cX2_sortCells 50 = .ok (.iconst 0, 1) := by decide +kernel
theorem dX2_sortCells_51 : decode cX2_sortCells 51 = .ok (.istore_n 3, 1) := by decide +kernel
theorem dX2_sortCells_52 : decode cX2_sortCells 52 = .ok (.iload_n 3, 1) := by decide +kernel
theorem dX2_sortCells_53 : decode cX2_sortCells 53 = .ok (.aload_n 0, 1) := by decide +kernel
theorem dX2_sortCells_54 : decode cX2_sortCells 54 = .ok (.getfield 15, 3) := by decide +kernel
theorem dX2_sortCells_57 : decode cX2_sortCells 57 = .ok (.arraylength, 1) := by decide +kernel
theorem dX2_sortCells_58 : decode cX2_sortCells 58 = .ok (.if_icmp .ge 27, 3) := by decide +kernel
theorem dX2_sortCells_61 : decode cX2_sortCells 61 = .ok (.aload_n 0, 1) := by decide +kernel
theorem dX2_sortCells_62 : decode cX2_sortCells 62 = .ok (.iload_n 3, 1) := by decide +kernel
theorem dX2_sortCells_63 : decode cX2_sortCells 63 = .ok (.invokevirtual 34, 3) := by decide +kernel
theorem dX2_sortCells_66 : decode cX2_sortCells 66 = .ok (.aload_n 0, 1) := by decide +kernel
theorem dX2_sortCells_67 : decode cX2_sortCells 67 = .ok (.getfield 15, 3) := by decide +kernel
theorem dX2_sortCells_70 : decode cX2_sortCells 70 = .ok (.iload_n 3, 1) := by decide +kernel
theorem dX2_sortCells_71 : decode cX2_sortCells 71 = .ok (.laload, 1) := by decide +kernel
theorem dX2_sortCells_72 : decode cX2_sortCells 72 = .ok (.lcmp, 1) := by decide +kernel
theorem dX2_sortCells_73 : decode cX2_sortCells 73 = .ok (.ifCond .eq 6, 3) := by decide +kernel
theorem dX2_sortCells_76 : decode cX2_sortCells 76 = .ok (.iinc 2 1, 3) := by decide +kernel
theorem dX2_sortCells_79 : decode cX2_sortCells 79 = .ok (.iinc 3 1, 3) := by decide +kernel
theorem dX2_sortCells_82 : decode cX2_sortCells 82 = .ok (.goto (-30), 3) := by decide +kernel
theorem dX2_sortCells_85 : decode cX2_sortCells 85 = .ok (.iload_n 2, 1) := by decide +kernel
theorem dX2_sortCells_86 : decode cX2_sortCells 86 = .ok (.ireturn, 1) := by decide +kernel
def mX2_sortCells_L2 (f_t_cells : Nat → Int64) : Nat → Int32 → (Nat → Int64) → Option ((Nat → Int64))
  | 0, _, _ => none
  | n_ + 1, y_7, y_8 => (if (8 : Int32) ≤ y_7 then some y_8 else ((mX2_allBits f_t_cells y_7).bind (fun r_10 => (if y_7 < 0 ∨ 8 ≤ y_7.toNatClampNeg then none else (mX2_sortCells_L2 f_t_cells n_ (y_7 + 1) (vp_updL y_8 y_7.toNatClampNeg r_10))))))
def mX2_sortCells_L30 (k : Nat) (v_t_isWide : Int32) (p1 : Int32) : Nat → Int32 → (Nat → Int64) → Option ((Nat → Int64))
  | 0, _, _ => none
  | n_ + 1, y_18, y_19 => (if (8 : Int32) ≤ y_18 then some y_19 else ((mX2_moveForward k y_19 v_t_isWide y_18 p1).bind (fun r_21 => (mX2_sortCells_L30 k v_t_isWide p1 n_ (y_18 + 1) r_21))))
def mX2_sortCells_L52 (r_22 : (Nat → Int64)) (r_11 : (Nat → Int64)) : Nat → Int32 → Int32 → Option (Int32)
  | 0, _, _ => none
  | n_ + 1, y_31, y_32 => (if (8 : Int32) ≤ y_32 then some y_31 else ((mX2_allBits r_22 y_32).bind (fun r_34 => (if y_32 < 0 ∨ 8 ≤ y_32.toNatClampNeg then none else (if (lg_cmp r_34 (r_11 y_32.toNatClampNeg)) = 0 then (mX2_sortCells_L52 r_22 r_11 n_ y_31 (y_32 + 1)) else (mX2_sortCells_L52 r_22 r_11 n_ (y_31 + 1) (y_32 + 1)))))))
def mX2_sortCells (k : Nat) (f_t_cells : Nat → Int64) (f_t_cellsBefore : Nat → Int64) (v_t_isWide : Int32) (p1 : Int32) : Option (Int32 × (Nat → Int64) × (Nat → Int64)) := ((mX2_sortCells_L2 f_t_cells k 0 f_t_cellsBefore).bind (fun r_11 => ((mX2_sortCells_L30 k v_t_isWide p1 k 1 f_t_cells).bind (fun r_22 => ((mX2_sortCells_L52 r_22 r_11 k 0 0).bind (fun r_36 => some (r_36, r_22, r_11)))))))
set_option maxHeartbeats 4000000 in
set_option maxRecDepth 100000 in
theorem kcX2_sortCells (l : Launch) (D : va_G) (cy : Nat → ClassId) (g : Nat → Nat) (a_t : Nat) (a_t_cells : Nat) (a_t_cellsBefore : Nat) (a_t_page : Nat) (a_t_page_bytes : Nat) (a_t_reader : Nat) (n_t_page_bytes : Nat) (f_t_cells : Nat → Int64) (f_t_cellsBefore : Nat → Int64) (f_t_page_bytes : Nat → Int32) (v_t_page_length : Int32) (v_t_reader_value : Int64) (v_t_isWide : Int32) (p1 : Int32) (k : Nat) (R : Int32 × (Nat → Int64) × (Nat → Int64)) (hm : mX2_sortCells k f_t_cells f_t_cellsBefore v_t_isWide p1 = some R) : Con l D cy g yX2_sortCells cX2_sortCells 4 (some .int) 5 117 0 0 [.ref a_t, .int p1] [(a_t, .inr (0, [.ref a_t_cells, .ref a_t_cellsBefore, .ref a_t_page, .ref a_t_reader, .int v_t_isWide])), (a_t_cells, .inl (cy 1, 8, .inr (.inl f_t_cells))), (a_t_cellsBefore, .inl (cy 1, 8, .inr (.inl f_t_cellsBefore))), (a_t_page, .inr (3, [.ref a_t_page_bytes, .int v_t_page_length])), (a_t_page_bytes, .inl (cy 0, n_t_page_bytes, .inl f_t_page_bytes)), (a_t_reader, .inr (2, [.long v_t_reader_value]))] [(a_t, .inr (0, [.ref a_t_cells, .ref a_t_cellsBefore, .ref a_t_page, .ref a_t_reader, .int v_t_isWide])), (a_t_cells, .inl (cy 1, 8, .inr (.inl R.2.1))), (a_t_cellsBefore, .inl (cy 1, 8, .inr (.inl R.2.2))), (a_t_page, .inr (3, [.ref a_t_page_bytes, .int v_t_page_length])), (a_t_page_bytes, .inl (cy 0, n_t_page_bytes, .inl f_t_page_bytes)), (a_t_reader, .inr (2, [.long v_t_reader_value]))] (some (.int R.1)) := by
  refine Con.of (by decide +kernel) (Nat.le_of_ble_eq_true rfl) ?_
  intro p e RM s m ar below meth c A Qc ls hx hb hr hml hown hlocks hnm ht hK hP hD hS hA hR hC hQc hl
  have hown : s.vm.findClass RX2 = some m.cls := hown
  have hl : lv_has ls 4 [(0, .ref a_t), (1, .int p1)] := hl
  rw [mX2_sortCells] at hm
  refine lv_iconst (v := 0) hx hb dX2_sortCells_0 (by decide) ?_
  refine lv_istore_n (lv' := [(2, .int 0), (0, .ref a_t), (1, .int p1)]) hx hb dX2_sortCells_1 rfl hl (by decide) rfl (fun ls hl => ?_)
  have L2 : ∀ (rr : (Nat → Int64)) (kk : ∀ (H : Heap) (locs : List Loc) (ls : Array Slot), va_P D classes [(a_t, .inr (0, [.ref a_t_cells, .ref a_t_cellsBefore, .ref a_t_page, .ref a_t_reader, .int v_t_isWide])), (a_t_cells, .inl (cy 1, 8, .inr (.inl f_t_cells))), (a_t_cellsBefore, .inl (cy 1, 8, .inr (.inl rr))), (a_t_page, .inr (3, [.ref a_t_page_bytes, .int v_t_page_length])), (a_t_page_bytes, .inl (cy 0, n_t_page_bytes, .inl f_t_page_bytes)), (a_t_reader, .inr (2, [.long v_t_reader_value]))] H → va_D A [(a_t, .inr (0, [.ref a_t_cells, .ref a_t_cellsBefore, .ref a_t_page, .ref a_t_reader, .int v_t_isWide])), (a_t_cells, .inl (cy 1, 8, .inr (.inl f_t_cells))), (a_t_cellsBefore, .inl (cy 1, 8, .inr (.inl rr))), (a_t_page, .inr (3, [.ref a_t_page_bytes, .int v_t_page_length])), (a_t_page_bytes, .inl (cy 0, n_t_page_bytes, .inl f_t_page_bytes)), (a_t_reader, .inr (2, [.long v_t_reader_value]))] → va_S A s.heap H locs → lv_has ls 4 [(0, .ref a_t), (1, .int p1)] → W p l e RM s m ar below meth c H locs 0 0 (MQ below Qc ar s 0 0 A) (F0 m 28 ls [])) (n_ : Nat), ∀ (y_7 : Int32) (y_8 : Nat → Int64), mX2_sortCells_L2 f_t_cells n_ y_7 y_8 = some rr → ∀ (H : Heap) (locs : List Loc) (ls : Array Slot), va_P D classes [(a_t, .inr (0, [.ref a_t_cells, .ref a_t_cellsBefore, .ref a_t_page, .ref a_t_reader, .int v_t_isWide])), (a_t_cells, .inl (cy 1, 8, .inr (.inl f_t_cells))), (a_t_cellsBefore, .inl (cy 1, 8, .inr (.inl y_8))), (a_t_page, .inr (3, [.ref a_t_page_bytes, .int v_t_page_length])), (a_t_page_bytes, .inl (cy 0, n_t_page_bytes, .inl f_t_page_bytes)), (a_t_reader, .inr (2, [.long v_t_reader_value]))] H → va_D A [(a_t, .inr (0, [.ref a_t_cells, .ref a_t_cellsBefore, .ref a_t_page, .ref a_t_reader, .int v_t_isWide])), (a_t_cells, .inl (cy 1, 8, .inr (.inl f_t_cells))), (a_t_cellsBefore, .inl (cy 1, 8, .inr (.inl y_8))), (a_t_page, .inr (3, [.ref a_t_page_bytes, .int v_t_page_length])), (a_t_page_bytes, .inl (cy 0, n_t_page_bytes, .inl f_t_page_bytes)), (a_t_reader, .inr (2, [.long v_t_reader_value]))] → va_S A s.heap H locs → lv_has ls 4 [(2, .int y_7), (0, .ref a_t), (1, .int p1)] → W p l e RM s m ar below meth c H locs 0 0 (MQ below Qc ar s 0 0 A) (F0 m 2 ls []) := by
    intro rr kk n_
    induction n_ with
    | zero => intro y_7 y_8 hm; rw [mX2_sortCells_L2] at hm; cases hm
    | succ n_ ih =>
      intro y_7 y_8 hm H locs ls hP hD hS hl
      rw [mX2_sortCells_L2] at hm
      refine lv_iload_n hx hb dX2_sortCells_2 rfl (lv_at hl 0 rfl) ?_
      refine lv_aload_n hx hb dX2_sortCells_3 rfl (lv_at hl 1 rfl) ?_
      refine va_get (D := D) (cl := classes) (ci := 0) (v := .ref a_t_cellsBefore) (C := RX2) (T := TX2) (N := 5) hx hb ht in_RX2 hown hK.1 hP 0 rfl rfl 1 (by decide) (ht _ q_125) (fun _ h9 => h9) rfl dX2_sortCells_4 ?_
      refine va_alen (v := 8) hx hb hK.1 hP 2 1 rfl rfl rfl dX2_sortCells_7 ?_
      refine lv_icmp_ge (tgt := 28) hx hb dX2_sortCells_8 (by decide) (fun c_9 => ?_) (fun c_9 => ?_)
      · replace hm := hm_t c_9 hm
        obtain rfl := Option.some.inj hm
        exact kk _ _ _ hP hD hS (lv_sub hl [1, 2] rfl)
      · replace hm := hm_f c_9 hm
        refine lv_aload_n hx hb dX2_sortCells_11 rfl (lv_at hl 1 rfl) ?_
        refine va_get (D := D) (cl := classes) (ci := 0) (v := .ref a_t_cellsBefore) (C := RX2) (T := TX2) (N := 5) hx hb ht in_RX2 hown hK.1 hP 0 rfl rfl 1 (by decide) (ht _ q_125) (fun _ h9 => h9) rfl dX2_sortCells_12 ?_
        refine lv_iload_n hx hb dX2_sortCells_15 rfl (lv_at hl 0 rfl) ?_
        refine lv_aload_n hx hb dX2_sortCells_16 rfl (lv_at hl 1 rfl) ?_
        refine lv_iload_n hx hb dX2_sortCells_17 rfl (lv_at hl 0 rfl) ?_
        obtain ⟨r_10, hr_10, hm⟩ := hm_b hm
        refine k_V (as := [.int y_7]) (rest := [.int y_7, .ref a_t_cellsBefore]) (ws' := [(a_t, .inr (0, [.ref a_t_cells, .ref a_t_cellsBefore, .ref a_t_page, .ref a_t_reader, .int v_t_isWide])), (a_t_cells, .inl (cy 1, 8, .inr (.inl f_t_cells))), (a_t_cellsBefore, .inl (cy 1, 8, .inr (.inl y_8))), (a_t_page, .inr (3, [.ref a_t_page_bytes, .int v_t_page_length])), (a_t_page_bytes, .inl (cy 0, n_t_page_bytes, .inl f_t_page_bytes)), (a_t_reader, .inr (2, [.long v_t_reader_value]))]) (st2 := [.long r_10, .int y_7, .ref a_t_cellsBefore]) (i0 := 0) hx hb hml hown ht hK hP hD hS hA hC hR hl (kcX2_allBits l D cy g a_t a_t_cells a_t_cellsBefore a_t_page a_t_page_bytes a_t_reader n_t_page_bytes f_t_cells y_8 f_t_page_bytes v_t_page_length v_t_reader_value v_t_isWide y_7 r_10 hr_10) [0, 1, 2, 3, 4, 5] q_291 q_292 q_293 q_44 q_294 hyX2_allBits ⟨rfl, rfl, rfl⟩ ⟨Nat.le_of_ble_eq_true rfl, Nat.le_of_ble_eq_true rfl, Nat.le_of_ble_eq_true rfl, Nat.le_of_ble_eq_true rfl⟩ rfl rfl rfl rfl (Nat.le_of_ble_eq_true rfl) dX2_sortCells_18 rfl rfl (fun H locs hP hD hS => ?_)
        obtain ⟨hin, hm⟩ := hm_g hm
        refine va_last hx hb hK.1 hP hD hS 2 1 rfl rfl hin dX2_sortCells_21 (fun H locs hP hD hS => ?_)
        have hP : va_P D classes [(a_t, .inr (0, [.ref a_t_cells, .ref a_t_cellsBefore, .ref a_t_page, .ref a_t_reader, .int v_t_isWide])), (a_t_cells, .inl (cy 1, 8, .inr (.inl f_t_cells))), (a_t_cellsBefore, .inl (cy 1, 8, .inr (.inl (vp_updL y_8 y_7.toNatClampNeg r_10)))), (a_t_page, .inr (3, [.ref a_t_page_bytes, .int v_t_page_length])), (a_t_page_bytes, .inl (cy 0, n_t_page_bytes, .inl f_t_page_bytes)), (a_t_reader, .inr (2, [.long v_t_reader_value]))] H := hP
        have hD : va_D A [(a_t, .inr (0, [.ref a_t_cells, .ref a_t_cellsBefore, .ref a_t_page, .ref a_t_reader, .int v_t_isWide])), (a_t_cells, .inl (cy 1, 8, .inr (.inl f_t_cells))), (a_t_cellsBefore, .inl (cy 1, 8, .inr (.inl (vp_updL y_8 y_7.toNatClampNeg r_10)))), (a_t_page, .inr (3, [.ref a_t_page_bytes, .int v_t_page_length])), (a_t_page_bytes, .inl (cy 0, n_t_page_bytes, .inl f_t_page_bytes)), (a_t_reader, .inr (2, [.long v_t_reader_value]))] := hD
        refine lv_iinc (v := (y_7 + 1)) (lv' := [(2, .int (y_7 + 1)), (0, .ref a_t), (1, .int p1)]) hx hb dX2_sortCells_22 hl (k := 0) rfl rfl (by decide) rfl (fun ls hl => ?_)
        refine lv_goto (tgt := 2) hx hb dX2_sortCells_25 (by decide) ?_
        exact ih (y_7 + 1) (vp_updL y_8 y_7.toNatClampNeg r_10) hm _ _ _ hP hD hS (lv_sub hl [0, 1, 2] rfl)
  obtain ⟨r_11, hL, hm⟩ := hm_b hm
  refine L2 r_11 ?_ k 0 f_t_cellsBefore hL _ _ _ hP hD hS (lv_sub hl [0, 1, 2] rfl)
  intro H locs ls hP hD hS hl
  refine lv_iconst (v := 1) hx hb dX2_sortCells_28 (by decide) ?_
  refine lv_istore_n (lv' := [(2, .int 1), (0, .ref a_t), (1, .int p1)]) hx hb dX2_sortCells_29 rfl hl (by decide) rfl (fun ls hl => ?_)
  have L30 : ∀ (rr : (Nat → Int64)) (kk : ∀ (H : Heap) (locs : List Loc) (ls : Array Slot), va_P D classes [(a_t, .inr (0, [.ref a_t_cells, .ref a_t_cellsBefore, .ref a_t_page, .ref a_t_reader, .int v_t_isWide])), (a_t_cells, .inl (cy 1, 8, .inr (.inl rr))), (a_t_cellsBefore, .inl (cy 1, 8, .inr (.inl r_11))), (a_t_page, .inr (3, [.ref a_t_page_bytes, .int v_t_page_length])), (a_t_page_bytes, .inl (cy 0, n_t_page_bytes, .inl f_t_page_bytes)), (a_t_reader, .inr (2, [.long v_t_reader_value]))] H → va_D A [(a_t, .inr (0, [.ref a_t_cells, .ref a_t_cellsBefore, .ref a_t_page, .ref a_t_reader, .int v_t_isWide])), (a_t_cells, .inl (cy 1, 8, .inr (.inl rr))), (a_t_cellsBefore, .inl (cy 1, 8, .inr (.inl r_11))), (a_t_page, .inr (3, [.ref a_t_page_bytes, .int v_t_page_length])), (a_t_page_bytes, .inl (cy 0, n_t_page_bytes, .inl f_t_page_bytes)), (a_t_reader, .inr (2, [.long v_t_reader_value]))] → va_S A s.heap H locs → lv_has ls 4 [(0, .ref a_t)] → W p l e RM s m ar below meth c H locs 0 0 (MQ below Qc ar s 0 0 A) (F0 m 48 ls [])) (n_ : Nat), ∀ (y_18 : Int32) (y_19 : Nat → Int64), mX2_sortCells_L30 k v_t_isWide p1 n_ y_18 y_19 = some rr → ∀ (H : Heap) (locs : List Loc) (ls : Array Slot), va_P D classes [(a_t, .inr (0, [.ref a_t_cells, .ref a_t_cellsBefore, .ref a_t_page, .ref a_t_reader, .int v_t_isWide])), (a_t_cells, .inl (cy 1, 8, .inr (.inl y_19))), (a_t_cellsBefore, .inl (cy 1, 8, .inr (.inl r_11))), (a_t_page, .inr (3, [.ref a_t_page_bytes, .int v_t_page_length])), (a_t_page_bytes, .inl (cy 0, n_t_page_bytes, .inl f_t_page_bytes)), (a_t_reader, .inr (2, [.long v_t_reader_value]))] H → va_D A [(a_t, .inr (0, [.ref a_t_cells, .ref a_t_cellsBefore, .ref a_t_page, .ref a_t_reader, .int v_t_isWide])), (a_t_cells, .inl (cy 1, 8, .inr (.inl y_19))), (a_t_cellsBefore, .inl (cy 1, 8, .inr (.inl r_11))), (a_t_page, .inr (3, [.ref a_t_page_bytes, .int v_t_page_length])), (a_t_page_bytes, .inl (cy 0, n_t_page_bytes, .inl f_t_page_bytes)), (a_t_reader, .inr (2, [.long v_t_reader_value]))] → va_S A s.heap H locs → lv_has ls 4 [(2, .int y_18), (0, .ref a_t), (1, .int p1)] → W p l e RM s m ar below meth c H locs 0 0 (MQ below Qc ar s 0 0 A) (F0 m 30 ls []) := by
    intro rr kk n_
    induction n_ with
    | zero => intro y_18 y_19 hm; rw [mX2_sortCells_L30] at hm; cases hm
    | succ n_ ih =>
      intro y_18 y_19 hm H locs ls hP hD hS hl
      rw [mX2_sortCells_L30] at hm
      refine lv_iload_n hx hb dX2_sortCells_30 rfl (lv_at hl 0 rfl) ?_
      refine lv_bipush (v := 8) hx hb dX2_sortCells_31 (by decide) ?_
      refine lv_icmp_ge (tgt := 48) hx hb dX2_sortCells_33 (by decide) (fun c_20 => ?_) (fun c_20 => ?_)
      · replace hm := hm_t c_20 hm
        obtain rfl := Option.some.inj hm
        exact kk _ _ _ hP hD hS (lv_sub hl [1] rfl)
      · replace hm := hm_f c_20 hm
        refine lv_aload_n hx hb dX2_sortCells_36 rfl (lv_at hl 1 rfl) ?_
        refine lv_iload_n hx hb dX2_sortCells_37 rfl (lv_at hl 0 rfl) ?_
        refine lv_iload_n hx hb dX2_sortCells_38 rfl (lv_at hl 2 rfl) ?_
        obtain ⟨r_21, hr_21, hm⟩ := hm_b hm
        refine k_V (as := [.int y_18, .int p1]) (rest := []) (ws' := [(a_t, .inr (0, [.ref a_t_cells, .ref a_t_cellsBefore, .ref a_t_page, .ref a_t_reader, .int v_t_isWide])), (a_t_cells, .inl (cy 1, 8, .inr (.inl r_21))), (a_t_cellsBefore, .inl (cy 1, 8, .inr (.inl r_11))), (a_t_page, .inr (3, [.ref a_t_page_bytes, .int v_t_page_length])), (a_t_page_bytes, .inl (cy 0, n_t_page_bytes, .inl f_t_page_bytes)), (a_t_reader, .inr (2, [.long v_t_reader_value]))]) (st2 := []) (i0 := 0) hx hb hml hown ht hK hP hD hS hA hC hR hl (kcX2_moveForward l D cy g a_t a_t_cells a_t_cellsBefore a_t_page a_t_page_bytes a_t_reader n_t_page_bytes y_19 r_11 f_t_page_bytes v_t_page_length v_t_reader_value v_t_isWide y_18 p1 k r_21 hr_21) [0, 1, 2, 3, 4, 5] q_373 q_375 q_1 q_44 q_376 hyX2_moveForward ⟨rfl, rfl, rfl⟩ ⟨Nat.le_of_ble_eq_true rfl, Nat.le_of_ble_eq_true rfl, Nat.le_of_ble_eq_true rfl, Nat.le_of_ble_eq_true rfl⟩ rfl rfl rfl rfl (Nat.le_of_ble_eq_true rfl) dX2_sortCells_39 rfl rfl (fun H locs hP hD hS => ?_)
        refine lv_iinc (v := (y_18 + 1)) (lv' := [(2, .int (y_18 + 1)), (0, .ref a_t), (1, .int p1)]) hx hb dX2_sortCells_42 hl (k := 0) rfl rfl (by decide) rfl (fun ls hl => ?_)
        refine lv_goto (tgt := 30) hx hb dX2_sortCells_45 (by decide) ?_
        exact ih (y_18 + 1) r_21 hm _ _ _ hP hD hS (lv_sub hl [0, 1, 2] rfl)
  obtain ⟨r_22, hL, hm⟩ := hm_b hm
  refine L30 r_22 ?_ k 1 f_t_cells hL _ _ _ hP hD hS (lv_sub hl [0, 1, 2] rfl)
  intro H locs ls hP hD hS hl
  refine lv_iconst (v := 0) hx hb dX2_sortCells_48 (by decide) ?_
  refine lv_istore_n (lv' := [(2, .int 0), (0, .ref a_t)]) hx hb dX2_sortCells_49 rfl hl (by decide) rfl (fun ls hl => ?_)
  refine lv_iconst (v := 0) hx hb dX2_sortCells_50 (by decide) ?_
  refine lv_istore_n (lv' := [(3, .int 0), (2, .int 0), (0, .ref a_t)]) hx hb dX2_sortCells_51 rfl hl (by decide) rfl (fun ls hl => ?_)
  have L52 : ∀ (rr : Int32) (kk : ∀ (H : Heap) (locs : List Loc) (ls : Array Slot), va_P D classes [(a_t, .inr (0, [.ref a_t_cells, .ref a_t_cellsBefore, .ref a_t_page, .ref a_t_reader, .int v_t_isWide])), (a_t_cells, .inl (cy 1, 8, .inr (.inl r_22))), (a_t_cellsBefore, .inl (cy 1, 8, .inr (.inl r_11))), (a_t_page, .inr (3, [.ref a_t_page_bytes, .int v_t_page_length])), (a_t_page_bytes, .inl (cy 0, n_t_page_bytes, .inl f_t_page_bytes)), (a_t_reader, .inr (2, [.long v_t_reader_value]))] H → va_D A [(a_t, .inr (0, [.ref a_t_cells, .ref a_t_cellsBefore, .ref a_t_page, .ref a_t_reader, .int v_t_isWide])), (a_t_cells, .inl (cy 1, 8, .inr (.inl r_22))), (a_t_cellsBefore, .inl (cy 1, 8, .inr (.inl r_11))), (a_t_page, .inr (3, [.ref a_t_page_bytes, .int v_t_page_length])), (a_t_page_bytes, .inl (cy 0, n_t_page_bytes, .inl f_t_page_bytes)), (a_t_reader, .inr (2, [.long v_t_reader_value]))] → va_S A s.heap H locs → lv_has ls 4 [(2, .int rr)] → W p l e RM s m ar below meth c H locs 0 0 (MQ below Qc ar s 0 0 A) (F0 m 85 ls [])) (n_ : Nat), ∀ (y_31 : Int32) (y_32 : Int32), mX2_sortCells_L52 r_22 r_11 n_ y_31 y_32 = some rr → ∀ (H : Heap) (locs : List Loc) (ls : Array Slot), va_P D classes [(a_t, .inr (0, [.ref a_t_cells, .ref a_t_cellsBefore, .ref a_t_page, .ref a_t_reader, .int v_t_isWide])), (a_t_cells, .inl (cy 1, 8, .inr (.inl r_22))), (a_t_cellsBefore, .inl (cy 1, 8, .inr (.inl r_11))), (a_t_page, .inr (3, [.ref a_t_page_bytes, .int v_t_page_length])), (a_t_page_bytes, .inl (cy 0, n_t_page_bytes, .inl f_t_page_bytes)), (a_t_reader, .inr (2, [.long v_t_reader_value]))] H → va_D A [(a_t, .inr (0, [.ref a_t_cells, .ref a_t_cellsBefore, .ref a_t_page, .ref a_t_reader, .int v_t_isWide])), (a_t_cells, .inl (cy 1, 8, .inr (.inl r_22))), (a_t_cellsBefore, .inl (cy 1, 8, .inr (.inl r_11))), (a_t_page, .inr (3, [.ref a_t_page_bytes, .int v_t_page_length])), (a_t_page_bytes, .inl (cy 0, n_t_page_bytes, .inl f_t_page_bytes)), (a_t_reader, .inr (2, [.long v_t_reader_value]))] → va_S A s.heap H locs → lv_has ls 4 [(3, .int y_32), (2, .int y_31), (0, .ref a_t)] → W p l e RM s m ar below meth c H locs 0 0 (MQ below Qc ar s 0 0 A) (F0 m 52 ls []) := by
    intro rr kk n_
    induction n_ with
    | zero => intro y_31 y_32 hm; rw [mX2_sortCells_L52] at hm; cases hm
    | succ n_ ih =>
      intro y_31 y_32 hm H locs ls hP hD hS hl
      rw [mX2_sortCells_L52] at hm
      refine lv_iload_n hx hb dX2_sortCells_52 rfl (lv_at hl 0 rfl) ?_
      refine lv_aload_n hx hb dX2_sortCells_53 rfl (lv_at hl 2 rfl) ?_
      refine va_get (D := D) (cl := classes) (ci := 0) (v := .ref a_t_cellsBefore) (C := RX2) (T := TX2) (N := 5) hx hb ht in_RX2 hown hK.1 hP 0 rfl rfl 1 (by decide) (ht _ q_125) (fun _ h9 => h9) rfl dX2_sortCells_54 ?_
      refine va_alen (v := 8) hx hb hK.1 hP 2 1 rfl rfl rfl dX2_sortCells_57 ?_
      refine lv_icmp_ge (tgt := 85) hx hb dX2_sortCells_58 (by decide) (fun c_33 => ?_) (fun c_33 => ?_)
      · replace hm := hm_t c_33 hm
        obtain rfl := Option.some.inj hm
        exact kk _ _ _ hP hD hS (lv_sub hl [1] rfl)
      · replace hm := hm_f c_33 hm
        refine lv_aload_n hx hb dX2_sortCells_61 rfl (lv_at hl 2 rfl) ?_
        refine lv_iload_n hx hb dX2_sortCells_62 rfl (lv_at hl 0 rfl) ?_
        obtain ⟨r_34, hr_34, hm⟩ := hm_b hm
        refine k_V (as := [.int y_32]) (rest := []) (ws' := [(a_t, .inr (0, [.ref a_t_cells, .ref a_t_cellsBefore, .ref a_t_page, .ref a_t_reader, .int v_t_isWide])), (a_t_cells, .inl (cy 1, 8, .inr (.inl r_22))), (a_t_cellsBefore, .inl (cy 1, 8, .inr (.inl r_11))), (a_t_page, .inr (3, [.ref a_t_page_bytes, .int v_t_page_length])), (a_t_page_bytes, .inl (cy 0, n_t_page_bytes, .inl f_t_page_bytes)), (a_t_reader, .inr (2, [.long v_t_reader_value]))]) (st2 := [.long r_34]) (i0 := 0) hx hb hml hown ht hK hP hD hS hA hC hR hl (kcX2_allBits l D cy g a_t a_t_cells a_t_cellsBefore a_t_page a_t_page_bytes a_t_reader n_t_page_bytes r_22 r_11 f_t_page_bytes v_t_page_length v_t_reader_value v_t_isWide y_32 r_34 hr_34) [0, 1, 2, 3, 4, 5] q_291 q_292 q_293 q_44 q_294 hyX2_allBits ⟨rfl, rfl, rfl⟩ ⟨Nat.le_of_ble_eq_true rfl, Nat.le_of_ble_eq_true rfl, Nat.le_of_ble_eq_true rfl, Nat.le_of_ble_eq_true rfl⟩ rfl rfl rfl rfl (Nat.le_of_ble_eq_true rfl) dX2_sortCells_63 rfl rfl (fun H locs hP hD hS => ?_)
        refine lv_aload_n hx hb dX2_sortCells_66 rfl (lv_at hl 2 rfl) ?_
        refine va_get (D := D) (cl := classes) (ci := 0) (v := .ref a_t_cellsBefore) (C := RX2) (T := TX2) (N := 5) hx hb ht in_RX2 hown hK.1 hP 0 rfl rfl 1 (by decide) (ht _ q_125) (fun _ h9 => h9) rfl dX2_sortCells_67 ?_
        refine lv_iload_n hx hb dX2_sortCells_70 rfl (lv_at hl 0 rfl) ?_
        obtain ⟨hin, hm⟩ := hm_g hm
        refine va_lald hx hb hK.1 hP 2 1 rfl rfl hin dX2_sortCells_71 ?_
        refine W.lcmp hx hb dX2_sortCells_72 ?_
        refine lv_if_eq (tgt := 79) hx hb dX2_sortCells_73 (by decide) (fun c_35 => ?_) (fun c_35 => ?_)
        · replace hm := hm_t c_35 hm
          refine lv_iinc (v := (y_32 + 1)) (lv' := [(3, .int (y_32 + 1)), (2, .int y_31), (0, .ref a_t)]) hx hb dX2_sortCells_79 hl (k := 0) rfl rfl (by decide) rfl (fun ls hl => ?_)
          refine lv_goto (tgt := 52) hx hb dX2_sortCells_82 (by decide) ?_
          exact ih y_31 (y_32 + 1) hm _ _ _ hP hD hS (lv_sub hl [0, 1, 2] rfl)
        · replace hm := hm_f c_35 hm
          refine lv_iinc (v := (y_31 + 1)) (lv' := [(2, .int (y_31 + 1)), (3, .int y_32), (0, .ref a_t)]) hx hb dX2_sortCells_76 hl (k := 1) rfl rfl (by decide) rfl (fun ls hl => ?_)
          refine lv_iinc (v := (y_32 + 1)) (lv' := [(3, .int (y_32 + 1)), (2, .int (y_31 + 1)), (0, .ref a_t)]) hx hb dX2_sortCells_79 hl (k := 1) rfl rfl (by decide) rfl (fun ls hl => ?_)
          refine lv_goto (tgt := 52) hx hb dX2_sortCells_82 (by decide) ?_
          exact ih (y_31 + 1) (y_32 + 1) hm _ _ _ hP hD hS (lv_sub hl [0, 1, 2] rfl)
  obtain ⟨r_36, hL, hm⟩ := hm_b hm
  refine L52 r_36 ?_ k 0 0 hL _ _ _ hP hD hS (lv_sub hl [0, 1, 2] rfl)
  intro H locs ls hP hD hS hl
  refine lv_iload_n hx hb dX2_sortCells_85 rfl (lv_at hl 0 rfl) ?_
  obtain rfl := Option.some.inj hm
  exact k_iret hx hb hr hlocks hQc hP hS rfl rfl dX2_sortCells_86
theorem dX2_become_0 : decode cX2_become 0 = .ok (.iconst 0, 1) := by decide +kernel
theorem dX2_become_1 : decode cX2_become 1 = .ok (.istore_n 2, 1) := by decide +kernel
theorem dX2_become_2 : decode cX2_become 2 = .ok (.iload_n 2, 1) := by decide +kernel
theorem dX2_become_3 : decode cX2_become 3 = .ok (.aload_n 0, 1) := by decide +kernel
theorem dX2_become_4 : decode cX2_become 4 = .ok (.getfield 9, 3) := by decide +kernel
theorem dX2_become_7 : decode cX2_become 7 = .ok (.arraylength, 1) := by decide +kernel
theorem dX2_become_8 : decode cX2_become 8 = .ok (.if_icmp .ge 20, 3) := by decide +kernel
theorem dX2_become_11 : decode cX2_become 11 = .ok (.aload_n 0, 1) := by decide +kernel
theorem dX2_become_12 : decode cX2_become 12 = .ok (.getfield 9, 3) := by decide +kernel
theorem dX2_become_15 : decode cX2_become 15 = .ok (.iload_n 2, 1) := by decide +kernel
theorem dX2_become_16 : decode cX2_become 16 = .ok (.aload_n 1, 1) := by decide +kernel
theorem dX2_become_17 : decode cX2_become 17 = .ok (.iload_n 2, 1) := by decide +kernel
theorem dX2_become_18 : decode cX2_become 18 = .ok (.invokevirtual 34, 3) := by decide +kernel
theorem dX2_become_21 : decode cX2_become 21 = .ok (.lastore, 1) := by decide +kernel
theorem dX2_become_22 : decode cX2_become 22 = .ok (.iinc 2 1, 3) := by decide +kernel
theorem dX2_become_25 : decode cX2_become 25 = .ok (.goto (-23), 3) := by decide +kernel
theorem dX2_become_28 : decode cX2_become 28 = .ok (.aload_n 0, 1) := by decide +kernel
theorem dX2_become_29 : decode cX2_become 29 = .ok (.getfield 23, 3) := by decide +kernel
theorem dX2_become_32 : decode cX2_become 32 = .ok (.aload_n 1, 1) := by decide +kernel
theorem dX2_become_33 : decode cX2_become 33 = .ok (.getfield 23, 3) := by decide +kernel
theorem dX2_become_36 : decode cX2_become 36 = .ok (.invokevirtual 38, 3) := by decide +kernel
theorem dX2_become_39 : decode cX2_become 39 = .ok (.aload_n 0, 1) := by decide +kernel
theorem dX2_become_40 : decode cX2_become 40 = .ok (.aload_n 1, 1) := by decide +kernel
theorem dX2_become_41 : decode cX2_become 41 = .ok (.getfield 42, 3) := by decide +kernel
theorem dX2_become_44 : decode cX2_become 44 = .ok (.putfield 42, 3) := by decide +kernel
theorem dX2_become_47 : decode cX2_become 47 = .ok (.return_, 1) := by decide +kernel
def mX2_become_L2 (f_p1_cells : Nat → Int64) : Nat → Int32 → (Nat → Int64) → Option ((Nat → Int64))
  | 0, _, _ => none
  | n_ + 1, y_7, y_8 => (if (8 : Int32) ≤ y_7 then some y_8 else ((mX2_allBits f_p1_cells y_7).bind (fun r_10 => (if y_7 < 0 ∨ 8 ≤ y_7.toNatClampNeg then none else (mX2_become_L2 f_p1_cells n_ (y_7 + 1) (vp_updL y_8 y_7.toNatClampNeg r_10))))))
def mX2_become (k : Nat) (n_t_page_bytes : Nat) (n_p1_page_bytes : Nat) (f_t_cells : Nat → Int64) (f_t_page_bytes : Nat → Int32) (f_p1_cells : Nat → Int64) (f_p1_page_bytes : Nat → Int32) (v_p1_page_length : Int32) (v_p1_isWide : Int32) : Option ((Nat → Int64) × (Nat → Int32) × Int32 × Int32) := ((mX2_become_L2 f_p1_cells k 0 f_t_cells).bind (fun r_11 => ((mX6_become k n_t_page_bytes n_p1_page_bytes f_t_page_bytes f_p1_page_bytes v_p1_page_length).bind (fun r_12 => (if ¬ (v_p1_isWide = 0 ∨ v_p1_isWide = 1) then none else some (r_11, r_12.1, r_12.2, v_p1_isWide))))))
set_option maxHeartbeats 4000000 in
set_option maxRecDepth 100000 in
theorem kcX2_become (l : Launch) (D : va_G) (cy : Nat → ClassId) (g : Nat → Nat) (a_t : Nat) (a_t_cells : Nat) (a_t_cellsBefore : Nat) (a_t_page : Nat) (a_t_page_bytes : Nat) (a_t_reader : Nat) (a_p1 : Nat) (a_p1_cells : Nat) (a_p1_cellsBefore : Nat) (a_p1_page : Nat) (a_p1_page_bytes : Nat) (a_p1_reader : Nat) (n_t_page_bytes : Nat) (n_p1_page_bytes : Nat) (f_t_cells : Nat → Int64) (f_t_cellsBefore : Nat → Int64) (f_t_page_bytes : Nat → Int32) (v_t_page_length : Int32) (v_t_reader_value : Int64) (v_t_isWide : Int32) (f_p1_cells : Nat → Int64) (f_p1_cellsBefore : Nat → Int64) (f_p1_page_bytes : Nat → Int32) (v_p1_page_length : Int32) (v_p1_reader_value : Int64) (v_p1_isWide : Int32) (k : Nat) (R : (Nat → Int64) × (Nat → Int32) × Int32 × Int32) (hm : mX2_become k n_t_page_bytes n_p1_page_bytes f_t_cells f_t_page_bytes f_p1_cells f_p1_page_bytes v_p1_page_length v_p1_isWide = some R) : Con l D cy g yX2_become cX2_become 3 none 3 65 0 0 [.ref a_t, .ref a_p1] [(a_t, .inr (0, [.ref a_t_cells, .ref a_t_cellsBefore, .ref a_t_page, .ref a_t_reader, .int v_t_isWide])), (a_t_cells, .inl (cy 1, 8, .inr (.inl f_t_cells))), (a_t_cellsBefore, .inl (cy 1, 8, .inr (.inl f_t_cellsBefore))), (a_t_page, .inr (3, [.ref a_t_page_bytes, .int v_t_page_length])), (a_t_page_bytes, .inl (cy 0, n_t_page_bytes, .inl f_t_page_bytes)), (a_t_reader, .inr (2, [.long v_t_reader_value])), (a_p1, .inr (0, [.ref a_p1_cells, .ref a_p1_cellsBefore, .ref a_p1_page, .ref a_p1_reader, .int v_p1_isWide])), (a_p1_cells, .inl (cy 1, 8, .inr (.inl f_p1_cells))), (a_p1_cellsBefore, .inl (cy 1, 8, .inr (.inl f_p1_cellsBefore))), (a_p1_page, .inr (3, [.ref a_p1_page_bytes, .int v_p1_page_length])), (a_p1_page_bytes, .inl (cy 0, n_p1_page_bytes, .inl f_p1_page_bytes)), (a_p1_reader, .inr (2, [.long v_p1_reader_value]))] [(a_t, .inr (0, [.ref a_t_cells, .ref a_t_cellsBefore, .ref a_t_page, .ref a_t_reader, .int R.2.2.2])), (a_t_cells, .inl (cy 1, 8, .inr (.inl R.1))), (a_t_cellsBefore, .inl (cy 1, 8, .inr (.inl f_t_cellsBefore))), (a_t_page, .inr (3, [.ref a_t_page_bytes, .int R.2.2.1])), (a_t_page_bytes, .inl (cy 0, n_t_page_bytes, .inl R.2.1)), (a_t_reader, .inr (2, [.long v_t_reader_value])), (a_p1, .inr (0, [.ref a_p1_cells, .ref a_p1_cellsBefore, .ref a_p1_page, .ref a_p1_reader, .int v_p1_isWide])), (a_p1_cells, .inl (cy 1, 8, .inr (.inl f_p1_cells))), (a_p1_cellsBefore, .inl (cy 1, 8, .inr (.inl f_p1_cellsBefore))), (a_p1_page, .inr (3, [.ref a_p1_page_bytes, .int v_p1_page_length])), (a_p1_page_bytes, .inl (cy 0, n_p1_page_bytes, .inl f_p1_page_bytes)), (a_p1_reader, .inr (2, [.long v_p1_reader_value]))] none := by
  refine Con.of (by decide +kernel) (Nat.le_of_ble_eq_true rfl) ?_
  intro p e RM s m ar below meth c A Qc ls hx hb hr hml hown hlocks hnm ht hK hP hD hS hA hR hC hQc hl
  have hown : s.vm.findClass RX2 = some m.cls := hown
  have hl : lv_has ls 3 [(0, .ref a_t), (1, .ref a_p1)] := hl
  rw [mX2_become] at hm
  refine lv_iconst (v := 0) hx hb dX2_become_0 (by decide) ?_
  refine lv_istore_n (lv' := [(2, .int 0), (0, .ref a_t), (1, .ref a_p1)]) hx hb dX2_become_1 rfl hl (by decide) rfl (fun ls hl => ?_)
  have L2 : ∀ (rr : (Nat → Int64)) (kk : ∀ (H : Heap) (locs : List Loc) (ls : Array Slot), va_P D classes [(a_t, .inr (0, [.ref a_t_cells, .ref a_t_cellsBefore, .ref a_t_page, .ref a_t_reader, .int v_t_isWide])), (a_t_cells, .inl (cy 1, 8, .inr (.inl rr))), (a_t_cellsBefore, .inl (cy 1, 8, .inr (.inl f_t_cellsBefore))), (a_t_page, .inr (3, [.ref a_t_page_bytes, .int v_t_page_length])), (a_t_page_bytes, .inl (cy 0, n_t_page_bytes, .inl f_t_page_bytes)), (a_t_reader, .inr (2, [.long v_t_reader_value])), (a_p1, .inr (0, [.ref a_p1_cells, .ref a_p1_cellsBefore, .ref a_p1_page, .ref a_p1_reader, .int v_p1_isWide])), (a_p1_cells, .inl (cy 1, 8, .inr (.inl f_p1_cells))), (a_p1_cellsBefore, .inl (cy 1, 8, .inr (.inl f_p1_cellsBefore))), (a_p1_page, .inr (3, [.ref a_p1_page_bytes, .int v_p1_page_length])), (a_p1_page_bytes, .inl (cy 0, n_p1_page_bytes, .inl f_p1_page_bytes)), (a_p1_reader, .inr (2, [.long v_p1_reader_value]))] H → va_D A [(a_t, .inr (0, [.ref a_t_cells, .ref a_t_cellsBefore, .ref a_t_page, .ref a_t_reader, .int v_t_isWide])), (a_t_cells, .inl (cy 1, 8, .inr (.inl rr))), (a_t_cellsBefore, .inl (cy 1, 8, .inr (.inl f_t_cellsBefore))), (a_t_page, .inr (3, [.ref a_t_page_bytes, .int v_t_page_length])), (a_t_page_bytes, .inl (cy 0, n_t_page_bytes, .inl f_t_page_bytes)), (a_t_reader, .inr (2, [.long v_t_reader_value])), (a_p1, .inr (0, [.ref a_p1_cells, .ref a_p1_cellsBefore, .ref a_p1_page, .ref a_p1_reader, .int v_p1_isWide])), (a_p1_cells, .inl (cy 1, 8, .inr (.inl f_p1_cells))), (a_p1_cellsBefore, .inl (cy 1, 8, .inr (.inl f_p1_cellsBefore))), (a_p1_page, .inr (3, [.ref a_p1_page_bytes, .int v_p1_page_length])), (a_p1_page_bytes, .inl (cy 0, n_p1_page_bytes, .inl f_p1_page_bytes)), (a_p1_reader, .inr (2, [.long v_p1_reader_value]))] → va_S A s.heap H locs → lv_has ls 3 [(0, .ref a_t), (1, .ref a_p1)] → W p l e RM s m ar below meth c H locs 0 0 (MQ below Qc ar s 0 0 A) (F0 m 28 ls [])) (n_ : Nat), ∀ (y_7 : Int32) (y_8 : Nat → Int64), mX2_become_L2 f_p1_cells n_ y_7 y_8 = some rr → ∀ (H : Heap) (locs : List Loc) (ls : Array Slot), va_P D classes [(a_t, .inr (0, [.ref a_t_cells, .ref a_t_cellsBefore, .ref a_t_page, .ref a_t_reader, .int v_t_isWide])), (a_t_cells, .inl (cy 1, 8, .inr (.inl y_8))), (a_t_cellsBefore, .inl (cy 1, 8, .inr (.inl f_t_cellsBefore))), (a_t_page, .inr (3, [.ref a_t_page_bytes, .int v_t_page_length])), (a_t_page_bytes, .inl (cy 0, n_t_page_bytes, .inl f_t_page_bytes)), (a_t_reader, .inr (2, [.long v_t_reader_value])), (a_p1, .inr (0, [.ref a_p1_cells, .ref a_p1_cellsBefore, .ref a_p1_page, .ref a_p1_reader, .int v_p1_isWide])), (a_p1_cells, .inl (cy 1, 8, .inr (.inl f_p1_cells))), (a_p1_cellsBefore, .inl (cy 1, 8, .inr (.inl f_p1_cellsBefore))), (a_p1_page, .inr (3, [.ref a_p1_page_bytes, .int v_p1_page_length])), (a_p1_page_bytes, .inl (cy 0, n_p1_page_bytes, .inl f_p1_page_bytes)), (a_p1_reader, .inr (2, [.long v_p1_reader_value]))] H → va_D A [(a_t, .inr (0, [.ref a_t_cells, .ref a_t_cellsBefore, .ref a_t_page, .ref a_t_reader, .int v_t_isWide])), (a_t_cells, .inl (cy 1, 8, .inr (.inl y_8))), (a_t_cellsBefore, .inl (cy 1, 8, .inr (.inl f_t_cellsBefore))), (a_t_page, .inr (3, [.ref a_t_page_bytes, .int v_t_page_length])), (a_t_page_bytes, .inl (cy 0, n_t_page_bytes, .inl f_t_page_bytes)), (a_t_reader, .inr (2, [.long v_t_reader_value])), (a_p1, .inr (0, [.ref a_p1_cells, .ref a_p1_cellsBefore, .ref a_p1_page, .ref a_p1_reader, .int v_p1_isWide])), (a_p1_cells, .inl (cy 1, 8, .inr (.inl f_p1_cells))), (a_p1_cellsBefore, .inl (cy 1, 8, .inr (.inl f_p1_cellsBefore))), (a_p1_page, .inr (3, [.ref a_p1_page_bytes, .int v_p1_page_length])), (a_p1_page_bytes, .inl (cy 0, n_p1_page_bytes, .inl f_p1_page_bytes)), (a_p1_reader, .inr (2, [.long v_p1_reader_value]))] → va_S A s.heap H locs → lv_has ls 3 [(2, .int y_7), (0, .ref a_t), (1, .ref a_p1)] → W p l e RM s m ar below meth c H locs 0 0 (MQ below Qc ar s 0 0 A) (F0 m 2 ls []) := by
    intro rr kk n_
    induction n_ with
    | zero => intro y_7 y_8 hm; rw [mX2_become_L2] at hm; cases hm
    | succ n_ ih =>
      intro y_7 y_8 hm H locs ls hP hD hS hl
      rw [mX2_become_L2] at hm
      refine lv_iload_n hx hb dX2_become_2 rfl (lv_at hl 0 rfl) ?_
      refine lv_aload_n hx hb dX2_become_3 rfl (lv_at hl 1 rfl) ?_
      refine va_get (D := D) (cl := classes) (ci := 0) (v := .ref a_t_cells) (C := RX2) (T := TX2) (N := 5) hx hb ht in_RX2 hown hK.1 hP 0 rfl rfl 0 (by decide) (ht _ q_124) (fun _ h9 => h9) rfl dX2_become_4 ?_
      refine va_alen (v := 8) hx hb hK.1 hP 1 1 rfl rfl rfl dX2_become_7 ?_
      refine lv_icmp_ge (tgt := 28) hx hb dX2_become_8 (by decide) (fun c_9 => ?_) (fun c_9 => ?_)
      · replace hm := hm_t c_9 hm
        obtain rfl := Option.some.inj hm
        exact kk _ _ _ hP hD hS (lv_sub hl [1, 2] rfl)
      · replace hm := hm_f c_9 hm
        refine lv_aload_n hx hb dX2_become_11 rfl (lv_at hl 1 rfl) ?_
        refine va_get (D := D) (cl := classes) (ci := 0) (v := .ref a_t_cells) (C := RX2) (T := TX2) (N := 5) hx hb ht in_RX2 hown hK.1 hP 0 rfl rfl 0 (by decide) (ht _ q_124) (fun _ h9 => h9) rfl dX2_become_12 ?_
        refine lv_iload_n hx hb dX2_become_15 rfl (lv_at hl 0 rfl) ?_
        refine lv_aload_n hx hb dX2_become_16 rfl (lv_at hl 2 rfl) ?_
        refine lv_iload_n hx hb dX2_become_17 rfl (lv_at hl 0 rfl) ?_
        obtain ⟨r_10, hr_10, hm⟩ := hm_b hm
        refine k_V (as := [.int y_7]) (rest := [.int y_7, .ref a_t_cells]) (ws' := [(a_t, .inr (0, [.ref a_t_cells, .ref a_t_cellsBefore, .ref a_t_page, .ref a_t_reader, .int v_t_isWide])), (a_t_cells, .inl (cy 1, 8, .inr (.inl y_8))), (a_t_cellsBefore, .inl (cy 1, 8, .inr (.inl f_t_cellsBefore))), (a_t_page, .inr (3, [.ref a_t_page_bytes, .int v_t_page_length])), (a_t_page_bytes, .inl (cy 0, n_t_page_bytes, .inl f_t_page_bytes)), (a_t_reader, .inr (2, [.long v_t_reader_value])), (a_p1, .inr (0, [.ref a_p1_cells, .ref a_p1_cellsBefore, .ref a_p1_page, .ref a_p1_reader, .int v_p1_isWide])), (a_p1_cells, .inl (cy 1, 8, .inr (.inl f_p1_cells))), (a_p1_cellsBefore, .inl (cy 1, 8, .inr (.inl f_p1_cellsBefore))), (a_p1_page, .inr (3, [.ref a_p1_page_bytes, .int v_p1_page_length])), (a_p1_page_bytes, .inl (cy 0, n_p1_page_bytes, .inl f_p1_page_bytes)), (a_p1_reader, .inr (2, [.long v_p1_reader_value]))]) (st2 := [.long r_10, .int y_7, .ref a_t_cells]) (i0 := 6) hx hb hml hown ht hK hP hD hS hA hC hR hl (kcX2_allBits l D cy g a_p1 a_p1_cells a_p1_cellsBefore a_p1_page a_p1_page_bytes a_p1_reader n_p1_page_bytes f_p1_cells f_p1_cellsBefore f_p1_page_bytes v_p1_page_length v_p1_reader_value v_p1_isWide y_7 r_10 hr_10) [6, 7, 8, 9, 10, 11] q_291 q_292 q_293 q_44 q_294 hyX2_allBits ⟨rfl, rfl, rfl⟩ ⟨Nat.le_of_ble_eq_true rfl, Nat.le_of_ble_eq_true rfl, Nat.le_of_ble_eq_true rfl, Nat.le_of_ble_eq_true rfl⟩ rfl rfl rfl rfl (Nat.le_of_ble_eq_true rfl) dX2_become_18 rfl rfl (fun H locs hP hD hS => ?_)
        obtain ⟨hin, hm⟩ := hm_g hm
        refine va_last hx hb hK.1 hP hD hS 1 1 rfl rfl hin dX2_become_21 (fun H locs hP hD hS => ?_)
        have hP : va_P D classes [(a_t, .inr (0, [.ref a_t_cells, .ref a_t_cellsBefore, .ref a_t_page, .ref a_t_reader, .int v_t_isWide])), (a_t_cells, .inl (cy 1, 8, .inr (.inl (vp_updL y_8 y_7.toNatClampNeg r_10)))), (a_t_cellsBefore, .inl (cy 1, 8, .inr (.inl f_t_cellsBefore))), (a_t_page, .inr (3, [.ref a_t_page_bytes, .int v_t_page_length])), (a_t_page_bytes, .inl (cy 0, n_t_page_bytes, .inl f_t_page_bytes)), (a_t_reader, .inr (2, [.long v_t_reader_value])), (a_p1, .inr (0, [.ref a_p1_cells, .ref a_p1_cellsBefore, .ref a_p1_page, .ref a_p1_reader, .int v_p1_isWide])), (a_p1_cells, .inl (cy 1, 8, .inr (.inl f_p1_cells))), (a_p1_cellsBefore, .inl (cy 1, 8, .inr (.inl f_p1_cellsBefore))), (a_p1_page, .inr (3, [.ref a_p1_page_bytes, .int v_p1_page_length])), (a_p1_page_bytes, .inl (cy 0, n_p1_page_bytes, .inl f_p1_page_bytes)), (a_p1_reader, .inr (2, [.long v_p1_reader_value]))] H := hP
        have hD : va_D A [(a_t, .inr (0, [.ref a_t_cells, .ref a_t_cellsBefore, .ref a_t_page, .ref a_t_reader, .int v_t_isWide])), (a_t_cells, .inl (cy 1, 8, .inr (.inl (vp_updL y_8 y_7.toNatClampNeg r_10)))), (a_t_cellsBefore, .inl (cy 1, 8, .inr (.inl f_t_cellsBefore))), (a_t_page, .inr (3, [.ref a_t_page_bytes, .int v_t_page_length])), (a_t_page_bytes, .inl (cy 0, n_t_page_bytes, .inl f_t_page_bytes)), (a_t_reader, .inr (2, [.long v_t_reader_value])), (a_p1, .inr (0, [.ref a_p1_cells, .ref a_p1_cellsBefore, .ref a_p1_page, .ref a_p1_reader, .int v_p1_isWide])), (a_p1_cells, .inl (cy 1, 8, .inr (.inl f_p1_cells))), (a_p1_cellsBefore, .inl (cy 1, 8, .inr (.inl f_p1_cellsBefore))), (a_p1_page, .inr (3, [.ref a_p1_page_bytes, .int v_p1_page_length])), (a_p1_page_bytes, .inl (cy 0, n_p1_page_bytes, .inl f_p1_page_bytes)), (a_p1_reader, .inr (2, [.long v_p1_reader_value]))] := hD
        refine lv_iinc (v := (y_7 + 1)) (lv' := [(2, .int (y_7 + 1)), (0, .ref a_t), (1, .ref a_p1)]) hx hb dX2_become_22 hl (k := 0) rfl rfl (by decide) rfl (fun ls hl => ?_)
        refine lv_goto (tgt := 2) hx hb dX2_become_25 (by decide) ?_
        exact ih (y_7 + 1) (vp_updL y_8 y_7.toNatClampNeg r_10) hm _ _ _ hP hD hS (lv_sub hl [0, 1, 2] rfl)
  obtain ⟨r_11, hL, hm⟩ := hm_b hm
  refine L2 r_11 ?_ k 0 f_t_cells hL _ _ _ hP hD hS (lv_sub hl [0, 1, 2] rfl)
  intro H locs ls hP hD hS hl
  refine lv_aload_n hx hb dX2_become_28 rfl (lv_at hl 0 rfl) ?_
  refine va_get (D := D) (cl := classes) (ci := 0) (v := .ref a_t_page) (C := RX2) (T := TX2) (N := 5) hx hb ht in_RX2 hown hK.1 hP 0 rfl rfl 2 (by decide) (ht _ q_126) (fun _ h9 => h9) rfl dX2_become_29 ?_
  refine lv_aload_n hx hb dX2_become_32 rfl (lv_at hl 1 rfl) ?_
  refine va_get (D := D) (cl := classes) (ci := 0) (v := .ref a_p1_page) (C := RX2) (T := TX2) (N := 5) hx hb ht in_RX2 hown hK.1 hP 6 rfl rfl 2 (by decide) (ht _ q_126) (fun _ h9 => h9) rfl dX2_become_33 ?_
  obtain ⟨r_12, hr_12, hm⟩ := hm_b hm
  refine k_V (as := [.ref a_p1_page]) (rest := []) (ws' := [(a_t, .inr (0, [.ref a_t_cells, .ref a_t_cellsBefore, .ref a_t_page, .ref a_t_reader, .int v_t_isWide])), (a_t_cells, .inl (cy 1, 8, .inr (.inl r_11))), (a_t_cellsBefore, .inl (cy 1, 8, .inr (.inl f_t_cellsBefore))), (a_t_page, .inr (3, [.ref a_t_page_bytes, .int r_12.2])), (a_t_page_bytes, .inl (cy 0, n_t_page_bytes, .inl r_12.1)), (a_t_reader, .inr (2, [.long v_t_reader_value])), (a_p1, .inr (0, [.ref a_p1_cells, .ref a_p1_cellsBefore, .ref a_p1_page, .ref a_p1_reader, .int v_p1_isWide])), (a_p1_cells, .inl (cy 1, 8, .inr (.inl f_p1_cells))), (a_p1_cellsBefore, .inl (cy 1, 8, .inr (.inl f_p1_cellsBefore))), (a_p1_page, .inr (3, [.ref a_p1_page_bytes, .int v_p1_page_length])), (a_p1_page_bytes, .inl (cy 0, n_p1_page_bytes, .inl f_p1_page_bytes)), (a_p1_reader, .inr (2, [.long v_p1_reader_value]))]) (st2 := []) (i0 := 3) hx hb hml hown ht hK hP hD hS hA hC hR hl (kcX6_become l D cy g a_t_page a_t_page_bytes a_p1_page a_p1_page_bytes n_t_page_bytes n_p1_page_bytes f_t_page_bytes v_t_page_length f_p1_page_bytes v_p1_page_length k r_12 hr_12) [3, 4, 9, 10] q_405 q_406 q_407 q_45 q_408 hyX6_become ⟨rfl, rfl, rfl⟩ ⟨Nat.le_of_ble_eq_true rfl, Nat.le_of_ble_eq_true rfl, Nat.le_of_ble_eq_true rfl, Nat.le_of_ble_eq_true rfl⟩ rfl rfl rfl rfl (Nat.le_of_ble_eq_true rfl) dX2_become_36 rfl rfl (fun H locs hP hD hS => ?_)
  refine lv_aload_n hx hb dX2_become_39 rfl (lv_at hl 0 rfl) ?_
  refine lv_aload_n hx hb dX2_become_40 rfl (lv_at hl 1 rfl) ?_
  refine va_get (D := D) (cl := classes) (ci := 0) (v := .int v_p1_isWide) (C := RX2) (T := TX2) (N := 5) hx hb ht in_RX2 hown hK.1 hP 6 rfl rfl 4 (by decide) (ht _ q_130) (fun _ h9 => h9) rfl dX2_become_41 ?_
  obtain ⟨hbz, hm⟩ := hm_g hm
  refine va_put (D := D) (cl := classes) (ci := 0) (v := .int v_p1_isWide) (ty := .boolean) (C := RX2) (T := TX2) (N := 5) hx hb ht in_RX2 tyX2 tyX2_ok nmX2 hown hK.1 hP hD hS 0 rfl rfl 4 (by decide) (ht _ q_130) (fun _ h9 => h9) rfl (by decide +kernel) (k_narz hbz) (k_fitz hbz) (Nat.le_of_ble_eq_true rfl) dX2_become_44 (fun H locs hP hD hS => ?_)
  have hP : va_P D classes [(a_t, .inr (0, [.ref a_t_cells, .ref a_t_cellsBefore, .ref a_t_page, .ref a_t_reader, .int v_p1_isWide])), (a_t_cells, .inl (cy 1, 8, .inr (.inl r_11))), (a_t_cellsBefore, .inl (cy 1, 8, .inr (.inl f_t_cellsBefore))), (a_t_page, .inr (3, [.ref a_t_page_bytes, .int r_12.2])), (a_t_page_bytes, .inl (cy 0, n_t_page_bytes, .inl r_12.1)), (a_t_reader, .inr (2, [.long v_t_reader_value])), (a_p1, .inr (0, [.ref a_p1_cells, .ref a_p1_cellsBefore, .ref a_p1_page, .ref a_p1_reader, .int v_p1_isWide])), (a_p1_cells, .inl (cy 1, 8, .inr (.inl f_p1_cells))), (a_p1_cellsBefore, .inl (cy 1, 8, .inr (.inl f_p1_cellsBefore))), (a_p1_page, .inr (3, [.ref a_p1_page_bytes, .int v_p1_page_length])), (a_p1_page_bytes, .inl (cy 0, n_p1_page_bytes, .inl f_p1_page_bytes)), (a_p1_reader, .inr (2, [.long v_p1_reader_value]))] H := hP
  have hD : va_D A [(a_t, .inr (0, [.ref a_t_cells, .ref a_t_cellsBefore, .ref a_t_page, .ref a_t_reader, .int v_p1_isWide])), (a_t_cells, .inl (cy 1, 8, .inr (.inl r_11))), (a_t_cellsBefore, .inl (cy 1, 8, .inr (.inl f_t_cellsBefore))), (a_t_page, .inr (3, [.ref a_t_page_bytes, .int r_12.2])), (a_t_page_bytes, .inl (cy 0, n_t_page_bytes, .inl r_12.1)), (a_t_reader, .inr (2, [.long v_t_reader_value])), (a_p1, .inr (0, [.ref a_p1_cells, .ref a_p1_cellsBefore, .ref a_p1_page, .ref a_p1_reader, .int v_p1_isWide])), (a_p1_cells, .inl (cy 1, 8, .inr (.inl f_p1_cells))), (a_p1_cellsBefore, .inl (cy 1, 8, .inr (.inl f_p1_cellsBefore))), (a_p1_page, .inr (3, [.ref a_p1_page_bytes, .int v_p1_page_length])), (a_p1_page_bytes, .inl (cy 0, n_p1_page_bytes, .inl f_p1_page_bytes)), (a_p1_reader, .inr (2, [.long v_p1_reader_value]))] := hD
  obtain rfl := Option.some.inj hm
  exact k_vret hx hb hr hlocks hQc hP hS rfl rfl dX2_become_47
