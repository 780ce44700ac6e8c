theorem q_4 : Cond.selects yX10_isWord.cls yX10_isWord yX10_isWord ∈ LW := LW_of 4 (by decide +kernel) rfl
theorem q_12 : Cond.selects yX8_isReadBack.cls yX8_isReadBack yX8_isReadBack ∈ LW := LW_of 12 (by decide +kernel) rfl
theorem q_49 : Cond.initialized RX7 ∈ LW := LW_of 49 (by decide +kernel) rfl
theorem q_52 : Cond.initialized RX10 ∈ LW := LW_of 52 (by decide +kernel) rfl
theorem q_53 : Cond.initialized RX8 ∈ LW := LW_of 53 (by decide +kernel) rfl
theorem q_63 : Cond.initialized RJ0 ∈ LW := LW_of 63 (by decide +kernel) rfl
theorem q_64 : Cond.initialized RJ1 ∈ LW := LW_of 64 (by decide +kernel) rfl
theorem q_65 : Cond.initialized RJ3 ∈ LW := LW_of 65 (by decide +kernel) rfl
theorem q_161 : Cond.fieldLink RX7 9 "RadixDesk$Statement" "arguments" "[J" ∈ LW := LW_of 161 (by decide +kernel) rfl
theorem q_162 : Cond.fieldLink RX7 21 "RadixDesk$Statement" "verb" "LRadixDesk$Verb;" ∈ LW := LW_of 162 (by decide +kernel) rfl
theorem q_164 : Cond.fieldLink RX7 24 "RadixDesk$Statement" "place" "I" ∈ LW := LW_of 164 (by decide +kernel) rfl
theorem q_166 : Cond.fieldLink RX7 28 "RadixDesk$Statement" "pieceFrom" "I" ∈ LW := LW_of 166 (by decide +kernel) rfl
theorem q_168 : Cond.fieldLink RX7 31 "RadixDesk$Statement" "pieceTo" "I" ∈ LW := LW_of 168 (by decide +kernel) rfl
theorem q_192 : Cond.fieldLink RX10 14 "RadixDesk$Words" "text" "LRadixDesk$Row;" ∈ LW := LW_of 192 (by decide +kernel) rfl
theorem q_194 : Cond.fieldLink RX10 20 "RadixDesk$Words" "from" "I" ∈ LW := LW_of 194 (by decide +kernel) rfl
theorem q_196 : Cond.fieldLink RX10 24 "RadixDesk$Words" "to" "I" ∈ LW := LW_of 196 (by decide +kernel) rfl
theorem q_248 : Cond.fieldLink RX8 14 "RadixDesk$Theorem" "sheet" "LRadixDesk$Row;" ∈ LW := LW_of 248 (by decide +kernel) rfl
theorem q_249 : Cond.fieldLink RX8 23 "RadixDesk$Theorem" "reader" "LRadixDesk$Reader;" ∈ LW := LW_of 249 (by decide +kernel) rfl
theorem q_420 : Cond.methodLink RX10 27 yX10_advance ∈ LW := LW_of 420 (by decide +kernel) rfl
theorem q_421 : Cond.instanceMethod yX10_advance ∈ LW := LW_of 421 (by decide +kernel) rfl
theorem q_422 : Cond.selects yX10_advance.cls yX10_advance yX10_advance ∈ LW := LW_of 422 (by decide +kernel) rfl
theorem q_423 : Cond.code yX10_advance cX10_advance 1 none ∈ LW := LW_of 423 (by decide +kernel) rfl
theorem q_424 : Cond.methodLink RX10 30 yX6_size ∈ LW := LW_of 424 (by decide +kernel) rfl
theorem q_425 : Cond.methodLink RX10 34 yX6_byteAt ∈ LW := LW_of 425 (by decide +kernel) rfl
theorem q_426 : Cond.methodLink RX10 38 yX10_isGap ∈ LW := LW_of 426 (by decide +kernel) rfl
theorem q_427 : Cond.static yX10_isGap ∈ LW := LW_of 427 (by decide +kernel) rfl
theorem q_428 : Cond.code yX10_isGap cX10_isGap 1 (some .boolean) ∈ LW := LW_of 428 (by decide +kernel) rfl
theorem q_429 : Cond.methodLink RX10 42 yJ9_min_7cf53 ∈ LW := LW_of 429 (by decide +kernel) rfl
theorem q_432 : Cond.methodLink RX10 48 yX10_isAnySign ∈ LW := LW_of 432 (by decide +kernel) rfl
theorem q_433 : Cond.instanceMethod yX10_isAnySign ∈ LW := LW_of 433 (by decide +kernel) rfl
theorem q_434 : Cond.selects yX10_isAnySign.cls yX10_isAnySign yX10_isAnySign ∈ LW := LW_of 434 (by decide +kernel) rfl
theorem q_435 : Cond.code yX10_isAnySign cX10_isAnySign 1 (some .boolean) ∈ LW := LW_of 435 (by decide +kernel) rfl
theorem q_436 : Cond.methodLink RX10 52 yX10_isSignByte ∈ LW := LW_of 436 (by decide +kernel) rfl
theorem q_437 : Cond.static yX10_isSignByte ∈ LW := LW_of 437 (by decide +kernel) rfl
theorem q_438 : Cond.code yX10_isSignByte cX10_isSignByte 1 (some .boolean) ∈ LW := LW_of 438 (by decide +kernel) rfl
theorem q_461 : Cond.methodLink RX10 65 yX10_isWord ∈ LW := LW_of 461 (by decide +kernel) rfl
theorem q_463 : Cond.instanceMethod yX10_isWord ∈ LW := LW_of 463 (by decide +kernel) rfl
theorem q_464 : Cond.code yX10_isWord cX10_isWord 3 (some .boolean) ∈ LW := LW_of 464 (by decide +kernel) rfl
theorem q_465 : Cond.methodLink RX10 69 yJ0_length_8abf5 ∈ LW := LW_of 465 (by decide +kernel) rfl
theorem q_466 : Cond.instanceMethod yJ0_length_8abf5 ∈ LW := LW_of 466 (by decide +kernel) rfl
theorem q_467 : Cond.selects yJ0_length_8abf5.cls yJ0_length_8abf5 yJ0_length_8abf5 ∈ LW := LW_of 467 (by decide +kernel) rfl
theorem q_468 : Cond.code yJ0_length_8abf5 cJ0_length_8abf5 1 (some .int) ∈ LW := LW_of 468 (by decide +kernel) rfl
theorem q_469 : Cond.methodLink RJ0 335 yJ0_coder_7d493 ∈ LW := LW_of 469 (by decide +kernel) rfl
theorem q_470 : Cond.instanceMethod yJ0_coder_7d493 ∈ LW := LW_of 470 (by decide +kernel) rfl
theorem q_471 : Cond.selects yJ0_coder_7d493.cls yJ0_coder_7d493 yJ0_coder_7d493 ∈ LW := LW_of 471 (by decide +kernel) rfl
theorem q_472 : Cond.code yJ0_coder_7d493 cJ0_coder_7d493 1 (some .byte) ∈ LW := LW_of 472 (by decide +kernel) rfl
theorem q_473 : Cond.fieldLink RJ0 38 "java/lang/String" "COMPACT_STRINGS" "Z" ∈ LW := LW_of 473 (by decide +kernel) rfl
theorem q_475 : Cond.methodLink RX10 74 yJ0_charAt_5068e ∈ LW := LW_of 475 (by decide +kernel) rfl
theorem q_476 : Cond.instanceMethod yJ0_charAt_5068e ∈ LW := LW_of 476 (by decide +kernel) rfl
theorem q_477 : Cond.selects yJ0_charAt_5068e.cls yJ0_charAt_5068e yJ0_charAt_5068e ∈ LW := LW_of 477 (by decide +kernel) rfl
theorem q_478 : Cond.code yJ0_charAt_5068e cJ0_charAt_5068e 2 (some .char) ∈ LW := LW_of 478 (by decide +kernel) rfl
theorem q_479 : Cond.methodLink RJ0 492 yJ0_isLatin1_aae02 ∈ LW := LW_of 479 (by decide +kernel) rfl
theorem q_480 : Cond.instanceMethod yJ0_isLatin1_aae02 ∈ LW := LW_of 480 (by decide +kernel) rfl
theorem q_481 : Cond.selects yJ0_isLatin1_aae02.cls yJ0_isLatin1_aae02 yJ0_isLatin1_aae02 ∈ LW := LW_of 481 (by decide +kernel) rfl
theorem q_482 : Cond.code yJ0_isLatin1_aae02 cJ0_isLatin1_aae02 1 (some .boolean) ∈ LW := LW_of 482 (by decide +kernel) rfl
theorem q_483 : Cond.methodLink RJ0 495 yJ1_charAt_3b067 ∈ LW := LW_of 483 (by decide +kernel) rfl
theorem q_484 : Cond.static yJ1_charAt_3b067 ∈ LW := LW_of 484 (by decide +kernel) rfl
theorem q_485 : Cond.code yJ1_charAt_3b067 cJ1_charAt_3b067 2 (some .char) ∈ LW := LW_of 485 (by decide +kernel) rfl
theorem q_486 : Cond.methodLink RJ1 9 yJ0_checkIndex_df160 ∈ LW := LW_of 486 (by decide +kernel) rfl
theorem q_487 : Cond.static yJ0_checkIndex_df160 ∈ LW := LW_of 487 (by decide +kernel) rfl
theorem q_488 : Cond.code yJ0_checkIndex_df160 cJ0_checkIndex_df160 2 none ∈ LW := LW_of 488 (by decide +kernel) rfl
theorem q_489 : Cond.fieldLink RJ0 1053 "jdk/internal/util/Preconditions" "SIOOBE_FORMATTER" "Ljava/util/function/BiFunction;" ∈ LW := LW_of 489 (by decide +kernel) rfl
theorem q_491 : Cond.methodLink RJ0 1059 yJ3_checkIndex_8e157 ∈ LW := LW_of 491 (by decide +kernel) rfl
theorem q_492 : Cond.static yJ3_checkIndex_8e157 ∈ LW := LW_of 492 (by decide +kernel) rfl
theorem q_493 : Cond.code yJ3_checkIndex_8e157 cJ3_checkIndex_8e157 3 (some .int) ∈ LW := LW_of 493 (by decide +kernel) rfl
theorem q_556 : Cond.constantLong RX9 125 2 ∈ LW := LW_of 556 (by decide +kernel) rfl
theorem q_557 : Cond.constantLong RX9 127 (-9223372036854775808) ∈ LW := LW_of 557 (by decide +kernel) rfl
theorem q_561 : Cond.constantLong RX9 129 7 ∈ LW := LW_of 561 (by decide +kernel) rfl
theorem q_562 : Cond.constantLong RX9 131 36 ∈ LW := LW_of 562 (by decide +kernel) rfl
theorem q_563 : Cond.constantLong RX9 133 50 ∈ LW := LW_of 563 (by decide +kernel) rfl
theorem q_564 : Cond.constantLong RX9 135 9223372036854775807 ∈ LW := LW_of 564 (by decide +kernel) rfl
theorem q_585 : Cond.methodLink RX7 34 yX7_argument ∈ LW := LW_of 585 (by decide +kernel) rfl
theorem q_586 : Cond.instanceMethod yX7_argument ∈ LW := LW_of 586 (by decide +kernel) rfl
theorem q_587 : Cond.selects yX7_argument.cls yX7_argument yX7_argument ∈ LW := LW_of 587 (by decide +kernel) rfl
theorem q_588 : Cond.code yX7_argument cX7_argument 2 (some .long) ∈ LW := LW_of 588 (by decide +kernel) rfl
theorem q_636 : Cond.instanceMethod yX2_ones ∈ LW := LW_of 636 (by decide +kernel) rfl
theorem q_637 : Cond.selects yX2_ones.cls yX2_ones yX2_ones ∈ LW := LW_of 637 (by decide +kernel) rfl
theorem q_638 : Cond.code yX2_ones cX2_ones 2 (some .int) ∈ LW := LW_of 638 (by decide +kernel) rfl
theorem q_788 : Cond.methodLink RX8 27 yX8_isReadBack ∈ LW := LW_of 788 (by decide +kernel) rfl
theorem q_790 : Cond.instanceMethod yX8_isReadBack ∈ LW := LW_of 790 (by decide +kernel) rfl
theorem q_791 : Cond.code yX8_isReadBack cX8_isReadBack 7 (some .boolean) ∈ LW := LW_of 791 (by decide +kernel) rfl
theorem q_792 : Cond.methodLink RX8 51 yX2_valueOf ∈ LW := LW_of 792 (by decide +kernel) rfl
theorem q_793 : Cond.methodLink RX8 55 yX3_writeOn ∈ LW := LW_of 793 (by decide +kernel) rfl
theorem q_794 : Cond.methodLink RX8 61 yX6_size ∈ LW := LW_of 794 (by decide +kernel) rfl
theorem q_795 : Cond.methodLink RX8 69 yX5_canRead ∈ LW := LW_of 795 (by decide +kernel) rfl
theorem q_796 : Cond.methodLink RX8 31 yX8_isTurnedBack ∈ LW := LW_of 796 (by decide +kernel) rfl
theorem q_797 : Cond.static yX8_isTurnedBack ∈ LW := LW_of 797 (by decide +kernel) rfl
theorem q_798 : Cond.code yX8_isTurnedBack cX8_isTurnedBack 4 (some .boolean) ∈ LW := LW_of 798 (by decide +kernel) rfl
theorem q_799 : Cond.methodLink RX8 77 yX2_allBits ∈ LW := LW_of 799 (by decide +kernel) rfl
theorem q_800 : Cond.methodLink RX8 80 yX1_turned ∈ LW := LW_of 800 (by decide +kernel) rfl
theorem q_801 : Cond.methodLink RX8 86 yX1_signed ∈ LW := LW_of 801 (by decide +kernel) rfl
theorem q_802 : Cond.methodLink RX8 89 yX2_signed ∈ LW := LW_of 802 (by decide +kernel) rfl
theorem q_803 : Cond.methodLink RX8 35 yX8_areBytesTurnedBack ∈ LW := LW_of 803 (by decide +kernel) rfl
theorem q_804 : Cond.static yX8_areBytesTurnedBack ∈ LW := LW_of 804 (by decide +kernel) rfl
theorem q_805 : Cond.code yX8_areBytesTurnedBack cX8_areBytesTurnedBack 4 (some .boolean) ∈ LW := LW_of 805 (by decide +kernel) rfl
theorem q_806 : Cond.methodLink RX8 91 yX1_bytesTurned ∈ LW := LW_of 806 (by decide +kernel) rfl
theorem q_807 : Cond.methodLink RX8 38 yX8_isRotatedBack ∈ LW := LW_of 807 (by decide +kernel) rfl
theorem q_808 : Cond.static yX8_isRotatedBack ∈ LW := LW_of 808 (by decide +kernel) rfl
theorem q_809 : Cond.code yX8_isRotatedBack cX8_isRotatedBack 7 (some .boolean) ∈ LW := LW_of 809 (by decide +kernel) rfl
theorem q_810 : Cond.methodLink RX8 94 yX2_ones ∈ LW := LW_of 810 (by decide +kernel) rfl
theorem q_811 : Cond.methodLink RX8 98 yX1_rotatedLeft ∈ LW := LW_of 811 (by decide +kernel) rfl
theorem q_812 : Cond.methodLink RX8 102 yX1_rotatedRight ∈ LW := LW_of 812 (by decide +kernel) rfl
theorem q_813 : Cond.methodLink RX8 41 yX2_plain ∈ LW := LW_of 813 (by decide +kernel) rfl
theorem q_814 : Cond.methodLink RX8 47 yX8_isDivided ∈ LW := LW_of 814 (by decide +kernel) rfl
theorem q_815 : Cond.static yX8_isDivided ∈ LW := LW_of 815 (by decide +kernel) rfl
theorem q_816 : Cond.code yX8_isDivided cX8_isDivided 8 (some .boolean) ∈ LW := LW_of 816 (by decide +kernel) rfl
theorem q_817 : Cond.methodLink RX8 105 yX1_plainQuotient ∈ LW := LW_of 817 (by decide +kernel) rfl
theorem q_818 : Cond.methodLink RX8 109 yX1_plainOrder ∈ LW := LW_of 818 (by decide +kernel) rfl
theorem q_994 : Cond.methodLink RX6 38 yJ0_length_8abf5 ∈ LW := LW_of 994 (by decide +kernel) rfl
theorem q_995 : Cond.methodLink RX6 43 yJ0_charAt_5068e ∈ LW := LW_of 995 (by decide +kernel) rfl
theorem q_1923 : Cond.fieldLink RJ0 9 "java/lang/String" "value" "[B" ∈ LW := LW_of 1923 (by decide +kernel) rfl
theorem q_1924 : Cond.fieldLink RJ0 15 "java/lang/String" "coder" "B" ∈ LW := LW_of 1924 (by decide +kernel) rfl
theorem q_2076 : Cond.fieldLink RJx29ce0 7 "java/lang/Enum" "ordinal" "I" ∈ LW := LW_of 2076 (by decide +kernel) rfl
theorem qn_76 : Cond.fieldLinkNest RX8 73 "RadixDesk$Reader" "value" "J" "RadixDesk" ∈ NW := NW_of 76 (by decide +kernel) rfl
theorem qn_89 : Cond.fieldLinkNest RX8 65 "RadixDesk$Desk" "isWide" "Z" "RadixDesk" ∈ NW := NW_of 89 (by decide +kernel) rfl
theorem qn_417 : Cond.fieldLinkNest RX10 55 "RadixDesk$Verb" "ALL" "[LRadixDesk$Verb;" "RadixDesk" ∈ NW := NW_of 417 (by decide +kernel) rfl
theorem qn_2032 : Cond.fieldLinkNest RX10 61 "RadixDesk$Verb" "word" "Ljava/lang/String;" "RadixDesk" ∈ NW := NW_of 2032 (by decide +kernel) rfl
theorem hyJ0_charAt_5068e : yJ0_charAt_5068e.cls ≠ "java/lang/invoke/MethodHandle" ∧ yJ0_charAt_5068e.cls ≠ "java/lang/invoke/VarHandle" ∧ (parseMethodDescriptor yJ0_charAt_5068e.desc).map (fun d => d.parameters.length) = some 1 := by decide +kernel
theorem hyJ0_checkIndex_df160 : yJ0_checkIndex_df160.cls ≠ "java/lang/invoke/MethodHandle" ∧ yJ0_checkIndex_df160.cls ≠ "java/lang/invoke/VarHandle" ∧ (parseMethodDescriptor yJ0_checkIndex_df160.desc).map (fun d => d.parameters.length) = some 2 := by decide +kernel
theorem hyJ0_coder_7d493 : yJ0_coder_7d493.cls ≠ "java/lang/invoke/MethodHandle" ∧ yJ0_coder_7d493.cls ≠ "java/lang/invoke/VarHandle" ∧ (parseMethodDescriptor yJ0_coder_7d493.desc).map (fun d => d.parameters.length) = some 0 := by decide +kernel
theorem hyJ0_isLatin1_aae02 : yJ0_isLatin1_aae02.cls ≠ "java/lang/invoke/MethodHandle" ∧ yJ0_isLatin1_aae02.cls ≠ "java/lang/invoke/VarHandle" ∧ (parseMethodDescriptor yJ0_isLatin1_aae02.desc).map (fun d => d.parameters.length) = some 0 := by decide +kernel
theorem hyJ0_length_8abf5 : yJ0_length_8abf5.cls ≠ "java/lang/invoke/MethodHandle" ∧ yJ0_length_8abf5.cls ≠ "java/lang/invoke/VarHandle" ∧ (parseMethodDescriptor yJ0_length_8abf5.desc).map (fun d => d.parameters.length) = some 0 := by decide +kernel
theorem hyJ1_charAt_3b067 : yJ1_charAt_3b067.cls ≠ "java/lang/invoke/MethodHandle" ∧ yJ1_charAt_3b067.cls ≠ "java/lang/invoke/VarHandle" ∧ (parseMethodDescriptor yJ1_charAt_3b067.desc).map (fun d => d.parameters.length) = some 2 := by decide +kernel
theorem hyJ3_checkIndex_8e157 : yJ3_checkIndex_8e157.cls ≠ "java/lang/invoke/MethodHandle" ∧ yJ3_checkIndex_8e157.cls ≠ "java/lang/invoke/VarHandle" ∧ (parseMethodDescriptor yJ3_checkIndex_8e157.desc).map (fun d => d.parameters.length) = some 3 := by decide +kernel
theorem hyX10_advance : yX10_advance.cls ≠ "java/lang/invoke/MethodHandle" ∧ yX10_advance.cls ≠ "java/lang/invoke/VarHandle" ∧ (parseMethodDescriptor yX10_advance.desc).map (fun d => d.parameters.length) = some 0 := by decide +kernel
theorem hyX10_isAnySign : yX10_isAnySign.cls ≠ "java/lang/invoke/MethodHandle" ∧ yX10_isAnySign.cls ≠ "java/lang/invoke/VarHandle" ∧ (parseMethodDescriptor yX10_isAnySign.desc).map (fun d => d.parameters.length) = some 0 := by decide +kernel
theorem hyX10_isGap : yX10_isGap.cls ≠ "java/lang/invoke/MethodHandle" ∧ yX10_isGap.cls ≠ "java/lang/invoke/VarHandle" ∧ (parseMethodDescriptor yX10_isGap.desc).map (fun d => d.parameters.length) = some 1 := by decide +kernel
theorem hyX10_isSignByte : yX10_isSignByte.cls ≠ "java/lang/invoke/MethodHandle" ∧ yX10_isSignByte.cls ≠ "java/lang/invoke/VarHandle" ∧ (parseMethodDescriptor yX10_isSignByte.desc).map (fun d => d.parameters.length) = some 1 := by decide +kernel
theorem hyX10_isWord : yX10_isWord.cls ≠ "java/lang/invoke/MethodHandle" ∧ yX10_isWord.cls ≠ "java/lang/invoke/VarHandle" ∧ (parseMethodDescriptor yX10_isWord.desc).map (fun d => d.parameters.length) = some 1 := by decide +kernel
theorem hyX2_ones : yX2_ones.cls ≠ "java/lang/invoke/MethodHandle" ∧ yX2_ones.cls ≠ "java/lang/invoke/VarHandle" ∧ (parseMethodDescriptor yX2_ones.desc).map (fun d => d.parameters.length) = some 1 := by decide +kernel
theorem hyX7_argument : yX7_argument.cls ≠ "java/lang/invoke/MethodHandle" ∧ yX7_argument.cls ≠ "java/lang/invoke/VarHandle" ∧ (parseMethodDescriptor yX7_argument.desc).map (fun d => d.parameters.length) = some 1 := by decide +kernel
theorem hyX8_areBytesTurnedBack : yX8_areBytesTurnedBack.cls ≠ "java/lang/invoke/MethodHandle" ∧ yX8_areBytesTurnedBack.cls ≠ "java/lang/invoke/VarHandle" ∧ (parseMethodDescriptor yX8_areBytesTurnedBack.desc).map (fun d => d.parameters.length) = some 2 := by decide +kernel
theorem hyX8_isDivided : yX8_isDivided.cls ≠ "java/lang/invoke/MethodHandle" ∧ yX8_isDivided.cls ≠ "java/lang/invoke/VarHandle" ∧ (parseMethodDescriptor yX8_isDivided.desc).map (fun d => d.parameters.length) = some 2 := by decide +kernel
theorem hyX8_isReadBack : yX8_isReadBack.cls ≠ "java/lang/invoke/MethodHandle" ∧ yX8_isReadBack.cls ≠ "java/lang/invoke/VarHandle" ∧ (parseMethodDescriptor yX8_isReadBack.desc).map (fun d => d.parameters.length) = some 4 := by decide +kernel
theorem hyX8_isRotatedBack : yX8_isRotatedBack.cls ≠ "java/lang/invoke/MethodHandle" ∧ yX8_isRotatedBack.cls ≠ "java/lang/invoke/VarHandle" ∧ (parseMethodDescriptor yX8_isRotatedBack.desc).map (fun d => d.parameters.length) = some 2 := by decide +kernel
theorem hyX8_isTurnedBack : yX8_isTurnedBack.cls ≠ "java/lang/invoke/MethodHandle" ∧ yX8_isTurnedBack.cls ≠ "java/lang/invoke/VarHandle" ∧ (parseMethodDescriptor yX8_isTurnedBack.desc).map (fun d => d.parameters.length) = some 2 := by decide +kernel
theorem dJx29ce0_ordinal_8abf5_0 : decode cJx29ce0_ordinal_8abf5 0 = .ok (.aload_n 0, 1) := by decide +kernel
theorem dJx29ce0_ordinal_8abf5_1 : decode cJx29ce0_ordinal_8abf5 1 = .ok (.getfield 7, 3) := by decide +kernel
theorem dJx29ce0_ordinal_8abf5_4 : decode cJx29ce0_ordinal_8abf5 4 = .ok (.ireturn, 1) := by decide +kernel
def mJx29ce0_ordinal_8abf5 (v1 : Nat) : Option (Int32) := some (nI v1)
set_option maxHeartbeats 4000000 in
set_option maxRecDepth 100000 in
theorem kcJx29ce0_ordinal_8abf5 (l : Launch) (D : va_G) (cy : Nat → ClassId) (g : Nat → Nat) (v1 : Nat) (h_v1 : v1 < 31) (R : Int32) (hm : mJx29ce0_ordinal_8abf5 v1 = some R) : Con l D cy g yJx29ce0_ordinal_8abf5 cJx29ce0_ordinal_8abf5 1 (some .int) 0 0 0 0 [.ref (g (200 + v1))] [] [] (some (.int R)) := by
  refine Con.of (by decide +kernel) (Nat.le_of_ble_eq_true rfl) ?_
  intro p e RM s m ar below meth c A Qc ls hx hb hr hml hown hlocks hnm ht hK hP hD hS hA hR hC hQc hl
  have hown : s.vm.findClass RJx29ce0 = some m.cls := hown
  have hl : lv_has ls 1 [(0, .ref (g (200 + v1)))] := hl
  rw [mJx29ce0_ordinal_8abf5] at hm
  refine lv_aload_n hx hb dJx29ce0_ordinal_8abf5_0 rfl (lv_at hl 0 rfl) ?_
  refine vk_getf (v := .int (nI v1)) hx hb (hC.2.1 _ h_v1).2.1 hS hown (ht _ q_2076) (fun _ h9 => h9) dJx29ce0_ordinal_8abf5_1 ?_
  obtain rfl := Option.some.inj hm
  exact k_iret hx hb hr hlocks hQc hP hS rfl rfl dJx29ce0_ordinal_8abf5_4
theorem dJ0_coder_7d493_0 : decode cJ0_coder_7d493 0 = .ok (.getstatic 38, 3) := by decide +kernel
theorem dJ0_coder_7d493_3 : decode cJ0_coder_7d493 3 = .ok (.ifCond .eq 10, 3) := by decide +kernel
theorem dJ0_coder_7d493_6 : decode cJ0_coder_7d493 6 = .ok (.aload_n 0, 1) := by decide +kernel
theorem dJ0_coder_7d493_7 : decode cJ0_coder_7d493 7 = .ok (.getfield 15, 3) := by decide +kernel
theorem dJ0_coder_7d493_10 : decode cJ0_coder_7d493 10 = .ok (.goto 4, 3) := by decide +kernel
theorem dJ0_coder_7d493_13 : decode cJ0_coder_7d493 13 = .ok (.iconst 1, 1) := by decide +kernel
theorem dJ0_coder_7d493_14 : decode cJ0_coder_7d493 14 = .ok (.ireturn, 1) := by decide +kernel
def mJ0_coder_7d493  : Option (Int32) := (if (1 : Int32) = 0 then (if ¬ (narrow .byte (.int 1) = .int 1) then none else some 1) else (if ¬ (narrow .byte (.int 0) = .int 0) then none else some 0))
set_option maxHeartbeats 4000000 in
set_option maxRecDepth 100000 in
theorem kcJ0_coder_7d493 (l : Launch) (D : va_G) (cy : Nat → ClassId) (g : Nat → Nat) (i1 : Nat) (h_i1 : i1 < 44) (R : Int32) (hm : mJ0_coder_7d493 = some R) : Con l D cy g yJ0_coder_7d493 cJ0_coder_7d493 1 (some .byte) 0 0 0 0 [.ref (g i1)] [] [] (some (.int R)) := by
  refine Con.of (by decide +kernel) (Nat.le_of_ble_eq_true rfl) ?_
  intro p e RM s m ar below meth c A Qc ls hx hb hr hml hown hlocks hnm ht hK hP hD hS hA hR hC hQc hl
  have hown : s.vm.findClass RJ0 = some m.cls := hown
  have hl : lv_has ls 1 [(0, .ref (g i1))] := hl
  rw [mJ0_coder_7d493] at hm
  refine va_gets (v := .int 1) hx hb hC.2.2.1.1 hS hown (ht _ q_473) (fun _ h9 => h9) dJ0_coder_7d493_0 ?_
  refine lv_if_eq (tgt := 13) hx hb dJ0_coder_7d493_3 (by decide) (fun c_1 => ?_) (fun c_1 => ?_)
  · replace hm := hm_t c_1 hm
    refine lv_iconst (v := 1) hx hb dJ0_coder_7d493_13 (by decide) ?_
    obtain ⟨hbz, hm⟩ := hm_g hm
    obtain rfl := Option.some.inj hm
    exact k_cret hx hb hr (Decidable.not_not.mp hbz) hlocks hQc hP hS rfl rfl dJ0_coder_7d493_14
  · replace hm := hm_f c_1 hm
    refine lv_aload_n hx hb dJ0_coder_7d493_6 rfl (lv_at hl 0 rfl) ?_
    refine vk_getf (v := .int 0) hx hb (hC.1 _ h_i1).2.1 hS hown (ht _ q_1924) (fun _ h9 => h9) dJ0_coder_7d493_7 ?_
    refine lv_goto (tgt := 14) hx hb dJ0_coder_7d493_10 (by decide) ?_
    obtain ⟨hbz, hm⟩ := hm_g hm
    obtain rfl := Option.some.inj hm
    exact k_cret hx hb hr (Decidable.not_not.mp hbz) hlocks hQc hP hS rfl rfl dJ0_coder_7d493_14
theorem dJ0_length_8abf5_0 : decode cJ0_length_8abf5 0 = .ok (.aload_n 0, 1) := by decide +kernel
theorem dJ0_length_8abf5_1 : decode cJ0_length_8abf5 1 = .ok (.getfield 9, 3) := by decide +kernel
theorem dJ0_length_8abf5_4 : decode cJ0_length_8abf5 4 = .ok (.arraylength, 1) := by decide +kernel
theorem dJ0_length_8abf5_5 : decode cJ0_length_8abf5 5 = .ok (.aload_n 0, 1) := by decide +kernel
theorem dJ0_length_8abf5_6 : decode cJ0_length_8abf5 6 = .ok (.invokevirtual 335, 3) := by decide +kernel
theorem dJ0_length_8abf5_9 : decode cJ0_length_8abf5 9 = .ok (.ishr, 1) := by decide +kernel
theorem dJ0_length_8abf5_10 : decode cJ0_length_8abf5 10 = .ok (.ireturn, 1) := by decide +kernel
def mJ0_length_8abf5 (i1 : Nat) : Option (Int32) := ((mJ0_coder_7d493).bind (fun r_1 => some (((nI (sLen i1)) >>> (r_1 &&& 31)))))
set_option maxHeartbeats 4000000 in
set_option maxRecDepth 100000 in
theorem kcJ0_length_8abf5 (l : Launch) (D : va_G) (cy : Nat → ClassId) (g : Nat → Nat) (i1 : Nat) (h_i1 : i1 < 44) (R : Int32) (hm : mJ0_length_8abf5 i1 = some R) : Con l D cy g yJ0_length_8abf5 cJ0_length_8abf5 1 (some .int) 1 20 0 0 [.ref (g i1)] [] [] (some (.int R)) := by
  refine Con.of (by decide +kernel) (Nat.le_of_ble_eq_true rfl) ?_
  intro p e RM s m ar below meth c A Qc ls hx hb hr hml hown hlocks hnm ht hK hP hD hS hA hR hC hQc hl
  have hown : s.vm.findClass RJ0 = some m.cls := hown
  have hl : lv_has ls 1 [(0, .ref (g i1))] := hl
  rw [mJ0_length_8abf5] at hm
  refine lv_aload_n hx hb dJ0_length_8abf5_0 rfl (lv_at hl 0 rfl) ?_
  refine vk_getf (v := .ref (g (100 + i1))) hx hb (hC.1 _ h_i1).2.2.1 hS hown (ht _ q_1923) (fun _ h9 => h9) dJ0_length_8abf5_1 ?_
  refine va_tlen (v := (nI (sLen i1))) hx hb (hC.1 _ h_i1).2.2.2 hS rfl dJ0_length_8abf5_4 ?_
  refine lv_aload_n hx hb dJ0_length_8abf5_5 rfl (lv_at hl 0 rfl) ?_
  obtain ⟨r_1, hr_1, hm⟩ := hm_b hm
  refine k_VC (as := []) (rest := [.int (nI (sLen i1))]) (ws' := []) (st2 := [.int r_1, .int (nI (sLen i1))]) hx hb hml hown ht hK hP hD hS hA hC hR hl (kcJ0_coder_7d493 l D cy g i1 h_i1 r_1 hr_1) [] q_469 q_470 q_471 q_63 q_472 hyJ0_coder_7d493 (hC.1 _ h_i1).1 rfl ⟨Nat.le_of_ble_eq_true rfl, Nat.le_of_ble_eq_true rfl, Nat.le_of_ble_eq_true rfl, Nat.le_of_ble_eq_true rfl⟩ rfl rfl rfl rfl (Nat.le_of_ble_eq_true rfl) dJ0_length_8abf5_6 rfl rfl (fun H locs hP hD hS => ?_)
  refine lv_ishr hx hb dJ0_length_8abf5_9 ?_
  obtain rfl := Option.some.inj hm
  exact k_iret hx hb hr hlocks hQc hP hS rfl rfl dJ0_length_8abf5_10
theorem dJ0_isLatin1_aae02_0 : decode cJ0_isLatin1_aae02 0 = .ok (.getstatic 38, 3) := by decide +kernel
theorem dJ0_isLatin1_aae02_3 : decode cJ0_isLatin1_aae02 3 = .ok (.ifCond .eq 14, 3) := by decide +kernel
theorem dJ0_isLatin1_aae02_6 : decode cJ0_isLatin1_aae02 6 = .ok (.aload_n 0, 1) := by decide +kernel
theorem dJ0_isLatin1_aae02_7 : decode cJ0_isLatin1_aae02 7 = .ok (.getfield 15, 3) := by decide +kernel
theorem dJ0_isLatin1_aae02_10 : decode cJ0_isLatin1_aae02 10 = .ok (.ifCond .ne 7, 3) := by decide +kernel
theorem dJ0_isLatin1_aae02_13 : decode cJ0_isLatin1_aae02 13 = .ok (.iconst 1, 1) := by decide +kernel
theorem dJ0_isLatin1_aae02_14 : decode cJ0_isLatin1_aae02 14 = .ok (.goto 4, 3) := by decide +kernel
theorem dJ0_isLatin1_aae02_17 : decode cJ0_isLatin1_aae02 17 = .ok (.iconst 0, 1) := by decide +kernel
theorem dJ0_isLatin1_aae02_18 : decode cJ0_isLatin1_aae02 18 = .ok (.ireturn, 1) := by decide +kernel
def mJ0_isLatin1_aae02  : Option (Int32) := (if (1 : Int32) = 0 then some 0 else (if (0 : Int32) = 0 then some 1 else some 0))
set_option maxHeartbeats 4000000 in
set_option maxRecDepth 100000 in
theorem kcJ0_isLatin1_aae02 (l : Launch) (D : va_G) (cy : Nat → ClassId) (g : Nat → Nat) (i1 : Nat) (h_i1 : i1 < 44) (R : Int32) (hm : mJ0_isLatin1_aae02 = some R) : Con l D cy g yJ0_isLatin1_aae02 cJ0_isLatin1_aae02 1 (some .boolean) 0 0 0 0 [.ref (g i1)] [] [] (some (.int R)) := by
  refine Con.of (by decide +kernel) (Nat.le_of_ble_eq_true rfl) ?_
  intro p e RM s m ar below meth c A Qc ls hx hb hr hml hown hlocks hnm ht hK hP hD hS hA hR hC hQc hl
  have hown : s.vm.findClass RJ0 = some m.cls := hown
  have hl : lv_has ls 1 [(0, .ref (g i1))] := hl
  rw [mJ0_isLatin1_aae02] at hm
  refine va_gets (v := .int 1) hx hb hC.2.2.1.1 hS hown (ht _ q_473) (fun _ h9 => h9) dJ0_isLatin1_aae02_0 ?_
  refine lv_if_eq (tgt := 17) hx hb dJ0_isLatin1_aae02_3 (by decide) (fun c_1 => ?_) (fun c_1 => ?_)
  · replace hm := hm_t c_1 hm
    refine lv_iconst (v := 0) hx hb dJ0_isLatin1_aae02_17 (by decide) ?_
    obtain rfl := Option.some.inj hm
    exact k_zret hx hb hr hlocks hQc rfl hP hS rfl rfl dJ0_isLatin1_aae02_18
  · replace hm := hm_f c_1 hm
    refine lv_aload_n hx hb dJ0_isLatin1_aae02_6 rfl (lv_at hl 0 rfl) ?_
    refine vk_getf (v := .int 0) hx hb (hC.1 _ h_i1).2.1 hS hown (ht _ q_1924) (fun _ h9 => h9) dJ0_isLatin1_aae02_7 ?_
    refine lv_if_ne (tgt := 17) hx hb dJ0_isLatin1_aae02_10 (by decide) (fun c_2 => ?_) (fun c_2 => ?_)
    · replace hm := hm_f c_2 hm
      refine lv_iconst (v := 0) hx hb dJ0_isLatin1_aae02_17 (by decide) ?_
      obtain rfl := Option.some.inj hm
      exact k_zret hx hb hr hlocks hQc rfl hP hS rfl rfl dJ0_isLatin1_aae02_18
    · replace hm := hm_t c_2 hm
      refine lv_iconst (v := 1) hx hb dJ0_isLatin1_aae02_13 (by decide) ?_
      refine lv_goto (tgt := 18) hx hb dJ0_isLatin1_aae02_14 (by decide) ?_
      obtain rfl := Option.some.inj hm
      exact k_zret hx hb hr hlocks hQc rfl hP hS rfl rfl dJ0_isLatin1_aae02_18
theorem dJ3_checkIndex_8e157_0 : decode cJ3_checkIndex_8e157 0 = .ok (.iload_n 0, 1) := by decide +kernel
theorem dJ3_checkIndex_8e157_1 : decode cJ3_checkIndex_8e157 1 = .ok (.ifCond .lt 8, 3) := by decide +kernel
theorem dJ3_checkIndex_8e157_4 : decode cJ3_checkIndex_8e157 4 = .ok (.iload_n 0, 1) := by decide +kernel
theorem dJ3_checkIndex_8e157_5 : decode cJ3_checkIndex_8e157 5 = .ok (.iload_n 1, 1) := by decide +kernel
theorem dJ3_checkIndex_8e157_6 : decode cJ3_checkIndex_8e157 6 = .ok (.if_icmp .lt 10, 3) := by decide +kernel
theorem dJ3_checkIndex_8e157_9 : decode cJ3_checkIndex_8e157 9 = .ok (.aload_n 2, 1) := by decide +kernel
theorem dJ3_checkIndex_8e157_10 : decode cJ3_checkIndex_8e157 10 = .ok (.iload_n 0, 1) := by decide +kernel
theorem dJ3_checkIndex_8e157_11 : decode cJ3_checkIndex_8e157 11 = .ok (.iload_n 1, 1) := by decide +kernel
theorem dJ3_checkIndex_8e157_12 : decode cJ3_checkIndex_8e157 12 = .ok (.invokestatic 95, 3) := by decide +kernel
theorem dJ3_checkIndex_8e157_15 : decode cJ3_checkIndex_8e157 15 = .ok (.athrow, 1) := by decide +kernel
theorem dJ3_checkIndex_8e157_16 : decode cJ3_checkIndex_8e157 16 = .ok (.iload_n 0, 1) := by decide +kernel
theorem dJ3_checkIndex_8e157_17 : decode cJ3_checkIndex_8e157 17 = .ok (.ireturn, 1) := by decide +kernel
def mJ3_checkIndex_n (p1 : Int32) (p2 : Int32) : Option (Int32) := (if p1 < 0 then none else (if p1 < p2 then some p1 else none))
set_option maxHeartbeats 4000000 in
set_option maxRecDepth 100000 in
theorem kcJ3_checkIndex_n (l : Launch) (D : va_G) (cy : Nat → ClassId) (g : Nat → Nat) (p1 : Int32) (p2 : Int32) (R : Int32) (hm : mJ3_checkIndex_n p1 p2 = some R) : Con l D cy g yJ3_checkIndex_8e157 cJ3_checkIndex_8e157 3 (some .int) 0 0 0 0 [.int p1, .int p2, .null] [] [] (some (.int R)) := by
  refine Con.of (by decide +kernel) (Nat.le_of_ble_eq_true rfl) ?_
  intro p e RM s m ar below meth c A Qc ls hx hb hr hml hown hlocks hnm ht hK hP hD hS hA hR hC hQc hl
  have hown : s.vm.findClass RJ3 = some m.cls := hown
  have hl : lv_has ls 3 [(0, .int p1), (1, .int p2), (2, .null)] := hl
  rw [mJ3_checkIndex_n] at hm
  refine lv_iload_n hx hb dJ3_checkIndex_8e157_0 rfl (lv_at hl 0 rfl) ?_
  refine lv_if_lt (tgt := 9) hx hb dJ3_checkIndex_8e157_1 (by decide) (fun c_1 => ?_) (fun c_1 => ?_)
  · replace hm := hm_t c_1 hm
    cases hm
  · replace hm := hm_f c_1 hm
    refine lv_iload_n hx hb dJ3_checkIndex_8e157_4 rfl (lv_at hl 0 rfl) ?_
    refine lv_iload_n hx hb dJ3_checkIndex_8e157_5 rfl (lv_at hl 1 rfl) ?_
    refine lv_icmp_lt (tgt := 16) hx hb dJ3_checkIndex_8e157_6 (by decide) (fun c_3 => ?_) (fun c_3 => ?_)
    · replace hm := hm_t c_3 hm
      refine lv_iload_n hx hb dJ3_checkIndex_8e157_16 rfl (lv_at hl 0 rfl) ?_
      obtain rfl := Option.some.inj hm
      exact k_iret hx hb hr hlocks hQc hP hS rfl rfl dJ3_checkIndex_8e157_17
    · replace hm := hm_f c_3 hm
      cases hm
def mJ3_checkIndex_r (p1 : Int32) (p2 : Int32) : Option (Int32) := (if p1 < 0 then none else (if p1 < p2 then some p1 else none))
set_option maxHeartbeats 4000000 in
set_option maxRecDepth 100000 in
theorem kcJ3_checkIndex_r (l : Launch) (D : va_G) (cy : Nat → ClassId) (g : Nat → Nat) (t9 : Nat) (p1 : Int32) (p2 : Int32) (R : Int32) (hm : mJ3_checkIndex_r p1 p2 = some R) : Con l D cy g yJ3_checkIndex_8e157 cJ3_checkIndex_8e157 3 (some .int) 0 0 0 0 [.int p1, .int p2, .ref t9] [] [] (some (.int R)) := by
  refine Con.of (by decide +kernel) (Nat.le_of_ble_eq_true rfl) ?_
  intro p e RM s m ar below meth c A Qc ls hx hb hr hml hown hlocks hnm ht hK hP hD hS hA hR hC hQc hl
  have hown : s.vm.findClass RJ3 = some m.cls := hown
  have hl : lv_has ls 3 [(0, .int p1), (1, .int p2), (2, .ref t9)] := hl
  rw [mJ3_checkIndex_r] at hm
  refine lv_iload_n hx hb dJ3_checkIndex_8e157_0 rfl (lv_at hl 0 rfl) ?_
  refine lv_if_lt (tgt := 9) hx hb dJ3_checkIndex_8e157_1 (by decide) (fun c_1 => ?_) (fun c_1 => ?_)
  · replace hm := hm_t c_1 hm
    cases hm
  · replace hm := hm_f c_1 hm
    refine lv_iload_n hx hb dJ3_checkIndex_8e157_4 rfl (lv_at hl 0 rfl) ?_
    refine lv_iload_n hx hb dJ3_checkIndex_8e157_5 rfl (lv_at hl 1 rfl) ?_
    refine lv_icmp_lt (tgt := 16) hx hb dJ3_checkIndex_8e157_6 (by decide) (fun c_3 => ?_) (fun c_3 => ?_)
    · replace hm := hm_t c_3 hm
      refine lv_iload_n hx hb dJ3_checkIndex_8e157_16 rfl (lv_at hl 0 rfl) ?_
      obtain rfl := Option.some.inj hm
      exact k_iret hx hb hr hlocks hQc hP hS rfl rfl dJ3_checkIndex_8e157_17
    · replace hm := hm_f c_3 hm
      cases hm
theorem dJ0_checkIndex_df160_0 : decode cJ0_checkIndex_df160 0 = .ok (.iload_n 0, 1) := by decide +kernel
theorem dJ0_checkIndex_df160_1 : decode cJ0_checkIndex_df160 1 = .ok (.iload_n 1, 1) := by decide +kernel
theorem dJ0_checkIndex_df160_2 : decode cJ0_checkIndex_df160 2 = .ok (.getstatic 1053, 3) := by decide +kernel
theorem dJ0_checkIndex_df160_5 : decode cJ0_checkIndex_df160 5 = .ok (.invokestatic 1059, 3) := by decide +kernel
theorem dJ0_checkIndex_df160_8 : decode cJ0_checkIndex_df160 8 = .ok (.pop, 1) := by decide +kernel
theorem dJ0_checkIndex_df160_9 : decode cJ0_checkIndex_df160 9 = .ok (.return_, 1) := by decide +kernel
def mJ0_checkIndex_df160 (p1 : Int32) (p2 : Int32) : Option (Unit) := ((mJ3_checkIndex_n p1 p2).bind (fun r_1 => some ()))
set_option maxHeartbeats 4000000 in
set_option maxRecDepth 100000 in
theorem kcJ0_checkIndex_df160 (l : Launch) (D : va_G) (cy : Nat → ClassId) (g : Nat → Nat) (p1 : Int32) (p2 : Int32) (R : Unit) (hm : mJ0_checkIndex_df160 p1 p2 = some R) : Con l D cy g yJ0_checkIndex_df160 cJ0_checkIndex_df160 2 none 1 22 0 0 [.int p1, .int p2] [] [] none := by
  refine Con.of (by decide +kernel) (Nat.le_of_ble_eq_true rfl) ?_
  intro p e RM s m ar below meth c A Qc ls hx hb hr hml hown hlocks hnm ht hK hP hD hS hA hR hC hQc hl
  have hown : s.vm.findClass RJ0 = some m.cls := hown
  have hl : lv_has ls 2 [(0, .int p1), (1, .int p2)] := hl
  rw [mJ0_checkIndex_df160] at hm
  refine lv_iload_n hx hb dJ0_checkIndex_df160_0 rfl (lv_at hl 0 rfl) ?_
  refine lv_iload_n hx hb dJ0_checkIndex_df160_1 rfl (lv_at hl 1 rfl) ?_
  rcases hC.2.2.1.2.1 with hz | ⟨tq, hz⟩
  · refine va_gets (v := .null) hx hb hz hS hown (ht _ q_489) (fun _ h9 => h9) dJ0_checkIndex_df160_2 ?_
    obtain ⟨r_1, hr_1, hm⟩ := hm_b hm
    refine k_S (as := [.int p1, .int p2, .null]) (rest := []) (ws' := []) (st2 := [.int r_1]) hx hb hml hown ht hK hP hD hS hA hC hR hl (kcJ3_checkIndex_n l D cy g p1 p2 r_1 hr_1) [] q_491 q_492 q_65 q_493 hyJ3_checkIndex_8e157 ⟨Nat.le_of_ble_eq_true rfl, Nat.le_of_ble_eq_true rfl, Nat.le_of_ble_eq_true rfl, Nat.le_of_ble_eq_true rfl⟩ rfl rfl rfl rfl (Nat.le_of_ble_eq_true rfl) dJ0_checkIndex_df160_5 rfl rfl (fun H locs hP hD hS => ?_)
    refine lv_pop hx hb dJ0_checkIndex_df160_8 rfl ?_
    obtain rfl := Option.some.inj hm
    exact k_vret hx hb hr hlocks hQc hP hS rfl rfl dJ0_checkIndex_df160_9
  · refine va_gets (v := .ref tq) hx hb hz hS hown (ht _ q_489) (fun _ h9 => h9) dJ0_checkIndex_df160_2 ?_
    obtain ⟨r_1, hr_1, hm⟩ := hm_b hm
    refine k_S (as := [.int p1, .int p2, .ref tq]) (rest := []) (ws' := []) (st2 := [.int r_1]) hx hb hml hown ht hK hP hD hS hA hC hR hl (kcJ3_checkIndex_r l D cy g tq p1 p2 r_1 hr_1) [] q_491 q_492 q_65 q_493 hyJ3_checkIndex_8e157 ⟨Nat.le_of_ble_eq_true rfl, Nat.le_of_ble_eq_true rfl, Nat.le_of_ble_eq_true rfl, Nat.le_of_ble_eq_true rfl⟩ rfl rfl rfl rfl (Nat.le_of_ble_eq_true rfl) dJ0_checkIndex_df160_5 rfl rfl (fun H locs hP hD hS => ?_)
    refine lv_pop hx hb dJ0_checkIndex_df160_8 rfl ?_
    obtain rfl := Option.some.inj hm
    exact k_vret hx hb hr hlocks hQc hP hS rfl rfl dJ0_checkIndex_df160_9
theorem dJ1_charAt_3b067_0 : decode cJ1_charAt_3b067 0 = .ok (.iload_n 1, 1) := by decide +kernel
theorem dJ1_charAt_3b067_1 : decode cJ1_charAt_3b067 1 = .ok (.aload_n 0, 1) := by decide +kernel
theorem dJ1_charAt_3b067_2 : decode cJ1_charAt_3b067 2 = .ok (.arraylength, 1) := by decide +kernel
theorem dJ1_charAt_3b067_3 : decode cJ1_charAt_3b067 3 = .ok (.invokestatic 9, 3) := by decide +kernel
theorem dJ1_charAt_3b067_6 : decode cJ1_charAt_3b067 6 = .ok (.aload_n 0, 1) := by decide +kernel
theorem dJ1_charAt_3b067_7 : decode cJ1_charAt_3b067 7 = .ok (.iload_n 1, 1) := by decide +kernel
theorem dJ1_charAt_3b067_8 : decode cJ1_charAt_3b067 8 = .ok (.baload, 1) := by decide +kernel
theorem dJ1_charAt_3b067_9 : decode cJ1_charAt_3b067 9 = .ok (.sipush 255, 3) := by decide +kernel
theorem dJ1_charAt_3b067_12 : decode cJ1_charAt_3b067 12 = .ok (.iand, 1) := by decide +kernel
theorem dJ1_charAt_3b067_13 : decode cJ1_charAt_3b067 13 = .ok (.i2c, 1) := by decide +kernel
theorem dJ1_charAt_3b067_14 : decode cJ1_charAt_3b067 14 = .ok (.ireturn, 1) := by decide +kernel
def mJ1_charAt_3b067 (p2 : Int32) (i1 : Nat) : Option (Int32) := ((mJ0_checkIndex_df160 p2 (nI (sLen i1))).bind (fun r_1 => (if p2 < 0 ∨ (sLen i1) ≤ p2.toNatClampNeg then none else (if ¬ (narrow .char (.int ((((sByt i1 p2.toNatClampNeg) &&& 255).toUInt32 % 65536).toInt32)) = .int ((((sByt i1 p2.toNatClampNeg) &&& 255).toUInt32 % 65536).toInt32)) then none else some ((((sByt i1 p2.toNatClampNeg) &&& 255).toUInt32 % 65536).toInt32)))))
set_option maxHeartbeats 4000000 in
set_option maxRecDepth 100000 in
theorem kcJ1_charAt_3b067 (l : Launch) (D : va_G) (cy : Nat → ClassId) (g : Nat → Nat) (p2 : Int32) (i1 : Nat) (h_i1 : i1 < 44) (R : Int32) (hm : mJ1_charAt_3b067 p2 i1 = some R) : Con l D cy g yJ1_charAt_3b067 cJ1_charAt_3b067 2 (some .char) 2 43 0 0 [.ref (g (100 + i1)), .int p2] [] [] (some (.int R)) := by
  refine Con.of (by decide +kernel) (Nat.le_of_ble_eq_true rfl) ?_
  intro p e RM s m ar below meth c A Qc ls hx hb hr hml hown hlocks hnm ht hK hP hD hS hA hR hC hQc hl
  have hown : s.vm.findClass RJ1 = some m.cls := hown
  have hl : lv_has ls 2 [(0, .ref (g (100 + i1))), (1, .int p2)] := hl
  rw [mJ1_charAt_3b067] at hm
  refine lv_iload_n hx hb dJ1_charAt_3b067_0 rfl (lv_at hl 1 rfl) ?_
  refine lv_aload_n hx hb dJ1_charAt_3b067_1 rfl (lv_at hl 0 rfl) ?_
  refine va_tlen (v := (nI (sLen i1))) hx hb (hC.1 _ h_i1).2.2.2 hS rfl dJ1_charAt_3b067_2 ?_
  obtain ⟨r_1, hr_1, hm⟩ := hm_b hm
  refine k_S (as := [.int p2, .int (nI (sLen i1))]) (rest := []) (ws' := []) (st2 := []) hx hb hml hown ht hK hP hD hS hA hC hR hl (kcJ0_checkIndex_df160 l D cy g p2 (nI (sLen i1)) r_1 hr_1) [] q_486 q_487 q_63 q_488 hyJ0_checkIndex_df160 ⟨Nat.le_of_ble_eq_true rfl, Nat.le_of_ble_eq_true rfl, Nat.le_of_ble_eq_true rfl, Nat.le_of_ble_eq_true rfl⟩ rfl rfl rfl rfl (Nat.le_of_ble_eq_true rfl) dJ1_charAt_3b067_3 rfl rfl (fun H locs hP hD hS => ?_)
  refine lv_aload_n hx hb dJ1_charAt_3b067_6 rfl (lv_at hl 0 rfl) ?_
  refine lv_iload_n hx hb dJ1_charAt_3b067_7 rfl (lv_at hl 1 rfl) ?_
  obtain ⟨hin, hm⟩ := hm_g hm
  refine va_tb (v := .int (sByt i1 p2.toNatClampNeg)) hx hb (hC.1 _ h_i1).2.2.2 hS hin rfl dJ1_charAt_3b067_8 ?_
  refine lv_sipush (v := 255) hx hb dJ1_charAt_3b067_9 (by decide) ?_
  refine lv_iand hx hb dJ1_charAt_3b067_12 ?_
  refine lv_i2c hx hb dJ1_charAt_3b067_13 rfl ?_
  obtain ⟨hbz, hm⟩ := hm_g hm
  obtain rfl := Option.some.inj hm
  exact k_cret hx hb hr (Decidable.not_not.mp hbz) hlocks hQc hP hS rfl rfl dJ1_charAt_3b067_14
theorem dJ0_charAt_5068e_0 : decode cJ0_charAt_5068e 0 = .ok (.aload_n 0, 1) := by decide +kernel
theorem dJ0_charAt_5068e_1 : decode cJ0_charAt_5068e 1 = .ok (.invokevirtual 492, 3) := by decide +kernel
theorem dJ0_charAt_5068e_4 : decode cJ0_charAt_5068e 4 = .ok (.ifCond .eq 12, 3) := by decide +kernel
theorem dJ0_charAt_5068e_7 : decode cJ0_charAt_5068e 7 = .ok (.aload_n 0, 1) := by decide +kernel
theorem dJ0_charAt_5068e_8 : decode cJ0_charAt_5068e 8 = .ok (.getfield 9, 3) := by decide +kernel
theorem dJ0_charAt_5068e_11 : decode cJ0_charAt_5068e 11 = .ok (.iload_n 1, 1) := by decide +kernel
theorem dJ0_charAt_5068e_12 : decode cJ0_charAt_5068e 12 = .ok (.invokestatic 495, 3) := by decide +kernel
theorem dJ0_charAt_5068e_15 : decode cJ0_charAt_5068e 15 = .ok (.ireturn, 1) := by decide +kernel
theorem dJ0_charAt_5068e_16 : decode cJ0_charAt_5068e 16 = .ok (.aload_n 0, 1) := by decide +kernel
theorem dJ0_charAt_5068e_17 : decode cJ0_charAt_5068e 17 = .ok (.getfield 9, 3) := by decide +kernel
theorem dJ0_charAt_5068e_20 : decode cJ0_charAt_5068e 20 = .ok (.iload_n 1, 1) := by decide +kernel
theorem dJ0_charAt_5068e_21 : decode cJ0_charAt_5068e 21 = .ok (.invokestatic 498, 3) := by decide +kernel
theorem dJ0_charAt_5068e_24 : decode cJ0_charAt_5068e 24 = .ok (.ireturn, 1) := by decide +kernel
def mJ0_charAt_5068e (p2 : Int32) (i1 : Nat) : Option (Int32) := ((mJ0_isLatin1_aae02).bind (fun r_1 => (if r_1 = 0 then none else ((mJ1_charAt_3b067 p2 i1).bind (fun r_3 => (if ¬ (narrow .char (.int r_3) = .int r_3) then none else some r_3))))))
set_option maxHeartbeats 4000000 in
set_option maxRecDepth 100000 in
theorem kcJ0_charAt_5068e (l : Launch) (D : va_G) (cy : Nat → ClassId) (g : Nat → Nat) (p2 : Int32) (i1 : Nat) (h_i1 : i1 < 44) (R : Int32) (hm : mJ0_charAt_5068e p2 i1 = some R) : Con l D cy g yJ0_charAt_5068e cJ0_charAt_5068e 2 (some .char) 3 64 0 0 [.ref (g i1), .int p2] [] [] (some (.int R)) := by
  refine Con.of (by decide +kernel) (Nat.le_of_ble_eq_true rfl) ?_
  intro p e RM s m ar below meth c A Qc ls hx hb hr hml hown hlocks hnm ht hK hP hD hS hA hR hC hQc hl
  have hown : s.vm.findClass RJ0 = some m.cls := hown
  have hl : lv_has ls 2 [(0, .ref (g i1)), (1, .int p2)] := hl
  rw [mJ0_charAt_5068e] at hm
  refine lv_aload_n hx hb dJ0_charAt_5068e_0 rfl (lv_at hl 0 rfl) ?_
  obtain ⟨r_1, hr_1, hm⟩ := hm_b hm
  refine k_VC (as := []) (rest := []) (ws' := []) (st2 := [.int r_1]) hx hb hml hown ht hK hP hD hS hA hC hR hl (kcJ0_isLatin1_aae02 l D cy g i1 h_i1 r_1 hr_1) [] q_479 q_480 q_481 q_63 q_482 hyJ0_isLatin1_aae02 (hC.1 _ h_i1).1 rfl ⟨Nat.le_of_ble_eq_true rfl, Nat.le_of_ble_eq_true rfl, Nat.le_of_ble_eq_true rfl, Nat.le_of_ble_eq_true rfl⟩ rfl rfl rfl rfl (Nat.le_of_ble_eq_true rfl) dJ0_charAt_5068e_1 rfl rfl (fun H locs hP hD hS => ?_)
  refine lv_if_eq (tgt := 16) hx hb dJ0_charAt_5068e_4 (by decide) (fun c_2 => ?_) (fun c_2 => ?_)
  · replace hm := hm_t c_2 hm
    cases hm
  · replace hm := hm_f c_2 hm
    refine lv_aload_n hx hb dJ0_charAt_5068e_7 rfl (lv_at hl 0 rfl) ?_
    refine vk_getf (v := .ref (g (100 + i1))) hx hb (hC.1 _ h_i1).2.2.1 hS hown (ht _ q_1923) (fun _ h9 => h9) dJ0_charAt_5068e_8 ?_
    refine lv_iload_n hx hb dJ0_charAt_5068e_11 rfl (lv_at hl 1 rfl) ?_
    obtain ⟨r_3, hr_3, hm⟩ := hm_b hm
    refine k_S (as := [.ref (g (100 + i1)), .int p2]) (rest := []) (ws' := []) (st2 := [.int r_3]) hx hb hml hown ht hK hP hD hS hA hC hR hl (kcJ1_charAt_3b067 l D cy g p2 i1 h_i1 r_3 hr_3) [] q_483 q_484 q_64 q_485 hyJ1_charAt_3b067 ⟨Nat.le_of_ble_eq_true rfl, Nat.le_of_ble_eq_true rfl, Nat.le_of_ble_eq_true rfl, Nat.le_of_ble_eq_true rfl⟩ rfl rfl rfl rfl (Nat.le_of_ble_eq_true rfl) dJ0_charAt_5068e_12 rfl rfl (fun H locs hP hD hS => ?_)
    obtain ⟨hbz, hm⟩ := hm_g hm
    obtain rfl := Option.some.inj hm
    exact k_cret hx hb hr (Decidable.not_not.mp hbz) hlocks hQc hP hS rfl rfl dJ0_charAt_5068e_15
theorem dX6_becomeText_0 : decode cX6_becomeText 0 = .ok (.aload_n 0, 1) := by decide +kernel
theorem dX6_becomeText_1 : decode cX6_becomeText 1 = .ok (.invokevirtual 31, 3) := by decide +kernel
theorem dX6_becomeText_4 : decode cX6_becomeText 4 = .ok (.iconst 0, 1) := by decide +kernel
theorem dX6_becomeText_5 : decode cX6_becomeText 5 = .ok (.istore_n 2, 1) := by decide +kernel
theorem dX6_becomeText_6 : decode cX6_becomeText 6 = .ok (.iload_n 2, 1) := by decide +kernel
theorem dX6_becomeText_7 : decode cX6_becomeText 7 = .ok (.aload_n 1, 1) := by decide +kernel
theorem dX6_becomeText_8 : decode cX6_becomeText 8 = .ok (.invokevirtual 38, 3) := by decide +kernel
theorem dX6_becomeText_11 : decode cX6_becomeText 11 = .ok (.if_icmp .ge 18, 3) := by decide +kernel
theorem dX6_becomeText_14 : decode cX6_becomeText 14 = .ok (.aload_n 0, 1) := by decide +kernel
theorem dX6_becomeText_15 : decode cX6_becomeText 15 = .ok (.aload_n 1, 1) := by decide +kernel
theorem dX6_becomeText_16 : decode cX6_becomeText 16 = .ok (.iload_n 2, 1) := by decide +kernel
theorem dX6_becomeText_17 : decode cX6_becomeText 17 = .ok (.invokevirtual 43, 3) := by decide +kernel
theorem dX6_becomeText_20 : decode cX6_becomeText 20 = .ok (.invokevirtual 27, 3) := by decide +kernel
theorem dX6_becomeText_23 : decode cX6_becomeText 23 = .ok (.iinc 2 1, 3) := by decide +kernel
theorem dX6_becomeText_26 : decode cX6_becomeText 26 = .ok (.goto (-20), 3) := by decide +kernel
theorem dX6_becomeText_29 : decode cX6_becomeText 29 = .ok (.return_, 1) := by decide +kernel
def mX6_becomeText_L6 (i1 : Nat) (n_t_bytes : Nat) : Nat → Int32 → Int32 → (Nat → Int32) → Option (Int32 × (Nat → Int32))
  | 0, _, _, _ => none
  | n_ + 1, y_13, y_14, y_15 => ((mJ0_length_8abf5 i1).bind (fun r_16 => (if r_16 ≤ y_13 then some (y_14, y_15) else ((mJ0_charAt_5068e y_13 i1).bind (fun r_18 => ((mX6_append n_t_bytes y_15 y_14 r_18).bind (fun r_19 => (mX6_becomeText_L6 i1 n_t_bytes n_ (y_13 + 1) r_19.2 r_19.1))))))))
def mX6_becomeText (k : Nat) (n_t_bytes : Nat) (f_t_bytes : Nat → Int32) (i1 : Nat) : Option ((Nat → Int32) × Int32) := ((mX6_empty).bind (fun r_1 => ((mX6_becomeText_L6 i1 n_t_bytes k 0 r_1 f_t_bytes).bind (fun r_20 => some (r_20.2, r_20.1)))))
set_option maxHeartbeats 4000000 in
set_option maxRecDepth 100000 in
theorem kcX6_becomeText (l : Launch) (D : va_G) (cy : Nat → ClassId) (g : Nat → Nat) (a_t : Nat) (a_t_bytes : Nat) (n_t_bytes : Nat) (f_t_bytes : Nat → Int32) (v_t_length : Int32) (i1 : Nat) (h_i1 : i1 < 44) (k : Nat) (R : (Nat → Int32) × Int32) (hm : mX6_becomeText k n_t_bytes f_t_bytes i1 = some R) : Con l D cy g yX6_becomeText cX6_becomeText 3 none 4 85 0 0 [.ref a_t, .ref (g i1)] [(a_t, .inr (3, [.ref a_t_bytes, .int v_t_length])), (a_t_bytes, .inl (cy 0, n_t_bytes, .inl f_t_bytes))] [(a_t, .inr (3, [.ref a_t_bytes, .int R.2])), (a_t_bytes, .inl (cy 0, n_t_bytes, .inl R.1))] none := by
  refine Con.of (by decide +kernel) (Nat.le_of_ble_eq_true rfl) ?_
  intro p e RM s m ar below meth c A Qc ls hx hb hr hml hown hlocks hnm ht hK hP hD hS hA hR hC hQc hl
  have hown : s.vm.findClass RX6 = some m.cls := hown
  have hl : lv_has ls 3 [(0, .ref a_t), (1, .ref (g i1))] := hl
  rw [mX6_becomeText] at hm
  refine lv_aload_n hx hb dX6_becomeText_0 rfl (lv_at hl 0 rfl) ?_
  obtain ⟨r_1, hr_1, hm⟩ := hm_b hm
  refine k_V (as := []) (rest := []) (ws' := [(a_t, .inr (3, [.ref a_t_bytes, .int r_1])), (a_t_bytes, .inl (cy 0, n_t_bytes, .inl f_t_bytes))]) (st2 := []) (i0 := 0) hx hb hml hown ht hK hP hD hS hA hC hR hl (kcX6_empty l D cy g a_t a_t_bytes n_t_bytes f_t_bytes v_t_length r_1 hr_1) [0, 1] q_409 q_307 q_308 q_45 q_309 hyX6_empty ⟨rfl, rfl, rfl⟩ ⟨Nat.le_of_ble_eq_true rfl, Nat.le_of_ble_eq_true rfl, Nat.le_of_ble_eq_true rfl, Nat.le_of_ble_eq_true rfl⟩ rfl rfl rfl rfl (Nat.le_of_ble_eq_true rfl) dX6_becomeText_1 rfl rfl (fun H locs hP hD hS => ?_)
  refine lv_iconst (v := 0) hx hb dX6_becomeText_4 (by decide) ?_
  refine lv_istore_n (lv' := [(2, .int 0), (0, .ref a_t), (1, .ref (g i1))]) hx hb dX6_becomeText_5 rfl hl (by decide) rfl (fun ls hl => ?_)
  have L6 : ∀ (rr : Int32 × (Nat → Int32)) (kk : ∀ (H : Heap) (locs : List Loc) (ls : Array Slot), va_P D classes [(a_t, .inr (3, [.ref a_t_bytes, .int rr.1])), (a_t_bytes, .inl (cy 0, n_t_bytes, .inl rr.2))] H → va_D A [(a_t, .inr (3, [.ref a_t_bytes, .int rr.1])), (a_t_bytes, .inl (cy 0, n_t_bytes, .inl rr.2))] → va_S A s.heap H locs → lv_has ls 3 [] → W p l e RM s m ar below meth c H locs 0 0 (MQ below Qc ar s 0 0 A) (F0 m 29 ls [])) (n_ : Nat), ∀ (y_13 : Int32) (y_14 : Int32) (y_15 : Nat → Int32), mX6_becomeText_L6 i1 n_t_bytes n_ y_13 y_14 y_15 = some rr → ∀ (H : Heap) (locs : List Loc) (ls : Array Slot), va_P D classes [(a_t, .inr (3, [.ref a_t_bytes, .int y_14])), (a_t_bytes, .inl (cy 0, n_t_bytes, .inl y_15))] H → va_D A [(a_t, .inr (3, [.ref a_t_bytes, .int y_14])), (a_t_bytes, .inl (cy 0, n_t_bytes, .inl y_15))] → va_S A s.heap H locs → lv_has ls 3 [(2, .int y_13), (0, .ref a_t), (1, .ref (g i1))] → W p l e RM s m ar below meth c H locs 0 0 (MQ below Qc ar s 0 0 A) (F0 m 6 ls []) := by
    intro rr kk n_
    induction n_ with
    | zero => intro y_13 y_14 y_15 hm; rw [mX6_becomeText_L6] at hm; cases hm
    | succ n_ ih =>
      intro y_13 y_14 y_15 hm H locs ls hP hD hS hl
      rw [mX6_becomeText_L6] at hm
      refine lv_iload_n hx hb dX6_becomeText_6 rfl (lv_at hl 0 rfl) ?_
      refine lv_aload_n hx hb dX6_becomeText_7 rfl (lv_at hl 2 rfl) ?_
      obtain ⟨r_16, hr_16, hm⟩ := hm_b hm
      refine k_VC (as := []) (rest := [.int y_13]) (ws' := [(a_t, .inr (3, [.ref a_t_bytes, .int y_14])), (a_t_bytes, .inl (cy 0, n_t_bytes, .inl y_15))]) (st2 := [.int r_16, .int y_13]) hx hb hml hown ht hK hP hD hS hA hC hR hl (kcJ0_length_8abf5 l D cy g i1 h_i1 r_16 hr_16) [] q_994 q_466 q_467 q_63 q_468 hyJ0_length_8abf5 (hC.1 _ h_i1).1 rfl ⟨Nat.le_of_ble_eq_true rfl, Nat.le_of_ble_eq_true rfl, Nat.le_of_ble_eq_true rfl, Nat.le_of_ble_eq_true rfl⟩ rfl rfl rfl rfl (Nat.le_of_ble_eq_true rfl) dX6_becomeText_8 rfl rfl (fun H locs hP hD hS => ?_)
      refine lv_icmp_ge (tgt := 29) hx hb dX6_becomeText_11 (by decide) (fun c_17 => ?_) (fun c_17 => ?_)
      · replace hm := hm_t c_17 hm
        obtain rfl := Option.some.inj hm
        exact kk _ _ _ hP hD hS (lv_sub hl [] rfl)
      · replace hm := hm_f c_17 hm
        refine lv_aload_n hx hb dX6_becomeText_14 rfl (lv_at hl 1 rfl) ?_
        refine lv_aload_n hx hb dX6_becomeText_15 rfl (lv_at hl 2 rfl) ?_
        refine lv_iload_n hx hb dX6_becomeText_16 rfl (lv_at hl 0 rfl) ?_
        obtain ⟨r_18, hr_18, hm⟩ := hm_b hm
        refine k_VC (as := [.int y_13]) (rest := [.ref a_t]) (ws' := [(a_t, .inr (3, [.ref a_t_bytes, .int y_14])), (a_t_bytes, .inl (cy 0, n_t_bytes, .inl y_15))]) (st2 := [.int r_18, .ref a_t]) hx hb hml hown ht hK hP hD hS hA hC hR hl (kcJ0_charAt_5068e l D cy g y_13 i1 h_i1 r_18 hr_18) [] q_995 q_476 q_477 q_63 q_478 hyJ0_charAt_5068e (hC.1 _ h_i1).1 rfl ⟨Nat.le_of_ble_eq_true rfl, Nat.le_of_ble_eq_true rfl, Nat.le_of_ble_eq_true rfl, Nat.le_of_ble_eq_true rfl⟩ rfl rfl rfl rfl (Nat.le_of_ble_eq_true rfl) dX6_becomeText_17 rfl rfl (fun H locs hP hD hS => ?_)
        obtain ⟨r_19, hr_19, hm⟩ := hm_b hm
        refine k_V (as := [.int r_18]) (rest := []) (ws' := [(a_t, .inr (3, [.ref a_t_bytes, .int r_19.2])), (a_t_bytes, .inl (cy 0, n_t_bytes, .inl r_19.1))]) (st2 := []) (i0 := 0) hx hb hml hown ht hK hP hD hS hA hC hR hl (kcX6_append l D cy g a_t a_t_bytes n_t_bytes y_15 y_14 r_18 r_19 hr_19) [0, 1] q_415 q_354 q_355 q_45 q_356 hyX6_append ⟨rfl, rfl, rfl⟩ ⟨Nat.le_of_ble_eq_true rfl, Nat.le_of_ble_eq_true rfl, Nat.le_of_ble_eq_true rfl, Nat.le_of_ble_eq_true rfl⟩ rfl rfl rfl rfl (Nat.le_of_ble_eq_true rfl) dX6_becomeText_20 rfl rfl (fun H locs hP hD hS => ?_)
        refine lv_iinc (v := (y_13 + 1)) (lv' := [(2, .int (y_13 + 1)), (0, .ref a_t), (1, .ref (g i1))]) hx hb dX6_becomeText_23 hl (k := 0) rfl rfl (by decide) rfl (fun ls hl => ?_)
        refine lv_goto (tgt := 6) hx hb dX6_becomeText_26 (by decide) ?_
        exact ih (y_13 + 1) r_19.2 r_19.1 hm _ _ _ hP hD hS (lv_sub hl [0, 1, 2] rfl)
  obtain ⟨r_20, hL, hm⟩ := hm_b hm
  refine L6 r_20 ?_ k 0 r_1 f_t_bytes hL _ _ _ hP hD hS (lv_sub hl [0, 1, 2] rfl)
  intro H locs ls hP hD hS hl
  obtain rfl := Option.some.inj hm
  exact k_vret hx hb hr hlocks hQc hP hS rfl rfl dX6_becomeText_29
theorem dX10_isGap_0 : decode cX10_isGap 0 = .ok (.iload_n 0, 1) := by decide +kernel
theorem dX10_isGap_1 : decode cX10_isGap 1 = .ok (.bipush 32, 2) := by decide +kernel
theorem dX10_isGap_3 : decode cX10_isGap 3 = .ok (.if_icmp .eq 9, 3) := by decide +kernel
theorem dX10_isGap_6 : decode cX10_isGap 6 = .ok (.iload_n 0, 1) := by decide +kernel
theorem dX10_isGap_7 : decode cX10_isGap 7 = .ok (.bipush 10, 2) := by decide +kernel
theorem dX10_isGap_9 : decode cX10_isGap 9 = .ok (.if_icmp .ne 7, 3) := by decide +kernel
theorem dX10_isGap_12 : decode cX10_isGap 12 = .ok (.iconst 1, 1) := by decide +kernel
theorem dX10_isGap_13 : decode cX10_isGap 13 = .ok (.goto 4, 3) := by decide +kernel
theorem dX10_isGap_16 : decode cX10_isGap 16 = .ok (.iconst 0, 1) := by decide +kernel
theorem dX10_isGap_17 : decode cX10_isGap 17 = .ok (.ireturn, 1) := by decide +kernel
def mX10_isGap (p1 : Int32) : Option (Int32) := (if p1 = 32 then some 1 else (if p1 = 10 then some 1 else some 0))
set_option maxHeartbeats 4000000 in
set_option maxRecDepth 100000 in
theorem kcX10_isGap (l : Launch) (D : va_G) (cy : Nat → ClassId) (g : Nat → Nat) (p1 : Int32) (R : Int32) (hm : mX10_isGap p1 = some R) : Con l D cy g yX10_isGap cX10_isGap 1 (some .boolean) 0 0 0 0 [.int p1] [] [] (some (.int R)) := by
  refine Con.of (by decide +kernel) (Nat.le_of_ble_eq_true rfl) ?_
  intro p e RM s m ar below meth c A Qc ls hx hb hr hml hown hlocks hnm ht hK hP hD hS hA hR hC hQc hl
  have hown : s.vm.findClass RX10 = some m.cls := hown
  have hl : lv_has ls 1 [(0, .int p1)] := hl
  rw [mX10_isGap] at hm
  refine lv_iload_n hx hb dX10_isGap_0 rfl (lv_at hl 0 rfl) ?_
  refine lv_bipush (v := 32) hx hb dX10_isGap_1 (by decide) ?_
  refine lv_icmp_eq (tgt := 12) hx hb dX10_isGap_3 (by decide) (fun c_1 => ?_) (fun c_1 => ?_)
  · replace hm := hm_t c_1 hm
    refine lv_iconst (v := 1) hx hb dX10_isGap_12 (by decide) ?_
    refine lv_goto (tgt := 17) hx hb dX10_isGap_13 (by decide) ?_
    obtain rfl := Option.some.inj hm
    exact k_zret hx hb hr hlocks hQc rfl hP hS rfl rfl dX10_isGap_17
  · replace hm := hm_f c_1 hm
    refine lv_iload_n hx hb dX10_isGap_6 rfl (lv_at hl 0 rfl) ?_
    refine lv_bipush (v := 10) hx hb dX10_isGap_7 (by decide) ?_
    refine lv_icmp_ne (tgt := 16) hx hb dX10_isGap_9 (by decide) (fun c_2 => ?_) (fun c_2 => ?_)
    · replace hm := hm_f c_2 hm
      refine lv_iconst (v := 0) hx hb dX10_isGap_16 (by decide) ?_
      obtain rfl := Option.some.inj hm
      exact k_zret hx hb hr hlocks hQc rfl hP hS rfl rfl dX10_isGap_17
    · replace hm := hm_t c_2 hm
      refine lv_iconst (v := 1) hx hb dX10_isGap_12 (by decide) ?_
      refine lv_goto (tgt := 17) hx hb dX10_isGap_13 (by decide) ?_
      obtain rfl := Option.some.inj hm
      exact k_zret hx hb hr hlocks hQc rfl hP hS rfl rfl dX10_isGap_17
theorem dX10_isSignByte_0 : decode cX10_isSignByte 0 = .ok (.iload_n 0, 1) := by decide +kernel
theorem dX10_isSignByte_1 : decode cX10_isSignByte 1 = .ok (.bipush 59, 2) := by decide +kernel
theorem dX10_isSignByte_3 : decode cX10_isSignByte 3 = .ok (.if_icmp .eq 15, 3) := by decide +kernel
theorem dX10_isSignByte_6 : decode cX10_isSignByte 6 = .ok (.iload_n 0, 1) := by decide +kernel
theorem dX10_isSignByte_7 : decode cX10_isSignByte 7 = .ok (.bipush 123, 2) := by decide +kernel
theorem dX10_isSignByte_9 : decode cX10_isSignByte 9 = .ok (.if_icmp .eq 9, 3) := by decide +kernel
theorem dX10_isSignByte_12 : decode cX10_isSignByte 12 = .ok (.iload_n 0, 1) := by decide +kernel
theorem dX10_isSignByte_13 : decode cX10_isSignByte 13 = .ok (.bipush 125, 2) := by decide +kernel
theorem dX10_isSignByte_15 : decode cX10_isSignByte 15 = .ok (.if_icmp .ne 7, 3) := by decide +kernel
theorem dX10_isSignByte_18 : decode cX10_isSignByte 18 = .ok (.iconst 1, 1) := by decide +kernel
theorem dX10_isSignByte_19 : decode cX10_isSignByte 19 = .ok (.goto 4, 3) := by decide +kernel
theorem dX10_isSignByte_22 : decode cX10_isSignByte 22 = .ok (.iconst 0, 1) := by decide +kernel
theorem dX10_isSignByte_23 : decode cX10_isSignByte 23 = .ok (.ireturn, 1) := by decide +kernel
def mX10_isSignByte (p1 : Int32) : Option (Int32) := (if p1 = 59 then some 1 else (if p1 = 123 then some 1 else (if p1 = 125 then some 1 else some 0)))
set_option maxHeartbeats 4000000 in
set_option maxRecDepth 100000 in
theorem kcX10_isSignByte (l : Launch) (D : va_G) (cy : Nat → ClassId) (g : Nat → Nat) (p1 : Int32) (R : Int32) (hm : mX10_isSignByte p1 = some R) : Con l D cy g yX10_isSignByte cX10_isSignByte 1 (some .boolean) 0 0 0 0 [.int p1] [] [] (some (.int R)) := by
  refine Con.of (by decide +kernel) (Nat.le_of_ble_eq_true rfl) ?_
  intro p e RM s m ar below meth c A Qc ls hx hb hr hml hown hlocks hnm ht hK hP hD hS hA hR hC hQc hl
  have hown : s.vm.findClass RX10 = some m.cls := hown
  have hl : lv_has ls 1 [(0, .int p1)] := hl
  rw [mX10_isSignByte] at hm
  refine lv_iload_n hx hb dX10_isSignByte_0 rfl (lv_at hl 0 rfl) ?_
  refine lv_bipush (v := 59) hx hb dX10_isSignByte_1 (by decide) ?_
  refine lv_icmp_eq (tgt := 18) hx hb dX10_isSignByte_3 (by decide) (fun c_1 => ?_) (fun c_1 => ?_)
  · replace hm := hm_t c_1 hm
    refine lv_iconst (v := 1) hx hb dX10_isSignByte_18 (by decide) ?_
    refine lv_goto (tgt := 23) hx hb dX10_isSignByte_19 (by decide) ?_
    obtain rfl := Option.some.inj hm
    exact k_zret hx hb hr hlocks hQc rfl hP hS rfl rfl dX10_isSignByte_23
  · replace hm := hm_f c_1 hm
    refine lv_iload_n hx hb dX10_isSignByte_6 rfl (lv_at hl 0 rfl) ?_
    refine lv_bipush (v := 123) hx hb dX10_isSignByte_7 (by decide) ?_
    refine lv_icmp_eq (tgt := 18) hx hb dX10_isSignByte_9 (by decide) (fun c_2 => ?_) (fun c_2 => ?_)
    · replace hm := hm_t c_2 hm
      refine lv_iconst (v := 1) hx hb dX10_isSignByte_18 (by decide) ?_
      refine lv_goto (tgt := 23) hx hb dX10_isSignByte_19 (by decide) ?_
      obtain rfl := Option.some.inj hm
      exact k_zret hx hb hr hlocks hQc rfl hP hS rfl rfl dX10_isSignByte_23
    · replace hm := hm_f c_2 hm
      refine lv_iload_n hx hb dX10_isSignByte_12 rfl (lv_at hl 0 rfl) ?_
      refine lv_bipush (v := 125) hx hb dX10_isSignByte_13 (by decide) ?_
      refine lv_icmp_ne (tgt := 22) hx hb dX10_isSignByte_15 (by decide) (fun c_3 => ?_) (fun c_3 => ?_)
      · replace hm := hm_f c_3 hm
        refine lv_iconst (v := 0) hx hb dX10_isSignByte_22 (by decide) ?_
        obtain rfl := Option.some.inj hm
        exact k_zret hx hb hr hlocks hQc rfl hP hS rfl rfl dX10_isSignByte_23
      · replace hm := hm_t c_3 hm
        refine lv_iconst (v := 1) hx hb dX10_isSignByte_18 (by decide) ?_
        refine lv_goto (tgt := 23) hx hb dX10_isSignByte_19 (by decide) ?_
        obtain rfl := Option.some.inj hm
        exact k_zret hx hb hr hlocks hQc rfl hP hS rfl rfl dX10_isSignByte_23
theorem dX10_isAnySign_0 : decode cX10_isAnySign 0 = .ok (.aload_n 0, 1) := by decide +kernel
theorem dX10_isAnySign_1 : decode cX10_isAnySign 1 = .ok (.getfield 14, 3) := by decide +kernel
theorem dX10_isAnySign_4 : decode cX10_isAnySign 4 = .ok (.aload_n 0, 1) := by decide +kernel
theorem dX10_isAnySign_5 : decode cX10_isAnySign 5 = .ok (.getfield 20, 3) := by decide +kernel
theorem dX10_isAnySign_8 : decode cX10_isAnySign 8 = .ok (.invokevirtual 34, 3) := by decide +kernel
theorem dX10_isAnySign_11 : decode cX10_isAnySign 11 = .ok (.invokestatic 52, 3) := by decide +kernel
theorem dX10_isAnySign_14 : decode cX10_isAnySign 14 = .ok (.ireturn, 1) := by decide +kernel
def mX10_isAnySign (n_t_text_bytes : Nat) (f_t_text_bytes : Nat → Int32) (v_t_text_length : Int32) (v_t_from : Int32) : Option (Int32) := ((mX6_byteAt n_t_text_bytes f_t_text_bytes v_t_text_length v_t_from).bind (fun r_1 => ((mX10_isSignByte r_1).bind (fun r_2 => (if ¬ (r_2 = 0 ∨ r_2 = 1) then none else some r_2)))))
set_option maxHeartbeats 4000000 in
set_option maxRecDepth 100000 in
theorem kcX10_isAnySign (l : Launch) (D : va_G) (cy : Nat → ClassId) (g : Nat → Nat) (a_t : Nat) (a_t_text : Nat) (a_t_text_bytes : Nat) (n_t_text_bytes : Nat) (f_t_text_bytes : Nat → Int32) (v_t_text_length : Int32) (v_t_from : Int32) (v_t_to : Int32) (R : Int32) (hm : mX10_isAnySign n_t_text_bytes f_t_text_bytes v_t_text_length v_t_from = some R) : Con l D cy g yX10_isAnySign cX10_isAnySign 1 (some .boolean) 1 21 0 0 [.ref a_t] [(a_t, .inr (6, [.ref a_t_text, .int v_t_from, .int v_t_to])), (a_t_text, .inr (3, [.ref a_t_text_bytes, .int v_t_text_length])), (a_t_text_bytes, .inl (cy 0, n_t_text_bytes, .inl f_t_text_bytes))] [(a_t, .inr (6, [.ref a_t_text, .int v_t_from, .int v_t_to])), (a_t_text, .inr (3, [.ref a_t_text_bytes, .int v_t_text_length])), (a_t_text_bytes, .inl (cy 0, n_t_text_bytes, .inl f_t_text_bytes))] (some (.int R)) := by
  refine Con.of (by decide +kernel) (Nat.le_of_ble_eq_true rfl) ?_
  intro p e RM s m ar below meth c A Qc ls hx hb hr hml hown hlocks hnm ht hK hP hD hS hA hR hC hQc hl
  have hown : s.vm.findClass RX10 = some m.cls := hown
  have hl : lv_has ls 1 [(0, .ref a_t)] := hl
  rw [mX10_isAnySign] at hm
  refine lv_aload_n hx hb dX10_isAnySign_0 rfl (lv_at hl 0 rfl) ?_
  refine va_get (D := D) (cl := classes) (ci := 6) (v := .ref a_t_text) (C := RX10) (T := TX10) (N := 3) hx hb ht in_RX10 hown hK.1 hP 0 rfl rfl 0 (by decide) (ht _ q_192) (fun _ h9 => h9) rfl dX10_isAnySign_1 ?_
  refine lv_aload_n hx hb dX10_isAnySign_4 rfl (lv_at hl 0 rfl) ?_
  refine va_get (D := D) (cl := classes) (ci := 6) (v := .int v_t_from) (C := RX10) (T := TX10) (N := 3) hx hb ht in_RX10 hown hK.1 hP 0 rfl rfl 1 (by decide) (ht _ q_194) (fun _ h9 => h9) rfl dX10_isAnySign_5 ?_
  obtain ⟨r_1, hr_1, hm⟩ := hm_b hm
  refine k_V (as := [.int v_t_from]) (rest := []) (ws' := [(a_t, .inr (6, [.ref a_t_text, .int v_t_from, .int v_t_to])), (a_t_text, .inr (3, [.ref a_t_text_bytes, .int v_t_text_length])), (a_t_text_bytes, .inl (cy 0, n_t_text_bytes, .inl f_t_text_bytes))]) (st2 := [.int r_1]) (i0 := 1) hx hb hml hown ht hK hP hD hS hA hC hR hl (kcX6_byteAt l D cy g a_t_text a_t_text_bytes n_t_text_bytes f_t_text_bytes v_t_text_length v_t_from r_1 hr_1) [1, 2] q_425 q_362 q_363 q_45 q_364 hyX6_byteAt ⟨rfl, rfl, rfl⟩ ⟨Nat.le_of_ble_eq_true rfl, Nat.le_of_ble_eq_true rfl, Nat.le_of_ble_eq_true rfl, Nat.le_of_ble_eq_true rfl⟩ rfl rfl rfl rfl (Nat.le_of_ble_eq_true rfl) dX10_isAnySign_8 rfl rfl (fun H locs hP hD hS => ?_)
  obtain ⟨r_2, hr_2, hm⟩ := hm_b hm
  refine k_S (as := [.int r_1]) (rest := []) (ws' := [(a_t, .inr (6, [.ref a_t_text, .int v_t_from, .int v_t_to])), (a_t_text, .inr (3, [.ref a_t_text_bytes, .int v_t_text_length])), (a_t_text_bytes, .inl (cy 0, n_t_text_bytes, .inl f_t_text_bytes))]) (st2 := [.int r_2]) hx hb hml hown ht hK hP hD hS hA hC hR hl (kcX10_isSignByte l D cy g r_1 r_2 hr_2) [] q_436 q_437 q_52 q_438 hyX10_isSignByte ⟨Nat.le_of_ble_eq_true rfl, Nat.le_of_ble_eq_true rfl, Nat.le_of_ble_eq_true rfl, Nat.le_of_ble_eq_true rfl⟩ rfl rfl rfl rfl (Nat.le_of_ble_eq_true rfl) dX10_isAnySign_11 rfl rfl (fun H locs hP hD hS => ?_)
  obtain ⟨hbz, hm⟩ := hm_g hm
  obtain rfl := Option.some.inj hm
  exact k_zret hx hb hr hlocks hQc (k_narz hbz) hP hS rfl rfl dX10_isAnySign_14
theorem dX10_isSign_0 : decode cX10_isSign 0 = .ok (.aload_n 0, 1) := by decide +kernel
theorem dX10_isSign_1 : decode cX10_isSign 1 = .ok (.getfield 14, 3) := by decide +kernel
theorem dX10_isSign_4 : decode cX10_isSign 4 = .ok (.aload_n 0, 1) := by decide +kernel
theorem dX10_isSign_5 : decode cX10_isSign 5 = .ok (.getfield 20, 3) := by decide +kernel
theorem dX10_isSign_8 : decode cX10_isSign 8 = .ok (.invokevirtual 34, 3) := by decide +kernel
theorem dX10_isSign_11 : decode cX10_isSign 11 = .ok (.iload_n 1, 1) := by decide +kernel
theorem dX10_isSign_12 : decode cX10_isSign 12 = .ok (.if_icmp .ne 7, 3) := by decide +kernel
theorem dX10_isSign_15 : decode cX10_isSign 15 = .ok (.iconst 1, 1) := by decide +kernel
theorem dX10_isSign_16 : decode cX10_isSign 16 = .ok (.goto 4, 3) := by decide +kernel
theorem dX10_isSign_19 : decode cX10_isSign 19 = .ok (.iconst 0, 1) := by decide +kernel
theorem dX10_isSign_20 : decode cX10_isSign 20 = .ok (.ireturn, 1) := by decide +kernel
def mX10_isSign (n_t_text_bytes : Nat) (f_t_text_bytes : Nat → Int32) (v_t_text_length : Int32) (v_t_from : Int32) (p1 : Int32) : Option (Int32) := ((mX6_byteAt n_t_text_bytes f_t_text_bytes v_t_text_length v_t_from).bind (fun r_1 => (if r_1 = p1 then some 1 else some 0)))
set_option maxHeartbeats 4000000 in
set_option maxRecDepth 100000 in
theorem kcX10_isSign (l : Launch) (D : va_G) (cy : Nat → ClassId) (g : Nat → Nat) (a_t : Nat) (a_t_text : Nat) (a_t_text_bytes : Nat) (n_t_text_bytes : Nat) (f_t_text_bytes : Nat → Int32) (v_t_text_length : Int32) (v_t_from : Int32) (v_t_to : Int32) (p1 : Int32) (R : Int32) (hm : mX10_isSign n_t_text_bytes f_t_text_bytes v_t_text_length v_t_from p1 = some R) : Con l D cy g yX10_isSign cX10_isSign 2 (some .boolean) 1 21 0 0 [.ref a_t, .int p1] [(a_t, .inr (6, [.ref a_t_text, .int v_t_from, .int v_t_to])), (a_t_text, .inr (3, [.ref a_t_text_bytes, .int v_t_text_length])), (a_t_text_bytes, .inl (cy 0, n_t_text_bytes, .inl f_t_text_bytes))] [(a_t, .inr (6, [.ref a_t_text, .int v_t_from, .int v_t_to])), (a_t_text, .inr (3, [.ref a_t_text_bytes, .int v_t_text_length])), (a_t_text_bytes, .inl (cy 0, n_t_text_bytes, .inl f_t_text_bytes))] (some (.int R)) := by
  refine Con.of (by decide +kernel) (Nat.le_of_ble_eq_true rfl) ?_
  intro p e RM s m ar below meth c A Qc ls hx hb hr hml hown hlocks hnm ht hK hP hD hS hA hR hC hQc hl
  have hown : s.vm.findClass RX10 = some m.cls := hown
  have hl : lv_has ls 2 [(0, .ref a_t), (1, .int p1)] := hl
  rw [mX10_isSign] at hm
  refine lv_aload_n hx hb dX10_isSign_0 rfl (lv_at hl 0 rfl) ?_
  refine va_get (D := D) (cl := classes) (ci := 6) (v := .ref a_t_text) (C := RX10) (T := TX10) (N := 3) hx hb ht in_RX10 hown hK.1 hP 0 rfl rfl 0 (by decide) (ht _ q_192) (fun _ h9 => h9) rfl dX10_isSign_1 ?_
  refine lv_aload_n hx hb dX10_isSign_4 rfl (lv_at hl 0 rfl) ?_
  refine va_get (D := D) (cl := classes) (ci := 6) (v := .int v_t_from) (C := RX10) (T := TX10) (N := 3) hx hb ht in_RX10 hown hK.1 hP 0 rfl rfl 1 (by decide) (ht _ q_194) (fun _ h9 => h9) rfl dX10_isSign_5 ?_
  obtain ⟨r_1, hr_1, hm⟩ := hm_b hm
  refine k_V (as := [.int v_t_from]) (rest := []) (ws' := [(a_t, .inr (6, [.ref a_t_text, .int v_t_from, .int v_t_to])), (a_t_text, .inr (3, [.ref a_t_text_bytes, .int v_t_text_length])), (a_t_text_bytes, .inl (cy 0, n_t_text_bytes, .inl f_t_text_bytes))]) (st2 := [.int r_1]) (i0 := 1) hx hb hml hown ht hK hP hD hS hA hC hR hl (kcX6_byteAt l D cy g a_t_text a_t_text_bytes n_t_text_bytes f_t_text_bytes v_t_text_length v_t_from r_1 hr_1) [1, 2] q_425 q_362 q_363 q_45 q_364 hyX6_byteAt ⟨rfl, rfl, rfl⟩ ⟨Nat.le_of_ble_eq_true rfl, Nat.le_of_ble_eq_true rfl, Nat.le_of_ble_eq_true rfl, Nat.le_of_ble_eq_true rfl⟩ rfl rfl rfl rfl (Nat.le_of_ble_eq_true rfl) dX10_isSign_8 rfl rfl (fun H locs hP hD hS => ?_)
  refine lv_iload_n hx hb dX10_isSign_11 rfl (lv_at hl 1 rfl) ?_
  refine lv_icmp_ne (tgt := 19) hx hb dX10_isSign_12 (by decide) (fun c_2 => ?_) (fun c_2 => ?_)
  · replace hm := hm_f c_2 hm
    refine lv_iconst (v := 0) hx hb dX10_isSign_19 (by decide) ?_
    obtain rfl := Option.some.inj hm
    exact k_zret hx hb hr hlocks hQc rfl hP hS rfl rfl dX10_isSign_20
  · replace hm := hm_t c_2 hm
    refine lv_iconst (v := 1) hx hb dX10_isSign_15 (by decide) ?_
    refine lv_goto (tgt := 20) hx hb dX10_isSign_16 (by decide) ?_
    obtain rfl := Option.some.inj hm
    exact k_zret hx hb hr hlocks hQc rfl hP hS rfl rfl dX10_isSign_20
theorem dX10_isEnd_0 : decode cX10_isEnd 0 = .ok (.aload_n 0, 1) := by decide +kernel
theorem dX10_isEnd_1 : decode cX10_isEnd 1 = .ok (.getfield 20, 3) := by decide +kernel
theorem dX10_isEnd_4 : decode cX10_isEnd 4 = .ok (.aload_n 0, 1) := by decide +kernel
theorem dX10_isEnd_5 : decode cX10_isEnd 5 = .ok (.getfield 14, 3) := by decide +kernel
theorem dX10_isEnd_8 : decode cX10_isEnd 8 = .ok (.invokevirtual 30, 3) := by decide +kernel
theorem dX10_isEnd_11 : decode cX10_isEnd 11 = .ok (.if_icmp .lt 7, 3) := by decide +kernel
theorem dX10_isEnd_14 : decode cX10_isEnd 14 = .ok (.iconst 1, 1) := by decide +kernel
theorem dX10_isEnd_15 : decode cX10_isEnd 15 = .ok (.goto 4, 3) := by decide +kernel
theorem dX10_isEnd_18 : decode cX10_isEnd 18 = .ok (.iconst 0, 1) := by decide +kernel
theorem dX10_isEnd_19 : decode cX10_isEnd 19 = .ok (.ireturn, 1) := by decide +kernel
def mX10_isEnd (v_t_text_length : Int32) (v_t_from : Int32) : Option (Int32) := ((mX6_size v_t_text_length).bind (fun r_1 => (if v_t_from < r_1 then some 0 else some 1)))
set_option maxHeartbeats 4000000 in
set_option maxRecDepth 100000 in
theorem kcX10_isEnd (l : Launch) (D : va_G) (cy : Nat → ClassId) (g : Nat → Nat) (a_t : Nat) (a_t_text : Nat) (a_t_text_bytes : Nat) (n_t_text_bytes : Nat) (f_t_text_bytes : Nat → Int32) (v_t_text_length : Int32) (v_t_from : Int32) (v_t_to : Int32) (R : Int32) (hm : mX10_isEnd v_t_text_length v_t_from = some R) : Con l D cy g yX10_isEnd cX10_isEnd 1 (some .boolean) 1 20 0 0 [.ref a_t] [(a_t, .inr (6, [.ref a_t_text, .int v_t_from, .int v_t_to])), (a_t_text, .inr (3, [.ref a_t_text_bytes, .int v_t_text_length])), (a_t_text_bytes, .inl (cy 0, n_t_text_bytes, .inl f_t_text_bytes))] [(a_t, .inr (6, [.ref a_t_text, .int v_t_from, .int v_t_to])), (a_t_text, .inr (3, [.ref a_t_text_bytes, .int v_t_text_length])), (a_t_text_bytes, .inl (cy 0, n_t_text_bytes, .inl f_t_text_bytes))] (some (.int R)) := by
  refine Con.of (by decide +kernel) (Nat.le_of_ble_eq_true rfl) ?_
  intro p e RM s m ar below meth c A Qc ls hx hb hr hml hown hlocks hnm ht hK hP hD hS hA hR hC hQc hl
  have hown : s.vm.findClass RX10 = some m.cls := hown
  have hl : lv_has ls 1 [(0, .ref a_t)] := hl
  rw [mX10_isEnd] at hm
  refine lv_aload_n hx hb dX10_isEnd_0 rfl (lv_at hl 0 rfl) ?_
  refine va_get (D := D) (cl := classes) (ci := 6) (v := .int v_t_from) (C := RX10) (T := TX10) (N := 3) hx hb ht in_RX10 hown hK.1 hP 0 rfl rfl 1 (by decide) (ht _ q_194) (fun _ h9 => h9) rfl dX10_isEnd_1 ?_
  refine lv_aload_n hx hb dX10_isEnd_4 rfl (lv_at hl 0 rfl) ?_
  refine va_get (D := D) (cl := classes) (ci := 6) (v := .ref a_t_text) (C := RX10) (T := TX10) (N := 3) hx hb ht in_RX10 hown hK.1 hP 0 rfl rfl 0 (by decide) (ht _ q_192) (fun _ h9 => h9) rfl dX10_isEnd_5 ?_
  obtain ⟨r_1, hr_1, hm⟩ := hm_b hm
  refine k_V (as := []) (rest := [.int v_t_from]) (ws' := [(a_t, .inr (6, [.ref a_t_text, .int v_t_from, .int v_t_to])), (a_t_text, .inr (3, [.ref a_t_text_bytes, .int v_t_text_length])), (a_t_text_bytes, .inl (cy 0, n_t_text_bytes, .inl f_t_text_bytes))]) (st2 := [.int r_1, .int v_t_from]) (i0 := 1) hx hb hml hown ht hK hP hD hS hA hC hR hl (kcX6_size l D cy g a_t_text a_t_text_bytes n_t_text_bytes f_t_text_bytes v_t_text_length r_1 hr_1) [1, 2] q_424 q_303 q_304 q_45 q_305 hyX6_size ⟨rfl, rfl, rfl⟩ ⟨Nat.le_of_ble_eq_true rfl, Nat.le_of_ble_eq_true rfl, Nat.le_of_ble_eq_true rfl, Nat.le_of_ble_eq_true rfl⟩ rfl rfl rfl rfl (Nat.le_of_ble_eq_true rfl) dX10_isEnd_8 rfl rfl (fun H locs hP hD hS => ?_)
  refine lv_icmp_lt (tgt := 18) hx hb dX10_isEnd_11 (by decide) (fun c_2 => ?_) (fun c_2 => ?_)
  · replace hm := hm_t c_2 hm
    refine lv_iconst (v := 0) hx hb dX10_isEnd_18 (by decide) ?_
    obtain rfl := Option.some.inj hm
    exact k_zret hx hb hr hlocks hQc rfl hP hS rfl rfl dX10_isEnd_19
  · replace hm := hm_f c_2 hm
    refine lv_iconst (v := 1) hx hb dX10_isEnd_14 (by decide) ?_
    refine lv_goto (tgt := 19) hx hb dX10_isEnd_15 (by decide) ?_
    obtain rfl := Option.some.inj hm
    exact k_zret hx hb hr hlocks hQc rfl hP hS rfl rfl dX10_isEnd_19
theorem dX10_advance_0 : decode cX10_advance 0 = .ok (.aload_n 0, 1) := by decide +kernel
theorem dX10_advance_1 : decode cX10_advance 1 = .ok (.aload_n 0, 1) := by decide +kernel
theorem dX10_advance_2 : decode cX10_advance 2 = .ok (.getfield 24, 3) := by decide +kernel
theorem dX10_advance_5 : decode cX10_advance 5 = .ok (.putfield 20, 3) := by decide +kernel
theorem dX10_advance_8 : decode cX10_advance 8 = .ok (.aload_n 0, 1) := by decide +kernel
theorem dX10_advance_9 : decode cX10_advance 9 = .ok (.getfield 20, 3) := by decide +kernel
theorem dX10_advance_12 : decode cX10_advance 12 = .ok (.aload_n 0, 1) := by decide +kernel
theorem dX10_advance_13 : decode cX10_advance 13 = .ok (.getfield 14, 3) := by decide +kernel
theorem dX10_advance_16 : decode cX10_advance 16 = .ok (.invokevirtual 30, 3) := by decide +kernel
theorem dX10_advance_19 : decode cX10_advance 19 = .ok (.if_icmp .ge 33, 3) := by decide +kernel
theorem dX10_advance_22 : decode cX10_advance 22 = .ok (.aload_n 0, 1) := by decide +kernel
theorem dX10_advance_23 : decode cX10_advance 23 = .ok (.getfield 14, 3) := by decide +kernel
theorem dX10_advance_26 : decode cX10_advance 26 = .ok (.aload_n 0, 1) := by decide +kernel
theorem dX10_advance_27 : decode cX10_advance 27 = .ok (.getfield 20, 3) := by decide +kernel
theorem dX10_advance_30 : decode cX10_advance 30 = .ok (.invokevirtual 34, 3) := by decide +kernel
theorem dX10_advance_33 : decode cX10_advance 33 = .ok (.invokestatic 38, 3) := by decide +kernel
theorem dX10_advance_36 : decode cX10_advance 36 = .ok (.ifCond .eq 16, 3) := by decide +kernel
theorem dX10_advance_39 : decode cX10_advance 39 = .ok (.aload_n 0, 1) := by decide +kernel
theorem dX10_advance_40 : decode cX10_advance 40 = .ok (.dup, 1) := by decide +kernel
theorem dX10_advance_41 : decode cX10_advance 41 = .ok (.getfield 20, 3) := by decide +kernel
theorem dX10_advance_44 : decode cX10_advance 44 = .ok (.iconst 1, 1) := by decide +kernel
theorem dX10_advance_45 : decode cX10_advance 45 = .ok (.iadd, 1) := by decide +kernel
theorem dX10_advance_46 : decode cX10_advance 46 = .ok (.putfield 20, 3) := by decide +kernel
theorem dX10_advance_49 : decode cX10_advance 49 = .ok (.goto (-41), 3) := by decide +kernel
theorem dX10_advance_52 : decode cX10_advance 52 = .ok (.aload_n 0, 1) := by decide +kernel
theorem dX10_advance_53 : decode cX10_advance 53 = .ok (.aload_n 0, 1) := by decide +kernel
theorem dX10_advance_54 : decode cX10_advance 54 = .ok (.getfield 20, 3) := by decide +kernel
theorem dX10_advance_57 : decode cX10_advance 57 = .ok (.iconst 1, 1) := by decide +kernel
theorem dX10_advance_58 : decode cX10_advance 58 = .ok (.iadd, 1) := by decide +kernel
theorem dX10_advance_59 : decode cX10_advance 59 = .ok (.aload_n 0, 1) := by decide +kernel
theorem dX10_advance_60 : decode cX10_advance 60 = .ok (.getfield 14, 3) := by decide +kernel
theorem dX10_advance_63 : decode cX10_advance 63 = .ok (.invokevirtual 30, 3) := by decide +kernel
theorem dX10_advance_66 : decode cX10_advance 66 = .ok (.invokestatic 42, 3) := by decide +kernel
theorem dX10_advance_69 : decode cX10_advance 69 = .ok (.putfield 24, 3) := by decide +kernel
theorem dX10_advance_72 : decode cX10_advance 72 = .ok (.aload_n 0, 1) := by decide +kernel
theorem dX10_advance_73 : decode cX10_advance 73 = .ok (.invokevirtual 48, 3) := by decide +kernel
theorem dX10_advance_76 : decode cX10_advance 76 = .ok (.ifCond .eq 4, 3) := by decide +kernel
theorem dX10_advance_79 : decode cX10_advance 79 = .ok (.return_, 1) := by decide +kernel
theorem dX10_advance_80 : decode cX10_advance 80 = .ok (.aload_n 0, 1) := by decide +kernel
theorem dX10_advance_81 : decode cX10_advance 81 = .ok (.getfield 24, 3) := by decide +kernel
theorem dX10_advance_84 : decode cX10_advance 84 = .ok (.aload_n 0, 1) := by decide +kernel
theorem dX10_advance_85 : decode cX10_advance 85 = .ok (.getfield 14, 3) := by decide +kernel
theorem dX10_advance_88 : decode cX10_advance 88 = .ok (.invokevirtual 30, 3) := by decide +kernel
theorem dX10_advance_91 : decode cX10_advance 91 = .ok (.if_icmp .ge 50, 3) := by decide +kernel
theorem dX10_advance_94 : decode cX10_advance 94 = .ok (.aload_n 0, 1) := by decide +kernel
theorem dX10_advance_95 : decode cX10_advance 95 = .ok (.getfield 14, 3) := by decide +kernel
theorem dX10_advance_98 : decode cX10_advance 98 = .ok (.aload_n 0, 1) := by decide +kernel
theorem dX10_advance_99 : decode cX10_advance 99 = .ok (.getfield 24, 3) := by decide +kernel
theorem dX10_advance_102 : decode cX10_advance 102 = .ok (.invokevirtual 34, 3) := by decide +kernel
theorem dX10_advance_105 : decode cX10_advance 105 = .ok (.invokestatic 38, 3) := by decide +kernel
theorem dX10_advance_108 : decode cX10_advance 108 = .ok (.ifCond .ne 33, 3) := by decide +kernel
theorem dX10_advance_111 : decode cX10_advance 111 = .ok (.aload_n 0, 1) := by decide +kernel
theorem dX10_advance_112 : decode cX10_advance 112 = .ok (.getfield 14, 3) := by decide +kernel
theorem dX10_advance_115 : decode cX10_advance 115 = .ok (.aload_n 0, 1) := by decide +kernel
theorem dX10_advance_116 : decode cX10_advance 116 = .ok (.getfield 24, 3) := by decide +kernel
theorem dX10_advance_119 : decode cX10_advance 119 = .ok (.invokevirtual 34, 3) := by decide +kernel
theorem dX10_advance_122 : decode cX10_advance 122 = .ok (.invokestatic 52, 3) := by decide +kernel
theorem dX10_advance_125 : decode cX10_advance 125 = .ok (.ifCond .ne 16, 3) := by decide +kernel
theorem dX10_advance_128 : decode cX10_advance 128 = .ok (.aload_n 0, 1) := by decide +kernel
theorem dX10_advance_129 : decode cX10_advance 129 = .ok (.dup, 1) := by decide +kernel
theorem dX10_advance_130 : decode cX10_advance 130 = .ok (.getfield 24, 3) := by decide +kernel
theorem dX10_advance_133 : decode cX10_advance 133 = .ok (.iconst 1, 1) := by decide +kernel
theorem dX10_advance_134 : decode cX10_advance 134 = .ok (.iadd, 1) := by decide +kernel
theorem dX10_advance_135 : decode cX10_advance 135 = .ok (.putfield 24, 3) := by decide +kernel
theorem dX10_advance_138 : decode cX10_advance 138 = .ok (.goto (-58), 3) := by decide +kernel
theorem dX10_advance_141 : decode cX10_advance 141 = .ok (.return_, 1) := by decide +kernel
def mX10_advance_L8 (v_t_text_length : Int32) (n_t_text_bytes : Nat) (f_t_text_bytes : Nat → Int32) : Nat → Int32 → Option (Int32)
  | 0, _ => none
  | n_ + 1, y_12 => ((mX6_size v_t_text_length).bind (fun r_13 => (if r_13 ≤ y_12 then some y_12 else ((mX6_byteAt n_t_text_bytes f_t_text_bytes v_t_text_length y_12).bind (fun r_15 => ((mX10_isGap r_15).bind (fun r_16 => (if r_16 = 0 then some y_12 else (mX10_advance_L8 v_t_text_length n_t_text_bytes f_t_text_bytes n_ (y_12 + 1))))))))))
def mX10_advance_L80 (v_t_text_length : Int32) (n_t_text_bytes : Nat) (f_t_text_bytes : Nat → Int32) : Nat → Int32 → Option (Int32)
  | 0, _ => none
  | n_ + 1, y_40 => ((mX6_size v_t_text_length).bind (fun r_41 => (if r_41 ≤ y_40 then some y_40 else ((mX6_byteAt n_t_text_bytes f_t_text_bytes v_t_text_length y_40).bind (fun r_43 => ((mX10_isGap r_43).bind (fun r_44 => (if r_44 = 0 then ((mX6_byteAt n_t_text_bytes f_t_text_bytes v_t_text_length y_40).bind (fun r_46 => ((mX10_isSignByte r_46).bind (fun r_47 => (if r_47 = 0 then (mX10_advance_L80 v_t_text_length n_t_text_bytes f_t_text_bytes n_ (y_40 + 1)) else some y_40))))) else some y_40))))))))
def mX10_advance (k : Nat) (n_t_text_bytes : Nat) (f_t_text_bytes : Nat → Int32) (v_t_text_length : Int32) (v_t_to : Int32) : Option (Int32 × Int32) := ((mX10_advance_L8 v_t_text_length n_t_text_bytes f_t_text_bytes k v_t_to).bind (fun r_18 => ((mX6_size v_t_text_length).bind (fun r_19 => ((some (if r_19 < (r_18 + 1) then r_19 else (r_18 + 1)) : Option Int32).bind (fun x_20 => ((mX10_isAnySign n_t_text_bytes f_t_text_bytes v_t_text_length r_18).bind (fun r_21 => (if r_21 = 0 then ((mX10_advance_L80 v_t_text_length n_t_text_bytes f_t_text_bytes k x_20).bind (fun r_49 => some (r_18, r_49))) else some (r_18, x_20))))))))))
set_option maxHeartbeats 4000000 in
set_option maxRecDepth 100000 in
theorem kcX10_advance (l : Launch) (D : va_G) (cy : Nat → ClassId) (g : Nat → Nat) (a_t : Nat) (a_t_text : Nat) (a_t_text_bytes : Nat) (n_t_text_bytes : Nat) (f_t_text_bytes : Nat → Int32) (v_t_text_length : Int32) (v_t_from : Int32) (v_t_to : Int32) (k : Nat) (R : Int32 × Int32) (hm : mX10_advance k n_t_text_bytes f_t_text_bytes v_t_text_length v_t_to = some R) : Con l D cy g yX10_advance cX10_advance 1 none 2 41 0 0 [.ref a_t] [(a_t, .inr (6, [.ref a_t_text, .int v_t_from, .int v_t_to])), (a_t_text, .inr (3, [.ref a_t_text_bytes, .int v_t_text_length])), (a_t_text_bytes, .inl (cy 0, n_t_text_bytes, .inl f_t_text_bytes))] [(a_t, .inr (6, [.ref a_t_text, .int R.1, .int R.2])), (a_t_text, .inr (3, [.ref a_t_text_bytes, .int v_t_text_length])), (a_t_text_bytes, .inl (cy 0, n_t_text_bytes, .inl f_t_text_bytes))] none := by
  refine Con.of (by decide +kernel) (Nat.le_of_ble_eq_true rfl) ?_
  intro p e RM s m ar below meth c A Qc ls hx hb hr hml hown hlocks hnm ht hK hP hD hS hA hR hC hQc hl
  have hown : s.vm.findClass RX10 = some m.cls := hown
  have hl : lv_has ls 1 [(0, .ref a_t)] := hl
  rw [mX10_advance] at hm
  refine lv_aload_n hx hb dX10_advance_0 rfl (lv_at hl 0 rfl) ?_
  refine lv_aload_n hx hb dX10_advance_1 rfl (lv_at hl 0 rfl) ?_
  refine va_get (D := D) (cl := classes) (ci := 6) (v := .int v_t_to) (C := RX10) (T := TX10) (N := 3) hx hb ht in_RX10 hown hK.1 hP 0 rfl rfl 2 (by decide) (ht _ q_196) (fun _ h9 => h9) rfl dX10_advance_2 ?_
  refine va_put (D := D) (cl := classes) (ci := 6) (v := .int v_t_to) (ty := .int) (C := RX10) (T := TX10) (N := 3) hx hb ht in_RX10 tyX10 tyX10_ok nmX10 hown hK.1 hP hD hS 0 rfl rfl 1 (by decide) (ht _ q_194) (fun _ h9 => h9) rfl (by decide +kernel) rfl rfl (Nat.le_of_ble_eq_true rfl) dX10_advance_5 (fun H locs hP hD hS => ?_)
  have hP : va_P D classes [(a_t, .inr (6, [.ref a_t_text, .int v_t_to, .int v_t_to])), (a_t_text, .inr (3, [.ref a_t_text_bytes, .int v_t_text_length])), (a_t_text_bytes, .inl (cy 0, n_t_text_bytes, .inl f_t_text_bytes))] H := hP
  have hD : va_D A [(a_t, .inr (6, [.ref a_t_text, .int v_t_to, .int v_t_to])), (a_t_text, .inr (3, [.ref a_t_text_bytes, .int v_t_text_length])), (a_t_text_bytes, .inl (cy 0, n_t_text_bytes, .inl f_t_text_bytes))] := hD
  have L8 : ∀ (rr : Int32) (kk : ∀ (H : Heap) (locs : List Loc) (ls : Array Slot), va_P D classes [(a_t, .inr (6, [.ref a_t_text, .int rr, .int v_t_to])), (a_t_text, .inr (3, [.ref a_t_text_bytes, .int v_t_text_length])), (a_t_text_bytes, .inl (cy 0, n_t_text_bytes, .inl f_t_text_bytes))] H → va_D A [(a_t, .inr (6, [.ref a_t_text, .int rr, .int v_t_to])), (a_t_text, .inr (3, [.ref a_t_text_bytes, .int v_t_text_length])), (a_t_text_bytes, .inl (cy 0, n_t_text_bytes, .inl f_t_text_bytes))] → va_S A s.heap H locs → lv_has ls 1 [(0, .ref a_t)] → W p l e RM s m ar below meth c H locs 0 0 (MQ below Qc ar s 0 0 A) (F0 m 52 ls [])) (n_ : Nat), ∀ (y_12 : Int32), mX10_advance_L8 v_t_text_length n_t_text_bytes f_t_text_bytes n_ y_12 = some rr → ∀ (H : Heap) (locs : List Loc) (ls : Array Slot), va_P D classes [(a_t, .inr (6, [.ref a_t_text, .int y_12, .int v_t_to])), (a_t_text, .inr (3, [.ref a_t_text_bytes, .int v_t_text_length])), (a_t_text_bytes, .inl (cy 0, n_t_text_bytes, .inl f_t_text_bytes))] H → va_D A [(a_t, .inr (6, [.ref a_t_text, .int y_12, .int v_t_to])), (a_t_text, .inr (3, [.ref a_t_text_bytes, .int v_t_text_length])), (a_t_text_bytes, .inl (cy 0, n_t_text_bytes, .inl f_t_text_bytes))] → va_S A s.heap H locs → lv_has ls 1 [(0, .ref a_t)] → W p l e RM s m ar below meth c H locs 0 0 (MQ below Qc ar s 0 0 A) (F0 m 8 ls []) := by
    intro rr kk n_
    induction n_ with
    | zero => intro y_12 hm; rw [mX10_advance_L8] at hm; cases hm
    | succ n_ ih =>
      intro y_12 hm H locs ls hP hD hS hl
      rw [mX10_advance_L8] at hm
      refine lv_aload_n hx hb dX10_advance_8 rfl (lv_at hl 0 rfl) ?_
      refine va_get (D := D) (cl := classes) (ci := 6) (v := .int y_12) (C := RX10) (T := TX10) (N := 3) hx hb ht in_RX10 hown hK.1 hP 0 rfl rfl 1 (by decide) (ht _ q_194) (fun _ h9 => h9) rfl dX10_advance_9 ?_
      refine lv_aload_n hx hb dX10_advance_12 rfl (lv_at hl 0 rfl) ?_
      refine va_get (D := D) (cl := classes) (ci := 6) (v := .ref a_t_text) (C := RX10) (T := TX10) (N := 3) hx hb ht in_RX10 hown hK.1 hP 0 rfl rfl 0 (by decide) (ht _ q_192) (fun _ h9 => h9) rfl dX10_advance_13 ?_
      obtain ⟨r_13, hr_13, hm⟩ := hm_b hm
      refine k_V (as := []) (rest := [.int y_12]) (ws' := [(a_t, .inr (6, [.ref a_t_text, .int y_12, .int v_t_to])), (a_t_text, .inr (3, [.ref a_t_text_bytes, .int v_t_text_length])), (a_t_text_bytes, .inl (cy 0, n_t_text_bytes, .inl f_t_text_bytes))]) (st2 := [.int r_13, .int y_12]) (i0 := 1) hx hb hml hown ht hK hP hD hS hA hC hR hl (kcX6_size l D cy g a_t_text a_t_text_bytes n_t_text_bytes f_t_text_bytes v_t_text_length r_13 hr_13) [1, 2] q_424 q_303 q_304 q_45 q_305 hyX6_size ⟨rfl, rfl, rfl⟩ ⟨Nat.le_of_ble_eq_true rfl, Nat.le_of_ble_eq_true rfl, Nat.le_of_ble_eq_true rfl, Nat.le_of_ble_eq_true rfl⟩ rfl rfl rfl rfl (Nat.le_of_ble_eq_true rfl) dX10_advance_16 rfl rfl (fun H locs hP hD hS => ?_)
      refine lv_icmp_ge (tgt := 52) hx hb dX10_advance_19 (by decide) (fun c_14 => ?_) (fun c_14 => ?_)
      · replace hm := hm_t c_14 hm
        obtain rfl := Option.some.inj hm
        exact kk _ _ _ hP hD hS (lv_sub hl [0] rfl)
      · replace hm := hm_f c_14 hm
        refine lv_aload_n hx hb dX10_advance_22 rfl (lv_at hl 0 rfl) ?_
        refine va_get (D := D) (cl := classes) (ci := 6) (v := .ref a_t_text) (C := RX10) (T := TX10) (N := 3) hx hb ht in_RX10 hown hK.1 hP 0 rfl rfl 0 (by decide) (ht _ q_192) (fun _ h9 => h9) rfl dX10_advance_23 ?_
        refine lv_aload_n hx hb dX10_advance_26 rfl (lv_at hl 0 rfl) ?_
        refine va_get (D := D) (cl := classes) (ci := 6) (v := .int y_12) (C := RX10) (T := TX10) (N := 3) hx hb ht in_RX10 hown hK.1 hP 0 rfl rfl 1 (by decide) (ht _ q_194) (fun _ h9 => h9) rfl dX10_advance_27 ?_
        obtain ⟨r_15, hr_15, hm⟩ := hm_b hm
        refine k_V (as := [.int y_12]) (rest := []) (ws' := [(a_t, .inr (6, [.ref a_t_text, .int y_12, .int v_t_to])), (a_t_text, .inr (3, [.ref a_t_text_bytes, .int v_t_text_length])), (a_t_text_bytes, .inl (cy 0, n_t_text_bytes, .inl f_t_text_bytes))]) (st2 := [.int r_15]) (i0 := 1) hx hb hml hown ht hK hP hD hS hA hC hR hl (kcX6_byteAt l D cy g a_t_text a_t_text_bytes n_t_text_bytes f_t_text_bytes v_t_text_length y_12 r_15 hr_15) [1, 2] q_425 q_362 q_363 q_45 q_364 hyX6_byteAt ⟨rfl, rfl, rfl⟩ ⟨Nat.le_of_ble_eq_true rfl, Nat.le_of_ble_eq_true rfl, Nat.le_of_ble_eq_true rfl, Nat.le_of_ble_eq_true rfl⟩ rfl rfl rfl rfl (Nat.le_of_ble_eq_true rfl) dX10_advance_30 rfl rfl (fun H locs hP hD hS => ?_)
        obtain ⟨r_16, hr_16, hm⟩ := hm_b hm
        refine k_S (as := [.int r_15]) (rest := []) (ws' := [(a_t, .inr (6, [.ref a_t_text, .int y_12, .int v_t_to])), (a_t_text, .inr (3, [.ref a_t_text_bytes, .int v_t_text_length])), (a_t_text_bytes, .inl (cy 0, n_t_text_bytes, .inl f_t_text_bytes))]) (st2 := [.int r_16]) hx hb hml hown ht hK hP hD hS hA hC hR hl (kcX10_isGap l D cy g r_15 r_16 hr_16) [] q_426 q_427 q_52 q_428 hyX10_isGap ⟨Nat.le_of_ble_eq_true rfl, Nat.le_of_ble_eq_true rfl, Nat.le_of_ble_eq_true rfl, Nat.le_of_ble_eq_true rfl⟩ rfl rfl rfl rfl (Nat.le_of_ble_eq_true rfl) dX10_advance_33 rfl rfl (fun H locs hP hD hS => ?_)
        refine lv_if_eq (tgt := 52) hx hb dX10_advance_36 (by decide) (fun c_17 => ?_) (fun c_17 => ?_)
        · replace hm := hm_t c_17 hm
          obtain rfl := Option.some.inj hm
          exact kk _ _ _ hP hD hS (lv_sub hl [0] rfl)
        · replace hm := hm_f c_17 hm
          refine lv_aload_n hx hb dX10_advance_39 rfl (lv_at hl 0 rfl) ?_
          refine lv_dup hx hb dX10_advance_40 rfl ?_
          refine va_get (D := D) (cl := classes) (ci := 6) (v := .int y_12) (C := RX10) (T := TX10) (N := 3) hx hb ht in_RX10 hown hK.1 hP 0 rfl rfl 1 (by decide) (ht _ q_194) (fun _ h9 => h9) rfl dX10_advance_41 ?_
          refine lv_iconst (v := 1) hx hb dX10_advance_44 (by decide) ?_
          refine lv_iadd hx hb dX10_advance_45 ?_
          refine va_put (D := D) (cl := classes) (ci := 6) (v := .int (y_12 + 1)) (ty := .int) (C := RX10) (T := TX10) (N := 3) hx hb ht in_RX10 tyX10 tyX10_ok nmX10 hown hK.1 hP hD hS 0 rfl rfl 1 (by decide) (ht _ q_194) (fun _ h9 => h9) rfl (by decide +kernel) rfl rfl (Nat.le_of_ble_eq_true rfl) dX10_advance_46 (fun H locs hP hD hS => ?_)
          have hP : va_P D classes [(a_t, .inr (6, [.ref a_t_text, .int (y_12 + 1), .int v_t_to])), (a_t_text, .inr (3, [.ref a_t_text_bytes, .int v_t_text_length])), (a_t_text_bytes, .inl (cy 0, n_t_text_bytes, .inl f_t_text_bytes))] H := hP
          have hD : va_D A [(a_t, .inr (6, [.ref a_t_text, .int (y_12 + 1), .int v_t_to])), (a_t_text, .inr (3, [.ref a_t_text_bytes, .int v_t_text_length])), (a_t_text_bytes, .inl (cy 0, n_t_text_bytes, .inl f_t_text_bytes))] := hD
          refine lv_goto (tgt := 8) hx hb dX10_advance_49 (by decide) ?_
          exact ih (y_12 + 1) hm _ _ _ hP hD hS (lv_sub hl [0] rfl)
  obtain ⟨r_18, hL, hm⟩ := hm_b hm
  refine L8 r_18 ?_ k v_t_to hL _ _ _ hP hD hS (lv_sub hl [0] rfl)
  intro H locs ls hP hD hS hl
  refine lv_aload_n hx hb dX10_advance_52 rfl (lv_at hl 0 rfl) ?_
  refine lv_aload_n hx hb dX10_advance_53 rfl (lv_at hl 0 rfl) ?_
  refine va_get (D := D) (cl := classes) (ci := 6) (v := .int r_18) (C := RX10) (T := TX10) (N := 3) hx hb ht in_RX10 hown hK.1 hP 0 rfl rfl 1 (by decide) (ht _ q_194) (fun _ h9 => h9) rfl dX10_advance_54 ?_
  refine lv_iconst (v := 1) hx hb dX10_advance_57 (by decide) ?_
  refine lv_iadd hx hb dX10_advance_58 ?_
  refine lv_aload_n hx hb dX10_advance_59 rfl (lv_at hl 0 rfl) ?_
  refine va_get (D := D) (cl := classes) (ci := 6) (v := .ref a_t_text) (C := RX10) (T := TX10) (N := 3) hx hb ht in_RX10 hown hK.1 hP 0 rfl rfl 0 (by decide) (ht _ q_192) (fun _ h9 => h9) rfl dX10_advance_60 ?_
  obtain ⟨r_19, hr_19, hm⟩ := hm_b hm
  refine k_V (as := []) (rest := [.int (r_18 + 1), .ref a_t]) (ws' := [(a_t, .inr (6, [.ref a_t_text, .int r_18, .int v_t_to])), (a_t_text, .inr (3, [.ref a_t_text_bytes, .int v_t_text_length])), (a_t_text_bytes, .inl (cy 0, n_t_text_bytes, .inl f_t_text_bytes))]) (st2 := [.int r_19, .int (r_18 + 1), .ref a_t]) (i0 := 1) hx hb hml hown ht hK hP hD hS hA hC hR hl (kcX6_size l D cy g a_t_text a_t_text_bytes n_t_text_bytes f_t_text_bytes v_t_text_length r_19 hr_19) [1, 2] q_424 q_303 q_304 q_45 q_305 hyX6_size ⟨rfl, rfl, rfl⟩ ⟨Nat.le_of_ble_eq_true rfl, Nat.le_of_ble_eq_true rfl, Nat.le_of_ble_eq_true rfl, Nat.le_of_ble_eq_true rfl⟩ rfl rfl rfl rfl (Nat.le_of_ble_eq_true rfl) dX10_advance_63 rfl rfl (fun H locs hP hD hS => ?_)
  refine va_mmin hx hb (hml.trans hl.1.symm) hown (ht _ q_429) (ht _ q_430) (ht _ q_46) (ht _ q_431) (by rw [hR]; exact Nat.le_of_ble_eq_true rfl) (by rw [hR]; exact Nat.le_of_ble_eq_true rfl) (by rw [hR]; exact Nat.le_of_ble_eq_true rfl) (by rw [hR]; exact Nat.le_of_ble_eq_true rfl) dX10_advance_66 ?_
  obtain ⟨x_20, hx_, hm⟩ := hm_b hm
  refine k_topi (y := x_20) (Option.some.inj hx_) ?_
  refine va_put (D := D) (cl := classes) (ci := 6) (v := .int x_20) (ty := .int) (C := RX10) (T := TX10) (N := 3) hx hb ht in_RX10 tyX10 tyX10_ok nmX10 hown hK.1 hP hD hS 0 rfl rfl 2 (by decide) (ht _ q_196) (fun _ h9 => h9) rfl (by decide +kernel) rfl rfl (Nat.le_of_ble_eq_true rfl) dX10_advance_69 (fun H locs hP hD hS => ?_)
  have hP : va_P D classes [(a_t, .inr (6, [.ref a_t_text, .int r_18, .int x_20])), (a_t_text, .inr (3, [.ref a_t_text_bytes, .int v_t_text_length])), (a_t_text_bytes, .inl (cy 0, n_t_text_bytes, .inl f_t_text_bytes))] H := hP
  have hD : va_D A [(a_t, .inr (6, [.ref a_t_text, .int r_18, .int x_20])), (a_t_text, .inr (3, [.ref a_t_text_bytes, .int v_t_text_length])), (a_t_text_bytes, .inl (cy 0, n_t_text_bytes, .inl f_t_text_bytes))] := hD
  refine lv_aload_n hx hb dX10_advance_72 rfl (lv_at hl 0 rfl) ?_
  obtain ⟨r_21, hr_21, hm⟩ := hm_b hm
  refine k_V (as := []) (rest := []) (ws' := [(a_t, .inr (6, [.ref a_t_text, .int r_18, .int x_20])), (a_t_text, .inr (3, [.ref a_t_text_bytes, .int v_t_text_length])), (a_t_text_bytes, .inl (cy 0, n_t_text_bytes, .inl f_t_text_bytes))]) (st2 := [.int r_21]) (i0 := 0) hx hb hml hown ht hK hP hD hS hA hC hR hl (kcX10_isAnySign l D cy g a_t a_t_text a_t_text_bytes n_t_text_bytes f_t_text_bytes v_t_text_length r_18 x_20 r_21 hr_21) [0, 1, 2] q_432 q_433 q_434 q_52 q_435 hyX10_isAnySign ⟨rfl, rfl, rfl⟩ ⟨Nat.le_of_ble_eq_true rfl, Nat.le_of_ble_eq_true rfl, Nat.le_of_ble_eq_true rfl, Nat.le_of_ble_eq_true rfl⟩ rfl rfl rfl rfl (Nat.le_of_ble_eq_true rfl) dX10_advance_73 rfl rfl (fun H locs hP hD hS => ?_)
  refine lv_if_eq (tgt := 80) hx hb dX10_advance_76 (by decide) (fun c_22 => ?_) (fun c_22 => ?_)
  · replace hm := hm_t c_22 hm
    have L80 : ∀ (rr : Int32) (kk : ∀ (H : Heap) (locs : List Loc) (ls : Array Slot), va_P D classes [(a_t, .inr (6, [.ref a_t_text, .int r_18, .int rr])), (a_t_text, .inr (3, [.ref a_t_text_bytes, .int v_t_text_length])), (a_t_text_bytes, .inl (cy 0, n_t_text_bytes, .inl f_t_text_bytes))] H → va_D A [(a_t, .inr (6, [.ref a_t_text, .int r_18, .int rr])), (a_t_text, .inr (3, [.ref a_t_text_bytes, .int v_t_text_length])), (a_t_text_bytes, .inl (cy 0, n_t_text_bytes, .inl f_t_text_bytes))] → va_S A s.heap H locs → lv_has ls 1 [] → W p l e RM s m ar below meth c H locs 0 0 (MQ below Qc ar s 0 0 A) (F0 m 141 ls [])) (n_ : Nat), ∀ (y_40 : Int32), mX10_advance_L80 v_t_text_length n_t_text_bytes f_t_text_bytes n_ y_40 = some rr → ∀ (H : Heap) (locs : List Loc) (ls : Array Slot), va_P D classes [(a_t, .inr (6, [.ref a_t_text, .int r_18, .int y_40])), (a_t_text, .inr (3, [.ref a_t_text_bytes, .int v_t_text_length])), (a_t_text_bytes, .inl (cy 0, n_t_text_bytes, .inl f_t_text_bytes))] H → va_D A [(a_t, .inr (6, [.ref a_t_text, .int r_18, .int y_40])), (a_t_text, .inr (3, [.ref a_t_text_bytes, .int v_t_text_length])), (a_t_text_bytes, .inl (cy 0, n_t_text_bytes, .inl f_t_text_bytes))] → va_S A s.heap H locs → lv_has ls 1 [(0, .ref a_t)] → W p l e RM s m ar below meth c H locs 0 0 (MQ below Qc ar s 0 0 A) (F0 m 80 ls []) := by
      intro rr kk n_
      induction n_ with
      | zero => intro y_40 hm; rw [mX10_advance_L80] at hm; cases hm
      | succ n_ ih =>
        intro y_40 hm H locs ls hP hD hS hl
        rw [mX10_advance_L80] at hm
        refine lv_aload_n hx hb dX10_advance_80 rfl (lv_at hl 0 rfl) ?_
        refine va_get (D := D) (cl := classes) (ci := 6) (v := .int y_40) (C := RX10) (T := TX10) (N := 3) hx hb ht in_RX10 hown hK.1 hP 0 rfl rfl 2 (by decide) (ht _ q_196) (fun _ h9 => h9) rfl dX10_advance_81 ?_
        refine lv_aload_n hx hb dX10_advance_84 rfl (lv_at hl 0 rfl) ?_
        refine va_get (D := D) (cl := classes) (ci := 6) (v := .ref a_t_text) (C := RX10) (T := TX10) (N := 3) hx hb ht in_RX10 hown hK.1 hP 0 rfl rfl 0 (by decide) (ht _ q_192) (fun _ h9 => h9) rfl dX10_advance_85 ?_
        obtain ⟨r_41, hr_41, hm⟩ := hm_b hm
        refine k_V (as := []) (rest := [.int y_40]) (ws' := [(a_t, .inr (6, [.ref a_t_text, .int r_18, .int y_40])), (a_t_text, .inr (3, [.ref a_t_text_bytes, .int v_t_text_length])), (a_t_text_bytes, .inl (cy 0, n_t_text_bytes, .inl f_t_text_bytes))]) (st2 := [.int r_41, .int y_40]) (i0 := 1) hx hb hml hown ht hK hP hD hS hA hC hR hl (kcX6_size l D cy g a_t_text a_t_text_bytes n_t_text_bytes f_t_text_bytes v_t_text_length r_41 hr_41) [1, 2] q_424 q_303 q_304 q_45 q_305 hyX6_size ⟨rfl, rfl, rfl⟩ ⟨Nat.le_of_ble_eq_true rfl, Nat.le_of_ble_eq_true rfl, Nat.le_of_ble_eq_true rfl, Nat.le_of_ble_eq_true rfl⟩ rfl rfl rfl rfl (Nat.le_of_ble_eq_true rfl) dX10_advance_88 rfl rfl (fun H locs hP hD hS => ?_)
        refine lv_icmp_ge (tgt := 141) hx hb dX10_advance_91 (by decide) (fun c_42 => ?_) (fun c_42 => ?_)
        · replace hm := hm_t c_42 hm
          obtain rfl := Option.some.inj hm
          exact kk _ _ _ hP hD hS (lv_sub hl [] rfl)
        · replace hm := hm_f c_42 hm
          refine lv_aload_n hx hb dX10_advance_94 rfl (lv_at hl 0 rfl) ?_
          refine va_get (D := D) (cl := classes) (ci := 6) (v := .ref a_t_text) (C := RX10) (T := TX10) (N := 3) hx hb ht in_RX10 hown hK.1 hP 0 rfl rfl 0 (by decide) (ht _ q_192) (fun _ h9 => h9) rfl dX10_advance_95 ?_
          refine lv_aload_n hx hb dX10_advance_98 rfl (lv_at hl 0 rfl) ?_
          refine va_get (D := D) (cl := classes) (ci := 6) (v := .int y_40) (C := RX10) (T := TX10) (N := 3) hx hb ht in_RX10 hown hK.1 hP 0 rfl rfl 2 (by decide) (ht _ q_196) (fun _ h9 => h9) rfl dX10_advance_99 ?_
          obtain ⟨r_43, hr_43, hm⟩ := hm_b hm
          refine k_V (as := [.int y_40]) (rest := []) (ws' := [(a_t, .inr (6, [.ref a_t_text, .int r_18, .int y_40])), (a_t_text, .inr (3, [.ref a_t_text_bytes, .int v_t_text_length])), (a_t_text_bytes, .inl (cy 0, n_t_text_bytes, .inl f_t_text_bytes))]) (st2 := [.int r_43]) (i0 := 1) hx hb hml hown ht hK hP hD hS hA hC hR hl (kcX6_byteAt l D cy g a_t_text a_t_text_bytes n_t_text_bytes f_t_text_bytes v_t_text_length y_40 r_43 hr_43) [1, 2] q_425 q_362 q_363 q_45 q_364 hyX6_byteAt ⟨rfl, rfl, rfl⟩ ⟨Nat.le_of_ble_eq_true rfl, Nat.le_of_ble_eq_true rfl, Nat.le_of_ble_eq_true rfl, Nat.le_of_ble_eq_true rfl⟩ rfl rfl rfl rfl (Nat.le_of_ble_eq_true rfl) dX10_advance_102 rfl rfl (fun H locs hP hD hS => ?_)
          obtain ⟨r_44, hr_44, hm⟩ := hm_b hm
          refine k_S (as := [.int r_43]) (rest := []) (ws' := [(a_t, .inr (6, [.ref a_t_text, .int r_18, .int y_40])), (a_t_text, .inr (3, [.ref a_t_text_bytes, .int v_t_text_length])), (a_t_text_bytes, .inl (cy 0, n_t_text_bytes, .inl f_t_text_bytes))]) (st2 := [.int r_44]) hx hb hml hown ht hK hP hD hS hA hC hR hl (kcX10_isGap l D cy g r_43 r_44 hr_44) [] q_426 q_427 q_52 q_428 hyX10_isGap ⟨Nat.le_of_ble_eq_true rfl, Nat.le_of_ble_eq_true rfl, Nat.le_of_ble_eq_true rfl, Nat.le_of_ble_eq_true rfl⟩ rfl rfl rfl rfl (Nat.le_of_ble_eq_true rfl) dX10_advance_105 rfl rfl (fun H locs hP hD hS => ?_)
          refine lv_if_ne (tgt := 141) hx hb dX10_advance_108 (by decide) (fun c_45 => ?_) (fun c_45 => ?_)
          · replace hm := hm_f c_45 hm
            obtain rfl := Option.some.inj hm
            exact kk _ _ _ hP hD hS (lv_sub hl [] rfl)
          · replace hm := hm_t c_45 hm
            refine lv_aload_n hx hb dX10_advance_111 rfl (lv_at hl 0 rfl) ?_
            refine va_get (D := D) (cl := classes) (ci := 6) (v := .ref a_t_text) (C := RX10) (T := TX10) (N := 3) hx hb ht in_RX10 hown hK.1 hP 0 rfl rfl 0 (by decide) (ht _ q_192) (fun _ h9 => h9) rfl dX10_advance_112 ?_
            refine lv_aload_n hx hb dX10_advance_115 rfl (lv_at hl 0 rfl) ?_
            refine va_get (D := D) (cl := classes) (ci := 6) (v := .int y_40) (C := RX10) (T := TX10) (N := 3) hx hb ht in_RX10 hown hK.1 hP 0 rfl rfl 2 (by decide) (ht _ q_196) (fun _ h9 => h9) rfl dX10_advance_116 ?_
            obtain ⟨r_46, hr_46, hm⟩ := hm_b hm
            refine k_V (as := [.int y_40]) (rest := []) (ws' := [(a_t, .inr (6, [.ref a_t_text, .int r_18, .int y_40])), (a_t_text, .inr (3, [.ref a_t_text_bytes, .int v_t_text_length])), (a_t_text_bytes, .inl (cy 0, n_t_text_bytes, .inl f_t_text_bytes))]) (st2 := [.int r_46]) (i0 := 1) hx hb hml hown ht hK hP hD hS hA hC hR hl (kcX6_byteAt l D cy g a_t_text a_t_text_bytes n_t_text_bytes f_t_text_bytes v_t_text_length y_40 r_46 hr_46) [1, 2] q_425 q_362 q_363 q_45 q_364 hyX6_byteAt ⟨rfl, rfl, rfl⟩ ⟨Nat.le_of_ble_eq_true rfl, Nat.le_of_ble_eq_true rfl, Nat.le_of_ble_eq_true rfl, Nat.le_of_ble_eq_true rfl⟩ rfl rfl rfl rfl (Nat.le_of_ble_eq_true rfl) dX10_advance_119 rfl rfl (fun H locs hP hD hS => ?_)
            obtain ⟨r_47, hr_47, hm⟩ := hm_b hm
            refine k_S (as := [.int r_46]) (rest := []) (ws' := [(a_t, .inr (6, [.ref a_t_text, .int r_18, .int y_40])), (a_t_text, .inr (3, [.ref a_t_text_bytes, .int v_t_text_length])), (a_t_text_bytes, .inl (cy 0, n_t_text_bytes, .inl f_t_text_bytes))]) (st2 := [.int r_47]) hx hb hml hown ht hK hP hD hS hA hC hR hl (kcX10_isSignByte l D cy g r_46 r_47 hr_47) [] q_436 q_437 q_52 q_438 hyX10_isSignByte ⟨Nat.le_of_ble_eq_true rfl, Nat.le_of_ble_eq_true rfl, Nat.le_of_ble_eq_true rfl, Nat.le_of_ble_eq_true rfl⟩ rfl rfl rfl rfl (Nat.le_of_ble_eq_true rfl) dX10_advance_122 rfl rfl (fun H locs hP hD hS => ?_)
            refine lv_if_ne (tgt := 141) hx hb dX10_advance_125 (by decide) (fun c_48 => ?_) (fun c_48 => ?_)
            · replace hm := hm_f c_48 hm
              obtain rfl := Option.some.inj hm
              exact kk _ _ _ hP hD hS (lv_sub hl [] rfl)
            · replace hm := hm_t c_48 hm
              refine lv_aload_n hx hb dX10_advance_128 rfl (lv_at hl 0 rfl) ?_
              refine lv_dup hx hb dX10_advance_129 rfl ?_
              refine va_get (D := D) (cl := classes) (ci := 6) (v := .int y_40) (C := RX10) (T := TX10) (N := 3) hx hb ht in_RX10 hown hK.1 hP 0 rfl rfl 2 (by decide) (ht _ q_196) (fun _ h9 => h9) rfl dX10_advance_130 ?_
              refine lv_iconst (v := 1) hx hb dX10_advance_133 (by decide) ?_
              refine lv_iadd hx hb dX10_advance_134 ?_
              refine va_put (D := D) (cl := classes) (ci := 6) (v := .int (y_40 + 1)) (ty := .int) (C := RX10) (T := TX10) (N := 3) hx hb ht in_RX10 tyX10 tyX10_ok nmX10 hown hK.1 hP hD hS 0 rfl rfl 2 (by decide) (ht _ q_196) (fun _ h9 => h9) rfl (by decide +kernel) rfl rfl (Nat.le_of_ble_eq_true rfl) dX10_advance_135 (fun H locs hP hD hS => ?_)
              have hP : va_P D classes [(a_t, .inr (6, [.ref a_t_text, .int r_18, .int (y_40 + 1)])), (a_t_text, .inr (3, [.ref a_t_text_bytes, .int v_t_text_length])), (a_t_text_bytes, .inl (cy 0, n_t_text_bytes, .inl f_t_text_bytes))] H := hP
              have hD : va_D A [(a_t, .inr (6, [.ref a_t_text, .int r_18, .int (y_40 + 1)])), (a_t_text, .inr (3, [.ref a_t_text_bytes, .int v_t_text_length])), (a_t_text_bytes, .inl (cy 0, n_t_text_bytes, .inl f_t_text_bytes))] := hD
              refine lv_goto (tgt := 80) hx hb dX10_advance_138 (by decide) ?_
              exact ih (y_40 + 1) hm _ _ _ hP hD hS (lv_sub hl [0] rfl)
    obtain ⟨r_49, hL, hm⟩ := hm_b hm
    refine L80 r_49 ?_ k x_20 hL _ _ _ hP hD hS (lv_sub hl [0] rfl)
    intro H locs ls hP hD hS hl
    obtain rfl := Option.some.inj hm
    exact k_vret hx hb hr hlocks hQc hP hS rfl rfl dX10_advance_141
  · replace hm := hm_f c_22 hm
    obtain rfl := Option.some.inj hm
    exact k_vret hx hb hr hlocks hQc hP hS rfl rfl dX10_advance_79
theorem dX10_isWord_0 : decode cX10_isWord 0 = .ok (.aload_n 0, 1) := by decide +kernel
theorem dX10_isWord_1 : decode cX10_isWord 1 = .ok (.getfield 24, 3) := by decide +kernel
theorem dX10_isWord_4 : decode cX10_isWord 4 = .ok (.aload_n 0, 1) := by decide +kernel
theorem dX10_isWord_5 : decode cX10_isWord 5 = .ok (.getfield 20, 3) := by decide +kernel
theorem dX10_isWord_8 : decode cX10_isWord 8 = .ok (.isub, 1) := by decide +kernel
theorem dX10_isWord_9 : decode cX10_isWord 9 = .ok (.aload_n 1, 1) := by decide +kernel
theorem dX10_isWord_10 : decode cX10_isWord 10 = .ok (.invokevirtual 69, 3) := by decide +kernel
theorem dX10_isWord_13 : decode cX10_isWord 13 = .ok (.if_icmp .eq 5, 3) := by decide +kernel
theorem dX10_isWord_16 : decode cX10_isWord 16 = .ok (.iconst 0, 1) := by decide +kernel
theorem dX10_isWord_17 : decode cX10_isWord 17 = .ok (.ireturn, 1) := by decide +kernel
theorem dX10_isWord_18 : decode cX10_isWord 18 = .ok (.iconst 0, 1) := by decide +kernel
theorem dX10_isWord_19 : decode cX10_isWord 19 = .ok (.istore_n 2, 1) := by decide +kernel
theorem dX10_isWord_20 : decode cX10_isWord 20 = .ok (.iload_n 2, 1) := by decide +kernel
theorem dX10_isWord_21 : decode cX10_isWord 21 = .ok (.aload_n 1, 1) := by decide +kernel
theorem dX10_isWord_22 : decode cX10_isWord 22 = .ok (.invokevirtual 69, 3) := by decide +kernel
theorem dX10_isWord_25 : decode cX10_isWord 25 = .ok (.if_icmp .ge 32, 3) := by decide +kernel
theorem dX10_isWord_28 : decode cX10_isWord 28 = .ok (.aload_n 0, 1) := by decide +kernel
theorem dX10_isWord_29 : decode cX10_isWord 29 = .ok (.getfield 14, 3) := by decide +kernel
theorem dX10_isWord_32 : decode cX10_isWord 32 = .ok (.aload_n 0, 1) := by decide +kernel
theorem dX10_isWord_33 : decode cX10_isWord 33 = .ok (.getfield 20, 3) := by decide +kernel
theorem dX10_isWord_36 : decode cX10_isWord 36 = .ok (.iload_n 2, 1) := by decide +kernel
theorem dX10_isWord_37 : decode cX10_isWord 37 = .ok (.iadd, 1) := by decide +kernel
theorem dX10_isWord_38 : decode cX10_isWord 38 = .ok (.invokevirtual 34, 3) := by decide +kernel
theorem dX10_isWord_41 : decode cX10_isWord 41 = .ok (.aload_n 1, 1) := by decide +kernel
theorem dX10_isWord_42 : decode cX10_isWord 42 = .ok (.iload_n 2, 1) := by decide +kernel
theorem dX10_isWord_43 : decode cX10_isWord 43 = .ok (.invokevirtual 74, 3) := by decide +kernel
theorem dX10_isWord_46 : decode cX10_isWord 46 = .ok (.if_icmp .eq 5, 3) := by decide +kernel
theorem dX10_isWord_49 : decode cX10_isWord 49 = .ok (.iconst 0, 1) := by decide +kernel
theorem dX10_isWord_50 : decode cX10_isWord 50 = .ok (.ireturn, 1) := by decide +kernel
theorem dX10_isWord_51 : decode cX10_isWord 51 = .ok (.iinc 2 1, 3) := by decide +kernel
theorem dX10_isWord_54 : decode cX10_isWord 54 = .ok (.goto (-34), 3) := by decide +kernel
theorem dX10_isWord_57 : decode cX10_isWord 57 = .ok (.iconst 1, 1) := by decide +kernel
theorem dX10_isWord_58 : decode cX10_isWord 58 = .ok (.ireturn, 1) := by decide +kernel
def mX10_isWord_L20 (i1 : Nat) (n_t_text_bytes : Nat) (f_t_text_bytes : Nat → Int32) (v_t_text_length : Int32) (v_t_from : Int32) : Nat → Int32 → Option (Int32)
  | 0, _ => none
  | n_ + 1, y_14 => ((mJ0_length_8abf5 i1).bind (fun r_15 => (if r_15 ≤ y_14 then some 1 else ((mX6_byteAt n_t_text_bytes f_t_text_bytes v_t_text_length (v_t_from + y_14)).bind (fun r_17 => ((mJ0_charAt_5068e y_14 i1).bind (fun r_18 => (if r_17 = r_18 then (mX10_isWord_L20 i1 n_t_text_bytes f_t_text_bytes v_t_text_length v_t_from n_ (y_14 + 1)) else some 0))))))))
def mX10_isWord (k : Nat) (n_t_text_bytes : Nat) (f_t_text_bytes : Nat → Int32) (v_t_text_length : Int32) (v_t_from : Int32) (v_t_to : Int32) (i1 : Nat) : Option (Int32) := ((mJ0_length_8abf5 i1).bind (fun r_1 => (if (v_t_to - v_t_from) = r_1 then (mX10_isWord_L20 i1 n_t_text_bytes f_t_text_bytes v_t_text_length v_t_from k 0) else some 0)))
set_option maxHeartbeats 4000000 in
set_option maxRecDepth 100000 in
theorem kcX10_isWord (l : Launch) (D : va_G) (cy : Nat → ClassId) (g : Nat → Nat) (a_t : Nat) (a_t_text : Nat) (a_t_text_bytes : Nat) (n_t_text_bytes : Nat) (f_t_text_bytes : Nat → Int32) (v_t_text_length : Int32) (v_t_from : Int32) (v_t_to : Int32) (i1 : Nat) (h_i1 : i1 < 44) (k : Nat) (R : Int32) (hm : mX10_isWord k n_t_text_bytes f_t_text_bytes v_t_text_length v_t_from v_t_to i1 = some R) : Con l D cy g yX10_isWord cX10_isWord 3 (some .boolean) 4 85 0 0 [.ref a_t, .ref (g i1)] [(a_t, .inr (6, [.ref a_t_text, .int v_t_from, .int v_t_to])), (a_t_text, .inr (3, [.ref a_t_text_bytes, .int v_t_text_length])), (a_t_text_bytes, .inl (cy 0, n_t_text_bytes, .inl f_t_text_bytes))] [(a_t, .inr (6, [.ref a_t_text, .int v_t_from, .int v_t_to])), (a_t_text, .inr (3, [.ref a_t_text_bytes, .int v_t_text_length])), (a_t_text_bytes, .inl (cy 0, n_t_text_bytes, .inl f_t_text_bytes))] (some (.int R)) := by
  refine Con.of (by decide +kernel) (Nat.le_of_ble_eq_true rfl) ?_
  intro p e RM s m ar below meth c A Qc ls hx hb hr hml hown hlocks hnm ht hK hP hD hS hA hR hC hQc hl
  have hown : s.vm.findClass RX10 = some m.cls := hown
  have hl : lv_has ls 3 [(0, .ref a_t), (1, .ref (g i1))] := hl
  rw [mX10_isWord] at hm
  refine lv_aload_n hx hb dX10_isWord_0 rfl (lv_at hl 0 rfl) ?_
  refine va_get (D := D) (cl := classes) (ci := 6) (v := .int v_t_to) (C := RX10) (T := TX10) (N := 3) hx hb ht in_RX10 hown hK.1 hP 0 rfl rfl 2 (by decide) (ht _ q_196) (fun _ h9 => h9) rfl dX10_isWord_1 ?_
  refine lv_aload_n hx hb dX10_isWord_4 rfl (lv_at hl 0 rfl) ?_
  refine va_get (D := D) (cl := classes) (ci := 6) (v := .int v_t_from) (C := RX10) (T := TX10) (N := 3) hx hb ht in_RX10 hown hK.1 hP 0 rfl rfl 1 (by decide) (ht _ q_194) (fun _ h9 => h9) rfl dX10_isWord_5 ?_
  refine lv_isub hx hb dX10_isWord_8 ?_
  refine lv_aload_n hx hb dX10_isWord_9 rfl (lv_at hl 1 rfl) ?_
  obtain ⟨r_1, hr_1, hm⟩ := hm_b hm
  refine k_VC (as := []) (rest := [.int (v_t_to - v_t_from)]) (ws' := [(a_t, .inr (6, [.ref a_t_text, .int v_t_from, .int v_t_to])), (a_t_text, .inr (3, [.ref a_t_text_bytes, .int v_t_text_length])), (a_t_text_bytes, .inl (cy 0, n_t_text_bytes, .inl f_t_text_bytes))]) (st2 := [.int r_1, .int (v_t_to - v_t_from)]) hx hb hml hown ht hK hP hD hS hA hC hR hl (kcJ0_length_8abf5 l D cy g i1 h_i1 r_1 hr_1) [] q_465 q_466 q_467 q_63 q_468 hyJ0_length_8abf5 (hC.1 _ h_i1).1 rfl ⟨Nat.le_of_ble_eq_true rfl, Nat.le_of_ble_eq_true rfl, Nat.le_of_ble_eq_true rfl, Nat.le_of_ble_eq_true rfl⟩ rfl rfl rfl rfl (Nat.le_of_ble_eq_true rfl) dX10_isWord_10 rfl rfl (fun H locs hP hD hS => ?_)
  refine lv_icmp_eq (tgt := 18) hx hb dX10_isWord_13 (by decide) (fun c_2 => ?_) (fun c_2 => ?_)
  · replace hm := hm_t c_2 hm
    refine lv_iconst (v := 0) hx hb dX10_isWord_18 (by decide) ?_
    refine lv_istore_n (lv' := [(2, .int 0), (0, .ref a_t), (1, .ref (g i1))]) hx hb dX10_isWord_19 rfl hl (by decide) rfl (fun ls hl => ?_)
    have L20 : ∀ (n_ : Nat), ∀ (y_14 : Int32), mX10_isWord_L20 i1 n_t_text_bytes f_t_text_bytes v_t_text_length v_t_from n_ y_14 = some R → ∀ (H : Heap) (locs : List Loc) (ls : Array Slot), va_P D classes [(a_t, .inr (6, [.ref a_t_text, .int v_t_from, .int v_t_to])), (a_t_text, .inr (3, [.ref a_t_text_bytes, .int v_t_text_length])), (a_t_text_bytes, .inl (cy 0, n_t_text_bytes, .inl f_t_text_bytes))] H → va_D A [(a_t, .inr (6, [.ref a_t_text, .int v_t_from, .int v_t_to])), (a_t_text, .inr (3, [.ref a_t_text_bytes, .int v_t_text_length])), (a_t_text_bytes, .inl (cy 0, n_t_text_bytes, .inl f_t_text_bytes))] → va_S A s.heap H locs → lv_has ls 3 [(2, .int y_14), (0, .ref a_t), (1, .ref (g i1))] → W p l e RM s m ar below meth c H locs 0 0 (MQ below Qc ar s 0 0 A) (F0 m 20 ls []) := by
      intro n_
      induction n_ with
      | zero => intro y_14 hm; rw [mX10_isWord_L20] at hm; cases hm
      | succ n_ ih =>
        intro y_14 hm H locs ls hP hD hS hl
        rw [mX10_isWord_L20] at hm
        refine lv_iload_n hx hb dX10_isWord_20 rfl (lv_at hl 0 rfl) ?_
        refine lv_aload_n hx hb dX10_isWord_21 rfl (lv_at hl 2 rfl) ?_
        obtain ⟨r_15, hr_15, hm⟩ := hm_b hm
        refine k_VC (as := []) (rest := [.int y_14]) (ws' := [(a_t, .inr (6, [.ref a_t_text, .int v_t_from, .int v_t_to])), (a_t_text, .inr (3, [.ref a_t_text_bytes, .int v_t_text_length])), (a_t_text_bytes, .inl (cy 0, n_t_text_bytes, .inl f_t_text_bytes))]) (st2 := [.int r_15, .int y_14]) hx hb hml hown ht hK hP hD hS hA hC hR hl (kcJ0_length_8abf5 l D cy g i1 h_i1 r_15 hr_15) [] q_465 q_466 q_467 q_63 q_468 hyJ0_length_8abf5 (hC.1 _ h_i1).1 rfl ⟨Nat.le_of_ble_eq_true rfl, Nat.le_of_ble_eq_true rfl, Nat.le_of_ble_eq_true rfl, Nat.le_of_ble_eq_true rfl⟩ rfl rfl rfl rfl (Nat.le_of_ble_eq_true rfl) dX10_isWord_22 rfl rfl (fun H locs hP hD hS => ?_)
        refine lv_icmp_ge (tgt := 57) hx hb dX10_isWord_25 (by decide) (fun c_16 => ?_) (fun c_16 => ?_)
        · replace hm := hm_t c_16 hm
          refine lv_iconst (v := 1) hx hb dX10_isWord_57 (by decide) ?_
          obtain rfl := Option.some.inj hm
          exact k_zret hx hb hr hlocks hQc rfl hP hS rfl rfl dX10_isWord_58
        · replace hm := hm_f c_16 hm
          refine lv_aload_n hx hb dX10_isWord_28 rfl (lv_at hl 1 rfl) ?_
          refine va_get (D := D) (cl := classes) (ci := 6) (v := .ref a_t_text) (C := RX10) (T := TX10) (N := 3) hx hb ht in_RX10 hown hK.1 hP 0 rfl rfl 0 (by decide) (ht _ q_192) (fun _ h9 => h9) rfl dX10_isWord_29 ?_
          refine lv_aload_n hx hb dX10_isWord_32 rfl (lv_at hl 1 rfl) ?_
          refine va_get (D := D) (cl := classes) (ci := 6) (v := .int v_t_from) (C := RX10) (T := TX10) (N := 3) hx hb ht in_RX10 hown hK.1 hP 0 rfl rfl 1 (by decide) (ht _ q_194) (fun _ h9 => h9) rfl dX10_isWord_33 ?_
          refine lv_iload_n hx hb dX10_isWord_36 rfl (lv_at hl 0 rfl) ?_
          refine lv_iadd hx hb dX10_isWord_37 ?_
          obtain ⟨r_17, hr_17, hm⟩ := hm_b hm
          refine k_V (as := [.int (v_t_from + y_14)]) (rest := []) (ws' := [(a_t, .inr (6, [.ref a_t_text, .int v_t_from, .int v_t_to])), (a_t_text, .inr (3, [.ref a_t_text_bytes, .int v_t_text_length])), (a_t_text_bytes, .inl (cy 0, n_t_text_bytes, .inl f_t_text_bytes))]) (st2 := [.int r_17]) (i0 := 1) hx hb hml hown ht hK hP hD hS hA hC hR hl (kcX6_byteAt l D cy g a_t_text a_t_text_bytes n_t_text_bytes f_t_text_bytes v_t_text_length (v_t_from + y_14) r_17 hr_17) [1, 2] q_425 q_362 q_363 q_45 q_364 hyX6_byteAt ⟨rfl, rfl, rfl⟩ ⟨Nat.le_of_ble_eq_true rfl, Nat.le_of_ble_eq_true rfl, Nat.le_of_ble_eq_true rfl, Nat.le_of_ble_eq_true rfl⟩ rfl rfl rfl rfl (Nat.le_of_ble_eq_true rfl) dX10_isWord_38 rfl rfl (fun H locs hP hD hS => ?_)
          refine lv_aload_n hx hb dX10_isWord_41 rfl (lv_at hl 2 rfl) ?_
          refine lv_iload_n hx hb dX10_isWord_42 rfl (lv_at hl 0 rfl) ?_
          obtain ⟨r_18, hr_18, hm⟩ := hm_b hm
          refine k_VC (as := [.int y_14]) (rest := [.int r_17]) (ws' := [(a_t, .inr (6, [.ref a_t_text, .int v_t_from, .int v_t_to])), (a_t_text, .inr (3, [.ref a_t_text_bytes, .int v_t_text_length])), (a_t_text_bytes, .inl (cy 0, n_t_text_bytes, .inl f_t_text_bytes))]) (st2 := [.int r_18, .int r_17]) hx hb hml hown ht hK hP hD hS hA hC hR hl (kcJ0_charAt_5068e l D cy g y_14 i1 h_i1 r_18 hr_18) [] q_475 q_476 q_477 q_63 q_478 hyJ0_charAt_5068e (hC.1 _ h_i1).1 rfl ⟨Nat.le_of_ble_eq_true rfl, Nat.le_of_ble_eq_true rfl, Nat.le_of_ble_eq_true rfl, Nat.le_of_ble_eq_true rfl⟩ rfl rfl rfl rfl (Nat.le_of_ble_eq_true rfl) dX10_isWord_43 rfl rfl (fun H locs hP hD hS => ?_)
          refine lv_icmp_eq (tgt := 51) hx hb dX10_isWord_46 (by decide) (fun c_19 => ?_) (fun c_19 => ?_)
          · replace hm := hm_t c_19 hm
            refine lv_iinc (v := (y_14 + 1)) (lv' := [(2, .int (y_14 + 1)), (0, .ref a_t), (1, .ref (g i1))]) hx hb dX10_isWord_51 hl (k := 0) rfl rfl (by decide) rfl (fun ls hl => ?_)
            refine lv_goto (tgt := 20) hx hb dX10_isWord_54 (by decide) ?_
            exact ih (y_14 + 1) hm _ _ _ hP hD hS (lv_sub hl [0, 1, 2] rfl)
          · replace hm := hm_f c_19 hm
            refine lv_iconst (v := 0) hx hb dX10_isWord_49 (by decide) ?_
            obtain rfl := Option.some.inj hm
            exact k_zret hx hb hr hlocks hQc rfl hP hS rfl rfl dX10_isWord_50
    exact L20 k 0 hm _ _ _ hP hD hS (lv_sub hl [0, 1, 2] rfl)
  · replace hm := hm_f c_2 hm
    refine lv_iconst (v := 0) hx hb dX10_isWord_16 (by decide) ?_
    obtain rfl := Option.some.inj hm
    exact k_zret hx hb hr hlocks hQc rfl hP hS rfl rfl dX10_isWord_17
theorem dX10_verb_0 : decode cX10_verb 0 = .ok (.iconst 0, 1) := by decide +kernel
theorem dX10_verb_1 : decode cX10_verb 1 = .ok (.istore_n 1, 1) := by decide +kernel
theorem dX10_verb_2 : decode cX10_verb 2 = .ok (.iload_n 1, 1) := by decide +kernel
theorem dX10_verb_3 : decode cX10_verb 3 = .ok (.getstatic 55, 3) := by decide +kernel
theorem dX10_verb_6 : decode cX10_verb 6 = .ok (.arraylength, 1) := by decide +kernel
theorem dX10_verb_7 : decode cX10_verb 7 = .ok (.if_icmp .ge 30, 3) := by decide +kernel
theorem dX10_verb_10 : decode cX10_verb 10 = .ok (.aload_n 0, 1) := by decide +kernel
theorem dX10_verb_11 : decode cX10_verb 11 = .ok (.getstatic 55, 3) := by decide +kernel
theorem dX10_verb_14 : decode cX10_verb 14 = .ok (.iload_n 1, 1) := by decide +kernel
theorem dX10_verb_15 : decode cX10_verb 15 = .ok (.aaload, 1) := by decide +kernel
theorem dX10_verb_16 : decode cX10_verb 16 = .ok (.getfield 61, 3) := by decide +kernel
theorem dX10_verb_19 : decode cX10_verb 19 = .ok (.invokevirtual 65, 3) := by decide +kernel
theorem dX10_verb_22 : decode cX10_verb 22 = .ok (.ifCond .eq 9, 3) := by decide +kernel
theorem dX10_verb_25 : decode cX10_verb 25 = .ok (.getstatic 55, 3) := by decide +kernel
theorem dX10_verb_28 : decode cX10_verb 28 = .ok (.iload_n 1, 1) := by decide +kernel
theorem dX10_verb_29 : decode cX10_verb 29 = .ok (.aaload, 1) := by decide +kernel
theorem dX10_verb_30 : decode cX10_verb 30 = .ok (.areturn, 1) := by decide +kernel
theorem dX10_verb_31 : decode cX10_verb 31 = .ok (.iinc 1 1, 3) := by decide +kernel
theorem dX10_verb_34 : decode cX10_verb 34 = .ok (.goto (-32), 3) := by decide +kernel
theorem dX10_verb_37 : decode cX10_verb 37 = .ok (.aconst_null, 1) := by decide +kernel
theorem dX10_verb_38 : decode cX10_verb 38 = .ok (.areturn, 1) := by decide +kernel
def mX10_verb_L2 (k : Nat) (n_t_text_bytes : Nat) (f_t_text_bytes : Nat → Int32) (v_t_text_length : Int32) (v_t_from : Int32) (v_t_to : Int32) : Nat → Int32 → Option (Option Nat)
  | 0, _ => none
  | n_ + 1, y_10 => (if (31 : Int32) ≤ y_10 then some none else (if y_10 < 0 ∨ 31 ≤ y_10.toNatClampNeg then none else ((mX10_isWord k n_t_text_bytes f_t_text_bytes v_t_text_length v_t_from v_t_to y_10.toNatClampNeg).bind (fun r_13 => (if r_13 = 0 then (mX10_verb_L2 k n_t_text_bytes f_t_text_bytes v_t_text_length v_t_from v_t_to n_ (y_10 + 1)) else (if y_10 < 0 ∨ 31 ≤ y_10.toNatClampNeg then none else some (some y_10.toNatClampNeg)))))))
def mX10_verb (k : Nat) (n_t_text_bytes : Nat) (f_t_text_bytes : Nat → Int32) (v_t_text_length : Int32) (v_t_from : Int32) (v_t_to : Int32) : Option (Option Nat) := (mX10_verb_L2 k n_t_text_bytes f_t_text_bytes v_t_text_length v_t_from v_t_to k 0)
set_option maxHeartbeats 4000000 in
set_option maxRecDepth 100000 in
theorem kcX10_verb (l : Launch) (D : va_G) (cy : Nat → ClassId) (g : Nat → Nat) (a_t : Nat) (a_t_text : Nat) (a_t_text_bytes : Nat) (n_t_text_bytes : Nat) (f_t_text_bytes : Nat → Int32) (v_t_text_length : Int32) (v_t_from : Int32) (v_t_to : Int32) (k : Nat) (R : Option Nat) (hm : mX10_verb k n_t_text_bytes f_t_text_bytes v_t_text_length v_t_from v_t_to = some R) : Con l D cy g yX10_verb cX10_verb 2 (some (.object "RadixDesk$Verb")) 5 107 0 0 [.ref a_t] [(a_t, .inr (6, [.ref a_t_text, .int v_t_from, .int v_t_to])), (a_t_text, .inr (3, [.ref a_t_text_bytes, .int v_t_text_length])), (a_t_text_bytes, .inl (cy 0, n_t_text_bytes, .inl f_t_text_bytes))] [(a_t, .inr (6, [.ref a_t_text, .int v_t_from, .int v_t_to])), (a_t_text, .inr (3, [.ref a_t_text_bytes, .int v_t_text_length])), (a_t_text_bytes, .inl (cy 0, n_t_text_bytes, .inl f_t_text_bytes))] (some (va_rf (Option.map (fun v => g (200 + v)) R))) := by
  refine Con.of (by decide +kernel) (Nat.le_of_ble_eq_true rfl) ?_
  intro p e RM s m ar below meth c A Qc ls hx hb hr hml hown hlocks hnm ht hK hP hD hS hA hR hC hQc hl
  have hown : s.vm.findClass RX10 = some m.cls := hown
  have hl : lv_has ls 2 [(0, .ref a_t)] := hl
  rw [mX10_verb] at hm
  refine lv_iconst (v := 0) hx hb dX10_verb_0 (by decide) ?_
  refine lv_istore_n (lv' := [(1, .int 0), (0, .ref a_t)]) hx hb dX10_verb_1 rfl hl (by decide) rfl (fun ls hl => ?_)
  have L2 : ∀ (n_ : Nat), ∀ (y_10 : Int32), mX10_verb_L2 k n_t_text_bytes f_t_text_bytes v_t_text_length v_t_from v_t_to n_ y_10 = some R → ∀ (H : Heap) (locs : List Loc) (ls : Array Slot), va_P D classes [(a_t, .inr (6, [.ref a_t_text, .int v_t_from, .int v_t_to])), (a_t_text, .inr (3, [.ref a_t_text_bytes, .int v_t_text_length])), (a_t_text_bytes, .inl (cy 0, n_t_text_bytes, .inl f_t_text_bytes))] H → va_D A [(a_t, .inr (6, [.ref a_t_text, .int v_t_from, .int v_t_to])), (a_t_text, .inr (3, [.ref a_t_text_bytes, .int v_t_text_length])), (a_t_text_bytes, .inl (cy 0, n_t_text_bytes, .inl f_t_text_bytes))] → va_S A s.heap H locs → lv_has ls 2 [(1, .int y_10), (0, .ref a_t)] → W p l e RM s m ar below meth c H locs 0 0 (MQ below Qc ar s 0 0 A) (F0 m 2 ls []) := by
    intro n_
    induction n_ with
    | zero => intro y_10 hm; rw [mX10_verb_L2] at hm; cases hm
    | succ n_ ih =>
      intro y_10 hm H locs ls hP hD hS hl
      rw [mX10_verb_L2] at hm
      refine lv_iload_n hx hb dX10_verb_2 rfl (lv_at hl 0 rfl) ?_
      refine va_getsN (v := .ref (g 300)) hx hb hC.2.2.1.2.2.2.2.2.2.1 hS hown (va_Nw.use rfl (hK.2 _ qn_417)) (fun _ h9 => h9) dX10_verb_3 ?_
      refine va_tlen (v := 31) hx hb hC.2.2.1.2.2.2.2.2.2.2.1 hS rfl dX10_verb_6 ?_
      refine lv_icmp_ge (tgt := 37) hx hb dX10_verb_7 (by decide) (fun c_11 => ?_) (fun c_11 => ?_)
      · replace hm := hm_t c_11 hm
        refine lv_null hx hb dX10_verb_37 ?_
        obtain rfl := Option.some.inj hm
        exact k_aret hx hb hr (Or.inl ⟨_, rfl⟩) (Or.inl rfl) hlocks hQc hP hS rfl rfl dX10_verb_38
      · replace hm := hm_f c_11 hm
        refine lv_aload_n hx hb dX10_verb_10 rfl (lv_at hl 1 rfl) ?_
        refine va_getsN (v := .ref (g 300)) hx hb hC.2.2.1.2.2.2.2.2.2.1 hS hown (va_Nw.use rfl (hK.2 _ qn_417)) (fun _ h9 => h9) dX10_verb_11 ?_
        refine lv_iload_n hx hb dX10_verb_14 rfl (lv_at hl 0 rfl) ?_
        obtain ⟨hin, hm⟩ := hm_g hm
        have hi_12 : y_10.toNatClampNeg < 31 := Nat.not_le.mp (fun q => hin (Or.inr q))
        refine k_tq (v := .ref (g (200 + y_10.toNatClampNeg))) hx hb hC.2.2.1.2.2.2.2.2.2.2.1 hS hin rfl dX10_verb_15 ?_
        refine k_getfN (v := .ref (g y_10.toNatClampNeg)) hx hb (hC.2.1 _ hi_12).2.2.1 hS hown (va_Nw.use rfl (hK.2 _ qn_2032)) (fun _ h9 => h9) dX10_verb_16 ?_
        obtain ⟨r_13, hr_13, hm⟩ := hm_b hm
        refine k_V (as := [.ref (g y_10.toNatClampNeg)]) (rest := []) (ws' := [(a_t, .inr (6, [.ref a_t_text, .int v_t_from, .int v_t_to])), (a_t_text, .inr (3, [.ref a_t_text_bytes, .int v_t_text_length])), (a_t_text_bytes, .inl (cy 0, n_t_text_bytes, .inl f_t_text_bytes))]) (st2 := [.int r_13]) (i0 := 0) hx hb hml hown ht hK hP hD hS hA hC hR hl (kcX10_isWord l D cy g a_t a_t_text a_t_text_bytes n_t_text_bytes f_t_text_bytes v_t_text_length v_t_from v_t_to y_10.toNatClampNeg (Nat.lt_trans hi_12 (by decide)) k r_13 hr_13) [0, 1, 2] q_461 q_463 q_4 q_52 q_464 hyX10_isWord ⟨rfl, rfl, rfl⟩ ⟨Nat.le_of_ble_eq_true rfl, Nat.le_of_ble_eq_true rfl, Nat.le_of_ble_eq_true rfl, Nat.le_of_ble_eq_true rfl⟩ rfl rfl rfl rfl (Nat.le_of_ble_eq_true rfl) dX10_verb_19 rfl rfl (fun H locs hP hD hS => ?_)
        refine lv_if_eq (tgt := 31) hx hb dX10_verb_22 (by decide) (fun c_14 => ?_) (fun c_14 => ?_)
        · replace hm := hm_t c_14 hm
          refine lv_iinc (v := (y_10 + 1)) (lv' := [(1, .int (y_10 + 1)), (0, .ref a_t)]) hx hb dX10_verb_31 hl (k := 0) rfl rfl (by decide) rfl (fun ls hl => ?_)
          refine lv_goto (tgt := 2) hx hb dX10_verb_34 (by decide) ?_
          exact ih (y_10 + 1) hm _ _ _ hP hD hS (lv_sub hl [0, 1] rfl)
        · replace hm := hm_f c_14 hm
          refine va_getsN (v := .ref (g 300)) hx hb hC.2.2.1.2.2.2.2.2.2.1 hS hown (va_Nw.use rfl (hK.2 _ qn_417)) (fun _ h9 => h9) dX10_verb_25 ?_
          refine lv_iload_n hx hb dX10_verb_28 rfl (lv_at hl 0 rfl) ?_
          obtain ⟨hin, hm⟩ := hm_g hm
          have hi_15 : y_10.toNatClampNeg < 31 := Nat.not_le.mp (fun q => hin (Or.inr q))
          refine k_tq (v := .ref (g (200 + y_10.toNatClampNeg))) hx hb hC.2.2.1.2.2.2.2.2.2.2.1 hS hin rfl dX10_verb_29 ?_
          obtain rfl := Option.some.inj hm
          exact k_aret hx hb hr (Or.inl ⟨_, rfl⟩) (Or.inr ⟨_, rfl⟩) hlocks hQc hP hS rfl rfl dX10_verb_30
  exact L2 k 0 hm _ _ _ hP hD hS (lv_sub hl [0, 1] rfl)
theorem dX10_begin_0 : decode cX10_begin 0 = .ok (.aload_n 0, 1) := by decide +kernel
theorem dX10_begin_1 : decode cX10_begin 1 = .ok (.aload_n 1, 1) := by decide +kernel
theorem dX10_begin_2 : decode cX10_begin 2 = .ok (.putfield 14, 3) := by decide +kernel
theorem dX10_begin_5 : decode cX10_begin 5 = .ok (.aload_n 0, 1) := by decide +kernel
theorem dX10_begin_6 : decode cX10_begin 6 = .ok (.iconst 0, 1) := by decide +kernel
theorem dX10_begin_7 : decode cX10_begin 7 = .ok (.putfield 20, 3) := by decide +kernel
theorem dX10_begin_10 : decode cX10_begin 10 = .ok (.aload_n 0, 1) := by decide +kernel
theorem dX10_begin_11 : decode cX10_begin 11 = .ok (.iconst 0, 1) := by decide +kernel
theorem dX10_begin_12 : decode cX10_begin 12 = .ok (.putfield 24, 3) := by decide +kernel
theorem dX10_begin_15 : decode cX10_begin 15 = .ok (.aload_n 0, 1) := by decide +kernel
theorem dX10_begin_16 : decode cX10_begin 16 = .ok (.invokevirtual 27, 3) := by decide +kernel
theorem dX10_begin_19 : decode cX10_begin 19 = .ok (.return_, 1) := by decide +kernel
def mX10_begin (k : Nat) (n_p1_bytes : Nat) (f_p1_bytes : Nat → Int32) (v_p1_length : Int32) : Option (Int32 × Int32) := ((mX10_advance k n_p1_bytes f_p1_bytes v_p1_length 0).bind (fun r_1 => some (r_1.1, r_1.2)))
set_option maxHeartbeats 4000000 in
set_option maxRecDepth 100000 in
theorem kcX10_begin (l : Launch) (D : va_G) (cy : Nat → ClassId) (g : Nat → Nat) (a_t : Nat) (a_t_text : Nat) (a_p1 : Nat) (a_p1_bytes : Nat) (n_p1_bytes : Nat) (v_t_from : Int32) (v_t_to : Int32) (f_p1_bytes : Nat → Int32) (v_p1_length : Int32) (k : Nat) (R : Int32 × Int32) (hm : mX10_begin k n_p1_bytes f_p1_bytes v_p1_length = some R) : Con l D cy g yX10_begin cX10_begin 2 none 3 61 0 0 [.ref a_t, .ref a_p1] [(a_t, .inr (6, [.ref a_t_text, .int v_t_from, .int v_t_to])), (a_p1, .inr (3, [.ref a_p1_bytes, .int v_p1_length])), (a_p1_bytes, .inl (cy 0, n_p1_bytes, .inl f_p1_bytes))] [(a_t, .inr (6, [.ref a_p1, .int R.1, .int R.2])), (a_p1, .inr (3, [.ref a_p1_bytes, .int v_p1_length])), (a_p1_bytes, .inl (cy 0, n_p1_bytes, .inl f_p1_bytes))] none := by
  refine Con.of (by decide +kernel) (Nat.le_of_ble_eq_true rfl) ?_
  intro p e RM s m ar below meth c A Qc ls hx hb hr hml hown hlocks hnm ht hK hP hD hS hA hR hC hQc hl
  have hown : s.vm.findClass RX10 = some m.cls := hown
  have hl : lv_has ls 2 [(0, .ref a_t), (1, .ref a_p1)] := hl
  rw [mX10_begin] at hm
  refine lv_aload_n hx hb dX10_begin_0 rfl (lv_at hl 0 rfl) ?_
  refine lv_aload_n hx hb dX10_begin_1 rfl (lv_at hl 1 rfl) ?_
  refine va_put (D := D) (cl := classes) (ci := 6) (v := .ref a_p1) (ty := .object "RadixDesk$Row") (C := RX10) (T := TX10) (N := 3) hx hb ht in_RX10 tyX10 tyX10_ok nmX10 hown hK.1 hP hD hS 0 rfl rfl 0 (by decide) (ht _ q_192) (fun _ h9 => h9) rfl (by decide +kernel) rfl rfl (Nat.le_of_ble_eq_true rfl) dX10_begin_2 (fun H locs hP hD hS => ?_)
  have hP : va_P D classes [(a_t, .inr (6, [.ref a_p1, .int v_t_from, .int v_t_to])), (a_p1, .inr (3, [.ref a_p1_bytes, .int v_p1_length])), (a_p1_bytes, .inl (cy 0, n_p1_bytes, .inl f_p1_bytes))] H := hP
  have hD : va_D A [(a_t, .inr (6, [.ref a_p1, .int v_t_from, .int v_t_to])), (a_p1, .inr (3, [.ref a_p1_bytes, .int v_p1_length])), (a_p1_bytes, .inl (cy 0, n_p1_bytes, .inl f_p1_bytes))] := hD
  refine lv_aload_n hx hb dX10_begin_5 rfl (lv_at hl 0 rfl) ?_
  refine lv_iconst (v := 0) hx hb dX10_begin_6 (by decide) ?_
  refine va_put (D := D) (cl := classes) (ci := 6) (v := .int 0) (ty := .int) (C := RX10) (T := TX10) (N := 3) hx hb ht in_RX10 tyX10 tyX10_ok nmX10 hown hK.1 hP hD hS 0 rfl rfl 1 (by decide) (ht _ q_194) (fun _ h9 => h9) rfl (by decide +kernel) rfl rfl (Nat.le_of_ble_eq_true rfl) dX10_begin_7 (fun H locs hP hD hS => ?_)
  have hP : va_P D classes [(a_t, .inr (6, [.ref a_p1, .int 0, .int v_t_to])), (a_p1, .inr (3, [.ref a_p1_bytes, .int v_p1_length])), (a_p1_bytes, .inl (cy 0, n_p1_bytes, .inl f_p1_bytes))] H := hP
  have hD : va_D A [(a_t, .inr (6, [.ref a_p1, .int 0, .int v_t_to])), (a_p1, .inr (3, [.ref a_p1_bytes, .int v_p1_length])), (a_p1_bytes, .inl (cy 0, n_p1_bytes, .inl f_p1_bytes))] := hD
  refine lv_aload_n hx hb dX10_begin_10 rfl (lv_at hl 0 rfl) ?_
  refine lv_iconst (v := 0) hx hb dX10_begin_11 (by decide) ?_
  refine va_put (D := D) (cl := classes) (ci := 6) (v := .int 0) (ty := .int) (C := RX10) (T := TX10) (N := 3) hx hb ht in_RX10 tyX10 tyX10_ok nmX10 hown hK.1 hP hD hS 0 rfl rfl 2 (by decide) (ht _ q_196) (fun _ h9 => h9) rfl (by decide +kernel) rfl rfl (Nat.le_of_ble_eq_true rfl) dX10_begin_12 (fun H locs hP hD hS => ?_)
  have hP : va_P D classes [(a_t, .inr (6, [.ref a_p1, .int 0, .int 0])), (a_p1, .inr (3, [.ref a_p1_bytes, .int v_p1_length])), (a_p1_bytes, .inl (cy 0, n_p1_bytes, .inl f_p1_bytes))] H := hP
  have hD : va_D A [(a_t, .inr (6, [.ref a_p1, .int 0, .int 0])), (a_p1, .inr (3, [.ref a_p1_bytes, .int v_p1_length])), (a_p1_bytes, .inl (cy 0, n_p1_bytes, .inl f_p1_bytes))] := hD
  refine lv_aload_n hx hb dX10_begin_15 rfl (lv_at hl 0 rfl) ?_
  obtain ⟨r_1, hr_1, hm⟩ := hm_b hm
  refine k_V (as := []) (rest := []) (ws' := [(a_t, .inr (6, [.ref a_p1, .int r_1.1, .int r_1.2])), (a_p1, .inr (3, [.ref a_p1_bytes, .int v_p1_length])), (a_p1_bytes, .inl (cy 0, n_p1_bytes, .inl f_p1_bytes))]) (st2 := []) (i0 := 0) hx hb hml hown ht hK hP hD hS hA hC hR hl (kcX10_advance l D cy g a_t a_p1 a_p1_bytes n_p1_bytes f_p1_bytes v_p1_length 0 0 k r_1 hr_1) [0, 1, 2] q_420 q_421 q_422 q_52 q_423 hyX10_advance ⟨rfl, rfl, rfl⟩ ⟨Nat.le_of_ble_eq_true rfl, Nat.le_of_ble_eq_true rfl, Nat.le_of_ble_eq_true rfl, Nat.le_of_ble_eq_true rfl⟩ rfl rfl rfl rfl (Nat.le_of_ble_eq_true rfl) dX10_begin_16 rfl rfl (fun H locs hP hD hS => ?_)
  obtain rfl := Option.some.inj hm
  exact k_vret hx hb hr hlocks hQc hP hS rfl rfl dX10_begin_19
theorem dX9_least_0 : decode cX9_least 0 = .ok (.iload_n 0, 1) := by decide +kernel
theorem dX9_least_1 : decode cX9_least 1 = .ok (.lookupswitch 35 #[(78, 31), (82, 27)], 27) := by decide +kernel
theorem dX9_least_28 : decode cX9_least 28 = .ok (.ldc2_w 125, 3) := by decide +kernel
theorem dX9_least_31 : decode cX9_least 31 = .ok (.lreturn, 1) := by decide +kernel
theorem dX9_least_32 : decode cX9_least 32 = .ok (.ldc2_w 127, 3) := by decide +kernel
theorem dX9_least_35 : decode cX9_least 35 = .ok (.lreturn, 1) := by decide +kernel
theorem dX9_least_36 : decode cX9_least 36 = .ok (.lconst 0, 1) := by decide +kernel
theorem dX9_least_37 : decode cX9_least 37 = .ok (.lreturn, 1) := by decide +kernel
def mX9_least (p1 : Int32) : Option (Int64) := (if p1 = 78 then some (-9223372036854775808) else (if p1 = 82 then some 2 else some 0))
set_option maxHeartbeats 4000000 in
set_option maxRecDepth 100000 in
theorem kcX9_least (l : Launch) (D : va_G) (cy : Nat → ClassId) (g : Nat → Nat) (p1 : Int32) (R : Int64) (hm : mX9_least p1 = some R) : Con l D cy g yX9_least cX9_least 1 (some .long) 0 0 0 0 [.int p1] [] [] (some (.long R)) := by
  refine Con.of (by decide +kernel) (Nat.le_of_ble_eq_true rfl) ?_
  intro p e RM s m ar below meth c A Qc ls hx hb hr hml hown hlocks hnm ht hK hP hD hS hA hR hC hQc hl
  have hown : s.vm.findClass RX9 = some m.cls := hown
  have hl : lv_has ls 1 [(0, .int p1)] := hl
  rw [mX9_least] at hm
  refine lv_iload_n hx hb dX9_least_0 rfl (lv_at hl 0 rfl) ?_
  rcases Decidable.em (p1 = 78) with c_1 | c_1
  · replace hm := hm_t c_1 hm
    refine lv_lookup (tgt := 32) (off := 31) hx hb dX9_least_1 (by decide) (by rw [c_1]; decide) (by decide) ?_
    refine lv_ldc2 (v := (-9223372036854775808)) hx hb hown (ht _ q_557) dX9_least_32 ?_
    obtain rfl := Option.some.inj hm
    exact k_lret hx hb hr hlocks hQc hP hS rfl rfl dX9_least_35
  replace hm := hm_f c_1 hm
  rcases Decidable.em (p1 = 82) with c_2 | c_2
  · replace hm := hm_t c_2 hm
    refine lv_lookup (tgt := 28) (off := 27) hx hb dX9_least_1 (by decide) (by rw [c_2]; decide) (by decide) ?_
    refine lv_ldc2 (v := 2) hx hb hown (ht _ q_556) dX9_least_28 ?_
    obtain rfl := Option.some.inj hm
    exact k_lret hx hb hr hlocks hQc hP hS rfl rfl dX9_least_31
  replace hm := hm_f c_2 hm
  refine lv_lookup (tgt := 36) (off := 35) hx hb dX9_least_1 (by decide) (k_lkout2 c_1 c_2) (by decide) ?_
  refine lv_lconst (v := 0) hx hb dX9_least_36 (by decide) ?_
  obtain rfl := Option.some.inj hm
  exact k_lret hx hb hr hlocks hQc hP hS rfl rfl dX9_least_37
theorem dX9_most_0 : decode cX9_most 0 = .ok (.iload_n 0, 1) := by decide +kernel
theorem dX9_most_1 : decode cX9_most 1 = .ok (.lookupswitch 47 #[(67, 35), (82, 39), (84, 43)], 35) := by decide +kernel
theorem dX9_most_36 : decode cX9_most 36 = .ok (.ldc2_w 129, 3) := by decide +kernel
theorem dX9_most_39 : decode cX9_most 39 = .ok (.lreturn, 1) := by decide +kernel
theorem dX9_most_40 : decode cX9_most 40 = .ok (.ldc2_w 131, 3) := by decide +kernel
theorem dX9_most_43 : decode cX9_most 43 = .ok (.lreturn, 1) := by decide +kernel
theorem dX9_most_44 : decode cX9_most 44 = .ok (.ldc2_w 133, 3) := by decide +kernel
theorem dX9_most_47 : decode cX9_most 47 = .ok (.lreturn, 1) := by decide +kernel
theorem dX9_most_48 : decode cX9_most 48 = .ok (.ldc2_w 135, 3) := by decide +kernel
theorem dX9_most_51 : decode cX9_most 51 = .ok (.lreturn, 1) := by decide +kernel
def mX9_most (p1 : Int32) : Option (Int64) := (if p1 = 67 then some 7 else (if p1 = 82 then some 36 else (if p1 = 84 then some 50 else some 9223372036854775807)))
set_option maxHeartbeats 4000000 in
set_option maxRecDepth 100000 in
theorem kcX9_most (l : Launch) (D : va_G) (cy : Nat → ClassId) (g : Nat → Nat) (p1 : Int32) (R : Int64) (hm : mX9_most p1 = some R) : Con l D cy g yX9_most cX9_most 1 (some .long) 0 0 0 0 [.int p1] [] [] (some (.long R)) := by
  refine Con.of (by decide +kernel) (Nat.le_of_ble_eq_true rfl) ?_
  intro p e RM s m ar below meth c A Qc ls hx hb hr hml hown hlocks hnm ht hK hP hD hS hA hR hC hQc hl
  have hown : s.vm.findClass RX9 = some m.cls := hown
  have hl : lv_has ls 1 [(0, .int p1)] := hl
  rw [mX9_most] at hm
  refine lv_iload_n hx hb dX9_most_0 rfl (lv_at hl 0 rfl) ?_
  rcases Decidable.em (p1 = 67) with c_1 | c_1
  · replace hm := hm_t c_1 hm
    refine lv_lookup (tgt := 36) (off := 35) hx hb dX9_most_1 (by decide) (by rw [c_1]; decide) (by decide) ?_
    refine lv_ldc2 (v := 7) hx hb hown (ht _ q_561) dX9_most_36 ?_
    obtain rfl := Option.some.inj hm
    exact k_lret hx hb hr hlocks hQc hP hS rfl rfl dX9_most_39
  replace hm := hm_f c_1 hm
  rcases Decidable.em (p1 = 82) with c_2 | c_2
  · replace hm := hm_t c_2 hm
    refine lv_lookup (tgt := 40) (off := 39) hx hb dX9_most_1 (by decide) (by rw [c_2]; decide) (by decide) ?_
    refine lv_ldc2 (v := 36) hx hb hown (ht _ q_562) dX9_most_40 ?_
    obtain rfl := Option.some.inj hm
    exact k_lret hx hb hr hlocks hQc hP hS rfl rfl dX9_most_43
  replace hm := hm_f c_2 hm
  rcases Decidable.em (p1 = 84) with c_3 | c_3
  · replace hm := hm_t c_3 hm
    refine lv_lookup (tgt := 44) (off := 43) hx hb dX9_most_1 (by decide) (by rw [c_3]; decide) (by decide) ?_
    refine lv_ldc2 (v := 50) hx hb hown (ht _ q_563) dX9_most_44 ?_
    obtain rfl := Option.some.inj hm
    exact k_lret hx hb hr hlocks hQc hP hS rfl rfl dX9_most_47
  replace hm := hm_f c_3 hm
  refine lv_lookup (tgt := 48) (off := 47) hx hb dX9_most_1 (by decide) (k_lkout3 c_1 c_2 c_3) (by decide) ?_
  refine lv_ldc2 (v := 9223372036854775807) hx hb hown (ht _ q_564) dX9_most_48 ?_
  obtain rfl := Option.some.inj hm
  exact k_lret hx hb hr hlocks hQc hP hS rfl rfl dX9_most_51
theorem dX7_begin_0 : decode cX7_begin 0 = .ok (.aload_n 0, 1) := by decide +kernel
theorem dX7_begin_1 : decode cX7_begin 1 = .ok (.aload_n 1, 1) := by decide +kernel
theorem dX7_begin_2 : decode cX7_begin 2 = .ok (.putfield 21, 3) := by decide +kernel
theorem dX7_begin_5 : decode cX7_begin 5 = .ok (.aload_n 0, 1) := by decide +kernel
theorem dX7_begin_6 : decode cX7_begin 6 = .ok (.iload_n 2, 1) := by decide +kernel
theorem dX7_begin_7 : decode cX7_begin 7 = .ok (.putfield 24, 3) := by decide +kernel
theorem dX7_begin_10 : decode cX7_begin 10 = .ok (.return_, 1) := by decide +kernel
def mX7_begin (p2 : Int32) (v1 : Nat) : Option (Nat × Int32) := some (v1, p2)
set_option maxHeartbeats 4000000 in
set_option maxRecDepth 100000 in
theorem kcX7_begin (l : Launch) (D : va_G) (cy : Nat → ClassId) (g : Nat → Nat) (a_t : Nat) (a_t_arguments : Nat) (f_t_arguments : Nat → Int64) (v_t_verb : Nat) (v_t_place : Int32) (v_t_pieceFrom : Int32) (v_t_pieceTo : Int32) (v_t_next : Int32) (p2 : Int32) (v1 : Nat) (h_v1 : v1 < 31) (R : Nat × Int32) (hm : mX7_begin p2 v1 = some R) : Con l D cy g yX7_begin cX7_begin 3 none 0 0 0 0 [.ref a_t, .ref (g (200 + v1)), .int p2] [(a_t, .inr (4, [.ref a_t_arguments, .ref (g (200 + v_t_verb)), .int v_t_place, .int v_t_pieceFrom, .int v_t_pieceTo, .int v_t_next])), (a_t_arguments, .inl (cy 1, 3, .inr (.inl f_t_arguments)))] [(a_t, .inr (4, [.ref a_t_arguments, .ref (g (200 + R.1)), .int R.2, .int v_t_pieceFrom, .int v_t_pieceTo, .int v_t_next])), (a_t_arguments, .inl (cy 1, 3, .inr (.inl f_t_arguments)))] none := by
  refine Con.of (by decide +kernel) (Nat.le_of_ble_eq_true rfl) ?_
  intro p e RM s m ar below meth c A Qc ls hx hb hr hml hown hlocks hnm ht hK hP hD hS hA hR hC hQc hl
  have hown : s.vm.findClass RX7 = some m.cls := hown
  have hl : lv_has ls 3 [(0, .ref a_t), (1, .ref (g (200 + v1))), (2, .int p2)] := hl
  rw [mX7_begin] at hm
  refine lv_aload_n hx hb dX7_begin_0 rfl (lv_at hl 0 rfl) ?_
  refine lv_aload_n hx hb dX7_begin_1 rfl (lv_at hl 1 rfl) ?_
  refine va_put (D := D) (cl := classes) (ci := 4) (v := .ref (g (200 + v1))) (ty := .object "RadixDesk$Verb") (C := RX7) (T := TX7) (N := 6) hx hb ht in_RX7 tyX7 tyX7_ok nmX7 hown hK.1 hP hD hS 0 rfl rfl 1 (by decide) (ht _ q_162) (fun _ h9 => h9) rfl (by decide +kernel) rfl rfl (Nat.le_of_ble_eq_true rfl) dX7_begin_2 (fun H locs hP hD hS => ?_)
  have hP : va_P D classes [(a_t, .inr (4, [.ref a_t_arguments, .ref (g (200 + v1)), .int v_t_place, .int v_t_pieceFrom, .int v_t_pieceTo, .int v_t_next])), (a_t_arguments, .inl (cy 1, 3, .inr (.inl f_t_arguments)))] H := hP
  have hD : va_D A [(a_t, .inr (4, [.ref a_t_arguments, .ref (g (200 + v1)), .int v_t_place, .int v_t_pieceFrom, .int v_t_pieceTo, .int v_t_next])), (a_t_arguments, .inl (cy 1, 3, .inr (.inl f_t_arguments)))] := hD
  refine lv_aload_n hx hb dX7_begin_5 rfl (lv_at hl 0 rfl) ?_
  refine lv_iload_n hx hb dX7_begin_6 rfl (lv_at hl 2 rfl) ?_
  refine va_put (D := D) (cl := classes) (ci := 4) (v := .int p2) (ty := .int) (C := RX7) (T := TX7) (N := 6) hx hb ht in_RX7 tyX7 tyX7_ok nmX7 hown hK.1 hP hD hS 0 rfl rfl 2 (by decide) (ht _ q_164) (fun _ h9 => h9) rfl (by decide +kernel) rfl rfl (Nat.le_of_ble_eq_true rfl) dX7_begin_7 (fun H locs hP hD hS => ?_)
  have hP : va_P D classes [(a_t, .inr (4, [.ref a_t_arguments, .ref (g (200 + v1)), .int p2, .int v_t_pieceFrom, .int v_t_pieceTo, .int v_t_next])), (a_t_arguments, .inl (cy 1, 3, .inr (.inl f_t_arguments)))] H := hP
  have hD : va_D A [(a_t, .inr (4, [.ref a_t_arguments, .ref (g (200 + v1)), .int p2, .int v_t_pieceFrom, .int v_t_pieceTo, .int v_t_next])), (a_t_arguments, .inl (cy 1, 3, .inr (.inl f_t_arguments)))] := hD
  obtain rfl := Option.some.inj hm
  exact k_vret hx hb hr hlocks hQc hP hS rfl rfl dX7_begin_10
theorem dX7_setArgument_0 : decode cX7_setArgument 0 = .ok (.iload_n 1, 1) := by decide +kernel
theorem dX7_setArgument_1 : decode cX7_setArgument 1 = .ok (.ifCond .lt 19, 3) := by decide +kernel
theorem dX7_setArgument_4 : decode cX7_setArgument 4 = .ok (.iload_n 1, 1) := by decide +kernel
theorem dX7_setArgument_5 : decode cX7_setArgument 5 = .ok (.aload_n 0, 1) := by decide +kernel
theorem dX7_setArgument_6 : decode cX7_setArgument 6 = .ok (.getfield 9, 3) := by decide +kernel
theorem dX7_setArgument_9 : decode cX7_setArgument 9 = .ok (.arraylength, 1) := by decide +kernel
theorem dX7_setArgument_10 : decode cX7_setArgument 10 = .ok (.if_icmp .ge 10, 3) := by decide +kernel
theorem dX7_setArgument_13 : decode cX7_setArgument 13 = .ok (.aload_n 0, 1) := by decide +kernel
theorem dX7_setArgument_14 : decode cX7_setArgument 14 = .ok (.getfield 9, 3) := by decide +kernel
theorem dX7_setArgument_17 : decode cX7_setArgument 17 = .ok (.iload_n 1, 1) := by decide +kernel
theorem dX7_setArgument_18 : decode cX7_setArgument 18 = .ok (.lload_n 2, 1) := by decide +kernel
theorem dX7_setArgument_19 : decode cX7_setArgument 19 = .ok (.lastore, 1) := by decide +kernel
theorem dX7_setArgument_20 : decode cX7_setArgument 20 = .ok (.return_, 1) := by decide +kernel
def mX7_setArgument (f_t_arguments : Nat → Int64) (p1 : Int32) (p2 : Int64) : Option ((Nat → Int64)) := (if p1 < 0 then some f_t_arguments else (if (3 : Int32) ≤ p1 then some f_t_arguments else (if p1 < 0 ∨ 3 ≤ p1.toNatClampNeg then none else some (vp_updL f_t_arguments p1.toNatClampNeg p2))))
set_option maxHeartbeats 4000000 in
set_option maxRecDepth 100000 in
theorem kcX7_setArgument (l : Launch) (D : va_G) (cy : Nat → ClassId) (g : Nat → Nat) (a_t : Nat) (a_t_arguments : Nat) (f_t_arguments : Nat → Int64) (v_t_verb : Nat) (v_t_place : Int32) (v_t_pieceFrom : Int32) (v_t_pieceTo : Int32) (v_t_next : Int32) (p1 : Int32) (p2 : Int64) (R : (Nat → Int64)) (hm : mX7_setArgument f_t_arguments p1 p2 = some R) : Con l D cy g yX7_setArgument cX7_setArgument 4 none 0 0 0 0 [.ref a_t, .int p1, .long p2] [(a_t, .inr (4, [.ref a_t_arguments, .ref (g (200 + v_t_verb)), .int v_t_place, .int v_t_pieceFrom, .int v_t_pieceTo, .int v_t_next])), (a_t_arguments, .inl (cy 1, 3, .inr (.inl f_t_arguments)))] [(a_t, .inr (4, [.ref a_t_arguments, .ref (g (200 + v_t_verb)), .int v_t_place, .int v_t_pieceFrom, .int v_t_pieceTo, .int v_t_next])), (a_t_arguments, .inl (cy 1, 3, .inr (.inl R)))] none := by
  refine Con.of (by decide +kernel) (Nat.le_of_ble_eq_true rfl) ?_
  intro p e RM s m ar below meth c A Qc ls hx hb hr hml hown hlocks hnm ht hK hP hD hS hA hR hC hQc hl
  have hown : s.vm.findClass RX7 = some m.cls := hown
  have hl : lv_has ls 4 [(0, .ref a_t), (1, .int p1), (2, .long p2)] := hl
  rw [mX7_setArgument] at hm
  refine lv_iload_n hx hb dX7_setArgument_0 rfl (lv_at hl 1 rfl) ?_
  refine lv_if_lt (tgt := 20) hx hb dX7_setArgument_1 (by decide) (fun c_1 => ?_) (fun c_1 => ?_)
  · replace hm := hm_t c_1 hm
    obtain rfl := Option.some.inj hm
    exact k_vret hx hb hr hlocks hQc hP hS rfl rfl dX7_setArgument_20
  · replace hm := hm_f c_1 hm
    refine lv_iload_n hx hb dX7_setArgument_4 rfl (lv_at hl 1 rfl) ?_
    refine lv_aload_n hx hb dX7_setArgument_5 rfl (lv_at hl 0 rfl) ?_
    refine va_get (D := D) (cl := classes) (ci := 4) (v := .ref a_t_arguments) (C := RX7) (T := TX7) (N := 6) hx hb ht in_RX7 hown hK.1 hP 0 rfl rfl 0 (by decide) (ht _ q_161) (fun _ h9 => h9) rfl dX7_setArgument_6 ?_
    refine va_alen (v := 3) hx hb hK.1 hP 1 1 rfl rfl rfl dX7_setArgument_9 ?_
    refine lv_icmp_ge (tgt := 20) hx hb dX7_setArgument_10 (by decide) (fun c_2 => ?_) (fun c_2 => ?_)
    · replace hm := hm_t c_2 hm
      obtain rfl := Option.some.inj hm
      exact k_vret hx hb hr hlocks hQc hP hS rfl rfl dX7_setArgument_20
    · replace hm := hm_f c_2 hm
      refine lv_aload_n hx hb dX7_setArgument_13 rfl (lv_at hl 0 rfl) ?_
      refine va_get (D := D) (cl := classes) (ci := 4) (v := .ref a_t_arguments) (C := RX7) (T := TX7) (N := 6) hx hb ht in_RX7 hown hK.1 hP 0 rfl rfl 0 (by decide) (ht _ q_161) (fun _ h9 => h9) rfl dX7_setArgument_14 ?_
      refine lv_iload_n hx hb dX7_setArgument_17 rfl (lv_at hl 1 rfl) ?_
      refine lv_lload_n hx hb dX7_setArgument_18 rfl (lv_at hl 2 rfl) ?_
      obtain ⟨hin, hm⟩ := hm_g hm
      refine va_last hx hb hK.1 hP hD hS 1 1 rfl rfl hin dX7_setArgument_19 (fun H locs hP hD hS => ?_)
      have hP : va_P D classes [(a_t, .inr (4, [.ref a_t_arguments, .ref (g (200 + v_t_verb)), .int v_t_place, .int v_t_pieceFrom, .int v_t_pieceTo, .int v_t_next])), (a_t_arguments, .inl (cy 1, 3, .inr (.inl (vp_updL f_t_arguments p1.toNatClampNeg p2))))] H := hP
      have hD : va_D A [(a_t, .inr (4, [.ref a_t_arguments, .ref (g (200 + v_t_verb)), .int v_t_place, .int v_t_pieceFrom, .int v_t_pieceTo, .int v_t_next])), (a_t_arguments, .inl (cy 1, 3, .inr (.inl (vp_updL f_t_arguments p1.toNatClampNeg p2))))] := hD
      obtain rfl := Option.some.inj hm
      exact k_vret hx hb hr hlocks hQc hP hS rfl rfl dX7_setArgument_20
theorem dX7_setPiece_0 : decode cX7_setPiece 0 = .ok (.aload_n 0, 1) := by decide +kernel
theorem dX7_setPiece_1 : decode cX7_setPiece 1 = .ok (.iload_n 1, 1) := by decide +kernel
theorem dX7_setPiece_2 : decode cX7_setPiece 2 = .ok (.putfield 28, 3) := by decide +kernel
theorem dX7_setPiece_5 : decode cX7_setPiece 5 = .ok (.aload_n 0, 1) := by decide +kernel
theorem dX7_setPiece_6 : decode cX7_setPiece 6 = .ok (.iload_n 2, 1) := by decide +kernel
theorem dX7_setPiece_7 : decode cX7_setPiece 7 = .ok (.putfield 31, 3) := by decide +kernel
theorem dX7_setPiece_10 : decode cX7_setPiece 10 = .ok (.return_, 1) := by decide +kernel
def mX7_setPiece (p1 : Int32) (p2 : Int32) : Option (Int32 × Int32) := some (p1, p2)
set_option maxHeartbeats 4000000 in
set_option maxRecDepth 100000 in
theorem kcX7_setPiece (l : Launch) (D : va_G) (cy : Nat → ClassId) (g : Nat → Nat) (a_t : Nat) (a_t_arguments : Nat) (f_t_arguments : Nat → Int64) (v_t_verb : Nat) (v_t_place : Int32) (v_t_pieceFrom : Int32) (v_t_pieceTo : Int32) (v_t_next : Int32) (p1 : Int32) (p2 : Int32) (R : Int32 × Int32) (hm : mX7_setPiece p1 p2 = some R) : Con l D cy g yX7_setPiece cX7_setPiece 3 none 0 0 0 0 [.ref a_t, .int p1, .int p2] [(a_t, .inr (4, [.ref a_t_arguments, .ref (g (200 + v_t_verb)), .int v_t_place, .int v_t_pieceFrom, .int v_t_pieceTo, .int v_t_next])), (a_t_arguments, .inl (cy 1, 3, .inr (.inl f_t_arguments)))] [(a_t, .inr (4, [.ref a_t_arguments, .ref (g (200 + v_t_verb)), .int v_t_place, .int R.1, .int R.2, .int v_t_next])), (a_t_arguments, .inl (cy 1, 3, .inr (.inl f_t_arguments)))] none := by
  refine Con.of (by decide +kernel) (Nat.le_of_ble_eq_true rfl) ?_
  intro p e RM s m ar below meth c A Qc ls hx hb hr hml hown hlocks hnm ht hK hP hD hS hA hR hC hQc hl
  have hown : s.vm.findClass RX7 = some m.cls := hown
  have hl : lv_has ls 3 [(0, .ref a_t), (1, .int p1), (2, .int p2)] := hl
  rw [mX7_setPiece] at hm
  refine lv_aload_n hx hb dX7_setPiece_0 rfl (lv_at hl 0 rfl) ?_
  refine lv_iload_n hx hb dX7_setPiece_1 rfl (lv_at hl 1 rfl) ?_
  refine va_put (D := D) (cl := classes) (ci := 4) (v := .int p1) (ty := .int) (C := RX7) (T := TX7) (N := 6) hx hb ht in_RX7 tyX7 tyX7_ok nmX7 hown hK.1 hP hD hS 0 rfl rfl 3 (by decide) (ht _ q_166) (fun _ h9 => h9) rfl (by decide +kernel) rfl rfl (Nat.le_of_ble_eq_true rfl) dX7_setPiece_2 (fun H locs hP hD hS => ?_)
  have hP : va_P D classes [(a_t, .inr (4, [.ref a_t_arguments, .ref (g (200 + v_t_verb)), .int v_t_place, .int p1, .int v_t_pieceTo, .int v_t_next])), (a_t_arguments, .inl (cy 1, 3, .inr (.inl f_t_arguments)))] H := hP
  have hD : va_D A [(a_t, .inr (4, [.ref a_t_arguments, .ref (g (200 + v_t_verb)), .int v_t_place, .int p1, .int v_t_pieceTo, .int v_t_next])), (a_t_arguments, .inl (cy 1, 3, .inr (.inl f_t_arguments)))] := hD
  refine lv_aload_n hx hb dX7_setPiece_5 rfl (lv_at hl 0 rfl) ?_
  refine lv_iload_n hx hb dX7_setPiece_6 rfl (lv_at hl 2 rfl) ?_
  refine va_put (D := D) (cl := classes) (ci := 4) (v := .int p2) (ty := .int) (C := RX7) (T := TX7) (N := 6) hx hb ht in_RX7 tyX7 tyX7_ok nmX7 hown hK.1 hP hD hS 0 rfl rfl 4 (by decide) (ht _ q_168) (fun _ h9 => h9) rfl (by decide +kernel) rfl rfl (Nat.le_of_ble_eq_true rfl) dX7_setPiece_7 (fun H locs hP hD hS => ?_)
  have hP : va_P D classes [(a_t, .inr (4, [.ref a_t_arguments, .ref (g (200 + v_t_verb)), .int v_t_place, .int p1, .int p2, .int v_t_next])), (a_t_arguments, .inl (cy 1, 3, .inr (.inl f_t_arguments)))] H := hP
  have hD : va_D A [(a_t, .inr (4, [.ref a_t_arguments, .ref (g (200 + v_t_verb)), .int v_t_place, .int p1, .int p2, .int v_t_next])), (a_t_arguments, .inl (cy 1, 3, .inr (.inl f_t_arguments)))] := hD
  obtain rfl := Option.some.inj hm
  exact k_vret hx hb hr hlocks hQc hP hS rfl rfl dX7_setPiece_10
theorem dX7_argument_0 : decode cX7_argument 0 = .ok (.iload_n 1, 1) := by decide +kernel
theorem dX7_argument_1 : decode cX7_argument 1 = .ok (.ifCond .lt 21, 3) := by decide +kernel
theorem dX7_argument_4 : decode cX7_argument 4 = .ok (.iload_n 1, 1) := by decide +kernel
theorem dX7_argument_5 : decode cX7_argument 5 = .ok (.aload_n 0, 1) := by decide +kernel
theorem dX7_argument_6 : decode cX7_argument 6 = .ok (.getfield 9, 3) := by decide +kernel
theorem dX7_argument_9 : decode cX7_argument 9 = .ok (.arraylength, 1) := by decide +kernel
theorem dX7_argument_10 : decode cX7_argument 10 = .ok (.if_icmp .ge 12, 3) := by decide +kernel
theorem dX7_argument_13 : decode cX7_argument 13 = .ok (.aload_n 0, 1) := by decide +kernel
theorem dX7_argument_14 : decode cX7_argument 14 = .ok (.getfield 9, 3) := by decide +kernel
theorem dX7_argument_17 : decode cX7_argument 17 = .ok (.iload_n 1, 1) := by decide +kernel
theorem dX7_argument_18 : decode cX7_argument 18 = .ok (.laload, 1) := by decide +kernel
theorem dX7_argument_19 : decode cX7_argument 19 = .ok (.goto 4, 3) := by decide +kernel
theorem dX7_argument_22 : decode cX7_argument 22 = .ok (.lconst 0, 1) := by decide +kernel
theorem dX7_argument_23 : decode cX7_argument 23 = .ok (.lreturn, 1) := by decide +kernel
def mX7_argument (f_t_arguments : Nat → Int64) (p1 : Int32) : Option (Int64) := (if p1 < 0 then some 0 else (if (3 : Int32) ≤ p1 then some 0 else (if p1 < 0 ∨ 3 ≤ p1.toNatClampNeg then none else some (f_t_arguments p1.toNatClampNeg))))
set_option maxHeartbeats 4000000 in
set_option maxRecDepth 100000 in
theorem kcX7_argument (l : Launch) (D : va_G) (cy : Nat → ClassId) (g : Nat → Nat) (a_t : Nat) (a_t_arguments : Nat) (f_t_arguments : Nat → Int64) (v_t_verb : Nat) (v_t_place : Int32) (v_t_pieceFrom : Int32) (v_t_pieceTo : Int32) (v_t_next : Int32) (p1 : Int32) (R : Int64) (hm : mX7_argument f_t_arguments p1 = some R) : Con l D cy g yX7_argument cX7_argument 2 (some .long) 0 0 0 0 [.ref a_t, .int p1] [(a_t, .inr (4, [.ref a_t_arguments, .ref (g (200 + v_t_verb)), .int v_t_place, .int v_t_pieceFrom, .int v_t_pieceTo, .int v_t_next])), (a_t_arguments, .inl (cy 1, 3, .inr (.inl f_t_arguments)))] [(a_t, .inr (4, [.ref a_t_arguments, .ref (g (200 + v_t_verb)), .int v_t_place, .int v_t_pieceFrom, .int v_t_pieceTo, .int v_t_next])), (a_t_arguments, .inl (cy 1, 3, .inr (.inl f_t_arguments)))] (some (.long R)) := by
  refine Con.of (by decide +kernel) (Nat.le_of_ble_eq_true rfl) ?_
  intro p e RM s m ar below meth c A Qc ls hx hb hr hml hown hlocks hnm ht hK hP hD hS hA hR hC hQc hl
  have hown : s.vm.findClass RX7 = some m.cls := hown
  have hl : lv_has ls 2 [(0, .ref a_t), (1, .int p1)] := hl
  rw [mX7_argument] at hm
  refine lv_iload_n hx hb dX7_argument_0 rfl (lv_at hl 1 rfl) ?_
  refine lv_if_lt (tgt := 22) hx hb dX7_argument_1 (by decide) (fun c_1 => ?_) (fun c_1 => ?_)
  · replace hm := hm_t c_1 hm
    refine lv_lconst (v := 0) hx hb dX7_argument_22 (by decide) ?_
    obtain rfl := Option.some.inj hm
    exact k_lret hx hb hr hlocks hQc hP hS rfl rfl dX7_argument_23
  · replace hm := hm_f c_1 hm
    refine lv_iload_n hx hb dX7_argument_4 rfl (lv_at hl 1 rfl) ?_
    refine lv_aload_n hx hb dX7_argument_5 rfl (lv_at hl 0 rfl) ?_
    refine va_get (D := D) (cl := classes) (ci := 4) (v := .ref a_t_arguments) (C := RX7) (T := TX7) (N := 6) hx hb ht in_RX7 hown hK.1 hP 0 rfl rfl 0 (by decide) (ht _ q_161) (fun _ h9 => h9) rfl dX7_argument_6 ?_
    refine va_alen (v := 3) hx hb hK.1 hP 1 1 rfl rfl rfl dX7_argument_9 ?_
    refine lv_icmp_ge (tgt := 22) hx hb dX7_argument_10 (by decide) (fun c_2 => ?_) (fun c_2 => ?_)
    · replace hm := hm_t c_2 hm
      refine lv_lconst (v := 0) hx hb dX7_argument_22 (by decide) ?_
      obtain rfl := Option.some.inj hm
      exact k_lret hx hb hr hlocks hQc hP hS rfl rfl dX7_argument_23
    · replace hm := hm_f c_2 hm
      refine lv_aload_n hx hb dX7_argument_13 rfl (lv_at hl 0 rfl) ?_
      refine va_get (D := D) (cl := classes) (ci := 4) (v := .ref a_t_arguments) (C := RX7) (T := TX7) (N := 6) hx hb ht in_RX7 hown hK.1 hP 0 rfl rfl 0 (by decide) (ht _ q_161) (fun _ h9 => h9) rfl dX7_argument_14 ?_
      refine lv_iload_n hx hb dX7_argument_17 rfl (lv_at hl 1 rfl) ?_
      obtain ⟨hin, hm⟩ := hm_g hm
      refine va_lald hx hb hK.1 hP 1 1 rfl rfl hin dX7_argument_18 ?_
      refine lv_goto (tgt := 23) hx hb dX7_argument_19 (by decide) ?_
      obtain rfl := Option.some.inj hm
      exact k_lret hx hb hr hlocks hQc hP hS rfl rfl dX7_argument_23
theorem dX7_smallArgument_0 : decode cX7_smallArgument 0 = .ok (.aload_n 0, 1) := by decide +kernel
theorem dX7_smallArgument_1 : decode cX7_smallArgument 1 = .ok (.iload_n 1, 1) := by decide +kernel
theorem dX7_smallArgument_2 : decode cX7_smallArgument 2 = .ok (.invokevirtual 34, 3) := by decide +kernel
theorem dX7_smallArgument_5 : decode cX7_smallArgument 5 = .ok (.l2i, 1) := by decide +kernel
theorem dX7_smallArgument_6 : decode cX7_smallArgument 6 = .ok (.ireturn, 1) := by decide +kernel
def mX7_smallArgument (f_t_arguments : Nat → Int64) (p1 : Int32) : Option (Int32) := ((mX7_argument f_t_arguments p1).bind (fun r_1 => some (r_1.toInt32)))
set_option maxHeartbeats 4000000 in
set_option maxRecDepth 100000 in
theorem kcX7_smallArgument (l : Launch) (D : va_G) (cy : Nat → ClassId) (g : Nat → Nat) (a_t : Nat) (a_t_arguments : Nat) (f_t_arguments : Nat → Int64) (v_t_verb : Nat) (v_t_place : Int32) (v_t_pieceFrom : Int32) (v_t_pieceTo : Int32) (v_t_next : Int32) (p1 : Int32) (R : Int32) (hm : mX7_smallArgument f_t_arguments p1 = some R) : Con l D cy g yX7_smallArgument cX7_smallArgument 2 (some .int) 1 21 0 0 [.ref a_t, .int p1] [(a_t, .inr (4, [.ref a_t_arguments, .ref (g (200 + v_t_verb)), .int v_t_place, .int v_t_pieceFrom, .int v_t_pieceTo, .int v_t_next])), (a_t_arguments, .inl (cy 1, 3, .inr (.inl f_t_arguments)))] [(a_t, .inr (4, [.ref a_t_arguments, .ref (g (200 + v_t_verb)), .int v_t_place, .int v_t_pieceFrom, .int v_t_pieceTo, .int v_t_next])), (a_t_arguments, .inl (cy 1, 3, .inr (.inl f_t_arguments)))] (some (.int R)) := by
  refine Con.of (by decide +kernel) (Nat.le_of_ble_eq_true rfl) ?_
  intro p e RM s m ar below meth c A Qc ls hx hb hr hml hown hlocks hnm ht hK hP hD hS hA hR hC hQc hl
  have hown : s.vm.findClass RX7 = some m.cls := hown
  have hl : lv_has ls 2 [(0, .ref a_t), (1, .int p1)] := hl
  rw [mX7_smallArgument] at hm
  refine lv_aload_n hx hb dX7_smallArgument_0 rfl (lv_at hl 0 rfl) ?_
  refine lv_iload_n hx hb dX7_smallArgument_1 rfl (lv_at hl 1 rfl) ?_
  obtain ⟨r_1, hr_1, hm⟩ := hm_b hm
  refine k_V (as := [.int p1]) (rest := []) (ws' := [(a_t, .inr (4, [.ref a_t_arguments, .ref (g (200 + v_t_verb)), .int v_t_place, .int v_t_pieceFrom, .int v_t_pieceTo, .int v_t_next])), (a_t_arguments, .inl (cy 1, 3, .inr (.inl f_t_arguments)))]) (st2 := [.long r_1]) (i0 := 0) hx hb hml hown ht hK hP hD hS hA hC hR hl (kcX7_argument l D cy g a_t a_t_arguments f_t_arguments v_t_verb v_t_place v_t_pieceFrom v_t_pieceTo v_t_next p1 r_1 hr_1) [0, 1] q_585 q_586 q_587 q_49 q_588 hyX7_argument ⟨rfl, rfl, rfl⟩ ⟨Nat.le_of_ble_eq_true rfl, Nat.le_of_ble_eq_true rfl, Nat.le_of_ble_eq_true rfl, Nat.le_of_ble_eq_true rfl⟩ rfl rfl rfl rfl (Nat.le_of_ble_eq_true rfl) dX7_smallArgument_2 rfl rfl (fun H locs hP hD hS => ?_)
  refine lv_l2i hx hb dX7_smallArgument_5 rfl ?_
  obtain rfl := Option.some.inj hm
  exact k_iret hx hb hr hlocks hQc hP hS rfl rfl dX7_smallArgument_6
theorem dX8_isReadBack_0 : decode cX8_isReadBack 0 = .ok (.aload_n 1, 1) := by decide +kernel
theorem dX8_isReadBack_1 : decode cX8_isReadBack 1 = .ok (.iload_n 2, 1) := by decide +kernel
theorem dX8_isReadBack_2 : decode cX8_isReadBack 2 = .ok (.iload 4, 2) := by decide +kernel
theorem dX8_isReadBack_4 : decode cX8_isReadBack 4 = .ok (.invokevirtual 51, 3) := by decide +kernel
theorem dX8_isReadBack_7 : decode cX8_isReadBack 7 = .ok (.lstore 5, 2) := by decide +kernel
theorem dX8_isReadBack_9 : decode cX8_isReadBack 9 = .ok (.aload_n 0, 1) := by decide +kernel
theorem dX8_isReadBack_10 : decode cX8_isReadBack 10 = .ok (.getfield 14, 3) := by decide +kernel
theorem dX8_isReadBack_13 : decode cX8_isReadBack 13 = .ok (.lload 5, 2) := by decide +kernel
theorem dX8_isReadBack_15 : decode cX8_isReadBack 15 = .ok (.iload_n 3, 1) := by decide +kernel
theorem dX8_isReadBack_16 : decode cX8_isReadBack 16 = .ok (.iload 4, 2) := by decide +kernel
theorem dX8_isReadBack_18 : decode cX8_isReadBack 18 = .ok (.invokestatic 55, 3) := by decide +kernel
theorem dX8_isReadBack_21 : decode cX8_isReadBack 21 = .ok (.aload_n 0, 1) := by decide +kernel
theorem dX8_isReadBack_22 : decode cX8_isReadBack 22 = .ok (.getfield 23, 3) := by decide +kernel
theorem dX8_isReadBack_25 : decode cX8_isReadBack 25 = .ok (.aload_n 0, 1) := by decide +kernel
theorem dX8_isReadBack_26 : decode cX8_isReadBack 26 = .ok (.getfield 14, 3) := by decide +kernel
theorem dX8_isReadBack_29 : decode cX8_isReadBack 29 = .ok (.iconst 0, 1) := by decide +kernel
theorem dX8_isReadBack_30 : decode cX8_isReadBack 30 = .ok (.aload_n 0, 1) := by decide +kernel
theorem dX8_isReadBack_31 : decode cX8_isReadBack 31 = .ok (.getfield 14, 3) := by decide +kernel
theorem dX8_isReadBack_34 : decode cX8_isReadBack 34 = .ok (.invokevirtual 61, 3) := by decide +kernel
theorem dX8_isReadBack_37 : decode cX8_isReadBack 37 = .ok (.iload_n 3, 1) := by decide +kernel
theorem dX8_isReadBack_38 : decode cX8_isReadBack 38 = .ok (.iload 4, 2) := by decide +kernel
theorem dX8_isReadBack_40 : decode cX8_isReadBack 40 = .ok (.aload_n 1, 1) := by decide +kernel
theorem dX8_isReadBack_41 : decode cX8_isReadBack 41 = .ok (.getfield 65, 3) := by decide +kernel
theorem dX8_isReadBack_44 : decode cX8_isReadBack 44 = .ok (.invokevirtual 69, 3) := by decide +kernel
theorem dX8_isReadBack_47 : decode cX8_isReadBack 47 = .ok (.ifCond .eq 20, 3) := by decide +kernel
theorem dX8_isReadBack_50 : decode cX8_isReadBack 50 = .ok (.aload_n 0, 1) := by decide +kernel
theorem dX8_isReadBack_51 : decode cX8_isReadBack 51 = .ok (.getfield 23, 3) := by decide +kernel
theorem dX8_isReadBack_54 : decode cX8_isReadBack 54 = .ok (.getfield 73, 3) := by decide +kernel
theorem dX8_isReadBack_57 : decode cX8_isReadBack 57 = .ok (.lload 5, 2) := by decide +kernel
theorem dX8_isReadBack_59 : decode cX8_isReadBack 59 = .ok (.lcmp, 1) := by decide +kernel
theorem dX8_isReadBack_60 : decode cX8_isReadBack 60 = .ok (.ifCond .ne 7, 3) := by decide +kernel
theorem dX8_isReadBack_63 : decode cX8_isReadBack 63 = .ok (.iconst 1, 1) := by decide +kernel
theorem dX8_isReadBack_64 : decode cX8_isReadBack 64 = .ok (.goto 4, 3) := by decide +kernel
theorem dX8_isReadBack_67 : decode cX8_isReadBack 67 = .ok (.iconst 0, 1) := by decide +kernel
theorem dX8_isReadBack_68 : decode cX8_isReadBack 68 = .ok (.ireturn, 1) := by decide +kernel
def mX8_isReadBack (k : Nat) (n_t_sheet_bytes : Nat) (f_t_sheet_bytes : Nat → Int32) (v_t_reader_value : Int64) (f_p1_cells : Nat → Int64) (v_p1_isWide : Int32) (p2 : Int32) (p3 : Int32) (p4 : Int32) : Option (Int32 × (Nat → Int32) × Int32 × Int64) := ((mX2_valueOf f_p1_cells v_p1_isWide p2 p4).bind (fun r_1 => ((mX3_writeOn k n_t_sheet_bytes f_t_sheet_bytes r_1 p3 p4).bind (fun r_2 => ((mX6_size r_2.2).bind (fun r_3 => ((mX5_canRead k n_t_sheet_bytes v_t_reader_value r_2.1 r_2.2 0 r_3 p3 p4 v_p1_isWide).bind (fun r_4 => (if r_4.1 = 0 then some (0, r_2.1, r_2.2, r_4.2) else (if (lg_cmp r_4.2 r_1) = 0 then some (1, r_2.1, r_2.2, r_4.2) else some (0, r_2.1, r_2.2, r_4.2)))))))))))
set_option maxHeartbeats 4000000 in
set_option maxRecDepth 100000 in
theorem kcX8_isReadBack (l : Launch) (D : va_G) (cy : Nat → ClassId) (g : Nat → Nat) (a_t : Nat) (a_t_sheet : Nat) (a_t_sheet_bytes : Nat) (a_t_reader : Nat) (a_p1 : Nat) (a_p1_cells : Nat) (a_p1_cellsBefore : Nat) (a_p1_page : Nat) (a_p1_page_bytes : Nat) (a_p1_reader : Nat) (n_t_sheet_bytes : Nat) (n_p1_page_bytes : Nat) (f_t_sheet_bytes : Nat → Int32) (v_t_sheet_length : Int32) (v_t_reader_value : Int64) (f_p1_cells : Nat → Int64) (f_p1_cellsBefore : Nat → Int64) (f_p1_page_bytes : Nat → Int32) (v_p1_page_length : Int32) (v_p1_reader_value : Int64) (v_p1_isWide : Int32) (p2 : Int32) (p3 : Int32) (p4 : Int32) (k : Nat) (R : Int32 × (Nat → Int32) × Int32 × Int64) (hm : mX8_isReadBack k n_t_sheet_bytes f_t_sheet_bytes v_t_reader_value f_p1_cells v_p1_isWide p2 p3 p4 = some R) : Con l D cy g yX8_isReadBack cX8_isReadBack 7 (some .boolean) 3 67 0 0 [.ref a_t, .ref a_p1, .int p2, .int p3, .int p4] [(a_t, .inr (5, [.ref a_t_sheet, .ref a_t_reader])), (a_t_sheet, .inr (3, [.ref a_t_sheet_bytes, .int v_t_sheet_length])), (a_t_sheet_bytes, .inl (cy 0, n_t_sheet_bytes, .inl f_t_sheet_bytes)), (a_t_reader, .inr (2, [.long v_t_reader_value])), (a_p1, .inr (0, [.ref a_p1_cells, .ref a_p1_cellsBefore, .ref a_p1_page, .ref a_p1_reader, .int v_p1_isWide])), (a_p1_cells, .inl (cy 1, 8, .inr (.inl f_p1_cells))), (a_p1_cellsBefore, .inl (cy 1, 8, .inr (.inl f_p1_cellsBefore))), (a_p1_page, .inr (3, [.ref a_p1_page_bytes, .int v_p1_page_length])), (a_p1_page_bytes, .inl (cy 0, n_p1_page_bytes, .inl f_p1_page_bytes)), (a_p1_reader, .inr (2, [.long v_p1_reader_value]))] [(a_t, .inr (5, [.ref a_t_sheet, .ref a_t_reader])), (a_t_sheet, .inr (3, [.ref a_t_sheet_bytes, .int R.2.2.1])), (a_t_sheet_bytes, .inl (cy 0, n_t_sheet_bytes, .inl R.2.1)), (a_t_reader, .inr (2, [.long R.2.2.2])), (a_p1, .inr (0, [.ref a_p1_cells, .ref a_p1_cellsBefore, .ref a_p1_page, .ref a_p1_reader, .int v_p1_isWide])), (a_p1_cells, .inl (cy 1, 8, .inr (.inl f_p1_cells))), (a_p1_cellsBefore, .inl (cy 1, 8, .inr (.inl f_p1_cellsBefore))), (a_p1_page, .inr (3, [.ref a_p1_page_bytes, .int v_p1_page_length])), (a_p1_page_bytes, .inl (cy 0, n_p1_page_bytes, .inl f_p1_page_bytes)), (a_p1_reader, .inr (2, [.long v_p1_reader_value]))] (some (.int R.1)) := by
  refine Con.of (by decide +kernel) (Nat.le_of_ble_eq_true rfl) ?_
  intro p e RM s m ar below meth c A Qc ls hx hb hr hml hown hlocks hnm ht hK hP hD hS hA hR hC hQc hl
  have hown : s.vm.findClass RX8 = some m.cls := hown
  have hl : lv_has ls 7 [(0, .ref a_t), (1, .ref a_p1), (2, .int p2), (3, .int p3), (4, .int p4)] := hl
  rw [mX8_isReadBack] at hm
  refine lv_aload_n hx hb dX8_isReadBack_0 rfl (lv_at hl 1 rfl) ?_
  refine lv_iload_n hx hb dX8_isReadBack_1 rfl (lv_at hl 2 rfl) ?_
  refine lv_iload hx hb dX8_isReadBack_2 (lv_at hl 4 rfl) ?_
  obtain ⟨r_1, hr_1, hm⟩ := hm_b hm
  refine k_V (as := [.int p2, .int p4]) (rest := []) (ws' := [(a_t, .inr (5, [.ref a_t_sheet, .ref a_t_reader])), (a_t_sheet, .inr (3, [.ref a_t_sheet_bytes, .int v_t_sheet_length])), (a_t_sheet_bytes, .inl (cy 0, n_t_sheet_bytes, .inl f_t_sheet_bytes)), (a_t_reader, .inr (2, [.long v_t_reader_value])), (a_p1, .inr (0, [.ref a_p1_cells, .ref a_p1_cellsBefore, .ref a_p1_page, .ref a_p1_reader, .int v_p1_isWide])), (a_p1_cells, .inl (cy 1, 8, .inr (.inl f_p1_cells))), (a_p1_cellsBefore, .inl (cy 1, 8, .inr (.inl f_p1_cellsBefore))), (a_p1_page, .inr (3, [.ref a_p1_page_bytes, .int v_p1_page_length])), (a_p1_page_bytes, .inl (cy 0, n_p1_page_bytes, .inl f_p1_page_bytes)), (a_p1_reader, .inr (2, [.long v_p1_reader_value]))]) (st2 := [.long r_1]) (i0 := 4) hx hb hml hown ht hK hP hD hS hA hC hR hl (kcX2_valueOf l D cy g a_p1 a_p1_cells a_p1_cellsBefore a_p1_page a_p1_page_bytes a_p1_reader n_p1_page_bytes f_p1_cells f_p1_cellsBefore f_p1_page_bytes v_p1_page_length v_p1_reader_value v_p1_isWide p2 p4 r_1 hr_1) [4, 5, 6, 7, 8, 9] q_792 q_327 q_328 q_44 q_329 hyX2_valueOf ⟨rfl, rfl, rfl⟩ ⟨Nat.le_of_ble_eq_true rfl, Nat.le_of_ble_eq_true rfl, Nat.le_of_ble_eq_true rfl, Nat.le_of_ble_eq_true rfl⟩ rfl rfl rfl rfl (Nat.le_of_ble_eq_true rfl) dX8_isReadBack_4 rfl rfl (fun H locs hP hD hS => ?_)
  refine lv_lstore (lv' := [(5, .long r_1), (0, .ref a_t), (1, .ref a_p1), (2, .int p2), (3, .int p3), (4, .int p4)]) hx hb dX8_isReadBack_7 hl (by decide) rfl (fun ls hl => ?_)
  refine lv_aload_n hx hb dX8_isReadBack_9 rfl (lv_at hl 1 rfl) ?_
  refine va_get (D := D) (cl := classes) (ci := 5) (v := .ref a_t_sheet) (C := RX8) (T := TX8) (N := 2) hx hb ht in_RX8 hown hK.1 hP 0 rfl rfl 0 (by decide) (ht _ q_248) (fun _ h9 => h9) rfl dX8_isReadBack_10 ?_
  refine lv_lload hx hb dX8_isReadBack_13 (lv_at hl 0 rfl) ?_
  refine lv_iload_n hx hb dX8_isReadBack_15 rfl (lv_at hl 4 rfl) ?_
  refine lv_iload hx hb dX8_isReadBack_16 (lv_at hl 5 rfl) ?_
  obtain ⟨r_2, hr_2, hm⟩ := hm_b hm
  refine k_S (as := [.ref a_t_sheet, .long r_1, .int p3, .int p4]) (rest := []) (ws' := [(a_t, .inr (5, [.ref a_t_sheet, .ref a_t_reader])), (a_t_sheet, .inr (3, [.ref a_t_sheet_bytes, .int r_2.2])), (a_t_sheet_bytes, .inl (cy 0, n_t_sheet_bytes, .inl r_2.1)), (a_t_reader, .inr (2, [.long v_t_reader_value])), (a_p1, .inr (0, [.ref a_p1_cells, .ref a_p1_cellsBefore, .ref a_p1_page, .ref a_p1_reader, .int v_p1_isWide])), (a_p1_cells, .inl (cy 1, 8, .inr (.inl f_p1_cells))), (a_p1_cellsBefore, .inl (cy 1, 8, .inr (.inl f_p1_cellsBefore))), (a_p1_page, .inr (3, [.ref a_p1_page_bytes, .int v_p1_page_length])), (a_p1_page_bytes, .inl (cy 0, n_p1_page_bytes, .inl f_p1_page_bytes)), (a_p1_reader, .inr (2, [.long v_p1_reader_value]))]) (st2 := []) hx hb hml hown ht hK hP hD hS hA hC hR hl (kcX3_writeOn l D cy g a_t_sheet a_t_sheet_bytes n_t_sheet_bytes f_t_sheet_bytes v_t_sheet_length r_1 p3 p4 k r_2 hr_2) [1, 2] q_793 q_340 q_67 q_341 hyX3_writeOn ⟨Nat.le_of_ble_eq_true rfl, Nat.le_of_ble_eq_true rfl, Nat.le_of_ble_eq_true rfl, Nat.le_of_ble_eq_true rfl⟩ rfl rfl rfl rfl (Nat.le_of_ble_eq_true rfl) dX8_isReadBack_18 rfl rfl (fun H locs hP hD hS => ?_)
  refine lv_aload_n hx hb dX8_isReadBack_21 rfl (lv_at hl 1 rfl) ?_
  refine va_get (D := D) (cl := classes) (ci := 5) (v := .ref a_t_reader) (C := RX8) (T := TX8) (N := 2) hx hb ht in_RX8 hown hK.1 hP 0 rfl rfl 1 (by decide) (ht _ q_249) (fun _ h9 => h9) rfl dX8_isReadBack_22 ?_
  refine lv_aload_n hx hb dX8_isReadBack_25 rfl (lv_at hl 1 rfl) ?_
  refine va_get (D := D) (cl := classes) (ci := 5) (v := .ref a_t_sheet) (C := RX8) (T := TX8) (N := 2) hx hb ht in_RX8 hown hK.1 hP 0 rfl rfl 0 (by decide) (ht _ q_248) (fun _ h9 => h9) rfl dX8_isReadBack_26 ?_
  refine lv_iconst (v := 0) hx hb dX8_isReadBack_29 (by decide) ?_
  refine lv_aload_n hx hb dX8_isReadBack_30 rfl (lv_at hl 1 rfl) ?_
  refine va_get (D := D) (cl := classes) (ci := 5) (v := .ref a_t_sheet) (C := RX8) (T := TX8) (N := 2) hx hb ht in_RX8 hown hK.1 hP 0 rfl rfl 0 (by decide) (ht _ q_248) (fun _ h9 => h9) rfl dX8_isReadBack_31 ?_
  obtain ⟨r_3, hr_3, hm⟩ := hm_b hm
  refine k_V (as := []) (rest := [.int 0, .ref a_t_sheet, .ref a_t_reader]) (ws' := [(a_t, .inr (5, [.ref a_t_sheet, .ref a_t_reader])), (a_t_sheet, .inr (3, [.ref a_t_sheet_bytes, .int r_2.2])), (a_t_sheet_bytes, .inl (cy 0, n_t_sheet_bytes, .inl r_2.1)), (a_t_reader, .inr (2, [.long v_t_reader_value])), (a_p1, .inr (0, [.ref a_p1_cells, .ref a_p1_cellsBefore, .ref a_p1_page, .ref a_p1_reader, .int v_p1_isWide])), (a_p1_cells, .inl (cy 1, 8, .inr (.inl f_p1_cells))), (a_p1_cellsBefore, .inl (cy 1, 8, .inr (.inl f_p1_cellsBefore))), (a_p1_page, .inr (3, [.ref a_p1_page_bytes, .int v_p1_page_length])), (a_p1_page_bytes, .inl (cy 0, n_p1_page_bytes, .inl f_p1_page_bytes)), (a_p1_reader, .inr (2, [.long v_p1_reader_value]))]) (st2 := [.int r_3, .int 0, .ref a_t_sheet, .ref a_t_reader]) (i0 := 1) hx hb hml hown ht hK hP hD hS hA hC hR hl (kcX6_size l D cy g a_t_sheet a_t_sheet_bytes n_t_sheet_bytes r_2.1 r_2.2 r_3 hr_3) [1, 2] q_794 q_303 q_304 q_45 q_305 hyX6_size ⟨rfl, rfl, rfl⟩ ⟨Nat.le_of_ble_eq_true rfl, Nat.le_of_ble_eq_true rfl, Nat.le_of_ble_eq_true rfl, Nat.le_of_ble_eq_true rfl⟩ rfl rfl rfl rfl (Nat.le_of_ble_eq_true rfl) dX8_isReadBack_34 rfl rfl (fun H locs hP hD hS => ?_)
  refine lv_iload_n hx hb dX8_isReadBack_37 rfl (lv_at hl 4 rfl) ?_
  refine lv_iload hx hb dX8_isReadBack_38 (lv_at hl 5 rfl) ?_
  refine lv_aload_n hx hb dX8_isReadBack_40 rfl (lv_at hl 2 rfl) ?_
  refine va_getN (D := D) (cl := classes) (ci := 0) (v := .int v_p1_isWide) (C := RX2) (T := TX2) (N := 5) hx hb ht in_RX2 hown hK.1 hP 4 rfl rfl 4 (by decide) (va_Nw.use rfl (hK.2 _ qn_89)) (fun _ h9 => h9) rfl dX8_isReadBack_41 ?_
  obtain ⟨r_4, hr_4, hm⟩ := hm_b hm
  refine k_V (as := [.ref a_t_sheet, .int 0, .int r_3, .int p3, .int p4, .int v_p1_isWide]) (rest := []) (ws' := [(a_t, .inr (5, [.ref a_t_sheet, .ref a_t_reader])), (a_t_sheet, .inr (3, [.ref a_t_sheet_bytes, .int r_2.2])), (a_t_sheet_bytes, .inl (cy 0, n_t_sheet_bytes, .inl r_2.1)), (a_t_reader, .inr (2, [.long r_4.2])), (a_p1, .inr (0, [.ref a_p1_cells, .ref a_p1_cellsBefore, .ref a_p1_page, .ref a_p1_reader, .int v_p1_isWide])), (a_p1_cells, .inl (cy 1, 8, .inr (.inl f_p1_cells))), (a_p1_cellsBefore, .inl (cy 1, 8, .inr (.inl f_p1_cellsBefore))), (a_p1_page, .inr (3, [.ref a_p1_page_bytes, .int v_p1_page_length])), (a_p1_page_bytes, .inl (cy 0, n_p1_page_bytes, .inl f_p1_page_bytes)), (a_p1_reader, .inr (2, [.long v_p1_reader_value]))]) (st2 := [.int r_4.1]) (i0 := 3) hx hb hml hown ht hK hP hD hS hA hC hR hl (kcX5_canRead l D cy g a_t_reader a_t_sheet a_t_sheet_bytes n_t_sheet_bytes v_t_reader_value r_2.1 r_2.2 0 r_3 p3 p4 v_p1_isWide k r_4 hr_4) [3, 1, 2] q_795 q_536 q_537 q_47 q_538 hyX5_canRead ⟨rfl, rfl, rfl⟩ ⟨Nat.le_of_ble_eq_true rfl, Nat.le_of_ble_eq_true rfl, Nat.le_of_ble_eq_true rfl, Nat.le_of_ble_eq_true rfl⟩ rfl rfl rfl rfl (Nat.le_of_ble_eq_true rfl) dX8_isReadBack_44 rfl rfl (fun H locs hP hD hS => ?_)
  refine lv_if_eq (tgt := 67) hx hb dX8_isReadBack_47 (by decide) (fun c_5 => ?_) (fun c_5 => ?_)
  · replace hm := hm_t c_5 hm
    refine lv_iconst (v := 0) hx hb dX8_isReadBack_67 (by decide) ?_
    obtain rfl := Option.some.inj hm
    exact k_zret hx hb hr hlocks hQc rfl hP hS rfl rfl dX8_isReadBack_68
  · replace hm := hm_f c_5 hm
    refine lv_aload_n hx hb dX8_isReadBack_50 rfl (lv_at hl 1 rfl) ?_
    refine va_get (D := D) (cl := classes) (ci := 5) (v := .ref a_t_reader) (C := RX8) (T := TX8) (N := 2) hx hb ht in_RX8 hown hK.1 hP 0 rfl rfl 1 (by decide) (ht _ q_249) (fun _ h9 => h9) rfl dX8_isReadBack_51 ?_
    refine va_getN (D := D) (cl := classes) (ci := 2) (v := .long r_4.2) (C := RX5) (T := TX5) (N := 1) hx hb ht in_RX5 hown hK.1 hP 3 rfl rfl 0 (by decide) (va_Nw.use rfl (hK.2 _ qn_76)) (fun _ h9 => h9) rfl dX8_isReadBack_54 ?_
    refine lv_lload hx hb dX8_isReadBack_57 (lv_at hl 0 rfl) ?_
    refine W.lcmp hx hb dX8_isReadBack_59 ?_
    refine lv_if_ne (tgt := 67) hx hb dX8_isReadBack_60 (by decide) (fun c_6 => ?_) (fun c_6 => ?_)
    · replace hm := hm_f c_6 hm
      refine lv_iconst (v := 0) hx hb dX8_isReadBack_67 (by decide) ?_
      obtain rfl := Option.some.inj hm
      exact k_zret hx hb hr hlocks hQc rfl hP hS rfl rfl dX8_isReadBack_68
    · replace hm := hm_t c_6 hm
      refine lv_iconst (v := 1) hx hb dX8_isReadBack_63 (by decide) ?_
      refine lv_goto (tgt := 68) hx hb dX8_isReadBack_64 (by decide) ?_
      obtain rfl := Option.some.inj hm
      exact k_zret hx hb hr hlocks hQc rfl hP hS rfl rfl dX8_isReadBack_68
theorem dX8_isTurnedBack_0 : decode cX8_isTurnedBack 0 = .ok (.aload_n 0, 1) := by decide +kernel
theorem dX8_isTurnedBack_1 : decode cX8_isTurnedBack 1 = .ok (.iload_n 1, 1) := by decide +kernel
theorem dX8_isTurnedBack_2 : decode cX8_isTurnedBack 2 = .ok (.invokevirtual 77, 3) := by decide +kernel
theorem dX8_isTurnedBack_5 : decode cX8_isTurnedBack 5 = .ok (.aload_n 0, 1) := by decide +kernel
theorem dX8_isTurnedBack_6 : decode cX8_isTurnedBack 6 = .ok (.getfield 65, 3) := by decide +kernel
theorem dX8_isTurnedBack_9 : decode cX8_isTurnedBack 9 = .ok (.invokestatic 80, 3) := by decide +kernel
theorem dX8_isTurnedBack_12 : decode cX8_isTurnedBack 12 = .ok (.aload_n 0, 1) := by decide +kernel
theorem dX8_isTurnedBack_13 : decode cX8_isTurnedBack 13 = .ok (.getfield 65, 3) := by decide +kernel
theorem dX8_isTurnedBack_16 : decode cX8_isTurnedBack 16 = .ok (.invokestatic 80, 3) := by decide +kernel
theorem dX8_isTurnedBack_19 : decode cX8_isTurnedBack 19 = .ok (.lstore_n 2, 1) := by decide +kernel
theorem dX8_isTurnedBack_20 : decode cX8_isTurnedBack 20 = .ok (.lload_n 2, 1) := by decide +kernel
theorem dX8_isTurnedBack_21 : decode cX8_isTurnedBack 21 = .ok (.aload_n 0, 1) := by decide +kernel
theorem dX8_isTurnedBack_22 : decode cX8_isTurnedBack 22 = .ok (.getfield 65, 3) := by decide +kernel
theorem dX8_isTurnedBack_25 : decode cX8_isTurnedBack 25 = .ok (.invokestatic 86, 3) := by decide +kernel
theorem dX8_isTurnedBack_28 : decode cX8_isTurnedBack 28 = .ok (.aload_n 0, 1) := by decide +kernel
theorem dX8_isTurnedBack_29 : decode cX8_isTurnedBack 29 = .ok (.iload_n 1, 1) := by decide +kernel
theorem dX8_isTurnedBack_30 : decode cX8_isTurnedBack 30 = .ok (.invokevirtual 89, 3) := by decide +kernel
theorem dX8_isTurnedBack_33 : decode cX8_isTurnedBack 33 = .ok (.lcmp, 1) := by decide +kernel
theorem dX8_isTurnedBack_34 : decode cX8_isTurnedBack 34 = .ok (.ifCond .ne 7, 3) := by decide +kernel
theorem dX8_isTurnedBack_37 : decode cX8_isTurnedBack 37 = .ok (.iconst 1, 1) := by decide +kernel
theorem dX8_isTurnedBack_38 : decode cX8_isTurnedBack 38 = .ok (.goto 4, 3) := by decide +kernel
theorem dX8_isTurnedBack_41 : decode cX8_isTurnedBack 41 = .ok (.iconst 0, 1) := by decide +kernel
theorem dX8_isTurnedBack_42 : decode cX8_isTurnedBack 42 = .ok (.ireturn, 1) := by decide +kernel
def mX8_isTurnedBack (f_p1_cells : Nat → Int64) (v_p1_isWide : Int32) (p2 : Int32) : Option (Int32) := ((mX2_allBits f_p1_cells p2).bind (fun r_1 => ((mX1_turned r_1 v_p1_isWide).bind (fun r_2 => ((mX1_turned r_2 v_p1_isWide).bind (fun r_3 => ((mX1_signed r_3 v_p1_isWide).bind (fun r_4 => ((mX2_signed f_p1_cells v_p1_isWide p2).bind (fun r_5 => (if (lg_cmp r_4 r_5) = 0 then some 1 else some 0)))))))))))
set_option maxHeartbeats 4000000 in
set_option maxRecDepth 100000 in
theorem kcX8_isTurnedBack (l : Launch) (D : va_G) (cy : Nat → ClassId) (g : Nat → Nat) (a_p1 : Nat) (a_p1_cells : Nat) (a_p1_cellsBefore : Nat) (a_p1_page : Nat) (a_p1_page_bytes : Nat) (a_p1_reader : Nat) (n_p1_page_bytes : Nat) (f_p1_cells : Nat → Int64) (f_p1_cellsBefore : Nat → Int64) (f_p1_page_bytes : Nat → Int32) (v_p1_page_length : Int32) (v_p1_reader_value : Int64) (v_p1_isWide : Int32) (p2 : Int32) (R : Int32) (hm : mX8_isTurnedBack f_p1_cells v_p1_isWide p2 = some R) : Con l D cy g yX8_isTurnedBack cX8_isTurnedBack 4 (some .boolean) 3 64 0 0 [.ref a_p1, .int p2] [(a_p1, .inr (0, [.ref a_p1_cells, .ref a_p1_cellsBefore, .ref a_p1_page, .ref a_p1_reader, .int v_p1_isWide])), (a_p1_cells, .inl (cy 1, 8, .inr (.inl f_p1_cells))), (a_p1_cellsBefore, .inl (cy 1, 8, .inr (.inl f_p1_cellsBefore))), (a_p1_page, .inr (3, [.ref a_p1_page_bytes, .int v_p1_page_length])), (a_p1_page_bytes, .inl (cy 0, n_p1_page_bytes, .inl f_p1_page_bytes)), (a_p1_reader, .inr (2, [.long v_p1_reader_value]))] [(a_p1, .inr (0, [.ref a_p1_cells, .ref a_p1_cellsBefore, .ref a_p1_page, .ref a_p1_reader, .int v_p1_isWide])), (a_p1_cells, .inl (cy 1, 8, .inr (.inl f_p1_cells))), (a_p1_cellsBefore, .inl (cy 1, 8, .inr (.inl f_p1_cellsBefore))), (a_p1_page, .inr (3, [.ref a_p1_page_bytes, .int v_p1_page_length])), (a_p1_page_bytes, .inl (cy 0, n_p1_page_bytes, .inl f_p1_page_bytes)), (a_p1_reader, .inr (2, [.long v_p1_reader_value]))] (some (.int R)) := by
  refine Con.of (by decide +kernel) (Nat.le_of_ble_eq_true rfl) ?_
  intro p e RM s m ar below meth c A Qc ls hx hb hr hml hown hlocks hnm ht hK hP hD hS hA hR hC hQc hl
  have hown : s.vm.findClass RX8 = some m.cls := hown
  have hl : lv_has ls 4 [(0, .ref a_p1), (1, .int p2)] := hl
  rw [mX8_isTurnedBack] at hm
  refine lv_aload_n hx hb dX8_isTurnedBack_0 rfl (lv_at hl 0 rfl) ?_
  refine lv_iload_n hx hb dX8_isTurnedBack_1 rfl (lv_at hl 1 rfl) ?_
  obtain ⟨r_1, hr_1, hm⟩ := hm_b hm
  refine k_V (as := [.int p2]) (rest := []) (ws' := [(a_p1, .inr (0, [.ref a_p1_cells, .ref a_p1_cellsBefore, .ref a_p1_page, .ref a_p1_reader, .int v_p1_isWide])), (a_p1_cells, .inl (cy 1, 8, .inr (.inl f_p1_cells))), (a_p1_cellsBefore, .inl (cy 1, 8, .inr (.inl f_p1_cellsBefore))), (a_p1_page, .inr (3, [.ref a_p1_page_bytes, .int v_p1_page_length])), (a_p1_page_bytes, .inl (cy 0, n_p1_page_bytes, .inl f_p1_page_bytes)), (a_p1_reader, .inr (2, [.long v_p1_reader_value]))]) (st2 := [.long r_1]) (i0 := 0) hx hb hml hown ht hK hP hD hS hA hC hR hl (kcX2_allBits l D cy g a_p1 a_p1_cells a_p1_cellsBefore a_p1_page a_p1_page_bytes a_p1_reader n_p1_page_bytes f_p1_cells f_p1_cellsBefore f_p1_page_bytes v_p1_page_length v_p1_reader_value v_p1_isWide p2 r_1 hr_1) [0, 1, 2, 3, 4, 5] q_799 q_292 q_293 q_44 q_294 hyX2_allBits ⟨rfl, rfl, rfl⟩ ⟨Nat.le_of_ble_eq_true rfl, Nat.le_of_ble_eq_true rfl, Nat.le_of_ble_eq_true rfl, Nat.le_of_ble_eq_true rfl⟩ rfl rfl rfl rfl (Nat.le_of_ble_eq_true rfl) dX8_isTurnedBack_2 rfl rfl (fun H locs hP hD hS => ?_)
  refine lv_aload_n hx hb dX8_isTurnedBack_5 rfl (lv_at hl 0 rfl) ?_
  refine va_getN (D := D) (cl := classes) (ci := 0) (v := .int v_p1_isWide) (C := RX2) (T := TX2) (N := 5) hx hb ht in_RX2 hown hK.1 hP 0 rfl rfl 4 (by decide) (va_Nw.use rfl (hK.2 _ qn_89)) (fun _ h9 => h9) rfl dX8_isTurnedBack_6 ?_
  obtain ⟨r_2, hr_2, hm⟩ := hm_b hm
  refine k_S (as := [.long r_1, .int v_p1_isWide]) (rest := []) (ws' := [(a_p1, .inr (0, [.ref a_p1_cells, .ref a_p1_cellsBefore, .ref a_p1_page, .ref a_p1_reader, .int v_p1_isWide])), (a_p1_cells, .inl (cy 1, 8, .inr (.inl f_p1_cells))), (a_p1_cellsBefore, .inl (cy 1, 8, .inr (.inl f_p1_cellsBefore))), (a_p1_page, .inr (3, [.ref a_p1_page_bytes, .int v_p1_page_length])), (a_p1_page_bytes, .inl (cy 0, n_p1_page_bytes, .inl f_p1_page_bytes)), (a_p1_reader, .inr (2, [.long v_p1_reader_value]))]) (st2 := [.long r_2]) hx hb hml hown ht hK hP hD hS hA hC hR hl (kcX1_turned l D cy g r_1 v_p1_isWide r_2 hr_2) [] q_800 q_688 q_60 q_689 hyX1_turned ⟨Nat.le_of_ble_eq_true rfl, Nat.le_of_ble_eq_true rfl, Nat.le_of_ble_eq_true rfl, Nat.le_of_ble_eq_true rfl⟩ rfl rfl rfl rfl (Nat.le_of_ble_eq_true rfl) dX8_isTurnedBack_9 rfl rfl (fun H locs hP hD hS => ?_)
  refine lv_aload_n hx hb dX8_isTurnedBack_12 rfl (lv_at hl 0 rfl) ?_
  refine va_getN (D := D) (cl := classes) (ci := 0) (v := .int v_p1_isWide) (C := RX2) (T := TX2) (N := 5) hx hb ht in_RX2 hown hK.1 hP 0 rfl rfl 4 (by decide) (va_Nw.use rfl (hK.2 _ qn_89)) (fun _ h9 => h9) rfl dX8_isTurnedBack_13 ?_
  obtain ⟨r_3, hr_3, hm⟩ := hm_b hm
  refine k_S (as := [.long r_2, .int v_p1_isWide]) (rest := []) (ws' := [(a_p1, .inr (0, [.ref a_p1_cells, .ref a_p1_cellsBefore, .ref a_p1_page, .ref a_p1_reader, .int v_p1_isWide])), (a_p1_cells, .inl (cy 1, 8, .inr (.inl f_p1_cells))), (a_p1_cellsBefore, .inl (cy 1, 8, .inr (.inl f_p1_cellsBefore))), (a_p1_page, .inr (3, [.ref a_p1_page_bytes, .int v_p1_page_length])), (a_p1_page_bytes, .inl (cy 0, n_p1_page_bytes, .inl f_p1_page_bytes)), (a_p1_reader, .inr (2, [.long v_p1_reader_value]))]) (st2 := [.long r_3]) hx hb hml hown ht hK hP hD hS hA hC hR hl (kcX1_turned l D cy g r_2 v_p1_isWide r_3 hr_3) [] q_800 q_688 q_60 q_689 hyX1_turned ⟨Nat.le_of_ble_eq_true rfl, Nat.le_of_ble_eq_true rfl, Nat.le_of_ble_eq_true rfl, Nat.le_of_ble_eq_true rfl⟩ rfl rfl rfl rfl (Nat.le_of_ble_eq_true rfl) dX8_isTurnedBack_16 rfl rfl (fun H locs hP hD hS => ?_)
  refine lv_lstore_n (lv' := [(2, .long r_3), (0, .ref a_p1), (1, .int p2)]) hx hb dX8_isTurnedBack_19 rfl hl (by decide) rfl (fun ls hl => ?_)
  refine lv_lload_n hx hb dX8_isTurnedBack_20 rfl (lv_at hl 0 rfl) ?_
  refine lv_aload_n hx hb dX8_isTurnedBack_21 rfl (lv_at hl 1 rfl) ?_
  refine va_getN (D := D) (cl := classes) (ci := 0) (v := .int v_p1_isWide) (C := RX2) (T := TX2) (N := 5) hx hb ht in_RX2 hown hK.1 hP 0 rfl rfl 4 (by decide) (va_Nw.use rfl (hK.2 _ qn_89)) (fun _ h9 => h9) rfl dX8_isTurnedBack_22 ?_
  obtain ⟨r_4, hr_4, hm⟩ := hm_b hm
  refine k_S (as := [.long r_3, .int v_p1_isWide]) (rest := []) (ws' := [(a_p1, .inr (0, [.ref a_p1_cells, .ref a_p1_cellsBefore, .ref a_p1_page, .ref a_p1_reader, .int v_p1_isWide])), (a_p1_cells, .inl (cy 1, 8, .inr (.inl f_p1_cells))), (a_p1_cellsBefore, .inl (cy 1, 8, .inr (.inl f_p1_cellsBefore))), (a_p1_page, .inr (3, [.ref a_p1_page_bytes, .int v_p1_page_length])), (a_p1_page_bytes, .inl (cy 0, n_p1_page_bytes, .inl f_p1_page_bytes)), (a_p1_reader, .inr (2, [.long v_p1_reader_value]))]) (st2 := [.long r_4]) hx hb hml hown ht hK hP hD hS hA hC hR hl (kcX1_signed l D cy g r_3 v_p1_isWide r_4 hr_4) [] q_801 q_296 q_60 q_297 hyX1_signed ⟨Nat.le_of_ble_eq_true rfl, Nat.le_of_ble_eq_true rfl, Nat.le_of_ble_eq_true rfl, Nat.le_of_ble_eq_true rfl⟩ rfl rfl rfl rfl (Nat.le_of_ble_eq_true rfl) dX8_isTurnedBack_25 rfl rfl (fun H locs hP hD hS => ?_)
  refine lv_aload_n hx hb dX8_isTurnedBack_28 rfl (lv_at hl 1 rfl) ?_
  refine lv_iload_n hx hb dX8_isTurnedBack_29 rfl (lv_at hl 2 rfl) ?_
  obtain ⟨r_5, hr_5, hm⟩ := hm_b hm
  refine k_V (as := [.int p2]) (rest := [.long r_4]) (ws' := [(a_p1, .inr (0, [.ref a_p1_cells, .ref a_p1_cellsBefore, .ref a_p1_page, .ref a_p1_reader, .int v_p1_isWide])), (a_p1_cells, .inl (cy 1, 8, .inr (.inl f_p1_cells))), (a_p1_cellsBefore, .inl (cy 1, 8, .inr (.inl f_p1_cellsBefore))), (a_p1_page, .inr (3, [.ref a_p1_page_bytes, .int v_p1_page_length])), (a_p1_page_bytes, .inl (cy 0, n_p1_page_bytes, .inl f_p1_page_bytes)), (a_p1_reader, .inr (2, [.long v_p1_reader_value]))]) (st2 := [.long r_5, .long r_4]) (i0 := 0) hx hb hml hown ht hK hP hD hS hA hC hR hl (kcX2_signed l D cy g a_p1 a_p1_cells a_p1_cellsBefore a_p1_page a_p1_page_bytes a_p1_reader n_p1_page_bytes f_p1_cells f_p1_cellsBefore f_p1_page_bytes v_p1_page_length v_p1_reader_value v_p1_isWide p2 r_5 hr_5) [0, 1, 2, 3, 4, 5] q_802 q_288 q_289 q_44 q_290 hyX2_signed ⟨rfl, rfl, rfl⟩ ⟨Nat.le_of_ble_eq_true rfl, Nat.le_of_ble_eq_true rfl, Nat.le_of_ble_eq_true rfl, Nat.le_of_ble_eq_true rfl⟩ rfl rfl rfl rfl (Nat.le_of_ble_eq_true rfl) dX8_isTurnedBack_30 rfl rfl (fun H locs hP hD hS => ?_)
  refine W.lcmp hx hb dX8_isTurnedBack_33 ?_
  refine lv_if_ne (tgt := 41) hx hb dX8_isTurnedBack_34 (by decide) (fun c_6 => ?_) (fun c_6 => ?_)
  · replace hm := hm_f c_6 hm
    refine lv_iconst (v := 0) hx hb dX8_isTurnedBack_41 (by decide) ?_
    obtain rfl := Option.some.inj hm
    exact k_zret hx hb hr hlocks hQc rfl hP hS rfl rfl dX8_isTurnedBack_42
  · replace hm := hm_t c_6 hm
    refine lv_iconst (v := 1) hx hb dX8_isTurnedBack_37 (by decide) ?_
    refine lv_goto (tgt := 42) hx hb dX8_isTurnedBack_38 (by decide) ?_
    obtain rfl := Option.some.inj hm
    exact k_zret hx hb hr hlocks hQc rfl hP hS rfl rfl dX8_isTurnedBack_42
theorem dX8_areBytesTurnedBack_0 : decode cX8_areBytesTurnedBack 0 = .ok (.aload_n 0, 1) := by decide +kernel
theorem dX8_areBytesTurnedBack_1 : decode cX8_areBytesTurnedBack 1 = .ok (.iload_n 1, 1) := by decide +kernel
theorem dX8_areBytesTurnedBack_2 : decode cX8_areBytesTurnedBack 2 = .ok (.invokevirtual 77, 3) := by decide +kernel
theorem dX8_areBytesTurnedBack_5 : decode cX8_areBytesTurnedBack 5 = .ok (.aload_n 0, 1) := by decide +kernel
theorem dX8_areBytesTurnedBack_6 : decode cX8_areBytesTurnedBack 6 = .ok (.getfield 65, 3) := by decide +kernel
theorem dX8_areBytesTurnedBack_9 : decode cX8_areBytesTurnedBack 9 = .ok (.invokestatic 91, 3) := by decide +kernel
theorem dX8_areBytesTurnedBack_12 : decode cX8_areBytesTurnedBack 12 = .ok (.aload_n 0, 1) := by decide +kernel
theorem dX8_areBytesTurnedBack_13 : decode cX8_areBytesTurnedBack 13 = .ok (.getfield 65, 3) := by decide +kernel
theorem dX8_areBytesTurnedBack_16 : decode cX8_areBytesTurnedBack 16 = .ok (.invokestatic 91, 3) := by decide +kernel
theorem dX8_areBytesTurnedBack_19 : decode cX8_areBytesTurnedBack 19 = .ok (.lstore_n 2, 1) := by decide +kernel
theorem dX8_areBytesTurnedBack_20 : decode cX8_areBytesTurnedBack 20 = .ok (.lload_n 2, 1) := by decide +kernel
theorem dX8_areBytesTurnedBack_21 : decode cX8_areBytesTurnedBack 21 = .ok (.aload_n 0, 1) := by decide +kernel
theorem dX8_areBytesTurnedBack_22 : decode cX8_areBytesTurnedBack 22 = .ok (.getfield 65, 3) := by decide +kernel
theorem dX8_areBytesTurnedBack_25 : decode cX8_areBytesTurnedBack 25 = .ok (.invokestatic 86, 3) := by decide +kernel
theorem dX8_areBytesTurnedBack_28 : decode cX8_areBytesTurnedBack 28 = .ok (.aload_n 0, 1) := by decide +kernel
theorem dX8_areBytesTurnedBack_29 : decode cX8_areBytesTurnedBack 29 = .ok (.iload_n 1, 1) := by decide +kernel
theorem dX8_areBytesTurnedBack_30 : decode cX8_areBytesTurnedBack 30 = .ok (.invokevirtual 89, 3) := by decide +kernel
theorem dX8_areBytesTurnedBack_33 : decode cX8_areBytesTurnedBack 33 = .ok (.lcmp, 1) := by decide +kernel
theorem dX8_areBytesTurnedBack_34 : decode cX8_areBytesTurnedBack 34 = .ok (.ifCond .ne 7, 3) := by decide +kernel
theorem dX8_areBytesTurnedBack_37 : decode cX8_areBytesTurnedBack 37 = .ok (.iconst 1, 1) := by decide +kernel
theorem dX8_areBytesTurnedBack_38 : decode cX8_areBytesTurnedBack 38 = .ok (.goto 4, 3) := by decide +kernel
theorem dX8_areBytesTurnedBack_41 : decode cX8_areBytesTurnedBack 41 = .ok (.iconst 0, 1) := by decide +kernel
theorem dX8_areBytesTurnedBack_42 : decode cX8_areBytesTurnedBack 42 = .ok (.ireturn, 1) := by decide +kernel
def mX8_areBytesTurnedBack (f_p1_cells : Nat → Int64) (v_p1_isWide : Int32) (p2 : Int32) : Option (Int32) := ((mX2_allBits f_p1_cells p2).bind (fun r_1 => ((mX1_bytesTurned r_1 v_p1_isWide).bind (fun r_2 => ((mX1_bytesTurned r_2 v_p1_isWide).bind (fun r_3 => ((mX1_signed r_3 v_p1_isWide).bind (fun r_4 => ((mX2_signed f_p1_cells v_p1_isWide p2).bind (fun r_5 => (if (lg_cmp r_4 r_5) = 0 then some 1 else some 0)))))))))))
set_option maxHeartbeats 4000000 in
set_option maxRecDepth 100000 in
theorem kcX8_areBytesTurnedBack (l : Launch) (D : va_G) (cy : Nat → ClassId) (g : Nat → Nat) (a_p1 : Nat) (a_p1_cells : Nat) (a_p1_cellsBefore : Nat) (a_p1_page : Nat) (a_p1_page_bytes : Nat) (a_p1_reader : Nat) (n_p1_page_bytes : Nat) (f_p1_cells : Nat → Int64) (f_p1_cellsBefore : Nat → Int64) (f_p1_page_bytes : Nat → Int32) (v_p1_page_length : Int32) (v_p1_reader_value : Int64) (v_p1_isWide : Int32) (p2 : Int32) (R : Int32) (hm : mX8_areBytesTurnedBack f_p1_cells v_p1_isWide p2 = some R) : Con l D cy g yX8_areBytesTurnedBack cX8_areBytesTurnedBack 4 (some .boolean) 2 43 0 0 [.ref a_p1, .int p2] [(a_p1, .inr (0, [.ref a_p1_cells, .ref a_p1_cellsBefore, .ref a_p1_page, .ref a_p1_reader, .int v_p1_isWide])), (a_p1_cells, .inl (cy 1, 8, .inr (.inl f_p1_cells))), (a_p1_cellsBefore, .inl (cy 1, 8, .inr (.inl f_p1_cellsBefore))), (a_p1_page, .inr (3, [.ref a_p1_page_bytes, .int v_p1_page_length])), (a_p1_page_bytes, .inl (cy 0, n_p1_page_bytes, .inl f_p1_page_bytes)), (a_p1_reader, .inr (2, [.long v_p1_reader_value]))] [(a_p1, .inr (0, [.ref a_p1_cells, .ref a_p1_cellsBefore, .ref a_p1_page, .ref a_p1_reader, .int v_p1_isWide])), (a_p1_cells, .inl (cy 1, 8, .inr (.inl f_p1_cells))), (a_p1_cellsBefore, .inl (cy 1, 8, .inr (.inl f_p1_cellsBefore))), (a_p1_page, .inr (3, [.ref a_p1_page_bytes, .int v_p1_page_length])), (a_p1_page_bytes, .inl (cy 0, n_p1_page_bytes, .inl f_p1_page_bytes)), (a_p1_reader, .inr (2, [.long v_p1_reader_value]))] (some (.int R)) := by
  refine Con.of (by decide +kernel) (Nat.le_of_ble_eq_true rfl) ?_
  intro p e RM s m ar below meth c A Qc ls hx hb hr hml hown hlocks hnm ht hK hP hD hS hA hR hC hQc hl
  have hown : s.vm.findClass RX8 = some m.cls := hown
  have hl : lv_has ls 4 [(0, .ref a_p1), (1, .int p2)] := hl
  rw [mX8_areBytesTurnedBack] at hm
  refine lv_aload_n hx hb dX8_areBytesTurnedBack_0 rfl (lv_at hl 0 rfl) ?_
  refine lv_iload_n hx hb dX8_areBytesTurnedBack_1 rfl (lv_at hl 1 rfl) ?_
  obtain ⟨r_1, hr_1, hm⟩ := hm_b hm
  refine k_V (as := [.int p2]) (rest := []) (ws' := [(a_p1, .inr (0, [.ref a_p1_cells, .ref a_p1_cellsBefore, .ref a_p1_page, .ref a_p1_reader, .int v_p1_isWide])), (a_p1_cells, .inl (cy 1, 8, .inr (.inl f_p1_cells))), (a_p1_cellsBefore, .inl (cy 1, 8, .inr (.inl f_p1_cellsBefore))), (a_p1_page, .inr (3, [.ref a_p1_page_bytes, .int v_p1_page_length])), (a_p1_page_bytes, .inl (cy 0, n_p1_page_bytes, .inl f_p1_page_bytes)), (a_p1_reader, .inr (2, [.long v_p1_reader_value]))]) (st2 := [.long r_1]) (i0 := 0) hx hb hml hown ht hK hP hD hS hA hC hR hl (kcX2_allBits l D cy g a_p1 a_p1_cells a_p1_cellsBefore a_p1_page a_p1_page_bytes a_p1_reader n_p1_page_bytes f_p1_cells f_p1_cellsBefore f_p1_page_bytes v_p1_page_length v_p1_reader_value v_p1_isWide p2 r_1 hr_1) [0, 1, 2, 3, 4, 5] q_799 q_292 q_293 q_44 q_294 hyX2_allBits ⟨rfl, rfl, rfl⟩ ⟨Nat.le_of_ble_eq_true rfl, Nat.le_of_ble_eq_true rfl, Nat.le_of_ble_eq_true rfl, Nat.le_of_ble_eq_true rfl⟩ rfl rfl rfl rfl (Nat.le_of_ble_eq_true rfl) dX8_areBytesTurnedBack_2 rfl rfl (fun H locs hP hD hS => ?_)
  refine lv_aload_n hx hb dX8_areBytesTurnedBack_5 rfl (lv_at hl 0 rfl) ?_
  refine va_getN (D := D) (cl := classes) (ci := 0) (v := .int v_p1_isWide) (C := RX2) (T := TX2) (N := 5) hx hb ht in_RX2 hown hK.1 hP 0 rfl rfl 4 (by decide) (va_Nw.use rfl (hK.2 _ qn_89)) (fun _ h9 => h9) rfl dX8_areBytesTurnedBack_6 ?_
  obtain ⟨r_2, hr_2, hm⟩ := hm_b hm
  refine k_S (as := [.long r_1, .int v_p1_isWide]) (rest := []) (ws' := [(a_p1, .inr (0, [.ref a_p1_cells, .ref a_p1_cellsBefore, .ref a_p1_page, .ref a_p1_reader, .int v_p1_isWide])), (a_p1_cells, .inl (cy 1, 8, .inr (.inl f_p1_cells))), (a_p1_cellsBefore, .inl (cy 1, 8, .inr (.inl f_p1_cellsBefore))), (a_p1_page, .inr (3, [.ref a_p1_page_bytes, .int v_p1_page_length])), (a_p1_page_bytes, .inl (cy 0, n_p1_page_bytes, .inl f_p1_page_bytes)), (a_p1_reader, .inr (2, [.long v_p1_reader_value]))]) (st2 := [.long r_2]) hx hb hml hown ht hK hP hD hS hA hC hR hl (kcX1_bytesTurned l D cy g r_1 v_p1_isWide r_2 hr_2) [] q_806 q_713 q_60 q_714 hyX1_bytesTurned ⟨Nat.le_of_ble_eq_true rfl, Nat.le_of_ble_eq_true rfl, Nat.le_of_ble_eq_true rfl, Nat.le_of_ble_eq_true rfl⟩ rfl rfl rfl rfl (Nat.le_of_ble_eq_true rfl) dX8_areBytesTurnedBack_9 rfl rfl (fun H locs hP hD hS => ?_)
  refine lv_aload_n hx hb dX8_areBytesTurnedBack_12 rfl (lv_at hl 0 rfl) ?_
  refine va_getN (D := D) (cl := classes) (ci := 0) (v := .int v_p1_isWide) (C := RX2) (T := TX2) (N := 5) hx hb ht in_RX2 hown hK.1 hP 0 rfl rfl 4 (by decide) (va_Nw.use rfl (hK.2 _ qn_89)) (fun _ h9 => h9) rfl dX8_areBytesTurnedBack_13 ?_
  obtain ⟨r_3, hr_3, hm⟩ := hm_b hm
  refine k_S (as := [.long r_2, .int v_p1_isWide]) (rest := []) (ws' := [(a_p1, .inr (0, [.ref a_p1_cells, .ref a_p1_cellsBefore, .ref a_p1_page, .ref a_p1_reader, .int v_p1_isWide])), (a_p1_cells, .inl (cy 1, 8, .inr (.inl f_p1_cells))), (a_p1_cellsBefore, .inl (cy 1, 8, .inr (.inl f_p1_cellsBefore))), (a_p1_page, .inr (3, [.ref a_p1_page_bytes, .int v_p1_page_length])), (a_p1_page_bytes, .inl (cy 0, n_p1_page_bytes, .inl f_p1_page_bytes)), (a_p1_reader, .inr (2, [.long v_p1_reader_value]))]) (st2 := [.long r_3]) hx hb hml hown ht hK hP hD hS hA hC hR hl (kcX1_bytesTurned l D cy g r_2 v_p1_isWide r_3 hr_3) [] q_806 q_713 q_60 q_714 hyX1_bytesTurned ⟨Nat.le_of_ble_eq_true rfl, Nat.le_of_ble_eq_true rfl, Nat.le_of_ble_eq_true rfl, Nat.le_of_ble_eq_true rfl⟩ rfl rfl rfl rfl (Nat.le_of_ble_eq_true rfl) dX8_areBytesTurnedBack_16 rfl rfl (fun H locs hP hD hS => ?_)
  refine lv_lstore_n (lv' := [(2, .long r_3), (0, .ref a_p1), (1, .int p2)]) hx hb dX8_areBytesTurnedBack_19 rfl hl (by decide) rfl (fun ls hl => ?_)
  refine lv_lload_n hx hb dX8_areBytesTurnedBack_20 rfl (lv_at hl 0 rfl) ?_
  refine lv_aload_n hx hb dX8_areBytesTurnedBack_21 rfl (lv_at hl 1 rfl) ?_
  refine va_getN (D := D) (cl := classes) (ci := 0) (v := .int v_p1_isWide) (C := RX2) (T := TX2) (N := 5) hx hb ht in_RX2 hown hK.1 hP 0 rfl rfl 4 (by decide) (va_Nw.use rfl (hK.2 _ qn_89)) (fun _ h9 => h9) rfl dX8_areBytesTurnedBack_22 ?_
  obtain ⟨r_4, hr_4, hm⟩ := hm_b hm
  refine k_S (as := [.long r_3, .int v_p1_isWide]) (rest := []) (ws' := [(a_p1, .inr (0, [.ref a_p1_cells, .ref a_p1_cellsBefore, .ref a_p1_page, .ref a_p1_reader, .int v_p1_isWide])), (a_p1_cells, .inl (cy 1, 8, .inr (.inl f_p1_cells))), (a_p1_cellsBefore, .inl (cy 1, 8, .inr (.inl f_p1_cellsBefore))), (a_p1_page, .inr (3, [.ref a_p1_page_bytes, .int v_p1_page_length])), (a_p1_page_bytes, .inl (cy 0, n_p1_page_bytes, .inl f_p1_page_bytes)), (a_p1_reader, .inr (2, [.long v_p1_reader_value]))]) (st2 := [.long r_4]) hx hb hml hown ht hK hP hD hS hA hC hR hl (kcX1_signed l D cy g r_3 v_p1_isWide r_4 hr_4) [] q_801 q_296 q_60 q_297 hyX1_signed ⟨Nat.le_of_ble_eq_true rfl, Nat.le_of_ble_eq_true rfl, Nat.le_of_ble_eq_true rfl, Nat.le_of_ble_eq_true rfl⟩ rfl rfl rfl rfl (Nat.le_of_ble_eq_true rfl) dX8_areBytesTurnedBack_25 rfl rfl (fun H locs hP hD hS => ?_)
  refine lv_aload_n hx hb dX8_areBytesTurnedBack_28 rfl (lv_at hl 1 rfl) ?_
  refine lv_iload_n hx hb dX8_areBytesTurnedBack_29 rfl (lv_at hl 2 rfl) ?_
  obtain ⟨r_5, hr_5, hm⟩ := hm_b hm
  refine k_V (as := [.int p2]) (rest := [.long r_4]) (ws' := [(a_p1, .inr (0, [.ref a_p1_cells, .ref a_p1_cellsBefore, .ref a_p1_page, .ref a_p1_reader, .int v_p1_isWide])), (a_p1_cells, .inl (cy 1, 8, .inr (.inl f_p1_cells))), (a_p1_cellsBefore, .inl (cy 1, 8, .inr (.inl f_p1_cellsBefore))), (a_p1_page, .inr (3, [.ref a_p1_page_bytes, .int v_p1_page_length])), (a_p1_page_bytes, .inl (cy 0, n_p1_page_bytes, .inl f_p1_page_bytes)), (a_p1_reader, .inr (2, [.long v_p1_reader_value]))]) (st2 := [.long r_5, .long r_4]) (i0 := 0) hx hb hml hown ht hK hP hD hS hA hC hR hl (kcX2_signed l D cy g a_p1 a_p1_cells a_p1_cellsBefore a_p1_page a_p1_page_bytes a_p1_reader n_p1_page_bytes f_p1_cells f_p1_cellsBefore f_p1_page_bytes v_p1_page_length v_p1_reader_value v_p1_isWide p2 r_5 hr_5) [0, 1, 2, 3, 4, 5] q_802 q_288 q_289 q_44 q_290 hyX2_signed ⟨rfl, rfl, rfl⟩ ⟨Nat.le_of_ble_eq_true rfl, Nat.le_of_ble_eq_true rfl, Nat.le_of_ble_eq_true rfl, Nat.le_of_ble_eq_true rfl⟩ rfl rfl rfl rfl (Nat.le_of_ble_eq_true rfl) dX8_areBytesTurnedBack_30 rfl rfl (fun H locs hP hD hS => ?_)
  refine W.lcmp hx hb dX8_areBytesTurnedBack_33 ?_
  refine lv_if_ne (tgt := 41) hx hb dX8_areBytesTurnedBack_34 (by decide) (fun c_6 => ?_) (fun c_6 => ?_)
  · replace hm := hm_f c_6 hm
    refine lv_iconst (v := 0) hx hb dX8_areBytesTurnedBack_41 (by decide) ?_
    obtain rfl := Option.some.inj hm
    exact k_zret hx hb hr hlocks hQc rfl hP hS rfl rfl dX8_areBytesTurnedBack_42
  · replace hm := hm_t c_6 hm
    refine lv_iconst (v := 1) hx hb dX8_areBytesTurnedBack_37 (by decide) ?_
    refine lv_goto (tgt := 42) hx hb dX8_areBytesTurnedBack_38 (by decide) ?_
    obtain rfl := Option.some.inj hm
    exact k_zret hx hb hr hlocks hQc rfl hP hS rfl rfl dX8_areBytesTurnedBack_42
theorem dX8_isRotatedBack_0 : decode cX8_isRotatedBack 0 = .ok (.aload_n 0, 1) := by decide +kernel
theorem dX8_isRotatedBack_1 : decode cX8_isRotatedBack 1 = .ok (.iload_n 1, 1) := by decide +kernel
theorem dX8_isRotatedBack_2 : decode cX8_isRotatedBack 2 = .ok (.invokevirtual 94, 3) := by decide +kernel
theorem dX8_isRotatedBack_5 : decode cX8_isRotatedBack 5 = .ok (.istore_n 2, 1) := by decide +kernel
theorem dX8_isRotatedBack_6 : decode cX8_isRotatedBack 6 = .ok (.aload_n 0, 1) := by decide +kernel
theorem dX8_isRotatedBack_7 : decode cX8_isRotatedBack 7 = .ok (.iload_n 1, 1) := by decide +kernel
theorem dX8_isRotatedBack_8 : decode cX8_isRotatedBack 8 = .ok (.invokevirtual 77, 3) := by decide +kernel
theorem dX8_isRotatedBack_11 : decode cX8_isRotatedBack 11 = .ok (.iload_n 2, 1) := by decide +kernel
theorem dX8_isRotatedBack_12 : decode cX8_isRotatedBack 12 = .ok (.aload_n 0, 1) := by decide +kernel
theorem dX8_isRotatedBack_13 : decode cX8_isRotatedBack 13 = .ok (.getfield 65, 3) := by decide +kernel
theorem dX8_isRotatedBack_16 : decode cX8_isRotatedBack 16 = .ok (.invokestatic 98, 3) := by decide +kernel
theorem dX8_isRotatedBack_19 : decode cX8_isRotatedBack 19 = .ok (.lstore_n 3, 1) := by decide +kernel
theorem dX8_isRotatedBack_20 : decode cX8_isRotatedBack 20 = .ok (.lload_n 3, 1) := by decide +kernel
theorem dX8_isRotatedBack_21 : decode cX8_isRotatedBack 21 = .ok (.iload_n 2, 1) := by decide +kernel
theorem dX8_isRotatedBack_22 : decode cX8_isRotatedBack 22 = .ok (.aload_n 0, 1) := by decide +kernel
theorem dX8_isRotatedBack_23 : decode cX8_isRotatedBack 23 = .ok (.getfield 65, 3) := by decide +kernel
theorem dX8_isRotatedBack_26 : decode cX8_isRotatedBack 26 = .ok (.invokestatic 102, 3) := by decide +kernel
theorem dX8_isRotatedBack_29 : decode cX8_isRotatedBack 29 = .ok (.lstore 5, 2) := by decide +kernel
theorem dX8_isRotatedBack_31 : decode cX8_isRotatedBack 31 = .ok (.lload 5, 2) := by decide +kernel
theorem dX8_isRotatedBack_33 : decode cX8_isRotatedBack 33 = .ok (.aload_n 0, 1) := by decide +kernel
theorem dX8_isRotatedBack_34 : decode cX8_isRotatedBack 34 = .ok (.getfield 65, 3) := by decide +kernel
theorem dX8_isRotatedBack_37 : decode cX8_isRotatedBack 37 = .ok (.invokestatic 86, 3) := by decide +kernel
theorem dX8_isRotatedBack_40 : decode cX8_isRotatedBack 40 = .ok (.aload_n 0, 1) := by decide +kernel
theorem dX8_isRotatedBack_41 : decode cX8_isRotatedBack 41 = .ok (.iload_n 1, 1) := by decide +kernel
theorem dX8_isRotatedBack_42 : decode cX8_isRotatedBack 42 = .ok (.invokevirtual 89, 3) := by decide +kernel
theorem dX8_isRotatedBack_45 : decode cX8_isRotatedBack 45 = .ok (.lcmp, 1) := by decide +kernel
theorem dX8_isRotatedBack_46 : decode cX8_isRotatedBack 46 = .ok (.ifCond .ne 7, 3) := by decide +kernel
theorem dX8_isRotatedBack_49 : decode cX8_isRotatedBack 49 = .ok (.iconst 1, 1) := by decide +kernel
theorem dX8_isRotatedBack_50 : decode cX8_isRotatedBack 50 = .ok (.goto 4, 3) := by decide +kernel
theorem dX8_isRotatedBack_53 : decode cX8_isRotatedBack 53 = .ok (.iconst 0, 1) := by decide +kernel
theorem dX8_isRotatedBack_54 : decode cX8_isRotatedBack 54 = .ok (.ireturn, 1) := by decide +kernel
def mX8_isRotatedBack (f_p1_cells : Nat → Int64) (v_p1_isWide : Int32) (p2 : Int32) : Option (Int32) := ((mX2_ones f_p1_cells v_p1_isWide p2).bind (fun r_1 => ((mX2_allBits f_p1_cells p2).bind (fun r_2 => ((mX1_rotatedLeft r_2 r_1 v_p1_isWide).bind (fun r_3 => ((mX1_rotatedRight r_3 r_1 v_p1_isWide).bind (fun r_4 => ((mX1_signed r_4 v_p1_isWide).bind (fun r_5 => ((mX2_signed f_p1_cells v_p1_isWide p2).bind (fun r_6 => (if (lg_cmp r_5 r_6) = 0 then some 1 else some 0)))))))))))))
set_option maxHeartbeats 4000000 in
set_option maxRecDepth 100000 in
theorem kcX8_isRotatedBack (l : Launch) (D : va_G) (cy : Nat → ClassId) (g : Nat → Nat) (a_p1 : Nat) (a_p1_cells : Nat) (a_p1_cellsBefore : Nat) (a_p1_page : Nat) (a_p1_page_bytes : Nat) (a_p1_reader : Nat) (n_p1_page_bytes : Nat) (f_p1_cells : Nat → Int64) (f_p1_cellsBefore : Nat → Int64) (f_p1_page_bytes : Nat → Int32) (v_p1_page_length : Int32) (v_p1_reader_value : Int64) (v_p1_isWide : Int32) (p2 : Int32) (R : Int32) (hm : mX8_isRotatedBack f_p1_cells v_p1_isWide p2 = some R) : Con l D cy g yX8_isRotatedBack cX8_isRotatedBack 7 (some .boolean) 3 64 0 0 [.ref a_p1, .int p2] [(a_p1, .inr (0, [.ref a_p1_cells, .ref a_p1_cellsBefore, .ref a_p1_page, .ref a_p1_reader, .int v_p1_isWide])), (a_p1_cells, .inl (cy 1, 8, .inr (.inl f_p1_cells))), (a_p1_cellsBefore, .inl (cy 1, 8, .inr (.inl f_p1_cellsBefore))), (a_p1_page, .inr (3, [.ref a_p1_page_bytes, .int v_p1_page_length])), (a_p1_page_bytes, .inl (cy 0, n_p1_page_bytes, .inl f_p1_page_bytes)), (a_p1_reader, .inr (2, [.long v_p1_reader_value]))] [(a_p1, .inr (0, [.ref a_p1_cells, .ref a_p1_cellsBefore, .ref a_p1_page, .ref a_p1_reader, .int v_p1_isWide])), (a_p1_cells, .inl (cy 1, 8, .inr (.inl f_p1_cells))), (a_p1_cellsBefore, .inl (cy 1, 8, .inr (.inl f_p1_cellsBefore))), (a_p1_page, .inr (3, [.ref a_p1_page_bytes, .int v_p1_page_length])), (a_p1_page_bytes, .inl (cy 0, n_p1_page_bytes, .inl f_p1_page_bytes)), (a_p1_reader, .inr (2, [.long v_p1_reader_value]))] (some (.int R)) := by
  refine Con.of (by decide +kernel) (Nat.le_of_ble_eq_true rfl) ?_
  intro p e RM s m ar below meth c A Qc ls hx hb hr hml hown hlocks hnm ht hK hP hD hS hA hR hC hQc hl
  have hown : s.vm.findClass RX8 = some m.cls := hown
  have hl : lv_has ls 7 [(0, .ref a_p1), (1, .int p2)] := hl
  rw [mX8_isRotatedBack] at hm
  refine lv_aload_n hx hb dX8_isRotatedBack_0 rfl (lv_at hl 0 rfl) ?_
  refine lv_iload_n hx hb dX8_isRotatedBack_1 rfl (lv_at hl 1 rfl) ?_
  obtain ⟨r_1, hr_1, hm⟩ := hm_b hm
  refine k_V (as := [.int p2]) (rest := []) (ws' := [(a_p1, .inr (0, [.ref a_p1_cells, .ref a_p1_cellsBefore, .ref a_p1_page, .ref a_p1_reader, .int v_p1_isWide])), (a_p1_cells, .inl (cy 1, 8, .inr (.inl f_p1_cells))), (a_p1_cellsBefore, .inl (cy 1, 8, .inr (.inl f_p1_cellsBefore))), (a_p1_page, .inr (3, [.ref a_p1_page_bytes, .int v_p1_page_length])), (a_p1_page_bytes, .inl (cy 0, n_p1_page_bytes, .inl f_p1_page_bytes)), (a_p1_reader, .inr (2, [.long v_p1_reader_value]))]) (st2 := [.int r_1]) (i0 := 0) hx hb hml hown ht hK hP hD hS hA hC hR hl (kcX2_ones l D cy g a_p1 a_p1_cells a_p1_cellsBefore a_p1_page a_p1_page_bytes a_p1_reader n_p1_page_bytes f_p1_cells f_p1_cellsBefore f_p1_page_bytes v_p1_page_length v_p1_reader_value v_p1_isWide p2 r_1 hr_1) [0, 1, 2, 3, 4, 5] q_810 q_636 q_637 q_44 q_638 hyX2_ones ⟨rfl, rfl, rfl⟩ ⟨Nat.le_of_ble_eq_true rfl, Nat.le_of_ble_eq_true rfl, Nat.le_of_ble_eq_true rfl, Nat.le_of_ble_eq_true rfl⟩ rfl rfl rfl rfl (Nat.le_of_ble_eq_true rfl) dX8_isRotatedBack_2 rfl rfl (fun H locs hP hD hS => ?_)
  refine lv_istore_n (lv' := [(2, .int r_1), (0, .ref a_p1), (1, .int p2)]) hx hb dX8_isRotatedBack_5 rfl hl (by decide) rfl (fun ls hl => ?_)
  refine lv_aload_n hx hb dX8_isRotatedBack_6 rfl (lv_at hl 1 rfl) ?_
  refine lv_iload_n hx hb dX8_isRotatedBack_7 rfl (lv_at hl 2 rfl) ?_
  obtain ⟨r_2, hr_2, hm⟩ := hm_b hm
  refine k_V (as := [.int p2]) (rest := []) (ws' := [(a_p1, .inr (0, [.ref a_p1_cells, .ref a_p1_cellsBefore, .ref a_p1_page, .ref a_p1_reader, .int v_p1_isWide])), (a_p1_cells, .inl (cy 1, 8, .inr (.inl f_p1_cells))), (a_p1_cellsBefore, .inl (cy 1, 8, .inr (.inl f_p1_cellsBefore))), (a_p1_page, .inr (3, [.ref a_p1_page_bytes, .int v_p1_page_length])), (a_p1_page_bytes, .inl (cy 0, n_p1_page_bytes, .inl f_p1_page_bytes)), (a_p1_reader, .inr (2, [.long v_p1_reader_value]))]) (st2 := [.long r_2]) (i0 := 0) hx hb hml hown ht hK hP hD hS hA hC hR hl (kcX2_allBits l D cy g a_p1 a_p1_cells a_p1_cellsBefore a_p1_page a_p1_page_bytes a_p1_reader n_p1_page_bytes f_p1_cells f_p1_cellsBefore f_p1_page_bytes v_p1_page_length v_p1_reader_value v_p1_isWide p2 r_2 hr_2) [0, 1, 2, 3, 4, 5] q_799 q_292 q_293 q_44 q_294 hyX2_allBits ⟨rfl, rfl, rfl⟩ ⟨Nat.le_of_ble_eq_true rfl, Nat.le_of_ble_eq_true rfl, Nat.le_of_ble_eq_true rfl, Nat.le_of_ble_eq_true rfl⟩ rfl rfl rfl rfl (Nat.le_of_ble_eq_true rfl) dX8_isRotatedBack_8 rfl rfl (fun H locs hP hD hS => ?_)
  refine lv_iload_n hx hb dX8_isRotatedBack_11 rfl (lv_at hl 0 rfl) ?_
  refine lv_aload_n hx hb dX8_isRotatedBack_12 rfl (lv_at hl 1 rfl) ?_
  refine va_getN (D := D) (cl := classes) (ci := 0) (v := .int v_p1_isWide) (C := RX2) (T := TX2) (N := 5) hx hb ht in_RX2 hown hK.1 hP 0 rfl rfl 4 (by decide) (va_Nw.use rfl (hK.2 _ qn_89)) (fun _ h9 => h9) rfl dX8_isRotatedBack_13 ?_
  obtain ⟨r_3, hr_3, hm⟩ := hm_b hm
  refine k_S (as := [.long r_2, .int r_1, .int v_p1_isWide]) (rest := []) (ws' := [(a_p1, .inr (0, [.ref a_p1_cells, .ref a_p1_cellsBefore, .ref a_p1_page, .ref a_p1_reader, .int v_p1_isWide])), (a_p1_cells, .inl (cy 1, 8, .inr (.inl f_p1_cells))), (a_p1_cellsBefore, .inl (cy 1, 8, .inr (.inl f_p1_cellsBefore))), (a_p1_page, .inr (3, [.ref a_p1_page_bytes, .int v_p1_page_length])), (a_p1_page_bytes, .inl (cy 0, n_p1_page_bytes, .inl f_p1_page_bytes)), (a_p1_reader, .inr (2, [.long v_p1_reader_value]))]) (st2 := [.long r_3]) hx hb hml hown ht hK hP hD hS hA hC hR hl (kcX1_rotatedLeft l D cy g r_2 r_1 v_p1_isWide r_3 hr_3) [] q_811 q_753 q_60 q_754 hyX1_rotatedLeft ⟨Nat.le_of_ble_eq_true rfl, Nat.le_of_ble_eq_true rfl, Nat.le_of_ble_eq_true rfl, Nat.le_of_ble_eq_true rfl⟩ rfl rfl rfl rfl (Nat.le_of_ble_eq_true rfl) dX8_isRotatedBack_16 rfl rfl (fun H locs hP hD hS => ?_)
  refine lv_lstore_n (lv' := [(3, .long r_3), (2, .int r_1), (0, .ref a_p1), (1, .int p2)]) hx hb dX8_isRotatedBack_19 rfl hl (by decide) rfl (fun ls hl => ?_)
  refine lv_lload_n hx hb dX8_isRotatedBack_20 rfl (lv_at hl 0 rfl) ?_
  refine lv_iload_n hx hb dX8_isRotatedBack_21 rfl (lv_at hl 1 rfl) ?_
  refine lv_aload_n hx hb dX8_isRotatedBack_22 rfl (lv_at hl 2 rfl) ?_
  refine va_getN (D := D) (cl := classes) (ci := 0) (v := .int v_p1_isWide) (C := RX2) (T := TX2) (N := 5) hx hb ht in_RX2 hown hK.1 hP 0 rfl rfl 4 (by decide) (va_Nw.use rfl (hK.2 _ qn_89)) (fun _ h9 => h9) rfl dX8_isRotatedBack_23 ?_
  obtain ⟨r_4, hr_4, hm⟩ := hm_b hm
  refine k_S (as := [.long r_3, .int r_1, .int v_p1_isWide]) (rest := []) (ws' := [(a_p1, .inr (0, [.ref a_p1_cells, .ref a_p1_cellsBefore, .ref a_p1_page, .ref a_p1_reader, .int v_p1_isWide])), (a_p1_cells, .inl (cy 1, 8, .inr (.inl f_p1_cells))), (a_p1_cellsBefore, .inl (cy 1, 8, .inr (.inl f_p1_cellsBefore))), (a_p1_page, .inr (3, [.ref a_p1_page_bytes, .int v_p1_page_length])), (a_p1_page_bytes, .inl (cy 0, n_p1_page_bytes, .inl f_p1_page_bytes)), (a_p1_reader, .inr (2, [.long v_p1_reader_value]))]) (st2 := [.long r_4]) hx hb hml hown ht hK hP hD hS hA hC hR hl (kcX1_rotatedRight l D cy g r_3 r_1 v_p1_isWide r_4 hr_4) [] q_812 q_762 q_60 q_763 hyX1_rotatedRight ⟨Nat.le_of_ble_eq_true rfl, Nat.le_of_ble_eq_true rfl, Nat.le_of_ble_eq_true rfl, Nat.le_of_ble_eq_true rfl⟩ rfl rfl rfl rfl (Nat.le_of_ble_eq_true rfl) dX8_isRotatedBack_26 rfl rfl (fun H locs hP hD hS => ?_)
  refine lv_lstore (lv' := [(5, .long r_4), (3, .long r_3), (2, .int r_1), (0, .ref a_p1), (1, .int p2)]) hx hb dX8_isRotatedBack_29 hl (by decide) rfl (fun ls hl => ?_)
  refine lv_lload hx hb dX8_isRotatedBack_31 (lv_at hl 0 rfl) ?_
  refine lv_aload_n hx hb dX8_isRotatedBack_33 rfl (lv_at hl 3 rfl) ?_
  refine va_getN (D := D) (cl := classes) (ci := 0) (v := .int v_p1_isWide) (C := RX2) (T := TX2) (N := 5) hx hb ht in_RX2 hown hK.1 hP 0 rfl rfl 4 (by decide) (va_Nw.use rfl (hK.2 _ qn_89)) (fun _ h9 => h9) rfl dX8_isRotatedBack_34 ?_
  obtain ⟨r_5, hr_5, hm⟩ := hm_b hm
  refine k_S (as := [.long r_4, .int v_p1_isWide]) (rest := []) (ws' := [(a_p1, .inr (0, [.ref a_p1_cells, .ref a_p1_cellsBefore, .ref a_p1_page, .ref a_p1_reader, .int v_p1_isWide])), (a_p1_cells, .inl (cy 1, 8, .inr (.inl f_p1_cells))), (a_p1_cellsBefore, .inl (cy 1, 8, .inr (.inl f_p1_cellsBefore))), (a_p1_page, .inr (3, [.ref a_p1_page_bytes, .int v_p1_page_length])), (a_p1_page_bytes, .inl (cy 0, n_p1_page_bytes, .inl f_p1_page_bytes)), (a_p1_reader, .inr (2, [.long v_p1_reader_value]))]) (st2 := [.long r_5]) hx hb hml hown ht hK hP hD hS hA hC hR hl (kcX1_signed l D cy g r_4 v_p1_isWide r_5 hr_5) [] q_801 q_296 q_60 q_297 hyX1_signed ⟨Nat.le_of_ble_eq_true rfl, Nat.le_of_ble_eq_true rfl, Nat.le_of_ble_eq_true rfl, Nat.le_of_ble_eq_true rfl⟩ rfl rfl rfl rfl (Nat.le_of_ble_eq_true rfl) dX8_isRotatedBack_37 rfl rfl (fun H locs hP hD hS => ?_)
  refine lv_aload_n hx hb dX8_isRotatedBack_40 rfl (lv_at hl 3 rfl) ?_
  refine lv_iload_n hx hb dX8_isRotatedBack_41 rfl (lv_at hl 4 rfl) ?_
  obtain ⟨r_6, hr_6, hm⟩ := hm_b hm
  refine k_V (as := [.int p2]) (rest := [.long r_5]) (ws' := [(a_p1, .inr (0, [.ref a_p1_cells, .ref a_p1_cellsBefore, .ref a_p1_page, .ref a_p1_reader, .int v_p1_isWide])), (a_p1_cells, .inl (cy 1, 8, .inr (.inl f_p1_cells))), (a_p1_cellsBefore, .inl (cy 1, 8, .inr (.inl f_p1_cellsBefore))), (a_p1_page, .inr (3, [.ref a_p1_page_bytes, .int v_p1_page_length])), (a_p1_page_bytes, .inl (cy 0, n_p1_page_bytes, .inl f_p1_page_bytes)), (a_p1_reader, .inr (2, [.long v_p1_reader_value]))]) (st2 := [.long r_6, .long r_5]) (i0 := 0) hx hb hml hown ht hK hP hD hS hA hC hR hl (kcX2_signed l D cy g a_p1 a_p1_cells a_p1_cellsBefore a_p1_page a_p1_page_bytes a_p1_reader n_p1_page_bytes f_p1_cells f_p1_cellsBefore f_p1_page_bytes v_p1_page_length v_p1_reader_value v_p1_isWide p2 r_6 hr_6) [0, 1, 2, 3, 4, 5] q_802 q_288 q_289 q_44 q_290 hyX2_signed ⟨rfl, rfl, rfl⟩ ⟨Nat.le_of_ble_eq_true rfl, Nat.le_of_ble_eq_true rfl, Nat.le_of_ble_eq_true rfl, Nat.le_of_ble_eq_true rfl⟩ rfl rfl rfl rfl (Nat.le_of_ble_eq_true rfl) dX8_isRotatedBack_42 rfl rfl (fun H locs hP hD hS => ?_)
  refine W.lcmp hx hb dX8_isRotatedBack_45 ?_
  refine lv_if_ne (tgt := 53) hx hb dX8_isRotatedBack_46 (by decide) (fun c_7 => ?_) (fun c_7 => ?_)
  · replace hm := hm_f c_7 hm
    refine lv_iconst (v := 0) hx hb dX8_isRotatedBack_53 (by decide) ?_
    obtain rfl := Option.some.inj hm
    exact k_zret hx hb hr hlocks hQc rfl hP hS rfl rfl dX8_isRotatedBack_54
  · replace hm := hm_t c_7 hm
    refine lv_iconst (v := 1) hx hb dX8_isRotatedBack_49 (by decide) ?_
    refine lv_goto (tgt := 54) hx hb dX8_isRotatedBack_50 (by decide) ?_
    obtain rfl := Option.some.inj hm
    exact k_zret hx hb hr hlocks hQc rfl hP hS rfl rfl dX8_isRotatedBack_54
theorem dX8_isDivided_0 : decode cX8_isDivided 0 = .ok (.lload_n 2, 1) := by decide +kernel
theorem dX8_isDivided_1 : decode cX8_isDivided 1 = .ok (.lconst 0, 1) := by decide +kernel
theorem dX8_isDivided_2 : decode cX8_isDivided 2 = .ok (.lcmp, 1) := by decide +kernel
theorem dX8_isDivided_3 : decode cX8_isDivided 3 = .ok (.ifCond .ne 5, 3) := by decide +kernel
theorem dX8_isDivided_6 : decode cX8_isDivided 6 = .ok (.iconst 1, 1) := by decide +kernel
theorem dX8_isDivided_7 : decode cX8_isDivided 7 = .ok (.ireturn, 1) := by decide +kernel
theorem dX8_isDivided_8 : decode cX8_isDivided 8 = .ok (.lload_n 0, 1) := by decide +kernel
theorem dX8_isDivided_9 : decode cX8_isDivided 9 = .ok (.lload_n 2, 1) := by decide +kernel
theorem dX8_isDivided_10 : decode cX8_isDivided 10 = .ok (.invokestatic 105, 3) := by decide +kernel
theorem dX8_isDivided_13 : decode cX8_isDivided 13 = .ok (.lstore 4, 2) := by decide +kernel
theorem dX8_isDivided_15 : decode cX8_isDivided 15 = .ok (.lload 4, 2) := by decide +kernel
theorem dX8_isDivided_17 : decode cX8_isDivided 17 = .ok (.lload_n 2, 1) := by decide +kernel
theorem dX8_isDivided_18 : decode cX8_isDivided 18 = .ok (.lmul, 1) := by decide +kernel
theorem dX8_isDivided_19 : decode cX8_isDivided 19 = .ok (.lstore 6, 2) := by decide +kernel
theorem dX8_isDivided_21 : decode cX8_isDivided 21 = .ok (.lload 6, 2) := by decide +kernel
theorem dX8_isDivided_23 : decode cX8_isDivided 23 = .ok (.lload_n 0, 1) := by decide +kernel
theorem dX8_isDivided_24 : decode cX8_isDivided 24 = .ok (.invokestatic 109, 3) := by decide +kernel
theorem dX8_isDivided_27 : decode cX8_isDivided 27 = .ok (.ifCond .gt 18, 3) := by decide +kernel
theorem dX8_isDivided_30 : decode cX8_isDivided 30 = .ok (.lload_n 0, 1) := by decide +kernel
theorem dX8_isDivided_31 : decode cX8_isDivided 31 = .ok (.lload 6, 2) := by decide +kernel
theorem dX8_isDivided_33 : decode cX8_isDivided 33 = .ok (.lsub, 1) := by decide +kernel
theorem dX8_isDivided_34 : decode cX8_isDivided 34 = .ok (.lload_n 2, 1) := by decide +kernel
theorem dX8_isDivided_35 : decode cX8_isDivided 35 = .ok (.invokestatic 109, 3) := by decide +kernel
theorem dX8_isDivided_38 : decode cX8_isDivided 38 = .ok (.ifCond .ge 7, 3) := by decide +kernel
theorem dX8_isDivided_41 : decode cX8_isDivided 41 = .ok (.iconst 1, 1) := by decide +kernel
theorem dX8_isDivided_42 : decode cX8_isDivided 42 = .ok (.goto 4, 3) := by decide +kernel
theorem dX8_isDivided_45 : decode cX8_isDivided 45 = .ok (.iconst 0, 1) := by decide +kernel
theorem dX8_isDivided_46 : decode cX8_isDivided 46 = .ok (.ireturn, 1) := by decide +kernel
def mX8_isDivided (p1 : Int64) (p2 : Int64) : Option (Int32) := (if (lg_cmp p2 0) = 0 then some 1 else ((mX1_plainQuotient p1 p2).bind (fun r_2 => ((mX1_plainOrder (r_2 * p2) p1).bind (fun r_3 => (if (0 : Int32) < r_3 then some 0 else ((mX1_plainOrder (p1 - (r_2 * p2)) p2).bind (fun r_5 => (if (0 : Int32) ≤ r_5 then some 0 else some 1)))))))))
set_option maxHeartbeats 4000000 in
set_option maxRecDepth 100000 in
theorem kcX8_isDivided (l : Launch) (D : va_G) (cy : Nat → ClassId) (g : Nat → Nat) (p1 : Int64) (p2 : Int64) (R : Int32) (hm : mX8_isDivided p1 p2 = some R) : Con l D cy g yX8_isDivided cX8_isDivided 8 (some .boolean) 1 27 0 0 [.long p1, .long p2] [] [] (some (.int R)) := by
  refine Con.of (by decide +kernel) (Nat.le_of_ble_eq_true rfl) ?_
  intro p e RM s m ar below meth c A Qc ls hx hb hr hml hown hlocks hnm ht hK hP hD hS hA hR hC hQc hl
  have hown : s.vm.findClass RX8 = some m.cls := hown
  have hl : lv_has ls 8 [(0, .long p1), (2, .long p2)] := hl
  rw [mX8_isDivided] at hm
  refine lv_lload_n hx hb dX8_isDivided_0 rfl (lv_at hl 1 rfl) ?_
  refine lv_lconst (v := 0) hx hb dX8_isDivided_1 (by decide) ?_
  refine W.lcmp hx hb dX8_isDivided_2 ?_
  refine lv_if_ne (tgt := 8) hx hb dX8_isDivided_3 (by decide) (fun c_1 => ?_) (fun c_1 => ?_)
  · replace hm := hm_f c_1 hm
    refine lv_lload_n hx hb dX8_isDivided_8 rfl (lv_at hl 0 rfl) ?_
    refine lv_lload_n hx hb dX8_isDivided_9 rfl (lv_at hl 1 rfl) ?_
    obtain ⟨r_2, hr_2, hm⟩ := hm_b hm
    refine k_S (as := [.long p1, .long p2]) (rest := []) (ws' := []) (st2 := [.long r_2]) hx hb hml hown ht hK hP hD hS hA hC hR hl (kcX1_plainQuotient l D cy g p1 p2 r_2 hr_2) [] q_817 q_347 q_60 q_348 hyX1_plainQuotient ⟨Nat.le_of_ble_eq_true rfl, Nat.le_of_ble_eq_true rfl, Nat.le_of_ble_eq_true rfl, Nat.le_of_ble_eq_true rfl⟩ rfl rfl rfl rfl (Nat.le_of_ble_eq_true rfl) dX8_isDivided_10 rfl rfl (fun H locs hP hD hS => ?_)
    refine lv_lstore (lv' := [(4, .long r_2), (0, .long p1), (2, .long p2)]) hx hb dX8_isDivided_13 hl (by decide) rfl (fun ls hl => ?_)
    refine lv_lload hx hb dX8_isDivided_15 (lv_at hl 0 rfl) ?_
    refine lv_lload_n hx hb dX8_isDivided_17 rfl (lv_at hl 2 rfl) ?_
    refine lv_lmul hx hb dX8_isDivided_18 ?_
    refine lv_lstore (lv' := [(6, .long (r_2 * p2)), (4, .long r_2), (0, .long p1), (2, .long p2)]) hx hb dX8_isDivided_19 hl (by decide) rfl (fun ls hl => ?_)
    refine lv_lload hx hb dX8_isDivided_21 (lv_at hl 0 rfl) ?_
    refine lv_lload_n hx hb dX8_isDivided_23 rfl (lv_at hl 2 rfl) ?_
    obtain ⟨r_3, hr_3, hm⟩ := hm_b hm
    refine k_S (as := [.long (r_2 * p2), .long p1]) (rest := []) (ws' := []) (st2 := [.int r_3]) hx hb hml hown ht hK hP hD hS hA hC hR hl (kcX1_plainOrder l D cy g (r_2 * p2) p1 r_3 hr_3) [] q_818 q_383 q_60 q_384 hyX1_plainOrder ⟨Nat.le_of_ble_eq_true rfl, Nat.le_of_ble_eq_true rfl, Nat.le_of_ble_eq_true rfl, Nat.le_of_ble_eq_true rfl⟩ rfl rfl rfl rfl (Nat.le_of_ble_eq_true rfl) dX8_isDivided_24 rfl rfl (fun H locs hP hD hS => ?_)
    refine lv_if_gt (tgt := 45) hx hb dX8_isDivided_27 (by decide) (fun c_4 => ?_) (fun c_4 => ?_)
    · replace hm := hm_t c_4 hm
      refine lv_iconst (v := 0) hx hb dX8_isDivided_45 (by decide) ?_
      obtain rfl := Option.some.inj hm
      exact k_zret hx hb hr hlocks hQc rfl hP hS rfl rfl dX8_isDivided_46
    · replace hm := hm_f c_4 hm
      refine lv_lload_n hx hb dX8_isDivided_30 rfl (lv_at hl 2 rfl) ?_
      refine lv_lload hx hb dX8_isDivided_31 (lv_at hl 0 rfl) ?_
      refine lv_lsub hx hb dX8_isDivided_33 ?_
      refine lv_lload_n hx hb dX8_isDivided_34 rfl (lv_at hl 3 rfl) ?_
      obtain ⟨r_5, hr_5, hm⟩ := hm_b hm
      refine k_S (as := [.long (p1 - (r_2 * p2)), .long p2]) (rest := []) (ws' := []) (st2 := [.int r_5]) hx hb hml hown ht hK hP hD hS hA hC hR hl (kcX1_plainOrder l D cy g (p1 - (r_2 * p2)) p2 r_5 hr_5) [] q_818 q_383 q_60 q_384 hyX1_plainOrder ⟨Nat.le_of_ble_eq_true rfl, Nat.le_of_ble_eq_true rfl, Nat.le_of_ble_eq_true rfl, Nat.le_of_ble_eq_true rfl⟩ rfl rfl rfl rfl (Nat.le_of_ble_eq_true rfl) dX8_isDivided_35 rfl rfl (fun H locs hP hD hS => ?_)
      refine lv_if_ge (tgt := 45) hx hb dX8_isDivided_38 (by decide) (fun c_6 => ?_) (fun c_6 => ?_)
      · replace hm := hm_t c_6 hm
        refine lv_iconst (v := 0) hx hb dX8_isDivided_45 (by decide) ?_
        obtain rfl := Option.some.inj hm
        exact k_zret hx hb hr hlocks hQc rfl hP hS rfl rfl dX8_isDivided_46
      · replace hm := hm_f c_6 hm
        refine lv_iconst (v := 1) hx hb dX8_isDivided_41 (by decide) ?_
        refine lv_goto (tgt := 46) hx hb dX8_isDivided_42 (by decide) ?_
        obtain rfl := Option.some.inj hm
        exact k_zret hx hb hr hlocks hQc rfl hP hS rfl rfl dX8_isDivided_46
  · replace hm := hm_t c_1 hm
    refine lv_iconst (v := 1) hx hb dX8_isDivided_6 (by decide) ?_
    obtain rfl := Option.some.inj hm
    exact k_zret hx hb hr hlocks hQc rfl hP hS rfl rfl dX8_isDivided_7
theorem dX8_failures_0 : decode cX8_failures 0 = .ok (.iconst 0, 1) := by decide +kernel
theorem dX8_failures_1 : decode cX8_failures 1 = .ok (.istore_n 2, 1) := by decide +kernel
theorem dX8_failures_2 : decode cX8_failures 2 = .ok (.iconst 0, 1) := by decide +kernel
theorem dX8_failures_3 : decode cX8_failures 3 = .ok (.istore_n 3, 1) := by decide +kernel
theorem dX8_failures_4 : decode cX8_failures 4 = .ok (.iload_n 3, 1) := by decide +kernel
theorem dX8_failures_5 : decode cX8_failures 5 = .ok (.bipush 8, 2) := by decide +kernel
theorem dX8_failures_7 : decode cX8_failures 7 = .ok (.if_icmp .ge 151, 3) := by decide +kernel
theorem dX8_failures_10 : decode cX8_failures 10 = .ok (.iconst 2, 1) := by decide +kernel
theorem dX8_failures_11 : decode cX8_failures 11 = .ok (.istore 4, 2) := by decide +kernel
theorem dX8_failures_13 : decode cX8_failures 13 = .ok (.iload 4, 2) := by decide +kernel
theorem dX8_failures_15 : decode cX8_failures 15 = .ok (.bipush 36, 2) := by decide +kernel
theorem dX8_failures_17 : decode cX8_failures 17 = .ok (.if_icmp .gt 49, 3) := by decide +kernel
theorem dX8_failures_20 : decode cX8_failures 20 = .ok (.iload_n 2, 1) := by decide +kernel
theorem dX8_failures_21 : decode cX8_failures 21 = .ok (.aload_n 0, 1) := by decide +kernel
theorem dX8_failures_22 : decode cX8_failures 22 = .ok (.aload_n 1, 1) := by decide +kernel
theorem dX8_failures_23 : decode cX8_failures 23 = .ok (.iload_n 3, 1) := by decide +kernel
theorem dX8_failures_24 : decode cX8_failures 24 = .ok (.iload 4, 2) := by decide +kernel
theorem dX8_failures_26 : decode cX8_failures 26 = .ok (.iconst 0, 1) := by decide +kernel
theorem dX8_failures_27 : decode cX8_failures 27 = .ok (.invokevirtual 27, 3) := by decide +kernel
theorem dX8_failures_30 : decode cX8_failures 30 = .ok (.ifCond .eq 7, 3) := by decide +kernel
theorem dX8_failures_33 : decode cX8_failures 33 = .ok (.iconst 0, 1) := by decide +kernel
theorem dX8_failures_34 : decode cX8_failures 34 = .ok (.goto 4, 3) := by decide +kernel
theorem dX8_failures_37 : decode cX8_failures 37 = .ok (.iconst 1, 1) := by decide +kernel
theorem dX8_failures_38 : decode cX8_failures 38 = .ok (.iadd, 1) := by decide +kernel
theorem dX8_failures_39 : decode cX8_failures 39 = .ok (.istore_n 2, 1) := by decide +kernel
theorem dX8_failures_40 : decode cX8_failures 40 = .ok (.iload_n 2, 1) := by decide +kernel
theorem dX8_failures_41 : decode cX8_failures 41 = .ok (.aload_n 0, 1) := by decide +kernel
theorem dX8_failures_42 : decode cX8_failures 42 = .ok (.aload_n 1, 1) := by decide +kernel
theorem dX8_failures_43 : decode cX8_failures 43 = .ok (.iload_n 3, 1) := by decide +kernel
theorem dX8_failures_44 : decode cX8_failures 44 = .ok (.iload 4, 2) := by decide +kernel
theorem dX8_failures_46 : decode cX8_failures 46 = .ok (.iconst 1, 1) := by decide +kernel
theorem dX8_failures_47 : decode cX8_failures 47 = .ok (.invokevirtual 27, 3) := by decide +kernel
theorem dX8_failures_50 : decode cX8_failures 50 = .ok (.ifCond .eq 7, 3) := by decide +kernel
theorem dX8_failures_53 : decode cX8_failures 53 = .ok (.iconst 0, 1) := by decide +kernel
theorem dX8_failures_54 : decode cX8_failures 54 = .ok (.goto 4, 3) := by decide +kernel
theorem dX8_failures_57 : decode cX8_failures 57 = .ok (.iconst 1, 1) := by decide +kernel
theorem dX8_failures_58 : decode cX8_failures 58 = .ok (.iadd, 1) := by decide +kernel
theorem dX8_failures_59 : decode cX8_failures 59 = .ok (.istore_n 2, 1) := by decide +kernel
theorem dX8_failures_60 : decode cX8_failures 60 = .ok (.iinc 4 1, 3) := by decide +kernel
theorem dX8_failures_63 : decode cX8_failures 63 = .ok (.goto (-50), 3) := by decide +kernel
theorem dX8_failures_66 : decode cX8_failures 66 = .ok (.iload_n 2, 1) := by decide +kernel
theorem dX8_failures_67 : decode cX8_failures 67 = .ok (.aload_n 1, 1) := by decide +kernel
theorem dX8_failures_68 : decode cX8_failures 68 = .ok (.iload_n 3, 1) := by decide +kernel
theorem dX8_failures_69 : decode cX8_failures 69 = .ok (.invokestatic 31, 3) := by decide +kernel
theorem dX8_failures_72 : decode cX8_failures 72 = .ok (.ifCond .eq 7, 3) := by decide +kernel
theorem dX8_failures_75 : decode cX8_failures 75 = .ok (.iconst 0, 1) := by decide +kernel
theorem dX8_failures_76 : decode cX8_failures 76 = .ok (.goto 4, 3) := by decide +kernel
theorem dX8_failures_79 : decode cX8_failures 79 = .ok (.iconst 1, 1) := by decide +kernel
theorem dX8_failures_80 : decode cX8_failures 80 = .ok (.iadd, 1) := by decide +kernel
theorem dX8_failures_81 : decode cX8_failures 81 = .ok (.istore_n 2, 1) := by decide +kernel
theorem dX8_failures_82 : decode cX8_failures 82 = .ok (.iload_n 2, 1) := by decide +kernel
theorem dX8_failures_83 : decode cX8_failures 83 = .ok (.aload_n 1, 1) := by decide +kernel
theorem dX8_failures_84 : decode cX8_failures 84 = .ok (.iload_n 3, 1) := by decide +kernel
theorem dX8_failures_85 : decode cX8_failures 85 = .ok (.invokestatic 35, 3) := by decide +kernel
theorem dX8_failures_88 : decode cX8_failures 88 = .ok (.ifCond .eq 7, 3) := by decide +kernel
theorem dX8_failures_91 : decode cX8_failures 91 = .ok (.iconst 0, 1) := by decide +kernel
theorem dX8_failures_92 : decode cX8_failures 92 = .ok (.goto 4, 3) := by decide +kernel
theorem dX8_failures_95 : decode cX8_failures 95 = .ok (.iconst 1, 1) := by decide +kernel
theorem dX8_failures_96 : decode cX8_failures 96 = .ok (.iadd, 1) := by decide +kernel
theorem dX8_failures_97 : decode cX8_failures 97 = .ok (.istore_n 2, 1) := by decide +kernel
theorem dX8_failures_98 : decode cX8_failures 98 = .ok (.iload_n 2, 1) := by decide +kernel
theorem dX8_failures_99 : decode cX8_failures 99 = .ok (.aload_n 1, 1) := by decide +kernel
theorem dX8_failures_100 : decode cX8_failures 100 = .ok (.iload_n 3, 1) := by decide +kernel
theorem dX8_failures_101 : decode cX8_failures 101 = .ok (.invokestatic 38, 3) := by decide +kernel
theorem dX8_failures_104 : decode cX8_failures 104 = .ok (.ifCond .eq 7, 3) := by decide +kernel
theorem dX8_failures_107 : decode cX8_failures 107 = .ok (.iconst 0, 1) := by decide +kernel
theorem dX8_failures_108 : decode cX8_failures 108 = .ok (.goto 4, 3) := by decide +kernel
theorem dX8_failures_111 : decode cX8_failures 111 = .ok (.iconst 1, 1) := by decide +kernel
theorem dX8_failures_112 : decode cX8_failures 112 = .ok (.iadd, 1) := by decide +kernel
theorem dX8_failures_113 : decode cX8_failures 113 = .ok (.istore_n 2, 1) := by decide +kernel
theorem dX8_failures_114 : decode cX8_failures 114 = .ok (.iload_n 2, 1) := by decide +kernel
theorem dX8_failures_115 : decode cX8_failures 115 = .ok (.aload_n 1, 1) := by decide +kernel
theorem dX8_failures_116 : decode cX8_failures 116 = .ok (.iload_n 3, 1) := by decide +kernel
theorem dX8_failures_117 : decode cX8_failures 117 = .ok (.invokevirtual 41, 3) := by decide +kernel
theorem dX8_failures_120 : decode cX8_failures 120 = .ok (.aload_n 1, 1) := by decide +kernel
theorem dX8_failures_121 : decode cX8_failures 121 = .ok (.iload_n 3, 1) := by decide +kernel
theorem dX8_failures_122 : decode cX8_failures 122 = .ok (.iconst 1, 1) := by decide +kernel
theorem dX8_failures_123 : decode cX8_failures 123 = .ok (.iadd, 1) := by decide +kernel
theorem dX8_failures_124 : decode cX8_failures 124 = .ok (.bipush 8, 2) := by decide +kernel
theorem dX8_failures_126 : decode cX8_failures 126 = .ok (.if_icmp .ge 9, 3) := by decide +kernel
theorem dX8_failures_129 : decode cX8_failures 129 = .ok (.iload_n 3, 1) := by decide +kernel
theorem dX8_failures_130 : decode cX8_failures 130 = .ok (.iconst 1, 1) := by decide +kernel
theorem dX8_failures_131 : decode cX8_failures 131 = .ok (.iadd, 1) := by decide +kernel
theorem dX8_failures_132 : decode cX8_failures 132 = .ok (.goto 4, 3) := by decide +kernel
theorem dX8_failures_135 : decode cX8_failures 135 = .ok (.iconst 0, 1) := by decide +kernel
theorem dX8_failures_136 : decode cX8_failures 136 = .ok (.invokevirtual 41, 3) := by decide +kernel
theorem dX8_failures_139 : decode cX8_failures 139 = .ok (.invokestatic 47, 3) := by decide +kernel
theorem dX8_failures_142 : decode cX8_failures 142 = .ok (.ifCond .eq 7, 3) := by decide +kernel
theorem dX8_failures_145 : decode cX8_failures 145 = .ok (.iconst 0, 1) := by decide +kernel
theorem dX8_failures_146 : decode cX8_failures 146 = .ok (.goto 4, 3) := by decide +kernel
theorem dX8_failures_149 : decode cX8_failures 149 = .ok (.iconst 1, 1) := by decide +kernel
theorem dX8_failures_150 : decode cX8_failures 150 = .ok (.iadd, 1) := by decide +kernel
theorem dX8_failures_151 : decode cX8_failures 151 = .ok (.istore_n 2, 1) := by decide +kernel
theorem dX8_failures_152 : decode cX8_failures 152 = .ok (.iinc 3 1, 3) := by decide +kernel
theorem dX8_failures_155 : decode cX8_failures 155 = .ok (.goto (-151), 3) := by decide +kernel
theorem dX8_failures_158 : decode cX8_failures 158 = .ok (.iload_n 2, 1) := by decide +kernel
theorem dX8_failures_159 : decode cX8_failures 159 = .ok (.ireturn, 1) := by decide +kernel
def mX8_failures_L13 (k : Nat) (n_t_sheet_bytes : Nat) (f_p1_cells : Nat → Int64) (v_p1_isWide : Int32) (y_116 : Int32) : Nat → Int32 → Int32 → Int32 → Int64 → (Nat → Int32) → Option (Int32 × Int32 × Int64 × (Nat → Int32))
  | 0, _, _, _, _, _ => none
  | n_ + 1, y_144, y_145, y_146, y_147, y_148 => (if (36 : Int32) < y_145 then some (y_144, y_146, y_147, y_148) else ((mX8_isReadBack k n_t_sheet_bytes y_148 y_147 f_p1_cells v_p1_isWide y_116 y_145 0).bind (fun r_150 => (((if r_150.1 = 0 then some 1 else some 0) : Option (Int32)).bind (fun x_152 => ((some (y_144 + x_152) : Option Int32).bind (fun x_153 => ((mX8_isReadBack k n_t_sheet_bytes r_150.2.1 r_150.2.2.2 f_p1_cells v_p1_isWide y_116 y_145 1).bind (fun r_154 => (((if r_154.1 = 0 then some 1 else some 0) : Option (Int32)).bind (fun x_156 => ((some (x_153 + x_156) : Option Int32).bind (fun x_157 => (mX8_failures_L13 k n_t_sheet_bytes f_p1_cells v_p1_isWide y_116 n_ x_157 (y_145 + 1) r_154.2.2.1 r_154.2.2.2 r_154.2.1))))))))))))))
def mX8_failures_L4 (k : Nat) (n_t_sheet_bytes : Nat) (f_p1_cells : Nat → Int64) (v_p1_isWide : Int32) : Nat → Int32 → Int32 → Int32 → Int64 → (Nat → Int32) → Option (Int32 × Int32 × Int64 × (Nat → Int32))
  | 0, _, _, _, _, _ => none
  | n_ + 1, y_115, y_116, y_117, y_118, y_119 => (if (8 : Int32) ≤ y_116 then some (y_115, y_117, y_118, y_119) else ((mX8_failures_L13 k n_t_sheet_bytes f_p1_cells v_p1_isWide y_116 k y_115 2 y_117 y_118 y_119).bind (fun r_158 => ((mX8_isTurnedBack f_p1_cells v_p1_isWide y_116).bind (fun r_159 => (((if r_159 = 0 then some 1 else some 0) : Option (Int32)).bind (fun x_161 => ((some (r_158.1 + x_161) : Option Int32).bind (fun x_162 => ((mX8_areBytesTurnedBack f_p1_cells v_p1_isWide y_116).bind (fun r_163 => (((if r_163 = 0 then some 1 else some 0) : Option (Int32)).bind (fun x_165 => ((some (x_162 + x_165) : Option Int32).bind (fun x_166 => ((mX8_isRotatedBack f_p1_cells v_p1_isWide y_116).bind (fun r_167 => (((if r_167 = 0 then some 1 else some 0) : Option (Int32)).bind (fun x_169 => ((some (x_166 + x_169) : Option Int32).bind (fun x_170 => ((mX2_plain f_p1_cells v_p1_isWide y_116).bind (fun r_171 => (((if (8 : Int32) ≤ (y_116 + 1) then some 0 else some (y_116 + 1)) : Option (Int32)).bind (fun x_173 => ((mX2_plain f_p1_cells v_p1_isWide x_173).bind (fun r_174 => ((mX8_isDivided r_171 r_174).bind (fun r_175 => (((if r_175 = 0 then some 1 else some 0) : Option (Int32)).bind (fun x_177 => ((some (x_170 + x_177) : Option Int32).bind (fun x_178 => (mX8_failures_L4 k n_t_sheet_bytes f_p1_cells v_p1_isWide n_ x_178 (y_116 + 1) r_158.2.1 r_158.2.2.1 r_158.2.2.2))))))))))))))))))))))))))))))))))
def mX8_failures (k : Nat) (n_t_sheet_bytes : Nat) (f_t_sheet_bytes : Nat → Int32) (v_t_sheet_length : Int32) (v_t_reader_value : Int64) (f_p1_cells : Nat → Int64) (v_p1_isWide : Int32) : Option (Int32 × (Nat → Int32) × Int32 × Int64) := ((mX8_failures_L4 k n_t_sheet_bytes f_p1_cells v_p1_isWide k 0 0 v_t_sheet_length v_t_reader_value f_t_sheet_bytes).bind (fun r_179 => some (r_179.1, r_179.2.2.2, r_179.2.1, r_179.2.2.1)))
set_option maxHeartbeats 4000000 in
set_option maxRecDepth 100000 in
theorem kcX8_failures (l : Launch) (D : va_G) (cy : Nat → ClassId) (g : Nat → Nat) (a_t : Nat) (a_t_sheet : Nat) (a_t_sheet_bytes : Nat) (a_t_reader : Nat) (a_p1 : Nat) (a_p1_cells : Nat) (a_p1_cellsBefore : Nat) (a_p1_page : Nat) (a_p1_page_bytes : Nat) (a_p1_reader : Nat) (n_t_sheet_bytes : Nat) (n_p1_page_bytes : Nat) (f_t_sheet_bytes : Nat → Int32) (v_t_sheet_length : Int32) (v_t_reader_value : Int64) (f_p1_cells : Nat → Int64) (f_p1_cellsBefore : Nat → Int64) (f_p1_page_bytes : Nat → Int32) (v_p1_page_length : Int32) (v_p1_reader_value : Int64) (v_p1_isWide : Int32) (k : Nat) (R : Int32 × (Nat → Int32) × Int32 × Int64) (hm : mX8_failures k n_t_sheet_bytes f_t_sheet_bytes v_t_sheet_length v_t_reader_value f_p1_cells v_p1_isWide = some R) : Con l D cy g yX8_failures cX8_failures 5 (some .int) 4 93 0 0 [.ref a_t, .ref a_p1] [(a_t, .inr (5, [.ref a_t_sheet, .ref a_t_reader])), (a_t_sheet, .inr (3, [.ref a_t_sheet_bytes, .int v_t_sheet_length])), (a_t_sheet_bytes, .inl (cy 0, n_t_sheet_bytes, .inl f_t_sheet_bytes)), (a_t_reader, .inr (2, [.long v_t_reader_value])), (a_p1, .inr (0, [.ref a_p1_cells, .ref a_p1_cellsBefore, .ref a_p1_page, .ref a_p1_reader, .int v_p1_isWide])), (a_p1_cells, .inl (cy 1, 8, .inr (.inl f_p1_cells))), (a_p1_cellsBefore, .inl (cy 1, 8, .inr (.inl f_p1_cellsBefore))), (a_p1_page, .inr (3, [.ref a_p1_page_bytes, .int v_p1_page_length])), (a_p1_page_bytes, .inl (cy 0, n_p1_page_bytes, .inl f_p1_page_bytes)), (a_p1_reader, .inr (2, [.long v_p1_reader_value]))] [(a_t, .inr (5, [.ref a_t_sheet, .ref a_t_reader])), (a_t_sheet, .inr (3, [.ref a_t_sheet_bytes, .int R.2.2.1])), (a_t_sheet_bytes, .inl (cy 0, n_t_sheet_bytes, .inl R.2.1)), (a_t_reader, .inr (2, [.long R.2.2.2])), (a_p1, .inr (0, [.ref a_p1_cells, .ref a_p1_cellsBefore, .ref a_p1_page, .ref a_p1_reader, .int v_p1_isWide])), (a_p1_cells, .inl (cy 1, 8, .inr (.inl f_p1_cells))), (a_p1_cellsBefore, .inl (cy 1, 8, .inr (.inl f_p1_cellsBefore))), (a_p1_page, .inr (3, [.ref a_p1_page_bytes, .int v_p1_page_length])), (a_p1_page_bytes, .inl (cy 0, n_p1_page_bytes, .inl f_p1_page_bytes)), (a_p1_reader, .inr (2, [.long v_p1_reader_value]))] (some (.int R.1)) := by
  refine Con.of (by decide +kernel) (Nat.le_of_ble_eq_true rfl) ?_
  intro p e RM s m ar below meth c A Qc ls hx hb hr hml hown hlocks hnm ht hK hP hD hS hA hR hC hQc hl
  have hown : s.vm.findClass RX8 = some m.cls := hown
  have hl : lv_has ls 5 [(0, .ref a_t), (1, .ref a_p1)] := hl
  rw [mX8_failures] at hm
  refine lv_iconst (v := 0) hx hb dX8_failures_0 (by decide) ?_
  refine lv_istore_n (lv' := [(2, .int 0), (0, .ref a_t), (1, .ref a_p1)]) hx hb dX8_failures_1 rfl hl (by decide) rfl (fun ls hl => ?_)
  refine lv_iconst (v := 0) hx hb dX8_failures_2 (by decide) ?_
  refine lv_istore_n (lv' := [(3, .int 0), (2, .int 0), (0, .ref a_t), (1, .ref a_p1)]) hx hb dX8_failures_3 rfl hl (by decide) rfl (fun ls hl => ?_)
  have L4 : ∀ (rr : Int32 × Int32 × Int64 × (Nat → Int32)) (kk : ∀ (H : Heap) (locs : List Loc) (ls : Array Slot), va_P D classes [(a_t, .inr (5, [.ref a_t_sheet, .ref a_t_reader])), (a_t_sheet, .inr (3, [.ref a_t_sheet_bytes, .int rr.2.1])), (a_t_sheet_bytes, .inl (cy 0, n_t_sheet_bytes, .inl rr.2.2.2)), (a_t_reader, .inr (2, [.long rr.2.2.1])), (a_p1, .inr (0, [.ref a_p1_cells, .ref a_p1_cellsBefore, .ref a_p1_page, .ref a_p1_reader, .int v_p1_isWide])), (a_p1_cells, .inl (cy 1, 8, .inr (.inl f_p1_cells))), (a_p1_cellsBefore, .inl (cy 1, 8, .inr (.inl f_p1_cellsBefore))), (a_p1_page, .inr (3, [.ref a_p1_page_bytes, .int v_p1_page_length])), (a_p1_page_bytes, .inl (cy 0, n_p1_page_bytes, .inl f_p1_page_bytes)), (a_p1_reader, .inr (2, [.long v_p1_reader_value]))] H → va_D A [(a_t, .inr (5, [.ref a_t_sheet, .ref a_t_reader])), (a_t_sheet, .inr (3, [.ref a_t_sheet_bytes, .int rr.2.1])), (a_t_sheet_bytes, .inl (cy 0, n_t_sheet_bytes, .inl rr.2.2.2)), (a_t_reader, .inr (2, [.long rr.2.2.1])), (a_p1, .inr (0, [.ref a_p1_cells, .ref a_p1_cellsBefore, .ref a_p1_page, .ref a_p1_reader, .int v_p1_isWide])), (a_p1_cells, .inl (cy 1, 8, .inr (.inl f_p1_cells))), (a_p1_cellsBefore, .inl (cy 1, 8, .inr (.inl f_p1_cellsBefore))), (a_p1_page, .inr (3, [.ref a_p1_page_bytes, .int v_p1_page_length])), (a_p1_page_bytes, .inl (cy 0, n_p1_page_bytes, .inl f_p1_page_bytes)), (a_p1_reader, .inr (2, [.long v_p1_reader_value]))] → va_S A s.heap H locs → lv_has ls 5 [(2, .int rr.1)] → W p l e RM s m ar below meth c H locs 0 0 (MQ below Qc ar s 0 0 A) (F0 m 158 ls [])) (n_ : Nat), ∀ (y_115 : Int32) (y_116 : Int32) (y_117 : Int32) (y_118 : Int64) (y_119 : Nat → Int32), mX8_failures_L4 k n_t_sheet_bytes f_p1_cells v_p1_isWide n_ y_115 y_116 y_117 y_118 y_119 = some rr → ∀ (H : Heap) (locs : List Loc) (ls : Array Slot), va_P D classes [(a_t, .inr (5, [.ref a_t_sheet, .ref a_t_reader])), (a_t_sheet, .inr (3, [.ref a_t_sheet_bytes, .int y_117])), (a_t_sheet_bytes, .inl (cy 0, n_t_sheet_bytes, .inl y_119)), (a_t_reader, .inr (2, [.long y_118])), (a_p1, .inr (0, [.ref a_p1_cells, .ref a_p1_cellsBefore, .ref a_p1_page, .ref a_p1_reader, .int v_p1_isWide])), (a_p1_cells, .inl (cy 1, 8, .inr (.inl f_p1_cells))), (a_p1_cellsBefore, .inl (cy 1, 8, .inr (.inl f_p1_cellsBefore))), (a_p1_page, .inr (3, [.ref a_p1_page_bytes, .int v_p1_page_length])), (a_p1_page_bytes, .inl (cy 0, n_p1_page_bytes, .inl f_p1_page_bytes)), (a_p1_reader, .inr (2, [.long v_p1_reader_value]))] H → va_D A [(a_t, .inr (5, [.ref a_t_sheet, .ref a_t_reader])), (a_t_sheet, .inr (3, [.ref a_t_sheet_bytes, .int y_117])), (a_t_sheet_bytes, .inl (cy 0, n_t_sheet_bytes, .inl y_119)), (a_t_reader, .inr (2, [.long y_118])), (a_p1, .inr (0, [.ref a_p1_cells, .ref a_p1_cellsBefore, .ref a_p1_page, .ref a_p1_reader, .int v_p1_isWide])), (a_p1_cells, .inl (cy 1, 8, .inr (.inl f_p1_cells))), (a_p1_cellsBefore, .inl (cy 1, 8, .inr (.inl f_p1_cellsBefore))), (a_p1_page, .inr (3, [.ref a_p1_page_bytes, .int v_p1_page_length])), (a_p1_page_bytes, .inl (cy 0, n_p1_page_bytes, .inl f_p1_page_bytes)), (a_p1_reader, .inr (2, [.long v_p1_reader_value]))] → va_S A s.heap H locs → lv_has ls 5 [(3, .int y_116), (2, .int y_115), (0, .ref a_t), (1, .ref a_p1)] → W p l e RM s m ar below meth c H locs 0 0 (MQ below Qc ar s 0 0 A) (F0 m 4 ls []) := by
    intro rr kk n_
    induction n_ with
    | zero => intro y_115 y_116 y_117 y_118 y_119 hm; rw [mX8_failures_L4] at hm; cases hm
    | succ n_ ih =>
      intro y_115 y_116 y_117 y_118 y_119 hm H locs ls hP hD hS hl
      rw [mX8_failures_L4] at hm
      refine lv_iload_n hx hb dX8_failures_4 rfl (lv_at hl 0 rfl) ?_
      refine lv_bipush (v := 8) hx hb dX8_failures_5 (by decide) ?_
      refine lv_icmp_ge (tgt := 158) hx hb dX8_failures_7 (by decide) (fun c_120 => ?_) (fun c_120 => ?_)
      · replace hm := hm_t c_120 hm
        obtain rfl := Option.some.inj hm
        exact kk _ _ _ hP hD hS (lv_sub hl [1] rfl)
      · replace hm := hm_f c_120 hm
        refine lv_iconst (v := 2) hx hb dX8_failures_10 (by decide) ?_
        refine lv_istore (lv' := [(4, .int 2), (3, .int y_116), (2, .int y_115), (0, .ref a_t), (1, .ref a_p1)]) hx hb dX8_failures_11 hl (by decide) rfl (fun ls hl => ?_)
        have L13 : ∀ (rr : Int32 × Int32 × Int64 × (Nat → Int32)) (kk : ∀ (H : Heap) (locs : List Loc) (ls : Array Slot), va_P D classes [(a_t, .inr (5, [.ref a_t_sheet, .ref a_t_reader])), (a_t_sheet, .inr (3, [.ref a_t_sheet_bytes, .int rr.2.1])), (a_t_sheet_bytes, .inl (cy 0, n_t_sheet_bytes, .inl rr.2.2.2)), (a_t_reader, .inr (2, [.long rr.2.2.1])), (a_p1, .inr (0, [.ref a_p1_cells, .ref a_p1_cellsBefore, .ref a_p1_page, .ref a_p1_reader, .int v_p1_isWide])), (a_p1_cells, .inl (cy 1, 8, .inr (.inl f_p1_cells))), (a_p1_cellsBefore, .inl (cy 1, 8, .inr (.inl f_p1_cellsBefore))), (a_p1_page, .inr (3, [.ref a_p1_page_bytes, .int v_p1_page_length])), (a_p1_page_bytes, .inl (cy 0, n_p1_page_bytes, .inl f_p1_page_bytes)), (a_p1_reader, .inr (2, [.long v_p1_reader_value]))] H → va_D A [(a_t, .inr (5, [.ref a_t_sheet, .ref a_t_reader])), (a_t_sheet, .inr (3, [.ref a_t_sheet_bytes, .int rr.2.1])), (a_t_sheet_bytes, .inl (cy 0, n_t_sheet_bytes, .inl rr.2.2.2)), (a_t_reader, .inr (2, [.long rr.2.2.1])), (a_p1, .inr (0, [.ref a_p1_cells, .ref a_p1_cellsBefore, .ref a_p1_page, .ref a_p1_reader, .int v_p1_isWide])), (a_p1_cells, .inl (cy 1, 8, .inr (.inl f_p1_cells))), (a_p1_cellsBefore, .inl (cy 1, 8, .inr (.inl f_p1_cellsBefore))), (a_p1_page, .inr (3, [.ref a_p1_page_bytes, .int v_p1_page_length])), (a_p1_page_bytes, .inl (cy 0, n_p1_page_bytes, .inl f_p1_page_bytes)), (a_p1_reader, .inr (2, [.long v_p1_reader_value]))] → va_S A s.heap H locs → lv_has ls 5 [(3, .int y_116), (2, .int rr.1), (0, .ref a_t), (1, .ref a_p1)] → W p l e RM s m ar below meth c H locs 0 0 (MQ below Qc ar s 0 0 A) (F0 m 66 ls [])) (n_ : Nat), ∀ (y_144 : Int32) (y_145 : Int32) (y_146 : Int32) (y_147 : Int64) (y_148 : Nat → Int32), mX8_failures_L13 k n_t_sheet_bytes f_p1_cells v_p1_isWide y_116 n_ y_144 y_145 y_146 y_147 y_148 = some rr → ∀ (H : Heap) (locs : List Loc) (ls : Array Slot), va_P D classes [(a_t, .inr (5, [.ref a_t_sheet, .ref a_t_reader])), (a_t_sheet, .inr (3, [.ref a_t_sheet_bytes, .int y_146])), (a_t_sheet_bytes, .inl (cy 0, n_t_sheet_bytes, .inl y_148)), (a_t_reader, .inr (2, [.long y_147])), (a_p1, .inr (0, [.ref a_p1_cells, .ref a_p1_cellsBefore, .ref a_p1_page, .ref a_p1_reader, .int v_p1_isWide])), (a_p1_cells, .inl (cy 1, 8, .inr (.inl f_p1_cells))), (a_p1_cellsBefore, .inl (cy 1, 8, .inr (.inl f_p1_cellsBefore))), (a_p1_page, .inr (3, [.ref a_p1_page_bytes, .int v_p1_page_length])), (a_p1_page_bytes, .inl (cy 0, n_p1_page_bytes, .inl f_p1_page_bytes)), (a_p1_reader, .inr (2, [.long v_p1_reader_value]))] H → va_D A [(a_t, .inr (5, [.ref a_t_sheet, .ref a_t_reader])), (a_t_sheet, .inr (3, [.ref a_t_sheet_bytes, .int y_146])), (a_t_sheet_bytes, .inl (cy 0, n_t_sheet_bytes, .inl y_148)), (a_t_reader, .inr (2, [.long y_147])), (a_p1, .inr (0, [.ref a_p1_cells, .ref a_p1_cellsBefore, .ref a_p1_page, .ref a_p1_reader, .int v_p1_isWide])), (a_p1_cells, .inl (cy 1, 8, .inr (.inl f_p1_cells))), (a_p1_cellsBefore, .inl (cy 1, 8, .inr (.inl f_p1_cellsBefore))), (a_p1_page, .inr (3, [.ref a_p1_page_bytes, .int v_p1_page_length])), (a_p1_page_bytes, .inl (cy 0, n_p1_page_bytes, .inl f_p1_page_bytes)), (a_p1_reader, .inr (2, [.long v_p1_reader_value]))] → va_S A s.heap H locs → lv_has ls 5 [(4, .int y_145), (3, .int y_116), (2, .int y_144), (0, .ref a_t), (1, .ref a_p1)] → W p l e RM s m ar below meth c H locs 0 0 (MQ below Qc ar s 0 0 A) (F0 m 13 ls []) := by
          intro rr kk n_
          induction n_ with
          | zero => intro y_144 y_145 y_146 y_147 y_148 hm; rw [mX8_failures_L13] at hm; cases hm
          | succ n_ ih =>
            intro y_144 y_145 y_146 y_147 y_148 hm H locs ls hP hD hS hl
            rw [mX8_failures_L13] at hm
            refine lv_iload hx hb dX8_failures_13 (lv_at hl 0 rfl) ?_
            refine lv_bipush (v := 36) hx hb dX8_failures_15 (by decide) ?_
            refine lv_icmp_gt (tgt := 66) hx hb dX8_failures_17 (by decide) (fun c_149 => ?_) (fun c_149 => ?_)
            · replace hm := hm_t c_149 hm
              obtain rfl := Option.some.inj hm
              exact kk _ _ _ hP hD hS (lv_sub hl [1, 2, 3, 4] rfl)
            · replace hm := hm_f c_149 hm
              refine lv_iload_n hx hb dX8_failures_20 rfl (lv_at hl 2 rfl) ?_
              refine lv_aload_n hx hb dX8_failures_21 rfl (lv_at hl 3 rfl) ?_
              refine lv_aload_n hx hb dX8_failures_22 rfl (lv_at hl 4 rfl) ?_
              refine lv_iload_n hx hb dX8_failures_23 rfl (lv_at hl 1 rfl) ?_
              refine lv_iload hx hb dX8_failures_24 (lv_at hl 0 rfl) ?_
              refine lv_iconst (v := 0) hx hb dX8_failures_26 (by decide) ?_
              obtain ⟨r_150, hr_150, hm⟩ := hm_b hm
              refine k_V (as := [.ref a_p1, .int y_116, .int y_145, .int 0]) (rest := [.int y_144]) (ws' := [(a_t, .inr (5, [.ref a_t_sheet, .ref a_t_reader])), (a_t_sheet, .inr (3, [.ref a_t_sheet_bytes, .int r_150.2.2.1])), (a_t_sheet_bytes, .inl (cy 0, n_t_sheet_bytes, .inl r_150.2.1)), (a_t_reader, .inr (2, [.long r_150.2.2.2])), (a_p1, .inr (0, [.ref a_p1_cells, .ref a_p1_cellsBefore, .ref a_p1_page, .ref a_p1_reader, .int v_p1_isWide])), (a_p1_cells, .inl (cy 1, 8, .inr (.inl f_p1_cells))), (a_p1_cellsBefore, .inl (cy 1, 8, .inr (.inl f_p1_cellsBefore))), (a_p1_page, .inr (3, [.ref a_p1_page_bytes, .int v_p1_page_length])), (a_p1_page_bytes, .inl (cy 0, n_p1_page_bytes, .inl f_p1_page_bytes)), (a_p1_reader, .inr (2, [.long v_p1_reader_value]))]) (st2 := [.int r_150.1, .int y_144]) (i0 := 0) hx hb hml hown ht hK hP hD hS hA hC hR hl (kcX8_isReadBack l D cy g a_t a_t_sheet a_t_sheet_bytes a_t_reader a_p1 a_p1_cells a_p1_cellsBefore a_p1_page a_p1_page_bytes a_p1_reader n_t_sheet_bytes n_p1_page_bytes y_148 y_146 y_147 f_p1_cells f_p1_cellsBefore f_p1_page_bytes v_p1_page_length v_p1_reader_value v_p1_isWide y_116 y_145 0 k r_150 hr_150) [0, 1, 2, 3, 4, 5, 6, 7, 8, 9] q_788 q_790 q_12 q_53 q_791 hyX8_isReadBack ⟨rfl, rfl, rfl⟩ ⟨Nat.le_of_ble_eq_true rfl, Nat.le_of_ble_eq_true rfl, Nat.le_of_ble_eq_true rfl, Nat.le_of_ble_eq_true rfl⟩ rfl rfl rfl rfl (Nat.le_of_ble_eq_true rfl) dX8_failures_27 rfl rfl (fun H locs hP hD hS => ?_)
              obtain ⟨x_152, hreg, hm⟩ := hm_b hm
              have J38 : ∀ (H : Heap) (locs : List Loc) (ls : Array Slot), va_P D classes [(a_t, .inr (5, [.ref a_t_sheet, .ref a_t_reader])), (a_t_sheet, .inr (3, [.ref a_t_sheet_bytes, .int r_150.2.2.1])), (a_t_sheet_bytes, .inl (cy 0, n_t_sheet_bytes, .inl r_150.2.1)), (a_t_reader, .inr (2, [.long r_150.2.2.2])), (a_p1, .inr (0, [.ref a_p1_cells, .ref a_p1_cellsBefore, .ref a_p1_page, .ref a_p1_reader, .int v_p1_isWide])), (a_p1_cells, .inl (cy 1, 8, .inr (.inl f_p1_cells))), (a_p1_cellsBefore, .inl (cy 1, 8, .inr (.inl f_p1_cellsBefore))), (a_p1_page, .inr (3, [.ref a_p1_page_bytes, .int v_p1_page_length])), (a_p1_page_bytes, .inl (cy 0, n_p1_page_bytes, .inl f_p1_page_bytes)), (a_p1_reader, .inr (2, [.long v_p1_reader_value]))] H → va_D A [(a_t, .inr (5, [.ref a_t_sheet, .ref a_t_reader])), (a_t_sheet, .inr (3, [.ref a_t_sheet_bytes, .int r_150.2.2.1])), (a_t_sheet_bytes, .inl (cy 0, n_t_sheet_bytes, .inl r_150.2.1)), (a_t_reader, .inr (2, [.long r_150.2.2.2])), (a_p1, .inr (0, [.ref a_p1_cells, .ref a_p1_cellsBefore, .ref a_p1_page, .ref a_p1_reader, .int v_p1_isWide])), (a_p1_cells, .inl (cy 1, 8, .inr (.inl f_p1_cells))), (a_p1_cellsBefore, .inl (cy 1, 8, .inr (.inl f_p1_cellsBefore))), (a_p1_page, .inr (3, [.ref a_p1_page_bytes, .int v_p1_page_length])), (a_p1_page_bytes, .inl (cy 0, n_p1_page_bytes, .inl f_p1_page_bytes)), (a_p1_reader, .inr (2, [.long v_p1_reader_value]))] → va_S A s.heap H locs → lv_has ls 5 [(4, .int y_145), (3, .int y_116), (0, .ref a_t), (1, .ref a_p1)] → W p l e RM s m ar below meth c H locs 0 0 (MQ below Qc ar s 0 0 A) (F0 m 38 ls [.int x_152, .int y_144]) := by
                intro H locs ls hP hD hS hl
                refine lv_iadd hx hb dX8_failures_38 ?_
                obtain ⟨x_153, hx_, hm⟩ := hm_b hm
                refine k_topi (y := x_153) (Option.some.inj hx_) ?_
                refine lv_istore_n (lv' := [(2, .int x_153), (4, .int y_145), (3, .int y_116), (0, .ref a_t), (1, .ref a_p1)]) hx hb dX8_failures_39 rfl hl (by decide) rfl (fun ls hl => ?_)
                refine lv_iload_n hx hb dX8_failures_40 rfl (lv_at hl 0 rfl) ?_
                refine lv_aload_n hx hb dX8_failures_41 rfl (lv_at hl 3 rfl) ?_
                refine lv_aload_n hx hb dX8_failures_42 rfl (lv_at hl 4 rfl) ?_
                refine lv_iload_n hx hb dX8_failures_43 rfl (lv_at hl 2 rfl) ?_
                refine lv_iload hx hb dX8_failures_44 (lv_at hl 1 rfl) ?_
                refine lv_iconst (v := 1) hx hb dX8_failures_46 (by decide) ?_
                obtain ⟨r_154, hr_154, hm⟩ := hm_b hm
                refine k_V (as := [.ref a_p1, .int y_116, .int y_145, .int 1]) (rest := [.int x_153]) (ws' := [(a_t, .inr (5, [.ref a_t_sheet, .ref a_t_reader])), (a_t_sheet, .inr (3, [.ref a_t_sheet_bytes, .int r_154.2.2.1])), (a_t_sheet_bytes, .inl (cy 0, n_t_sheet_bytes, .inl r_154.2.1)), (a_t_reader, .inr (2, [.long r_154.2.2.2])), (a_p1, .inr (0, [.ref a_p1_cells, .ref a_p1_cellsBefore, .ref a_p1_page, .ref a_p1_reader, .int v_p1_isWide])), (a_p1_cells, .inl (cy 1, 8, .inr (.inl f_p1_cells))), (a_p1_cellsBefore, .inl (cy 1, 8, .inr (.inl f_p1_cellsBefore))), (a_p1_page, .inr (3, [.ref a_p1_page_bytes, .int v_p1_page_length])), (a_p1_page_bytes, .inl (cy 0, n_p1_page_bytes, .inl f_p1_page_bytes)), (a_p1_reader, .inr (2, [.long v_p1_reader_value]))]) (st2 := [.int r_154.1, .int x_153]) (i0 := 0) hx hb hml hown ht hK hP hD hS hA hC hR hl (kcX8_isReadBack l D cy g a_t a_t_sheet a_t_sheet_bytes a_t_reader a_p1 a_p1_cells a_p1_cellsBefore a_p1_page a_p1_page_bytes a_p1_reader n_t_sheet_bytes n_p1_page_bytes r_150.2.1 r_150.2.2.1 r_150.2.2.2 f_p1_cells f_p1_cellsBefore f_p1_page_bytes v_p1_page_length v_p1_reader_value v_p1_isWide y_116 y_145 1 k r_154 hr_154) [0, 1, 2, 3, 4, 5, 6, 7, 8, 9] q_788 q_790 q_12 q_53 q_791 hyX8_isReadBack ⟨rfl, rfl, rfl⟩ ⟨Nat.le_of_ble_eq_true rfl, Nat.le_of_ble_eq_true rfl, Nat.le_of_ble_eq_true rfl, Nat.le_of_ble_eq_true rfl⟩ rfl rfl rfl rfl (Nat.le_of_ble_eq_true rfl) dX8_failures_47 rfl rfl (fun H locs hP hD hS => ?_)
                obtain ⟨x_156, hreg, hm⟩ := hm_b hm
                have J58 : ∀ (H : Heap) (locs : List Loc) (ls : Array Slot), va_P D classes [(a_t, .inr (5, [.ref a_t_sheet, .ref a_t_reader])), (a_t_sheet, .inr (3, [.ref a_t_sheet_bytes, .int r_154.2.2.1])), (a_t_sheet_bytes, .inl (cy 0, n_t_sheet_bytes, .inl r_154.2.1)), (a_t_reader, .inr (2, [.long r_154.2.2.2])), (a_p1, .inr (0, [.ref a_p1_cells, .ref a_p1_cellsBefore, .ref a_p1_page, .ref a_p1_reader, .int v_p1_isWide])), (a_p1_cells, .inl (cy 1, 8, .inr (.inl f_p1_cells))), (a_p1_cellsBefore, .inl (cy 1, 8, .inr (.inl f_p1_cellsBefore))), (a_p1_page, .inr (3, [.ref a_p1_page_bytes, .int v_p1_page_length])), (a_p1_page_bytes, .inl (cy 0, n_p1_page_bytes, .inl f_p1_page_bytes)), (a_p1_reader, .inr (2, [.long v_p1_reader_value]))] H → va_D A [(a_t, .inr (5, [.ref a_t_sheet, .ref a_t_reader])), (a_t_sheet, .inr (3, [.ref a_t_sheet_bytes, .int r_154.2.2.1])), (a_t_sheet_bytes, .inl (cy 0, n_t_sheet_bytes, .inl r_154.2.1)), (a_t_reader, .inr (2, [.long r_154.2.2.2])), (a_p1, .inr (0, [.ref a_p1_cells, .ref a_p1_cellsBefore, .ref a_p1_page, .ref a_p1_reader, .int v_p1_isWide])), (a_p1_cells, .inl (cy 1, 8, .inr (.inl f_p1_cells))), (a_p1_cellsBefore, .inl (cy 1, 8, .inr (.inl f_p1_cellsBefore))), (a_p1_page, .inr (3, [.ref a_p1_page_bytes, .int v_p1_page_length])), (a_p1_page_bytes, .inl (cy 0, n_p1_page_bytes, .inl f_p1_page_bytes)), (a_p1_reader, .inr (2, [.long v_p1_reader_value]))] → va_S A s.heap H locs → lv_has ls 5 [(4, .int y_145), (3, .int y_116), (0, .ref a_t), (1, .ref a_p1)] → W p l e RM s m ar below meth c H locs 0 0 (MQ below Qc ar s 0 0 A) (F0 m 58 ls [.int x_156, .int x_153]) := by
                  intro H locs ls hP hD hS hl
                  refine lv_iadd hx hb dX8_failures_58 ?_
                  obtain ⟨x_157, hx_, hm⟩ := hm_b hm
                  refine k_topi (y := x_157) (Option.some.inj hx_) ?_
                  refine lv_istore_n (lv' := [(2, .int x_157), (4, .int y_145), (3, .int y_116), (0, .ref a_t), (1, .ref a_p1)]) hx hb dX8_failures_59 rfl hl (by decide) rfl (fun ls hl => ?_)
                  refine lv_iinc (v := (y_145 + 1)) (lv' := [(4, .int (y_145 + 1)), (2, .int x_157), (3, .int y_116), (0, .ref a_t), (1, .ref a_p1)]) hx hb dX8_failures_60 hl (k := 1) rfl rfl (by decide) rfl (fun ls hl => ?_)
                  refine lv_goto (tgt := 13) hx hb dX8_failures_63 (by decide) ?_
                  exact ih x_157 (y_145 + 1) r_154.2.2.1 r_154.2.2.2 r_154.2.1 hm _ _ _ hP hD hS (lv_sub hl [0, 2, 1, 3, 4] rfl)
                replace hm := hreg
                refine lv_if_eq (tgt := 57) hx hb dX8_failures_50 (by decide) (fun c_155 => ?_) (fun c_155 => ?_)
                · replace hm := hm_t c_155 hm
                  refine lv_iconst (v := 1) hx hb dX8_failures_57 (by decide) ?_
                  obtain rfl := Option.some.inj hm
                  exact J58 _ _ _ hP hD hS (lv_sub hl [1, 2, 3, 4] rfl)
                · replace hm := hm_f c_155 hm
                  refine lv_iconst (v := 0) hx hb dX8_failures_53 (by decide) ?_
                  refine lv_goto (tgt := 58) hx hb dX8_failures_54 (by decide) ?_
                  obtain rfl := Option.some.inj hm
                  exact J58 _ _ _ hP hD hS (lv_sub hl [1, 2, 3, 4] rfl)
              replace hm := hreg
              refine lv_if_eq (tgt := 37) hx hb dX8_failures_30 (by decide) (fun c_151 => ?_) (fun c_151 => ?_)
              · replace hm := hm_t c_151 hm
                refine lv_iconst (v := 1) hx hb dX8_failures_37 (by decide) ?_
                obtain rfl := Option.some.inj hm
                exact J38 _ _ _ hP hD hS (lv_sub hl [0, 1, 3, 4] rfl)
              · replace hm := hm_f c_151 hm
                refine lv_iconst (v := 0) hx hb dX8_failures_33 (by decide) ?_
                refine lv_goto (tgt := 38) hx hb dX8_failures_34 (by decide) ?_
                obtain rfl := Option.some.inj hm
                exact J38 _ _ _ hP hD hS (lv_sub hl [0, 1, 3, 4] rfl)
        obtain ⟨r_158, hL, hm⟩ := hm_b hm
        refine L13 r_158 ?_ k y_115 2 y_117 y_118 y_119 hL _ _ _ hP hD hS (lv_sub hl [0, 1, 2, 3, 4] rfl)
        intro H locs ls hP hD hS hl
        refine lv_iload_n hx hb dX8_failures_66 rfl (lv_at hl 1 rfl) ?_
        refine lv_aload_n hx hb dX8_failures_67 rfl (lv_at hl 3 rfl) ?_
        refine lv_iload_n hx hb dX8_failures_68 rfl (lv_at hl 0 rfl) ?_
        obtain ⟨r_159, hr_159, hm⟩ := hm_b hm
        refine k_S (as := [.ref a_p1, .int y_116]) (rest := [.int r_158.1]) (ws' := [(a_t, .inr (5, [.ref a_t_sheet, .ref a_t_reader])), (a_t_sheet, .inr (3, [.ref a_t_sheet_bytes, .int r_158.2.1])), (a_t_sheet_bytes, .inl (cy 0, n_t_sheet_bytes, .inl r_158.2.2.2)), (a_t_reader, .inr (2, [.long r_158.2.2.1])), (a_p1, .inr (0, [.ref a_p1_cells, .ref a_p1_cellsBefore, .ref a_p1_page, .ref a_p1_reader, .int v_p1_isWide])), (a_p1_cells, .inl (cy 1, 8, .inr (.inl f_p1_cells))), (a_p1_cellsBefore, .inl (cy 1, 8, .inr (.inl f_p1_cellsBefore))), (a_p1_page, .inr (3, [.ref a_p1_page_bytes, .int v_p1_page_length])), (a_p1_page_bytes, .inl (cy 0, n_p1_page_bytes, .inl f_p1_page_bytes)), (a_p1_reader, .inr (2, [.long v_p1_reader_value]))]) (st2 := [.int r_159, .int r_158.1]) hx hb hml hown ht hK hP hD hS hA hC hR hl (kcX8_isTurnedBack l D cy g a_p1 a_p1_cells a_p1_cellsBefore a_p1_page a_p1_page_bytes a_p1_reader n_p1_page_bytes f_p1_cells f_p1_cellsBefore f_p1_page_bytes v_p1_page_length v_p1_reader_value v_p1_isWide y_116 r_159 hr_159) [4, 5, 6, 7, 8, 9] q_796 q_797 q_53 q_798 hyX8_isTurnedBack ⟨Nat.le_of_ble_eq_true rfl, Nat.le_of_ble_eq_true rfl, Nat.le_of_ble_eq_true rfl, Nat.le_of_ble_eq_true rfl⟩ rfl rfl rfl rfl (Nat.le_of_ble_eq_true rfl) dX8_failures_69 rfl rfl (fun H locs hP hD hS => ?_)
        obtain ⟨x_161, hreg, hm⟩ := hm_b hm
        have J80 : ∀ (H : Heap) (locs : List Loc) (ls : Array Slot), va_P D classes [(a_t, .inr (5, [.ref a_t_sheet, .ref a_t_reader])), (a_t_sheet, .inr (3, [.ref a_t_sheet_bytes, .int r_158.2.1])), (a_t_sheet_bytes, .inl (cy 0, n_t_sheet_bytes, .inl r_158.2.2.2)), (a_t_reader, .inr (2, [.long r_158.2.2.1])), (a_p1, .inr (0, [.ref a_p1_cells, .ref a_p1_cellsBefore, .ref a_p1_page, .ref a_p1_reader, .int v_p1_isWide])), (a_p1_cells, .inl (cy 1, 8, .inr (.inl f_p1_cells))), (a_p1_cellsBefore, .inl (cy 1, 8, .inr (.inl f_p1_cellsBefore))), (a_p1_page, .inr (3, [.ref a_p1_page_bytes, .int v_p1_page_length])), (a_p1_page_bytes, .inl (cy 0, n_p1_page_bytes, .inl f_p1_page_bytes)), (a_p1_reader, .inr (2, [.long v_p1_reader_value]))] H → va_D A [(a_t, .inr (5, [.ref a_t_sheet, .ref a_t_reader])), (a_t_sheet, .inr (3, [.ref a_t_sheet_bytes, .int r_158.2.1])), (a_t_sheet_bytes, .inl (cy 0, n_t_sheet_bytes, .inl r_158.2.2.2)), (a_t_reader, .inr (2, [.long r_158.2.2.1])), (a_p1, .inr (0, [.ref a_p1_cells, .ref a_p1_cellsBefore, .ref a_p1_page, .ref a_p1_reader, .int v_p1_isWide])), (a_p1_cells, .inl (cy 1, 8, .inr (.inl f_p1_cells))), (a_p1_cellsBefore, .inl (cy 1, 8, .inr (.inl f_p1_cellsBefore))), (a_p1_page, .inr (3, [.ref a_p1_page_bytes, .int v_p1_page_length])), (a_p1_page_bytes, .inl (cy 0, n_p1_page_bytes, .inl f_p1_page_bytes)), (a_p1_reader, .inr (2, [.long v_p1_reader_value]))] → va_S A s.heap H locs → lv_has ls 5 [(3, .int y_116), (0, .ref a_t), (1, .ref a_p1)] → W p l e RM s m ar below meth c H locs 0 0 (MQ below Qc ar s 0 0 A) (F0 m 80 ls [.int x_161, .int r_158.1]) := by
          intro H locs ls hP hD hS hl
          refine lv_iadd hx hb dX8_failures_80 ?_
          obtain ⟨x_162, hx_, hm⟩ := hm_b hm
          refine k_topi (y := x_162) (Option.some.inj hx_) ?_
          refine lv_istore_n (lv' := [(2, .int x_162), (3, .int y_116), (0, .ref a_t), (1, .ref a_p1)]) hx hb dX8_failures_81 rfl hl (by decide) rfl (fun ls hl => ?_)
          refine lv_iload_n hx hb dX8_failures_82 rfl (lv_at hl 0 rfl) ?_
          refine lv_aload_n hx hb dX8_failures_83 rfl (lv_at hl 3 rfl) ?_
          refine lv_iload_n hx hb dX8_failures_84 rfl (lv_at hl 1 rfl) ?_
          obtain ⟨r_163, hr_163, hm⟩ := hm_b hm
          refine k_S (as := [.ref a_p1, .int y_116]) (rest := [.int x_162]) (ws' := [(a_t, .inr (5, [.ref a_t_sheet, .ref a_t_reader])), (a_t_sheet, .inr (3, [.ref a_t_sheet_bytes, .int r_158.2.1])), (a_t_sheet_bytes, .inl (cy 0, n_t_sheet_bytes, .inl r_158.2.2.2)), (a_t_reader, .inr (2, [.long r_158.2.2.1])), (a_p1, .inr (0, [.ref a_p1_cells, .ref a_p1_cellsBefore, .ref a_p1_page, .ref a_p1_reader, .int v_p1_isWide])), (a_p1_cells, .inl (cy 1, 8, .inr (.inl f_p1_cells))), (a_p1_cellsBefore, .inl (cy 1, 8, .inr (.inl f_p1_cellsBefore))), (a_p1_page, .inr (3, [.ref a_p1_page_bytes, .int v_p1_page_length])), (a_p1_page_bytes, .inl (cy 0, n_p1_page_bytes, .inl f_p1_page_bytes)), (a_p1_reader, .inr (2, [.long v_p1_reader_value]))]) (st2 := [.int r_163, .int x_162]) hx hb hml hown ht hK hP hD hS hA hC hR hl (kcX8_areBytesTurnedBack l D cy g a_p1 a_p1_cells a_p1_cellsBefore a_p1_page a_p1_page_bytes a_p1_reader n_p1_page_bytes f_p1_cells f_p1_cellsBefore f_p1_page_bytes v_p1_page_length v_p1_reader_value v_p1_isWide y_116 r_163 hr_163) [4, 5, 6, 7, 8, 9] q_803 q_804 q_53 q_805 hyX8_areBytesTurnedBack ⟨Nat.le_of_ble_eq_true rfl, Nat.le_of_ble_eq_true rfl, Nat.le_of_ble_eq_true rfl, Nat.le_of_ble_eq_true rfl⟩ rfl rfl rfl rfl (Nat.le_of_ble_eq_true rfl) dX8_failures_85 rfl rfl (fun H locs hP hD hS => ?_)
          obtain ⟨x_165, hreg, hm⟩ := hm_b hm
          have J96 : ∀ (H : Heap) (locs : List Loc) (ls : Array Slot), va_P D classes [(a_t, .inr (5, [.ref a_t_sheet, .ref a_t_reader])), (a_t_sheet, .inr (3, [.ref a_t_sheet_bytes, .int r_158.2.1])), (a_t_sheet_bytes, .inl (cy 0, n_t_sheet_bytes, .inl r_158.2.2.2)), (a_t_reader, .inr (2, [.long r_158.2.2.1])), (a_p1, .inr (0, [.ref a_p1_cells, .ref a_p1_cellsBefore, .ref a_p1_page, .ref a_p1_reader, .int v_p1_isWide])), (a_p1_cells, .inl (cy 1, 8, .inr (.inl f_p1_cells))), (a_p1_cellsBefore, .inl (cy 1, 8, .inr (.inl f_p1_cellsBefore))), (a_p1_page, .inr (3, [.ref a_p1_page_bytes, .int v_p1_page_length])), (a_p1_page_bytes, .inl (cy 0, n_p1_page_bytes, .inl f_p1_page_bytes)), (a_p1_reader, .inr (2, [.long v_p1_reader_value]))] H → va_D A [(a_t, .inr (5, [.ref a_t_sheet, .ref a_t_reader])), (a_t_sheet, .inr (3, [.ref a_t_sheet_bytes, .int r_158.2.1])), (a_t_sheet_bytes, .inl (cy 0, n_t_sheet_bytes, .inl r_158.2.2.2)), (a_t_reader, .inr (2, [.long r_158.2.2.1])), (a_p1, .inr (0, [.ref a_p1_cells, .ref a_p1_cellsBefore, .ref a_p1_page, .ref a_p1_reader, .int v_p1_isWide])), (a_p1_cells, .inl (cy 1, 8, .inr (.inl f_p1_cells))), (a_p1_cellsBefore, .inl (cy 1, 8, .inr (.inl f_p1_cellsBefore))), (a_p1_page, .inr (3, [.ref a_p1_page_bytes, .int v_p1_page_length])), (a_p1_page_bytes, .inl (cy 0, n_p1_page_bytes, .inl f_p1_page_bytes)), (a_p1_reader, .inr (2, [.long v_p1_reader_value]))] → va_S A s.heap H locs → lv_has ls 5 [(3, .int y_116), (0, .ref a_t), (1, .ref a_p1)] → W p l e RM s m ar below meth c H locs 0 0 (MQ below Qc ar s 0 0 A) (F0 m 96 ls [.int x_165, .int x_162]) := by
            intro H locs ls hP hD hS hl
            refine lv_iadd hx hb dX8_failures_96 ?_
            obtain ⟨x_166, hx_, hm⟩ := hm_b hm
            refine k_topi (y := x_166) (Option.some.inj hx_) ?_
            refine lv_istore_n (lv' := [(2, .int x_166), (3, .int y_116), (0, .ref a_t), (1, .ref a_p1)]) hx hb dX8_failures_97 rfl hl (by decide) rfl (fun ls hl => ?_)
            refine lv_iload_n hx hb dX8_failures_98 rfl (lv_at hl 0 rfl) ?_
            refine lv_aload_n hx hb dX8_failures_99 rfl (lv_at hl 3 rfl) ?_
            refine lv_iload_n hx hb dX8_failures_100 rfl (lv_at hl 1 rfl) ?_
            obtain ⟨r_167, hr_167, hm⟩ := hm_b hm
            refine k_S (as := [.ref a_p1, .int y_116]) (rest := [.int x_166]) (ws' := [(a_t, .inr (5, [.ref a_t_sheet, .ref a_t_reader])), (a_t_sheet, .inr (3, [.ref a_t_sheet_bytes, .int r_158.2.1])), (a_t_sheet_bytes, .inl (cy 0, n_t_sheet_bytes, .inl r_158.2.2.2)), (a_t_reader, .inr (2, [.long r_158.2.2.1])), (a_p1, .inr (0, [.ref a_p1_cells, .ref a_p1_cellsBefore, .ref a_p1_page, .ref a_p1_reader, .int v_p1_isWide])), (a_p1_cells, .inl (cy 1, 8, .inr (.inl f_p1_cells))), (a_p1_cellsBefore, .inl (cy 1, 8, .inr (.inl f_p1_cellsBefore))), (a_p1_page, .inr (3, [.ref a_p1_page_bytes, .int v_p1_page_length])), (a_p1_page_bytes, .inl (cy 0, n_p1_page_bytes, .inl f_p1_page_bytes)), (a_p1_reader, .inr (2, [.long v_p1_reader_value]))]) (st2 := [.int r_167, .int x_166]) hx hb hml hown ht hK hP hD hS hA hC hR hl (kcX8_isRotatedBack l D cy g a_p1 a_p1_cells a_p1_cellsBefore a_p1_page a_p1_page_bytes a_p1_reader n_p1_page_bytes f_p1_cells f_p1_cellsBefore f_p1_page_bytes v_p1_page_length v_p1_reader_value v_p1_isWide y_116 r_167 hr_167) [4, 5, 6, 7, 8, 9] q_807 q_808 q_53 q_809 hyX8_isRotatedBack ⟨Nat.le_of_ble_eq_true rfl, Nat.le_of_ble_eq_true rfl, Nat.le_of_ble_eq_true rfl, Nat.le_of_ble_eq_true rfl⟩ rfl rfl rfl rfl (Nat.le_of_ble_eq_true rfl) dX8_failures_101 rfl rfl (fun H locs hP hD hS => ?_)
            obtain ⟨x_169, hreg, hm⟩ := hm_b hm
            have J112 : ∀ (H : Heap) (locs : List Loc) (ls : Array Slot), va_P D classes [(a_t, .inr (5, [.ref a_t_sheet, .ref a_t_reader])), (a_t_sheet, .inr (3, [.ref a_t_sheet_bytes, .int r_158.2.1])), (a_t_sheet_bytes, .inl (cy 0, n_t_sheet_bytes, .inl r_158.2.2.2)), (a_t_reader, .inr (2, [.long r_158.2.2.1])), (a_p1, .inr (0, [.ref a_p1_cells, .ref a_p1_cellsBefore, .ref a_p1_page, .ref a_p1_reader, .int v_p1_isWide])), (a_p1_cells, .inl (cy 1, 8, .inr (.inl f_p1_cells))), (a_p1_cellsBefore, .inl (cy 1, 8, .inr (.inl f_p1_cellsBefore))), (a_p1_page, .inr (3, [.ref a_p1_page_bytes, .int v_p1_page_length])), (a_p1_page_bytes, .inl (cy 0, n_p1_page_bytes, .inl f_p1_page_bytes)), (a_p1_reader, .inr (2, [.long v_p1_reader_value]))] H → va_D A [(a_t, .inr (5, [.ref a_t_sheet, .ref a_t_reader])), (a_t_sheet, .inr (3, [.ref a_t_sheet_bytes, .int r_158.2.1])), (a_t_sheet_bytes, .inl (cy 0, n_t_sheet_bytes, .inl r_158.2.2.2)), (a_t_reader, .inr (2, [.long r_158.2.2.1])), (a_p1, .inr (0, [.ref a_p1_cells, .ref a_p1_cellsBefore, .ref a_p1_page, .ref a_p1_reader, .int v_p1_isWide])), (a_p1_cells, .inl (cy 1, 8, .inr (.inl f_p1_cells))), (a_p1_cellsBefore, .inl (cy 1, 8, .inr (.inl f_p1_cellsBefore))), (a_p1_page, .inr (3, [.ref a_p1_page_bytes, .int v_p1_page_length])), (a_p1_page_bytes, .inl (cy 0, n_p1_page_bytes, .inl f_p1_page_bytes)), (a_p1_reader, .inr (2, [.long v_p1_reader_value]))] → va_S A s.heap H locs → lv_has ls 5 [(3, .int y_116), (0, .ref a_t), (1, .ref a_p1)] → W p l e RM s m ar below meth c H locs 0 0 (MQ below Qc ar s 0 0 A) (F0 m 112 ls [.int x_169, .int x_166]) := by
              intro H locs ls hP hD hS hl
              refine lv_iadd hx hb dX8_failures_112 ?_
              obtain ⟨x_170, hx_, hm⟩ := hm_b hm
              refine k_topi (y := x_170) (Option.some.inj hx_) ?_
              refine lv_istore_n (lv' := [(2, .int x_170), (3, .int y_116), (0, .ref a_t), (1, .ref a_p1)]) hx hb dX8_failures_113 rfl hl (by decide) rfl (fun ls hl => ?_)
              refine lv_iload_n hx hb dX8_failures_114 rfl (lv_at hl 0 rfl) ?_
              refine lv_aload_n hx hb dX8_failures_115 rfl (lv_at hl 3 rfl) ?_
              refine lv_iload_n hx hb dX8_failures_116 rfl (lv_at hl 1 rfl) ?_
              obtain ⟨r_171, hr_171, hm⟩ := hm_b hm
              refine k_V (as := [.int y_116]) (rest := [.int x_170]) (ws' := [(a_t, .inr (5, [.ref a_t_sheet, .ref a_t_reader])), (a_t_sheet, .inr (3, [.ref a_t_sheet_bytes, .int r_158.2.1])), (a_t_sheet_bytes, .inl (cy 0, n_t_sheet_bytes, .inl r_158.2.2.2)), (a_t_reader, .inr (2, [.long r_158.2.2.1])), (a_p1, .inr (0, [.ref a_p1_cells, .ref a_p1_cellsBefore, .ref a_p1_page, .ref a_p1_reader, .int v_p1_isWide])), (a_p1_cells, .inl (cy 1, 8, .inr (.inl f_p1_cells))), (a_p1_cellsBefore, .inl (cy 1, 8, .inr (.inl f_p1_cellsBefore))), (a_p1_page, .inr (3, [.ref a_p1_page_bytes, .int v_p1_page_length])), (a_p1_page_bytes, .inl (cy 0, n_p1_page_bytes, .inl f_p1_page_bytes)), (a_p1_reader, .inr (2, [.long v_p1_reader_value]))]) (st2 := [.long r_171, .int x_170]) (i0 := 4) hx hb hml hown ht hK hP hD hS hA hC hR hl (kcX2_plain l D cy g a_p1 a_p1_cells a_p1_cellsBefore a_p1_page a_p1_page_bytes a_p1_reader n_p1_page_bytes f_p1_cells f_p1_cellsBefore f_p1_page_bytes v_p1_page_length v_p1_reader_value v_p1_isWide y_116 r_171 hr_171) [4, 5, 6, 7, 8, 9] q_813 q_331 q_332 q_44 q_333 hyX2_plain ⟨rfl, rfl, rfl⟩ ⟨Nat.le_of_ble_eq_true rfl, Nat.le_of_ble_eq_true rfl, Nat.le_of_ble_eq_true rfl, Nat.le_of_ble_eq_true rfl⟩ rfl rfl rfl rfl (Nat.le_of_ble_eq_true rfl) dX8_failures_117 rfl rfl (fun H locs hP hD hS => ?_)
              refine lv_aload_n hx hb dX8_failures_120 rfl (lv_at hl 3 rfl) ?_
              refine lv_iload_n hx hb dX8_failures_121 rfl (lv_at hl 1 rfl) ?_
              refine lv_iconst (v := 1) hx hb dX8_failures_122 (by decide) ?_
              refine lv_iadd hx hb dX8_failures_123 ?_
              refine lv_bipush (v := 8) hx hb dX8_failures_124 (by decide) ?_
              obtain ⟨x_173, hreg, hm⟩ := hm_b hm
              have J136 : ∀ (H : Heap) (locs : List Loc) (ls : Array Slot), va_P D classes [(a_t, .inr (5, [.ref a_t_sheet, .ref a_t_reader])), (a_t_sheet, .inr (3, [.ref a_t_sheet_bytes, .int r_158.2.1])), (a_t_sheet_bytes, .inl (cy 0, n_t_sheet_bytes, .inl r_158.2.2.2)), (a_t_reader, .inr (2, [.long r_158.2.2.1])), (a_p1, .inr (0, [.ref a_p1_cells, .ref a_p1_cellsBefore, .ref a_p1_page, .ref a_p1_reader, .int v_p1_isWide])), (a_p1_cells, .inl (cy 1, 8, .inr (.inl f_p1_cells))), (a_p1_cellsBefore, .inl (cy 1, 8, .inr (.inl f_p1_cellsBefore))), (a_p1_page, .inr (3, [.ref a_p1_page_bytes, .int v_p1_page_length])), (a_p1_page_bytes, .inl (cy 0, n_p1_page_bytes, .inl f_p1_page_bytes)), (a_p1_reader, .inr (2, [.long v_p1_reader_value]))] H → va_D A [(a_t, .inr (5, [.ref a_t_sheet, .ref a_t_reader])), (a_t_sheet, .inr (3, [.ref a_t_sheet_bytes, .int r_158.2.1])), (a_t_sheet_bytes, .inl (cy 0, n_t_sheet_bytes, .inl r_158.2.2.2)), (a_t_reader, .inr (2, [.long r_158.2.2.1])), (a_p1, .inr (0, [.ref a_p1_cells, .ref a_p1_cellsBefore, .ref a_p1_page, .ref a_p1_reader, .int v_p1_isWide])), (a_p1_cells, .inl (cy 1, 8, .inr (.inl f_p1_cells))), (a_p1_cellsBefore, .inl (cy 1, 8, .inr (.inl f_p1_cellsBefore))), (a_p1_page, .inr (3, [.ref a_p1_page_bytes, .int v_p1_page_length])), (a_p1_page_bytes, .inl (cy 0, n_p1_page_bytes, .inl f_p1_page_bytes)), (a_p1_reader, .inr (2, [.long v_p1_reader_value]))] → va_S A s.heap H locs → lv_has ls 5 [(3, .int y_116), (0, .ref a_t), (1, .ref a_p1)] → W p l e RM s m ar below meth c H locs 0 0 (MQ below Qc ar s 0 0 A) (F0 m 136 ls [.int x_173, .ref a_p1, .long r_171, .int x_170]) := by
                intro H locs ls hP hD hS hl
                obtain ⟨r_174, hr_174, hm⟩ := hm_b hm
                refine k_V (as := [.int x_173]) (rest := [.long r_171, .int x_170]) (ws' := [(a_t, .inr (5, [.ref a_t_sheet, .ref a_t_reader])), (a_t_sheet, .inr (3, [.ref a_t_sheet_bytes, .int r_158.2.1])), (a_t_sheet_bytes, .inl (cy 0, n_t_sheet_bytes, .inl r_158.2.2.2)), (a_t_reader, .inr (2, [.long r_158.2.2.1])), (a_p1, .inr (0, [.ref a_p1_cells, .ref a_p1_cellsBefore, .ref a_p1_page, .ref a_p1_reader, .int v_p1_isWide])), (a_p1_cells, .inl (cy 1, 8, .inr (.inl f_p1_cells))), (a_p1_cellsBefore, .inl (cy 1, 8, .inr (.inl f_p1_cellsBefore))), (a_p1_page, .inr (3, [.ref a_p1_page_bytes, .int v_p1_page_length])), (a_p1_page_bytes, .inl (cy 0, n_p1_page_bytes, .inl f_p1_page_bytes)), (a_p1_reader, .inr (2, [.long v_p1_reader_value]))]) (st2 := [.long r_174, .long r_171, .int x_170]) (i0 := 4) hx hb hml hown ht hK hP hD hS hA hC hR hl (kcX2_plain l D cy g a_p1 a_p1_cells a_p1_cellsBefore a_p1_page a_p1_page_bytes a_p1_reader n_p1_page_bytes f_p1_cells f_p1_cellsBefore f_p1_page_bytes v_p1_page_length v_p1_reader_value v_p1_isWide x_173 r_174 hr_174) [4, 5, 6, 7, 8, 9] q_813 q_331 q_332 q_44 q_333 hyX2_plain ⟨rfl, rfl, rfl⟩ ⟨Nat.le_of_ble_eq_true rfl, Nat.le_of_ble_eq_true rfl, Nat.le_of_ble_eq_true rfl, Nat.le_of_ble_eq_true rfl⟩ rfl rfl rfl rfl (Nat.le_of_ble_eq_true rfl) dX8_failures_136 rfl rfl (fun H locs hP hD hS => ?_)
                obtain ⟨r_175, hr_175, hm⟩ := hm_b hm
                refine k_S (as := [.long r_171, .long r_174]) (rest := [.int x_170]) (ws' := [(a_t, .inr (5, [.ref a_t_sheet, .ref a_t_reader])), (a_t_sheet, .inr (3, [.ref a_t_sheet_bytes, .int r_158.2.1])), (a_t_sheet_bytes, .inl (cy 0, n_t_sheet_bytes, .inl r_158.2.2.2)), (a_t_reader, .inr (2, [.long r_158.2.2.1])), (a_p1, .inr (0, [.ref a_p1_cells, .ref a_p1_cellsBefore, .ref a_p1_page, .ref a_p1_reader, .int v_p1_isWide])), (a_p1_cells, .inl (cy 1, 8, .inr (.inl f_p1_cells))), (a_p1_cellsBefore, .inl (cy 1, 8, .inr (.inl f_p1_cellsBefore))), (a_p1_page, .inr (3, [.ref a_p1_page_bytes, .int v_p1_page_length])), (a_p1_page_bytes, .inl (cy 0, n_p1_page_bytes, .inl f_p1_page_bytes)), (a_p1_reader, .inr (2, [.long v_p1_reader_value]))]) (st2 := [.int r_175, .int x_170]) hx hb hml hown ht hK hP hD hS hA hC hR hl (kcX8_isDivided l D cy g r_171 r_174 r_175 hr_175) [] q_814 q_815 q_53 q_816 hyX8_isDivided ⟨Nat.le_of_ble_eq_true rfl, Nat.le_of_ble_eq_true rfl, Nat.le_of_ble_eq_true rfl, Nat.le_of_ble_eq_true rfl⟩ rfl rfl rfl rfl (Nat.le_of_ble_eq_true rfl) dX8_failures_139 rfl rfl (fun H locs hP hD hS => ?_)
                obtain ⟨x_177, hreg, hm⟩ := hm_b hm
                have J150 : ∀ (H : Heap) (locs : List Loc) (ls : Array Slot), va_P D classes [(a_t, .inr (5, [.ref a_t_sheet, .ref a_t_reader])), (a_t_sheet, .inr (3, [.ref a_t_sheet_bytes, .int r_158.2.1])), (a_t_sheet_bytes, .inl (cy 0, n_t_sheet_bytes, .inl r_158.2.2.2)), (a_t_reader, .inr (2, [.long r_158.2.2.1])), (a_p1, .inr (0, [.ref a_p1_cells, .ref a_p1_cellsBefore, .ref a_p1_page, .ref a_p1_reader, .int v_p1_isWide])), (a_p1_cells, .inl (cy 1, 8, .inr (.inl f_p1_cells))), (a_p1_cellsBefore, .inl (cy 1, 8, .inr (.inl f_p1_cellsBefore))), (a_p1_page, .inr (3, [.ref a_p1_page_bytes, .int v_p1_page_length])), (a_p1_page_bytes, .inl (cy 0, n_p1_page_bytes, .inl f_p1_page_bytes)), (a_p1_reader, .inr (2, [.long v_p1_reader_value]))] H → va_D A [(a_t, .inr (5, [.ref a_t_sheet, .ref a_t_reader])), (a_t_sheet, .inr (3, [.ref a_t_sheet_bytes, .int r_158.2.1])), (a_t_sheet_bytes, .inl (cy 0, n_t_sheet_bytes, .inl r_158.2.2.2)), (a_t_reader, .inr (2, [.long r_158.2.2.1])), (a_p1, .inr (0, [.ref a_p1_cells, .ref a_p1_cellsBefore, .ref a_p1_page, .ref a_p1_reader, .int v_p1_isWide])), (a_p1_cells, .inl (cy 1, 8, .inr (.inl f_p1_cells))), (a_p1_cellsBefore, .inl (cy 1, 8, .inr (.inl f_p1_cellsBefore))), (a_p1_page, .inr (3, [.ref a_p1_page_bytes, .int v_p1_page_length])), (a_p1_page_bytes, .inl (cy 0, n_p1_page_bytes, .inl f_p1_page_bytes)), (a_p1_reader, .inr (2, [.long v_p1_reader_value]))] → va_S A s.heap H locs → lv_has ls 5 [(3, .int y_116), (0, .ref a_t), (1, .ref a_p1)] → W p l e RM s m ar below meth c H locs 0 0 (MQ below Qc ar s 0 0 A) (F0 m 150 ls [.int x_177, .int x_170]) := by
                  intro H locs ls hP hD hS hl
                  refine lv_iadd hx hb dX8_failures_150 ?_
                  obtain ⟨x_178, hx_, hm⟩ := hm_b hm
                  refine k_topi (y := x_178) (Option.some.inj hx_) ?_
                  refine lv_istore_n (lv' := [(2, .int x_178), (3, .int y_116), (0, .ref a_t), (1, .ref a_p1)]) hx hb dX8_failures_151 rfl hl (by decide) rfl (fun ls hl => ?_)
                  refine lv_iinc (v := (y_116 + 1)) (lv' := [(3, .int (y_116 + 1)), (2, .int x_178), (0, .ref a_t), (1, .ref a_p1)]) hx hb dX8_failures_152 hl (k := 1) rfl rfl (by decide) rfl (fun ls hl => ?_)
                  refine lv_goto (tgt := 4) hx hb dX8_failures_155 (by decide) ?_
                  exact ih x_178 (y_116 + 1) r_158.2.1 r_158.2.2.1 r_158.2.2.2 hm _ _ _ hP hD hS (lv_sub hl [0, 1, 2, 3] rfl)
                replace hm := hreg
                refine lv_if_eq (tgt := 149) hx hb dX8_failures_142 (by decide) (fun c_176 => ?_) (fun c_176 => ?_)
                · replace hm := hm_t c_176 hm
                  refine lv_iconst (v := 1) hx hb dX8_failures_149 (by decide) ?_
                  obtain rfl := Option.some.inj hm
                  exact J150 _ _ _ hP hD hS (lv_sub hl [0, 1, 2] rfl)
                · replace hm := hm_f c_176 hm
                  refine lv_iconst (v := 0) hx hb dX8_failures_145 (by decide) ?_
                  refine lv_goto (tgt := 150) hx hb dX8_failures_146 (by decide) ?_
                  obtain rfl := Option.some.inj hm
                  exact J150 _ _ _ hP hD hS (lv_sub hl [0, 1, 2] rfl)
              replace hm := hreg
              refine lv_icmp_ge (tgt := 135) hx hb dX8_failures_126 (by decide) (fun c_172 => ?_) (fun c_172 => ?_)
              · replace hm := hm_t c_172 hm
                refine lv_iconst (v := 0) hx hb dX8_failures_135 (by decide) ?_
                obtain rfl := Option.some.inj hm
                exact J136 _ _ _ hP hD hS (lv_sub hl [1, 2, 3] rfl)
              · replace hm := hm_f c_172 hm
                refine lv_iload_n hx hb dX8_failures_129 rfl (lv_at hl 1 rfl) ?_
                refine lv_iconst (v := 1) hx hb dX8_failures_130 (by decide) ?_
                refine lv_iadd hx hb dX8_failures_131 ?_
                refine lv_goto (tgt := 136) hx hb dX8_failures_132 (by decide) ?_
                obtain rfl := Option.some.inj hm
                exact J136 _ _ _ hP hD hS (lv_sub hl [1, 2, 3] rfl)
            replace hm := hreg
            refine lv_if_eq (tgt := 111) hx hb dX8_failures_104 (by decide) (fun c_168 => ?_) (fun c_168 => ?_)
            · replace hm := hm_t c_168 hm
              refine lv_iconst (v := 1) hx hb dX8_failures_111 (by decide) ?_
              obtain rfl := Option.some.inj hm
              exact J112 _ _ _ hP hD hS (lv_sub hl [1, 2, 3] rfl)
            · replace hm := hm_f c_168 hm
              refine lv_iconst (v := 0) hx hb dX8_failures_107 (by decide) ?_
              refine lv_goto (tgt := 112) hx hb dX8_failures_108 (by decide) ?_
              obtain rfl := Option.some.inj hm
              exact J112 _ _ _ hP hD hS (lv_sub hl [1, 2, 3] rfl)
          replace hm := hreg
          refine lv_if_eq (tgt := 95) hx hb dX8_failures_88 (by decide) (fun c_164 => ?_) (fun c_164 => ?_)
          · replace hm := hm_t c_164 hm
            refine lv_iconst (v := 1) hx hb dX8_failures_95 (by decide) ?_
            obtain rfl := Option.some.inj hm
            exact J96 _ _ _ hP hD hS (lv_sub hl [1, 2, 3] rfl)
          · replace hm := hm_f c_164 hm
            refine lv_iconst (v := 0) hx hb dX8_failures_91 (by decide) ?_
            refine lv_goto (tgt := 96) hx hb dX8_failures_92 (by decide) ?_
            obtain rfl := Option.some.inj hm
            exact J96 _ _ _ hP hD hS (lv_sub hl [1, 2, 3] rfl)
        replace hm := hreg
        refine lv_if_eq (tgt := 79) hx hb dX8_failures_72 (by decide) (fun c_160 => ?_) (fun c_160 => ?_)
        · replace hm := hm_t c_160 hm
          refine lv_iconst (v := 1) hx hb dX8_failures_79 (by decide) ?_
          obtain rfl := Option.some.inj hm
          exact J80 _ _ _ hP hD hS (lv_sub hl [0, 2, 3] rfl)
        · replace hm := hm_f c_160 hm
          refine lv_iconst (v := 0) hx hb dX8_failures_75 (by decide) ?_
          refine lv_goto (tgt := 80) hx hb dX8_failures_76 (by decide) ?_
          obtain rfl := Option.some.inj hm
          exact J80 _ _ _ hP hD hS (lv_sub hl [0, 2, 3] rfl)
  obtain ⟨r_179, hL, hm⟩ := hm_b hm
  refine L4 r_179 ?_ k 0 0 v_t_sheet_length v_t_reader_value f_t_sheet_bytes hL _ _ _ hP hD hS (lv_sub hl [0, 1, 2, 3] rfl)
  intro H locs ls hP hD hS hl
  refine lv_iload_n hx hb dX8_failures_158 rfl (lv_at hl 0 rfl) ?_
  obtain rfl := Option.some.inj hm
  exact k_iret hx hb hr hlocks hQc hP hS rfl rfl dX8_failures_159
theorem dX12_take_0 : decode cX12_take 0 = .ok (.aload_n 0, 1) := by decide +kernel
theorem dX12_take_1 : decode cX12_take 1 = .ok (.aload_n 1, 1) := by decide +kernel
theorem dX12_take_2 : decode cX12_take 2 = .ok (.getfield 39, 3) := by decide +kernel
theorem dX12_take_5 : decode cX12_take 5 = .ok (.putfield 39, 3) := by decide +kernel
theorem dX12_take_8 : decode cX12_take 8 = .ok (.iconst 0, 1) := by decide +kernel
theorem dX12_take_9 : decode cX12_take 9 = .ok (.istore_n 2, 1) := by decide +kernel
theorem dX12_take_10 : decode cX12_take 10 = .ok (.iload_n 2, 1) := by decide +kernel
theorem dX12_take_11 : decode cX12_take 11 = .ok (.bipush 8, 2) := by decide +kernel
theorem dX12_take_13 : decode cX12_take 13 = .ok (.if_icmp .ge 26, 3) := by decide +kernel
theorem dX12_take_16 : decode cX12_take 16 = .ok (.aload_n 1, 1) := by decide +kernel
theorem dX12_take_17 : decode cX12_take 17 = .ok (.getfield 11, 3) := by decide +kernel
theorem dX12_take_20 : decode cX12_take 20 = .ok (.iload_n 2, 1) := by decide +kernel
theorem dX12_take_21 : decode cX12_take 21 = .ok (.aaload, 1) := by decide +kernel
theorem dX12_take_22 : decode cX12_take 22 = .ok (.aload_n 0, 1) := by decide +kernel
theorem dX12_take_23 : decode cX12_take 23 = .ok (.getfield 11, 3) := by decide +kernel
theorem dX12_take_26 : decode cX12_take 26 = .ok (.iload_n 2, 1) := by decide +kernel
theorem dX12_take_27 : decode cX12_take 27 = .ok (.aaload, 1) := by decide +kernel
theorem dX12_take_28 : decode cX12_take 28 = .ok (.bipush 64, 2) := by decide +kernel
theorem dX12_take_30 : decode cX12_take 30 = .ok (.invokestatic 43, 3) := by decide +kernel
theorem dX12_take_33 : decode cX12_take 33 = .ok (.iinc 2 1, 3) := by decide +kernel
theorem dX12_take_36 : decode cX12_take 36 = .ok (.goto (-26), 3) := by decide +kernel
theorem dX12_take_39 : decode cX12_take 39 = .ok (.iconst 0, 1) := by decide +kernel
theorem dX12_take_40 : decode cX12_take 40 = .ok (.istore_n 2, 1) := by decide +kernel
theorem dX12_take_41 : decode cX12_take 41 = .ok (.iload_n 2, 1) := by decide +kernel
theorem dX12_take_42 : decode cX12_take 42 = .ok (.aload_n 1, 1) := by decide +kernel
theorem dX12_take_43 : decode cX12_take 43 = .ok (.getfield 47, 3) := by decide +kernel
theorem dX12_take_46 : decode cX12_take 46 = .ok (.if_icmp .ge 21, 3) := by decide +kernel
theorem dX12_take_49 : decode cX12_take 49 = .ok (.aload_n 0, 1) := by decide +kernel
theorem dX12_take_50 : decode cX12_take 50 = .ok (.getfield 16, 3) := by decide +kernel
theorem dX12_take_53 : decode cX12_take 53 = .ok (.iload_n 2, 1) := by decide +kernel
theorem dX12_take_54 : decode cX12_take 54 = .ok (.aload_n 1, 1) := by decide +kernel
theorem dX12_take_55 : decode cX12_take 55 = .ok (.getfield 16, 3) := by decide +kernel
theorem dX12_take_58 : decode cX12_take 58 = .ok (.iload_n 2, 1) := by decide +kernel
theorem dX12_take_59 : decode cX12_take 59 = .ok (.iaload, 1) := by decide +kernel
theorem dX12_take_60 : decode cX12_take 60 = .ok (.iastore, 1) := by decide +kernel
theorem dX12_take_61 : decode cX12_take 61 = .ok (.iinc 2 1, 3) := by decide +kernel
theorem dX12_take_64 : decode cX12_take 64 = .ok (.goto (-23), 3) := by decide +kernel
theorem dX12_take_67 : decode cX12_take 67 = .ok (.aload_n 0, 1) := by decide +kernel
theorem dX12_take_68 : decode cX12_take 68 = .ok (.aload_n 1, 1) := by decide +kernel
theorem dX12_take_69 : decode cX12_take 69 = .ok (.getfield 47, 3) := by decide +kernel
theorem dX12_take_72 : decode cX12_take 72 = .ok (.putfield 47, 3) := by decide +kernel
theorem dX12_take_75 : decode cX12_take 75 = .ok (.return_, 1) := by decide +kernel
def mX12_take_L10 (k : Nat) (B_p1 : Nat → Nat → Int32) : Nat → Int32 → (Nat → Nat → Int32) → Option ((Nat → Nat → Int32))
  | 0, _, _ => none
  | n_ + 1, y_11, y_12 => (if (8 : Int32) ≤ y_11 then some y_12 else (if y_11 < 0 ∨ 8 ≤ y_11.toNatClampNeg then none else (if y_11 < 0 ∨ 8 ≤ y_11.toNatClampNeg then none else ((mX13_copy k 64 64 (B_p1 y_11.toNatClampNeg) (y_12 y_11.toNatClampNeg) 64).bind (fun r_16 => (mX12_take_L10 k B_p1 n_ (y_11 + 1) (upR y_12 y_11.toNatClampNeg r_16)))))))
def mX12_take_L41 (v_p1_pageMany : Int32) (f_p1_page : Nat → Int32) : Nat → Int32 → (Nat → Int32) → Option ((Nat → Int32))
  | 0, _, _ => none
  | n_ + 1, y_22, y_23 => (if v_p1_pageMany ≤ y_22 then some y_23 else (if y_22 < 0 ∨ 66 ≤ y_22.toNatClampNeg then none else (if y_22 < 0 ∨ 66 ≤ y_22.toNatClampNeg then none else (mX12_take_L41 v_p1_pageMany f_p1_page n_ (y_22 + 1) (upd y_23 y_22.toNatClampNeg (f_p1_page y_22.toNatClampNeg))))))
def mX12_take (k : Nat) (B_t : Nat → Nat → Int32) (f_t_page : Nat → Int32) (v_p1_isWide : Int32) (B_p1 : Nat → Nat → Int32) (f_p1_page : Nat → Int32) (v_p1_pageMany : Int32) : Option (Int32 × (Nat → Nat → Int32) × (Nat → Int32) × Int32) := (if ¬ (v_p1_isWide = 0 ∨ v_p1_isWide = 1) then none else ((mX12_take_L10 k B_p1 k 0 B_t).bind (fun r_17 => ((mX12_take_L41 v_p1_pageMany f_p1_page k 0 f_t_page).bind (fun r_25 => some (v_p1_isWide, r_17, r_25, v_p1_pageMany))))))
set_option maxHeartbeats 4000000 in
set_option maxRecDepth 100000 in
theorem kcX12_take (l : Launch) (D : va_G) (cy : Nat → ClassId) (g : Nat → Nat) (a_t : Nat) (a_t_cells : Nat) (a_t_page : Nat) (a_t_digits : Nat) (a_t_found : Nat) (a_t_one : Nat) (a_t_other : Nat) (a_t_sum : Nat) (a_t_rest : Nat) (a_p1 : Nat) (a_p1_cells : Nat) (a_p1_page : Nat) (a_p1_digits : Nat) (a_p1_found : Nat) (a_p1_one : Nat) (a_p1_other : Nat) (a_p1_sum : Nat) (a_p1_rest : Nat) (rw_t : Nat → Nat) (rw_p1 : Nat → Nat) (v_t_isWide : Int32) (B_t : Nat → Nat → Int32) (f_t_page : Nat → Int32) (v_t_pageMany : Int32) (f_t_digits : Nat → Int32) (v_t_many : Int32) (v_t_isMinus : Int32) (f_t_found : Nat → Int32) (f_t_one : Nat → Int32) (f_t_other : Nat → Int32) (f_t_sum : Nat → Int32) (f_t_rest : Nat → Int32) (v_p1_isWide : Int32) (B_p1 : Nat → Nat → Int32) (f_p1_page : Nat → Int32) (v_p1_pageMany : Int32) (f_p1_digits : Nat → Int32) (v_p1_many : Int32) (v_p1_isMinus : Int32) (f_p1_found : Nat → Int32) (f_p1_one : Nat → Int32) (f_p1_other : Nat → Int32) (f_p1_sum : Nat → Int32) (f_p1_rest : Nat → Int32) (k : Nat) (R : Int32 × (Nat → Nat → Int32) × (Nat → Int32) × Int32) (hm : mX12_take k B_t f_t_page v_p1_isWide B_p1 f_p1_page v_p1_pageMany = some R) : Con l D cy g yX12_take cX12_take 3 none 1 23 0 0 [.ref a_t, .ref a_p1] (([(a_t, .inr (8, [.int v_t_isWide, .ref a_t_cells, .ref a_t_page, .int v_t_pageMany, .ref a_t_digits, .int v_t_many, .int v_t_isMinus, .ref a_t_found, .ref a_t_one, .ref a_t_other, .ref a_t_sum, .ref a_t_rest])), (a_t_cells, .inl (cy 5, 8, .inr (.inr (.inr (.inr (fun j => some (rw_t j))))))), (a_t_page, .inl (cy 0, 66, .inl f_t_page)), (a_t_digits, .inl (cy 0, 64, .inl f_t_digits)), (a_t_found, .inl (cy 2, 64, .inl f_t_found)), (a_t_one, .inl (cy 2, 65, .inl f_t_one)), (a_t_other, .inl (cy 2, 65, .inl f_t_other)), (a_t_sum, .inl (cy 2, 65, .inl f_t_sum)), (a_t_rest, .inl (cy 2, 65, .inl f_t_rest)), (a_p1, .inr (8, [.int v_p1_isWide, .ref a_p1_cells, .ref a_p1_page, .int v_p1_pageMany, .ref a_p1_digits, .int v_p1_many, .int v_p1_isMinus, .ref a_p1_found, .ref a_p1_one, .ref a_p1_other, .ref a_p1_sum, .ref a_p1_rest])), (a_p1_cells, .inl (cy 5, 8, .inr (.inr (.inr (.inr (fun j => some (rw_p1 j))))))), (a_p1_page, .inl (cy 0, 66, .inl f_p1_page)), (a_p1_digits, .inl (cy 0, 64, .inl f_p1_digits)), (a_p1_found, .inl (cy 2, 64, .inl f_p1_found)), (a_p1_one, .inl (cy 2, 65, .inl f_p1_one)), (a_p1_other, .inl (cy 2, 65, .inl f_p1_other)), (a_p1_sum, .inl (cy 2, 65, .inl f_p1_sum)), (a_p1_rest, .inl (cy 2, 65, .inl f_p1_rest))] : va_W) ++ (rowsW (cy 2) rw_t B_t ++ (rowsW (cy 2) rw_p1 B_p1 ++ ([] : va_W)))) (([(a_t, .inr (8, [.int R.1, .ref a_t_cells, .ref a_t_page, .int R.2.2.2, .ref a_t_digits, .int v_t_many, .int v_t_isMinus, .ref a_t_found, .ref a_t_one, .ref a_t_other, .ref a_t_sum, .ref a_t_rest])), (a_t_cells, .inl (cy 5, 8, .inr (.inr (.inr (.inr (fun j => some (rw_t j))))))), (a_t_page, .inl (cy 0, 66, .inl R.2.2.1)), (a_t_digits, .inl (cy 0, 64, .inl f_t_digits)), (a_t_found, .inl (cy 2, 64, .inl f_t_found)), (a_t_one, .inl (cy 2, 65, .inl f_t_one)), (a_t_other, .inl (cy 2, 65, .inl f_t_other)), (a_t_sum, .inl (cy 2, 65, .inl f_t_sum)), (a_t_rest, .inl (cy 2, 65, .inl f_t_rest)), (a_p1, .inr (8, [.int v_p1_isWide, .ref a_p1_cells, .ref a_p1_page, .int v_p1_pageMany, .ref a_p1_digits, .int v_p1_many, .int v_p1_isMinus, .ref a_p1_found, .ref a_p1_one, .ref a_p1_other, .ref a_p1_sum, .ref a_p1_rest])), (a_p1_cells, .inl (cy 5, 8, .inr (.inr (.inr (.inr (fun j => some (rw_p1 j))))))), (a_p1_page, .inl (cy 0, 66, .inl f_p1_page)), (a_p1_digits, .inl (cy 0, 64, .inl f_p1_digits)), (a_p1_found, .inl (cy 2, 64, .inl f_p1_found)), (a_p1_one, .inl (cy 2, 65, .inl f_p1_one)), (a_p1_other, .inl (cy 2, 65, .inl f_p1_other)), (a_p1_sum, .inl (cy 2, 65, .inl f_p1_sum)), (a_p1_rest, .inl (cy 2, 65, .inl f_p1_rest))] : va_W) ++ (rowsW (cy 2) rw_t R.2.1 ++ (rowsW (cy 2) rw_p1 B_p1 ++ ([] : va_W)))) none := by
  refine Con.of (by decide +kernel) (Nat.le_of_ble_eq_true rfl) ?_
  intro p e RM s m ar below meth c A Qc ls hx hb hr hml hown hlocks hnm ht hK hP hD hS hA hR hC hQc hl
  have hown : s.vm.findClass RX12 = some m.cls := hown
  have hl : lv_has ls 3 [(0, .ref a_t), (1, .ref a_p1)] := hl
  rw [mX12_take] at hm
  refine lv_aload_n hx hb dX12_take_0 rfl (lv_at hl 0 rfl) ?_
  refine lv_aload_n hx hb dX12_take_1 rfl (lv_at hl 1 rfl) ?_
  refine va_get (D := D) (cl := classes) (ci := 8) (v := .int v_p1_isWide) (C := RX12) (T := TX12) (N := 12) hx hb ht in_RX12 hown hK.1 hP 9 rfl rfl 0 (by decide) (ht _ q_1243) (fun _ h9 => h9) rfl dX12_take_2 ?_
  obtain ⟨hbz, hm⟩ := hm_g hm
  refine va_put (D := D) (cl := classes) (ci := 8) (v := .int v_p1_isWide) (ty := .boolean) (C := RX12) (T := TX12) (N := 12) hx hb ht in_RX12 tyX12 tyX12_ok nmX12 hown hK.1 hP hD hS 0 rfl rfl 0 (by decide) (ht _ q_1243) (fun _ h9 => h9) rfl (by decide +kernel) (k_narz hbz) (k_fitz hbz) (Nat.le_of_ble_eq_true rfl) dX12_take_5 (fun H locs hP hD hS => ?_)
  have hP : va_P D classes (([(a_t, .inr (8, [.int v_p1_isWide, .ref a_t_cells, .ref a_t_page, .int v_t_pageMany, .ref a_t_digits, .int v_t_many, .int v_t_isMinus, .ref a_t_found, .ref a_t_one, .ref a_t_other, .ref a_t_sum, .ref a_t_rest])), (a_t_cells, .inl (cy 5, 8, .inr (.inr (.inr (.inr (fun j => some (rw_t j))))))), (a_t_page, .inl (cy 0, 66, .inl f_t_page)), (a_t_digits, .inl (cy 0, 64, .inl f_t_digits)), (a_t_found, .inl (cy 2, 64, .inl f_t_found)), (a_t_one, .inl (cy 2, 65, .inl f_t_one)), (a_t_other, .inl (cy 2, 65, .inl f_t_other)), (a_t_sum, .inl (cy 2, 65, .inl f_t_sum)), (a_t_rest, .inl (cy 2, 65, .inl f_t_rest)), (a_p1, .inr (8, [.int v_p1_isWide, .ref a_p1_cells, .ref a_p1_page, .int v_p1_pageMany, .ref a_p1_digits, .int v_p1_many, .int v_p1_isMinus, .ref a_p1_found, .ref a_p1_one, .ref a_p1_other, .ref a_p1_sum, .ref a_p1_rest])), (a_p1_cells, .inl (cy 5, 8, .inr (.inr (.inr (.inr (fun j => some (rw_p1 j))))))), (a_p1_page, .inl (cy 0, 66, .inl f_p1_page)), (a_p1_digits, .inl (cy 0, 64, .inl f_p1_digits)), (a_p1_found, .inl (cy 2, 64, .inl f_p1_found)), (a_p1_one, .inl (cy 2, 65, .inl f_p1_one)), (a_p1_other, .inl (cy 2, 65, .inl f_p1_other)), (a_p1_sum, .inl (cy 2, 65, .inl f_p1_sum)), (a_p1_rest, .inl (cy 2, 65, .inl f_p1_rest))] : va_W) ++ (rowsW (cy 2) rw_t B_t ++ (rowsW (cy 2) rw_p1 B_p1 ++ ([] : va_W)))) H := hP
  have hD : va_D A (([(a_t, .inr (8, [.int v_p1_isWide, .ref a_t_cells, .ref a_t_page, .int v_t_pageMany, .ref a_t_digits, .int v_t_many, .int v_t_isMinus, .ref a_t_found, .ref a_t_one, .ref a_t_other, .ref a_t_sum, .ref a_t_rest])), (a_t_cells, .inl (cy 5, 8, .inr (.inr (.inr (.inr (fun j => some (rw_t j))))))), (a_t_page, .inl (cy 0, 66, .inl f_t_page)), (a_t_digits, .inl (cy 0, 64, .inl f_t_digits)), (a_t_found, .inl (cy 2, 64, .inl f_t_found)), (a_t_one, .inl (cy 2, 65, .inl f_t_one)), (a_t_other, .inl (cy 2, 65, .inl f_t_other)), (a_t_sum, .inl (cy 2, 65, .inl f_t_sum)), (a_t_rest, .inl (cy 2, 65, .inl f_t_rest)), (a_p1, .inr (8, [.int v_p1_isWide, .ref a_p1_cells, .ref a_p1_page, .int v_p1_pageMany, .ref a_p1_digits, .int v_p1_many, .int v_p1_isMinus, .ref a_p1_found, .ref a_p1_one, .ref a_p1_other, .ref a_p1_sum, .ref a_p1_rest])), (a_p1_cells, .inl (cy 5, 8, .inr (.inr (.inr (.inr (fun j => some (rw_p1 j))))))), (a_p1_page, .inl (cy 0, 66, .inl f_p1_page)), (a_p1_digits, .inl (cy 0, 64, .inl f_p1_digits)), (a_p1_found, .inl (cy 2, 64, .inl f_p1_found)), (a_p1_one, .inl (cy 2, 65, .inl f_p1_one)), (a_p1_other, .inl (cy 2, 65, .inl f_p1_other)), (a_p1_sum, .inl (cy 2, 65, .inl f_p1_sum)), (a_p1_rest, .inl (cy 2, 65, .inl f_p1_rest))] : va_W) ++ (rowsW (cy 2) rw_t B_t ++ (rowsW (cy 2) rw_p1 B_p1 ++ ([] : va_W)))) := hD
  refine lv_iconst (v := 0) hx hb dX12_take_8 (by decide) ?_
  refine lv_istore_n (lv' := [(2, .int 0), (0, .ref a_t), (1, .ref a_p1)]) hx hb dX12_take_9 rfl hl (by decide) rfl (fun ls hl => ?_)
  have L10 : ∀ (rr : (Nat → Nat → Int32)) (kk : ∀ (H : Heap) (locs : List Loc) (ls : Array Slot), va_P D classes (([(a_t, .inr (8, [.int v_p1_isWide, .ref a_t_cells, .ref a_t_page, .int v_t_pageMany, .ref a_t_digits, .int v_t_many, .int v_t_isMinus, .ref a_t_found, .ref a_t_one, .ref a_t_other, .ref a_t_sum, .ref a_t_rest])), (a_t_cells, .inl (cy 5, 8, .inr (.inr (.inr (.inr (fun j => some (rw_t j))))))), (a_t_page, .inl (cy 0, 66, .inl f_t_page)), (a_t_digits, .inl (cy 0, 64, .inl f_t_digits)), (a_t_found, .inl (cy 2, 64, .inl f_t_found)), (a_t_one, .inl (cy 2, 65, .inl f_t_one)), (a_t_other, .inl (cy 2, 65, .inl f_t_other)), (a_t_sum, .inl (cy 2, 65, .inl f_t_sum)), (a_t_rest, .inl (cy 2, 65, .inl f_t_rest)), (a_p1, .inr (8, [.int v_p1_isWide, .ref a_p1_cells, .ref a_p1_page, .int v_p1_pageMany, .ref a_p1_digits, .int v_p1_many, .int v_p1_isMinus, .ref a_p1_found, .ref a_p1_one, .ref a_p1_other, .ref a_p1_sum, .ref a_p1_rest])), (a_p1_cells, .inl (cy 5, 8, .inr (.inr (.inr (.inr (fun j => some (rw_p1 j))))))), (a_p1_page, .inl (cy 0, 66, .inl f_p1_page)), (a_p1_digits, .inl (cy 0, 64, .inl f_p1_digits)), (a_p1_found, .inl (cy 2, 64, .inl f_p1_found)), (a_p1_one, .inl (cy 2, 65, .inl f_p1_one)), (a_p1_other, .inl (cy 2, 65, .inl f_p1_other)), (a_p1_sum, .inl (cy 2, 65, .inl f_p1_sum)), (a_p1_rest, .inl (cy 2, 65, .inl f_p1_rest))] : va_W) ++ (rowsW (cy 2) rw_t rr ++ (rowsW (cy 2) rw_p1 B_p1 ++ ([] : va_W)))) H → va_D A (([(a_t, .inr (8, [.int v_p1_isWide, .ref a_t_cells, .ref a_t_page, .int v_t_pageMany, .ref a_t_digits, .int v_t_many, .int v_t_isMinus, .ref a_t_found, .ref a_t_one, .ref a_t_other, .ref a_t_sum, .ref a_t_rest])), (a_t_cells, .inl (cy 5, 8, .inr (.inr (.inr (.inr (fun j => some (rw_t j))))))), (a_t_page, .inl (cy 0, 66, .inl f_t_page)), (a_t_digits, .inl (cy 0, 64, .inl f_t_digits)), (a_t_found, .inl (cy 2, 64, .inl f_t_found)), (a_t_one, .inl (cy 2, 65, .inl f_t_one)), (a_t_other, .inl (cy 2, 65, .inl f_t_other)), (a_t_sum, .inl (cy 2, 65, .inl f_t_sum)), (a_t_rest, .inl (cy 2, 65, .inl f_t_rest)), (a_p1, .inr (8, [.int v_p1_isWide, .ref a_p1_cells, .ref a_p1_page, .int v_p1_pageMany, .ref a_p1_digits, .int v_p1_many, .int v_p1_isMinus, .ref a_p1_found, .ref a_p1_one, .ref a_p1_other, .ref a_p1_sum, .ref a_p1_rest])), (a_p1_cells, .inl (cy 5, 8, .inr (.inr (.inr (.inr (fun j => some (rw_p1 j))))))), (a_p1_page, .inl (cy 0, 66, .inl f_p1_page)), (a_p1_digits, .inl (cy 0, 64, .inl f_p1_digits)), (a_p1_found, .inl (cy 2, 64, .inl f_p1_found)), (a_p1_one, .inl (cy 2, 65, .inl f_p1_one)), (a_p1_other, .inl (cy 2, 65, .inl f_p1_other)), (a_p1_sum, .inl (cy 2, 65, .inl f_p1_sum)), (a_p1_rest, .inl (cy 2, 65, .inl f_p1_rest))] : va_W) ++ (rowsW (cy 2) rw_t rr ++ (rowsW (cy 2) rw_p1 B_p1 ++ ([] : va_W)))) → va_S A s.heap H locs → lv_has ls 3 [(0, .ref a_t), (1, .ref a_p1)] → W p l e RM s m ar below meth c H locs 0 0 (MQ below Qc ar s 0 0 A) (F0 m 39 ls [])) (n_ : Nat), ∀ (y_11 : Int32) (y_12 : Nat → Nat → Int32), mX12_take_L10 k B_p1 n_ y_11 y_12 = some rr → ∀ (H : Heap) (locs : List Loc) (ls : Array Slot), va_P D classes (([(a_t, .inr (8, [.int v_p1_isWide, .ref a_t_cells, .ref a_t_page, .int v_t_pageMany, .ref a_t_digits, .int v_t_many, .int v_t_isMinus, .ref a_t_found, .ref a_t_one, .ref a_t_other, .ref a_t_sum, .ref a_t_rest])), (a_t_cells, .inl (cy 5, 8, .inr (.inr (.inr (.inr (fun j => some (rw_t j))))))), (a_t_page, .inl (cy 0, 66, .inl f_t_page)), (a_t_digits, .inl (cy 0, 64, .inl f_t_digits)), (a_t_found, .inl (cy 2, 64, .inl f_t_found)), (a_t_one, .inl (cy 2, 65, .inl f_t_one)), (a_t_other, .inl (cy 2, 65, .inl f_t_other)), (a_t_sum, .inl (cy 2, 65, .inl f_t_sum)), (a_t_rest, .inl (cy 2, 65, .inl f_t_rest)), (a_p1, .inr (8, [.int v_p1_isWide, .ref a_p1_cells, .ref a_p1_page, .int v_p1_pageMany, .ref a_p1_digits, .int v_p1_many, .int v_p1_isMinus, .ref a_p1_found, .ref a_p1_one, .ref a_p1_other, .ref a_p1_sum, .ref a_p1_rest])), (a_p1_cells, .inl (cy 5, 8, .inr (.inr (.inr (.inr (fun j => some (rw_p1 j))))))), (a_p1_page, .inl (cy 0, 66, .inl f_p1_page)), (a_p1_digits, .inl (cy 0, 64, .inl f_p1_digits)), (a_p1_found, .inl (cy 2, 64, .inl f_p1_found)), (a_p1_one, .inl (cy 2, 65, .inl f_p1_one)), (a_p1_other, .inl (cy 2, 65, .inl f_p1_other)), (a_p1_sum, .inl (cy 2, 65, .inl f_p1_sum)), (a_p1_rest, .inl (cy 2, 65, .inl f_p1_rest))] : va_W) ++ (rowsW (cy 2) rw_t y_12 ++ (rowsW (cy 2) rw_p1 B_p1 ++ ([] : va_W)))) H → va_D A (([(a_t, .inr (8, [.int v_p1_isWide, .ref a_t_cells, .ref a_t_page, .int v_t_pageMany, .ref a_t_digits, .int v_t_many, .int v_t_isMinus, .ref a_t_found, .ref a_t_one, .ref a_t_other, .ref a_t_sum, .ref a_t_rest])), (a_t_cells, .inl (cy 5, 8, .inr (.inr (.inr (.inr (fun j => some (rw_t j))))))), (a_t_page, .inl (cy 0, 66, .inl f_t_page)), (a_t_digits, .inl (cy 0, 64, .inl f_t_digits)), (a_t_found, .inl (cy 2, 64, .inl f_t_found)), (a_t_one, .inl (cy 2, 65, .inl f_t_one)), (a_t_other, .inl (cy 2, 65, .inl f_t_other)), (a_t_sum, .inl (cy 2, 65, .inl f_t_sum)), (a_t_rest, .inl (cy 2, 65, .inl f_t_rest)), (a_p1, .inr (8, [.int v_p1_isWide, .ref a_p1_cells, .ref a_p1_page, .int v_p1_pageMany, .ref a_p1_digits, .int v_p1_many, .int v_p1_isMinus, .ref a_p1_found, .ref a_p1_one, .ref a_p1_other, .ref a_p1_sum, .ref a_p1_rest])), (a_p1_cells, .inl (cy 5, 8, .inr (.inr (.inr (.inr (fun j => some (rw_p1 j))))))), (a_p1_page, .inl (cy 0, 66, .inl f_p1_page)), (a_p1_digits, .inl (cy 0, 64, .inl f_p1_digits)), (a_p1_found, .inl (cy 2, 64, .inl f_p1_found)), (a_p1_one, .inl (cy 2, 65, .inl f_p1_one)), (a_p1_other, .inl (cy 2, 65, .inl f_p1_other)), (a_p1_sum, .inl (cy 2, 65, .inl f_p1_sum)), (a_p1_rest, .inl (cy 2, 65, .inl f_p1_rest))] : va_W) ++ (rowsW (cy 2) rw_t y_12 ++ (rowsW (cy 2) rw_p1 B_p1 ++ ([] : va_W)))) → va_S A s.heap H locs → lv_has ls 3 [(2, .int y_11), (0, .ref a_t), (1, .ref a_p1)] → W p l e RM s m ar below meth c H locs 0 0 (MQ below Qc ar s 0 0 A) (F0 m 10 ls []) := by
    intro rr kk n_
    induction n_ with
    | zero => intro y_11 y_12 hm; rw [mX12_take_L10] at hm; cases hm
    | succ n_ ih =>
      intro y_11 y_12 hm H locs ls hP hD hS hl
      rw [mX12_take_L10] at hm
      refine lv_iload_n hx hb dX12_take_10 rfl (lv_at hl 0 rfl) ?_
      refine lv_bipush (v := 8) hx hb dX12_take_11 (by decide) ?_
      refine lv_icmp_ge (tgt := 39) hx hb dX12_take_13 (by decide) (fun c_13 => ?_) (fun c_13 => ?_)
      · replace hm := hm_t c_13 hm
        obtain rfl := Option.some.inj hm
        exact kk _ _ _ hP hD hS (lv_sub hl [1, 2] rfl)
      · replace hm := hm_f c_13 hm
        refine lv_aload_n hx hb dX12_take_16 rfl (lv_at hl 2 rfl) ?_
        refine va_get (D := D) (cl := classes) (ci := 8) (v := .ref a_p1_cells) (C := RX12) (T := TX12) (N := 12) hx hb ht in_RX12 hown hK.1 hP 9 rfl rfl 1 (by decide) (ht _ q_1245) (fun _ h9 => h9) rfl dX12_take_17 ?_
        refine lv_iload_n hx hb dX12_take_20 rfl (lv_at hl 0 rfl) ?_
        obtain ⟨hin, hm⟩ := hm_g hm
        have hi_14 : y_11.toNatClampNeg < 8 := Nat.not_le.mp (fun q => hin (Or.inr q))
        refine k_aldA hx hb hK.1 hP 10 5 rfl rfl hin dX12_take_21 ?_
        refine lv_aload_n hx hb dX12_take_22 rfl (lv_at hl 1 rfl) ?_
        refine va_get (D := D) (cl := classes) (ci := 8) (v := .ref a_t_cells) (C := RX12) (T := TX12) (N := 12) hx hb ht in_RX12 hown hK.1 hP 0 rfl rfl 1 (by decide) (ht _ q_1245) (fun _ h9 => h9) rfl dX12_take_23 ?_
        refine lv_iload_n hx hb dX12_take_26 rfl (lv_at hl 0 rfl) ?_
        obtain ⟨hin, hm⟩ := hm_g hm
        have hi_15 : y_11.toNatClampNeg < 8 := Nat.not_le.mp (fun q => hin (Or.inr q))
        refine k_aldA hx hb hK.1 hP 1 5 rfl rfl hin dX12_take_27 ?_
        refine lv_bipush (v := 64) hx hb dX12_take_28 (by decide) ?_
        obtain ⟨r_16, hr_16, hm⟩ := hm_b hm
        refine k_SN (as := [.ref (rw_p1 y_11.toNatClampNeg), .ref (rw_t y_11.toNatClampNeg), .int 64]) (rest := []) (ws' := (([(a_t, .inr (8, [.int v_p1_isWide, .ref a_t_cells, .ref a_t_page, .int v_t_pageMany, .ref a_t_digits, .int v_t_many, .int v_t_isMinus, .ref a_t_found, .ref a_t_one, .ref a_t_other, .ref a_t_sum, .ref a_t_rest])), (a_t_cells, .inl (cy 5, 8, .inr (.inr (.inr (.inr (fun j => some (rw_t j))))))), (a_t_page, .inl (cy 0, 66, .inl f_t_page)), (a_t_digits, .inl (cy 0, 64, .inl f_t_digits)), (a_t_found, .inl (cy 2, 64, .inl f_t_found)), (a_t_one, .inl (cy 2, 65, .inl f_t_one)), (a_t_other, .inl (cy 2, 65, .inl f_t_other)), (a_t_sum, .inl (cy 2, 65, .inl f_t_sum)), (a_t_rest, .inl (cy 2, 65, .inl f_t_rest)), (a_p1, .inr (8, [.int v_p1_isWide, .ref a_p1_cells, .ref a_p1_page, .int v_p1_pageMany, .ref a_p1_digits, .int v_p1_many, .int v_p1_isMinus, .ref a_p1_found, .ref a_p1_one, .ref a_p1_other, .ref a_p1_sum, .ref a_p1_rest])), (a_p1_cells, .inl (cy 5, 8, .inr (.inr (.inr (.inr (fun j => some (rw_p1 j))))))), (a_p1_page, .inl (cy 0, 66, .inl f_p1_page)), (a_p1_digits, .inl (cy 0, 64, .inl f_p1_digits)), (a_p1_found, .inl (cy 2, 64, .inl f_p1_found)), (a_p1_one, .inl (cy 2, 65, .inl f_p1_one)), (a_p1_other, .inl (cy 2, 65, .inl f_p1_other)), (a_p1_sum, .inl (cy 2, 65, .inl f_p1_sum)), (a_p1_rest, .inl (cy 2, 65, .inl f_p1_rest))] : va_W) ++ (rowsW (cy 2) rw_t (upR y_12 y_11.toNatClampNeg r_16) ++ (rowsW (cy 2) rw_p1 B_p1 ++ ([] : va_W))))) (st2 := []) hx hb hml hown ht hK hP hD hS hA hC hR hl (kcX13_copy l D cy g (rw_p1 y_11.toNatClampNeg) (rw_t y_11.toNatClampNeg) 64 64 (B_p1 y_11.toNatClampNeg) (y_12 y_11.toNatClampNeg) 64 k r_16 hr_16) [26 + y_11.toNatClampNeg, 18 + y_11.toNatClampNeg] qn_1412 q_1455 q_54 q_1456 hyX13_copy ⟨Nat.le_of_ble_eq_true rfl, Nat.le_of_ble_eq_true rfl, Nat.le_of_ble_eq_true rfl, Nat.le_of_ble_eq_true rfl⟩ (nd2 (by omega)) (cs_cons (row_get1 rfl hi_14) (cs_cons (row_get0 rfl hi_15) cs_nil)) rfl rfl (Nat.le_of_ble_eq_true rfl) dX12_take_30 (ps_cons (set_same (row_get1 rfl hi_14)) (ps_cons (row_set0 rfl hi_15) ps_nil)) rfl (fun H locs hP hD hS => ?_)
        refine lv_iinc (v := (y_11 + 1)) (lv' := [(2, .int (y_11 + 1)), (0, .ref a_t), (1, .ref a_p1)]) hx hb dX12_take_33 hl (k := 0) rfl rfl (by decide) rfl (fun ls hl => ?_)
        refine lv_goto (tgt := 10) hx hb dX12_take_36 (by decide) ?_
        exact ih (y_11 + 1) (upR y_12 y_11.toNatClampNeg r_16) hm _ _ _ hP hD hS (lv_sub hl [0, 1, 2] rfl)
  obtain ⟨r_17, hL, hm⟩ := hm_b hm
  refine L10 r_17 ?_ k 0 B_t hL _ _ _ hP hD hS (lv_sub hl [0, 1, 2] rfl)
  intro H locs ls hP hD hS hl
  refine lv_iconst (v := 0) hx hb dX12_take_39 (by decide) ?_
  refine lv_istore_n (lv' := [(2, .int 0), (0, .ref a_t), (1, .ref a_p1)]) hx hb dX12_take_40 rfl hl (by decide) rfl (fun ls hl => ?_)
  have L41 : ∀ (rr : (Nat → Int32)) (kk : ∀ (H : Heap) (locs : List Loc) (ls : Array Slot), va_P D classes (([(a_t, .inr (8, [.int v_p1_isWide, .ref a_t_cells, .ref a_t_page, .int v_t_pageMany, .ref a_t_digits, .int v_t_many, .int v_t_isMinus, .ref a_t_found, .ref a_t_one, .ref a_t_other, .ref a_t_sum, .ref a_t_rest])), (a_t_cells, .inl (cy 5, 8, .inr (.inr (.inr (.inr (fun j => some (rw_t j))))))), (a_t_page, .inl (cy 0, 66, .inl rr)), (a_t_digits, .inl (cy 0, 64, .inl f_t_digits)), (a_t_found, .inl (cy 2, 64, .inl f_t_found)), (a_t_one, .inl (cy 2, 65, .inl f_t_one)), (a_t_other, .inl (cy 2, 65, .inl f_t_other)), (a_t_sum, .inl (cy 2, 65, .inl f_t_sum)), (a_t_rest, .inl (cy 2, 65, .inl f_t_rest)), (a_p1, .inr (8, [.int v_p1_isWide, .ref a_p1_cells, .ref a_p1_page, .int v_p1_pageMany, .ref a_p1_digits, .int v_p1_many, .int v_p1_isMinus, .ref a_p1_found, .ref a_p1_one, .ref a_p1_other, .ref a_p1_sum, .ref a_p1_rest])), (a_p1_cells, .inl (cy 5, 8, .inr (.inr (.inr (.inr (fun j => some (rw_p1 j))))))), (a_p1_page, .inl (cy 0, 66, .inl f_p1_page)), (a_p1_digits, .inl (cy 0, 64, .inl f_p1_digits)), (a_p1_found, .inl (cy 2, 64, .inl f_p1_found)), (a_p1_one, .inl (cy 2, 65, .inl f_p1_one)), (a_p1_other, .inl (cy 2, 65, .inl f_p1_other)), (a_p1_sum, .inl (cy 2, 65, .inl f_p1_sum)), (a_p1_rest, .inl (cy 2, 65, .inl f_p1_rest))] : va_W) ++ (rowsW (cy 2) rw_t r_17 ++ (rowsW (cy 2) rw_p1 B_p1 ++ ([] : va_W)))) H → va_D A (([(a_t, .inr (8, [.int v_p1_isWide, .ref a_t_cells, .ref a_t_page, .int v_t_pageMany, .ref a_t_digits, .int v_t_many, .int v_t_isMinus, .ref a_t_found, .ref a_t_one, .ref a_t_other, .ref a_t_sum, .ref a_t_rest])), (a_t_cells, .inl (cy 5, 8, .inr (.inr (.inr (.inr (fun j => some (rw_t j))))))), (a_t_page, .inl (cy 0, 66, .inl rr)), (a_t_digits, .inl (cy 0, 64, .inl f_t_digits)), (a_t_found, .inl (cy 2, 64, .inl f_t_found)), (a_t_one, .inl (cy 2, 65, .inl f_t_one)), (a_t_other, .inl (cy 2, 65, .inl f_t_other)), (a_t_sum, .inl (cy 2, 65, .inl f_t_sum)), (a_t_rest, .inl (cy 2, 65, .inl f_t_rest)), (a_p1, .inr (8, [.int v_p1_isWide, .ref a_p1_cells, .ref a_p1_page, .int v_p1_pageMany, .ref a_p1_digits, .int v_p1_many, .int v_p1_isMinus, .ref a_p1_found, .ref a_p1_one, .ref a_p1_other, .ref a_p1_sum, .ref a_p1_rest])), (a_p1_cells, .inl (cy 5, 8, .inr (.inr (.inr (.inr (fun j => some (rw_p1 j))))))), (a_p1_page, .inl (cy 0, 66, .inl f_p1_page)), (a_p1_digits, .inl (cy 0, 64, .inl f_p1_digits)), (a_p1_found, .inl (cy 2, 64, .inl f_p1_found)), (a_p1_one, .inl (cy 2, 65, .inl f_p1_one)), (a_p1_other, .inl (cy 2, 65, .inl f_p1_other)), (a_p1_sum, .inl (cy 2, 65, .inl f_p1_sum)), (a_p1_rest, .inl (cy 2, 65, .inl f_p1_rest))] : va_W) ++ (rowsW (cy 2) rw_t r_17 ++ (rowsW (cy 2) rw_p1 B_p1 ++ ([] : va_W)))) → va_S A s.heap H locs → lv_has ls 3 [(0, .ref a_t), (1, .ref a_p1)] → W p l e RM s m ar below meth c H locs 0 0 (MQ below Qc ar s 0 0 A) (F0 m 67 ls [])) (n_ : Nat), ∀ (y_22 : Int32) (y_23 : Nat → Int32), mX12_take_L41 v_p1_pageMany f_p1_page n_ y_22 y_23 = some rr → ∀ (H : Heap) (locs : List Loc) (ls : Array Slot), va_P D classes (([(a_t, .inr (8, [.int v_p1_isWide, .ref a_t_cells, .ref a_t_page, .int v_t_pageMany, .ref a_t_digits, .int v_t_many, .int v_t_isMinus, .ref a_t_found, .ref a_t_one, .ref a_t_other, .ref a_t_sum, .ref a_t_rest])), (a_t_cells, .inl (cy 5, 8, .inr (.inr (.inr (.inr (fun j => some (rw_t j))))))), (a_t_page, .inl (cy 0, 66, .inl y_23)), (a_t_digits, .inl (cy 0, 64, .inl f_t_digits)), (a_t_found, .inl (cy 2, 64, .inl f_t_found)), (a_t_one, .inl (cy 2, 65, .inl f_t_one)), (a_t_other, .inl (cy 2, 65, .inl f_t_other)), (a_t_sum, .inl (cy 2, 65, .inl f_t_sum)), (a_t_rest, .inl (cy 2, 65, .inl f_t_rest)), (a_p1, .inr (8, [.int v_p1_isWide, .ref a_p1_cells, .ref a_p1_page, .int v_p1_pageMany, .ref a_p1_digits, .int v_p1_many, .int v_p1_isMinus, .ref a_p1_found, .ref a_p1_one, .ref a_p1_other, .ref a_p1_sum, .ref a_p1_rest])), (a_p1_cells, .inl (cy 5, 8, .inr (.inr (.inr (.inr (fun j => some (rw_p1 j))))))), (a_p1_page, .inl (cy 0, 66, .inl f_p1_page)), (a_p1_digits, .inl (cy 0, 64, .inl f_p1_digits)), (a_p1_found, .inl (cy 2, 64, .inl f_p1_found)), (a_p1_one, .inl (cy 2, 65, .inl f_p1_one)), (a_p1_other, .inl (cy 2, 65, .inl f_p1_other)), (a_p1_sum, .inl (cy 2, 65, .inl f_p1_sum)), (a_p1_rest, .inl (cy 2, 65, .inl f_p1_rest))] : va_W) ++ (rowsW (cy 2) rw_t r_17 ++ (rowsW (cy 2) rw_p1 B_p1 ++ ([] : va_W)))) H → va_D A (([(a_t, .inr (8, [.int v_p1_isWide, .ref a_t_cells, .ref a_t_page, .int v_t_pageMany, .ref a_t_digits, .int v_t_many, .int v_t_isMinus, .ref a_t_found, .ref a_t_one, .ref a_t_other, .ref a_t_sum, .ref a_t_rest])), (a_t_cells, .inl (cy 5, 8, .inr (.inr (.inr (.inr (fun j => some (rw_t j))))))), (a_t_page, .inl (cy 0, 66, .inl y_23)), (a_t_digits, .inl (cy 0, 64, .inl f_t_digits)), (a_t_found, .inl (cy 2, 64, .inl f_t_found)), (a_t_one, .inl (cy 2, 65, .inl f_t_one)), (a_t_other, .inl (cy 2, 65, .inl f_t_other)), (a_t_sum, .inl (cy 2, 65, .inl f_t_sum)), (a_t_rest, .inl (cy 2, 65, .inl f_t_rest)), (a_p1, .inr (8, [.int v_p1_isWide, .ref a_p1_cells, .ref a_p1_page, .int v_p1_pageMany, .ref a_p1_digits, .int v_p1_many, .int v_p1_isMinus, .ref a_p1_found, .ref a_p1_one, .ref a_p1_other, .ref a_p1_sum, .ref a_p1_rest])), (a_p1_cells, .inl (cy 5, 8, .inr (.inr (.inr (.inr (fun j => some (rw_p1 j))))))), (a_p1_page, .inl (cy 0, 66, .inl f_p1_page)), (a_p1_digits, .inl (cy 0, 64, .inl f_p1_digits)), (a_p1_found, .inl (cy 2, 64, .inl f_p1_found)), (a_p1_one, .inl (cy 2, 65, .inl f_p1_one)), (a_p1_other, .inl (cy 2, 65, .inl f_p1_other)), (a_p1_sum, .inl (cy 2, 65, .inl f_p1_sum)), (a_p1_rest, .inl (cy 2, 65, .inl f_p1_rest))] : va_W) ++ (rowsW (cy 2) rw_t r_17 ++ (rowsW (cy 2) rw_p1 B_p1 ++ ([] : va_W)))) → va_S A s.heap H locs → lv_has ls 3 [(2, .int y_22), (0, .ref a_t), (1, .ref a_p1)] → W p l e RM s m ar below meth c H locs 0 0 (MQ below Qc ar s 0 0 A) (F0 m 41 ls []) := by
    intro rr kk n_
    induction n_ with
    | zero => intro y_22 y_23 hm; rw [mX12_take_L41] at hm; cases hm
    | succ n_ ih =>
      intro y_22 y_23 hm H locs ls hP hD hS hl
      rw [mX12_take_L41] at hm
      refine lv_iload_n hx hb dX12_take_41 rfl (lv_at hl 0 rfl) ?_
      refine lv_aload_n hx hb dX12_take_42 rfl (lv_at hl 2 rfl) ?_
      refine va_get (D := D) (cl := classes) (ci := 8) (v := .int v_p1_pageMany) (C := RX12) (T := TX12) (N := 12) hx hb ht in_RX12 hown hK.1 hP 9 rfl rfl 3 (by decide) (ht _ q_1249) (fun _ h9 => h9) rfl dX12_take_43 ?_
      refine lv_icmp_ge (tgt := 67) hx hb dX12_take_46 (by decide) (fun c_24 => ?_) (fun c_24 => ?_)
      · replace hm := hm_t c_24 hm
        obtain rfl := Option.some.inj hm
        exact kk _ _ _ hP hD hS (lv_sub hl [1, 2] rfl)
      · replace hm := hm_f c_24 hm
        refine lv_aload_n hx hb dX12_take_49 rfl (lv_at hl 1 rfl) ?_
        refine va_get (D := D) (cl := classes) (ci := 8) (v := .ref a_t_page) (C := RX12) (T := TX12) (N := 12) hx hb ht in_RX12 hown hK.1 hP 0 rfl rfl 2 (by decide) (ht _ q_1247) (fun _ h9 => h9) rfl dX12_take_50 ?_
        refine lv_iload_n hx hb dX12_take_53 rfl (lv_at hl 0 rfl) ?_
        refine lv_aload_n hx hb dX12_take_54 rfl (lv_at hl 2 rfl) ?_
        refine va_get (D := D) (cl := classes) (ci := 8) (v := .ref a_p1_page) (C := RX12) (T := TX12) (N := 12) hx hb ht in_RX12 hown hK.1 hP 9 rfl rfl 2 (by decide) (ht _ q_1247) (fun _ h9 => h9) rfl dX12_take_55 ?_
        refine lv_iload_n hx hb dX12_take_58 rfl (lv_at hl 0 rfl) ?_
        obtain ⟨hin, hm⟩ := hm_g hm
        refine va_iald hx hb hK.1 hP 11 0 rfl rfl hin dX12_take_59 ?_
        obtain ⟨hin, hm⟩ := hm_g hm
        refine va_iast hx hb hK.1 hP hD hS 2 0 rfl rfl hin dX12_take_60 (fun H locs hP hD hS => ?_)
        have hP : va_P D classes (([(a_t, .inr (8, [.int v_p1_isWide, .ref a_t_cells, .ref a_t_page, .int v_t_pageMany, .ref a_t_digits, .int v_t_many, .int v_t_isMinus, .ref a_t_found, .ref a_t_one, .ref a_t_other, .ref a_t_sum, .ref a_t_rest])), (a_t_cells, .inl (cy 5, 8, .inr (.inr (.inr (.inr (fun j => some (rw_t j))))))), (a_t_page, .inl (cy 0, 66, .inl (upd y_23 y_22.toNatClampNeg (f_p1_page y_22.toNatClampNeg)))), (a_t_digits, .inl (cy 0, 64, .inl f_t_digits)), (a_t_found, .inl (cy 2, 64, .inl f_t_found)), (a_t_one, .inl (cy 2, 65, .inl f_t_one)), (a_t_other, .inl (cy 2, 65, .inl f_t_other)), (a_t_sum, .inl (cy 2, 65, .inl f_t_sum)), (a_t_rest, .inl (cy 2, 65, .inl f_t_rest)), (a_p1, .inr (8, [.int v_p1_isWide, .ref a_p1_cells, .ref a_p1_page, .int v_p1_pageMany, .ref a_p1_digits, .int v_p1_many, .int v_p1_isMinus, .ref a_p1_found, .ref a_p1_one, .ref a_p1_other, .ref a_p1_sum, .ref a_p1_rest])), (a_p1_cells, .inl (cy 5, 8, .inr (.inr (.inr (.inr (fun j => some (rw_p1 j))))))), (a_p1_page, .inl (cy 0, 66, .inl f_p1_page)), (a_p1_digits, .inl (cy 0, 64, .inl f_p1_digits)), (a_p1_found, .inl (cy 2, 64, .inl f_p1_found)), (a_p1_one, .inl (cy 2, 65, .inl f_p1_one)), (a_p1_other, .inl (cy 2, 65, .inl f_p1_other)), (a_p1_sum, .inl (cy 2, 65, .inl f_p1_sum)), (a_p1_rest, .inl (cy 2, 65, .inl f_p1_rest))] : va_W) ++ (rowsW (cy 2) rw_t r_17 ++ (rowsW (cy 2) rw_p1 B_p1 ++ ([] : va_W)))) H := hP
        have hD : va_D A (([(a_t, .inr (8, [.int v_p1_isWide, .ref a_t_cells, .ref a_t_page, .int v_t_pageMany, .ref a_t_digits, .int v_t_many, .int v_t_isMinus, .ref a_t_found, .ref a_t_one, .ref a_t_other, .ref a_t_sum, .ref a_t_rest])), (a_t_cells, .inl (cy 5, 8, .inr (.inr (.inr (.inr (fun j => some (rw_t j))))))), (a_t_page, .inl (cy 0, 66, .inl (upd y_23 y_22.toNatClampNeg (f_p1_page y_22.toNatClampNeg)))), (a_t_digits, .inl (cy 0, 64, .inl f_t_digits)), (a_t_found, .inl (cy 2, 64, .inl f_t_found)), (a_t_one, .inl (cy 2, 65, .inl f_t_one)), (a_t_other, .inl (cy 2, 65, .inl f_t_other)), (a_t_sum, .inl (cy 2, 65, .inl f_t_sum)), (a_t_rest, .inl (cy 2, 65, .inl f_t_rest)), (a_p1, .inr (8, [.int v_p1_isWide, .ref a_p1_cells, .ref a_p1_page, .int v_p1_pageMany, .ref a_p1_digits, .int v_p1_many, .int v_p1_isMinus, .ref a_p1_found, .ref a_p1_one, .ref a_p1_other, .ref a_p1_sum, .ref a_p1_rest])), (a_p1_cells, .inl (cy 5, 8, .inr (.inr (.inr (.inr (fun j => some (rw_p1 j))))))), (a_p1_page, .inl (cy 0, 66, .inl f_p1_page)), (a_p1_digits, .inl (cy 0, 64, .inl f_p1_digits)), (a_p1_found, .inl (cy 2, 64, .inl f_p1_found)), (a_p1_one, .inl (cy 2, 65, .inl f_p1_one)), (a_p1_other, .inl (cy 2, 65, .inl f_p1_other)), (a_p1_sum, .inl (cy 2, 65, .inl f_p1_sum)), (a_p1_rest, .inl (cy 2, 65, .inl f_p1_rest))] : va_W) ++ (rowsW (cy 2) rw_t r_17 ++ (rowsW (cy 2) rw_p1 B_p1 ++ ([] : va_W)))) := hD
        refine lv_iinc (v := (y_22 + 1)) (lv' := [(2, .int (y_22 + 1)), (0, .ref a_t), (1, .ref a_p1)]) hx hb dX12_take_61 hl (k := 0) rfl rfl (by decide) rfl (fun ls hl => ?_)
        refine lv_goto (tgt := 41) hx hb dX12_take_64 (by decide) ?_
        exact ih (y_22 + 1) (upd y_23 y_22.toNatClampNeg (f_p1_page y_22.toNatClampNeg)) hm _ _ _ hP hD hS (lv_sub hl [0, 1, 2] rfl)
  obtain ⟨r_25, hL, hm⟩ := hm_b hm
  refine L41 r_25 ?_ k 0 f_t_page hL _ _ _ hP hD hS (lv_sub hl [0, 1, 2] rfl)
  intro H locs ls hP hD hS hl
  refine lv_aload_n hx hb dX12_take_67 rfl (lv_at hl 0 rfl) ?_
  refine lv_aload_n hx hb dX12_take_68 rfl (lv_at hl 1 rfl) ?_
  refine va_get (D := D) (cl := classes) (ci := 8) (v := .int v_p1_pageMany) (C := RX12) (T := TX12) (N := 12) hx hb ht in_RX12 hown hK.1 hP 9 rfl rfl 3 (by decide) (ht _ q_1249) (fun _ h9 => h9) rfl dX12_take_69 ?_
  refine va_put (D := D) (cl := classes) (ci := 8) (v := .int v_p1_pageMany) (ty := .int) (C := RX12) (T := TX12) (N := 12) hx hb ht in_RX12 tyX12 tyX12_ok nmX12 hown hK.1 hP hD hS 0 rfl rfl 3 (by decide) (ht _ q_1249) (fun _ h9 => h9) rfl (by decide +kernel) rfl rfl (Nat.le_of_ble_eq_true rfl) dX12_take_72 (fun H locs hP hD hS => ?_)
  have hP : va_P D classes (([(a_t, .inr (8, [.int v_p1_isWide, .ref a_t_cells, .ref a_t_page, .int v_p1_pageMany, .ref a_t_digits, .int v_t_many, .int v_t_isMinus, .ref a_t_found, .ref a_t_one, .ref a_t_other, .ref a_t_sum, .ref a_t_rest])), (a_t_cells, .inl (cy 5, 8, .inr (.inr (.inr (.inr (fun j => some (rw_t j))))))), (a_t_page, .inl (cy 0, 66, .inl r_25)), (a_t_digits, .inl (cy 0, 64, .inl f_t_digits)), (a_t_found, .inl (cy 2, 64, .inl f_t_found)), (a_t_one, .inl (cy 2, 65, .inl f_t_one)), (a_t_other, .inl (cy 2, 65, .inl f_t_other)), (a_t_sum, .inl (cy 2, 65, .inl f_t_sum)), (a_t_rest, .inl (cy 2, 65, .inl f_t_rest)), (a_p1, .inr (8, [.int v_p1_isWide, .ref a_p1_cells, .ref a_p1_page, .int v_p1_pageMany, .ref a_p1_digits, .int v_p1_many, .int v_p1_isMinus, .ref a_p1_found, .ref a_p1_one, .ref a_p1_other, .ref a_p1_sum, .ref a_p1_rest])), (a_p1_cells, .inl (cy 5, 8, .inr (.inr (.inr (.inr (fun j => some (rw_p1 j))))))), (a_p1_page, .inl (cy 0, 66, .inl f_p1_page)), (a_p1_digits, .inl (cy 0, 64, .inl f_p1_digits)), (a_p1_found, .inl (cy 2, 64, .inl f_p1_found)), (a_p1_one, .inl (cy 2, 65, .inl f_p1_one)), (a_p1_other, .inl (cy 2, 65, .inl f_p1_other)), (a_p1_sum, .inl (cy 2, 65, .inl f_p1_sum)), (a_p1_rest, .inl (cy 2, 65, .inl f_p1_rest))] : va_W) ++ (rowsW (cy 2) rw_t r_17 ++ (rowsW (cy 2) rw_p1 B_p1 ++ ([] : va_W)))) H := hP
  have hD : va_D A (([(a_t, .inr (8, [.int v_p1_isWide, .ref a_t_cells, .ref a_t_page, .int v_p1_pageMany, .ref a_t_digits, .int v_t_many, .int v_t_isMinus, .ref a_t_found, .ref a_t_one, .ref a_t_other, .ref a_t_sum, .ref a_t_rest])), (a_t_cells, .inl (cy 5, 8, .inr (.inr (.inr (.inr (fun j => some (rw_t j))))))), (a_t_page, .inl (cy 0, 66, .inl r_25)), (a_t_digits, .inl (cy 0, 64, .inl f_t_digits)), (a_t_found, .inl (cy 2, 64, .inl f_t_found)), (a_t_one, .inl (cy 2, 65, .inl f_t_one)), (a_t_other, .inl (cy 2, 65, .inl f_t_other)), (a_t_sum, .inl (cy 2, 65, .inl f_t_sum)), (a_t_rest, .inl (cy 2, 65, .inl f_t_rest)), (a_p1, .inr (8, [.int v_p1_isWide, .ref a_p1_cells, .ref a_p1_page, .int v_p1_pageMany, .ref a_p1_digits, .int v_p1_many, .int v_p1_isMinus, .ref a_p1_found, .ref a_p1_one, .ref a_p1_other, .ref a_p1_sum, .ref a_p1_rest])), (a_p1_cells, .inl (cy 5, 8, .inr (.inr (.inr (.inr (fun j => some (rw_p1 j))))))), (a_p1_page, .inl (cy 0, 66, .inl f_p1_page)), (a_p1_digits, .inl (cy 0, 64, .inl f_p1_digits)), (a_p1_found, .inl (cy 2, 64, .inl f_p1_found)), (a_p1_one, .inl (cy 2, 65, .inl f_p1_one)), (a_p1_other, .inl (cy 2, 65, .inl f_p1_other)), (a_p1_sum, .inl (cy 2, 65, .inl f_p1_sum)), (a_p1_rest, .inl (cy 2, 65, .inl f_p1_rest))] : va_W) ++ (rowsW (cy 2) rw_t r_17 ++ (rowsW (cy 2) rw_p1 B_p1 ++ ([] : va_W)))) := hD
  obtain rfl := Option.some.inj hm
  exact k_vret hx hb hr hlocks hQc hP hS rfl rfl dX12_take_75
