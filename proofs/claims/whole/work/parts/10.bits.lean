theorem q_70 : Cond.initialized RJ13 ∈ LW := LW_of 70 (by decide +kernel) rfl
theorem q_71 : Cond.initialized RJ6 ∈ LW := LW_of 71 (by decide +kernel) rfl
theorem q_337 : Cond.constantLong RX1 9 4294967295 ∈ LW := LW_of 337 (by decide +kernel) rfl
theorem q_349 : Cond.constantLong RX1 62 2 ∈ LW := LW_of 349 (by decide +kernel) rfl
theorem q_385 : Cond.constantLong RX1 60 (-9223372036854775808) ∈ LW := LW_of 385 (by decide +kernel) rfl
theorem q_642 : Cond.constantLong RJ13 314 6148914691236517205 ∈ LW := LW_of 642 (by decide +kernel) rfl
theorem q_643 : Cond.constantLong RJ13 316 3689348814741910323 ∈ LW := LW_of 643 (by decide +kernel) rfl
theorem q_644 : Cond.constantLong RJ13 318 1085102592571150095 ∈ LW := LW_of 644 (by decide +kernel) rfl
theorem q_652 : Cond.methodLink RX1 11 yJ13_numberOfLeadingZeros_95d88 ∈ LW := LW_of 652 (by decide +kernel) rfl
theorem q_653 : Cond.static yJ13_numberOfLeadingZeros_95d88 ∈ LW := LW_of 653 (by decide +kernel) rfl
theorem q_654 : Cond.code yJ13_numberOfLeadingZeros_95d88 cJ13_numberOfLeadingZeros_95d88 3 (some .int) ∈ LW := LW_of 654 (by decide +kernel) rfl
theorem q_655 : Cond.methodLink RJ13 308 yJ6_numberOfLeadingZeros_0f7a4 ∈ LW := LW_of 655 (by decide +kernel) rfl
theorem q_656 : Cond.static yJ6_numberOfLeadingZeros_0f7a4 ∈ LW := LW_of 656 (by decide +kernel) rfl
theorem q_657 : Cond.code yJ6_numberOfLeadingZeros_0f7a4 cJ6_numberOfLeadingZeros_0f7a4 2 (some .int) ∈ LW := LW_of 657 (by decide +kernel) rfl
theorem q_658 : Cond.constant RJ6 264 65536 ∈ LW := LW_of 658 (by decide +kernel) rfl
theorem q_659 : Cond.methodLink RX1 17 yJ6_numberOfLeadingZeros_0f7a4 ∈ LW := LW_of 659 (by decide +kernel) rfl
theorem q_667 : Cond.methodLink RX1 22 yJ13_numberOfTrailingZeros_95d88 ∈ LW := LW_of 667 (by decide +kernel) rfl
theorem q_668 : Cond.static yJ13_numberOfTrailingZeros_95d88 ∈ LW := LW_of 668 (by decide +kernel) rfl
theorem q_669 : Cond.code yJ13_numberOfTrailingZeros_95d88 cJ13_numberOfTrailingZeros_95d88 3 (some .int) ∈ LW := LW_of 669 (by decide +kernel) rfl
theorem q_670 : Cond.methodLink RJ13 311 yJ6_numberOfTrailingZeros_0f7a4 ∈ LW := LW_of 670 (by decide +kernel) rfl
theorem q_671 : Cond.static yJ6_numberOfTrailingZeros_0f7a4 ∈ LW := LW_of 671 (by decide +kernel) rfl
theorem q_672 : Cond.code yJ6_numberOfTrailingZeros_0f7a4 cJ6_numberOfTrailingZeros_0f7a4 2 (some .int) ∈ LW := LW_of 672 (by decide +kernel) rfl
theorem q_673 : Cond.methodLink RX1 25 yJ6_numberOfTrailingZeros_0f7a4 ∈ LW := LW_of 673 (by decide +kernel) rfl
theorem q_690 : Cond.methodLink RX1 27 yJ13_reverse_067f4 ∈ LW := LW_of 690 (by decide +kernel) rfl
theorem q_691 : Cond.static yJ13_reverse_067f4 ∈ LW := LW_of 691 (by decide +kernel) rfl
theorem q_692 : Cond.code yJ13_reverse_067f4 cJ13_reverse_067f4 2 (some .long) ∈ LW := LW_of 692 (by decide +kernel) rfl
theorem q_693 : Cond.methodLink RJ13 320 yJ13_reverseBytes_067f4 ∈ LW := LW_of 693 (by decide +kernel) rfl
theorem q_694 : Cond.static yJ13_reverseBytes_067f4 ∈ LW := LW_of 694 (by decide +kernel) rfl
theorem q_695 : Cond.code yJ13_reverseBytes_067f4 cJ13_reverseBytes_067f4 2 (some .long) ∈ LW := LW_of 695 (by decide +kernel) rfl
theorem q_696 : Cond.constantLong RJ13 327 71777214294589695 ∈ LW := LW_of 696 (by decide +kernel) rfl
theorem q_697 : Cond.constantLong RJ13 329 4294901760 ∈ LW := LW_of 697 (by decide +kernel) rfl
theorem q_698 : Cond.methodLink RX1 31 yJ6_reverse_0f7a4 ∈ LW := LW_of 698 (by decide +kernel) rfl
theorem q_699 : Cond.static yJ6_reverse_0f7a4 ∈ LW := LW_of 699 (by decide +kernel) rfl
theorem q_700 : Cond.code yJ6_reverse_0f7a4 cJ6_reverse_0f7a4 1 (some .int) ∈ LW := LW_of 700 (by decide +kernel) rfl
theorem q_701 : Cond.constant RJ6 265 1431655765 ∈ LW := LW_of 701 (by decide +kernel) rfl
theorem q_702 : Cond.constant RJ6 266 858993459 ∈ LW := LW_of 702 (by decide +kernel) rfl
theorem q_703 : Cond.constant RJ6 267 252645135 ∈ LW := LW_of 703 (by decide +kernel) rfl
theorem q_704 : Cond.methodLink RJ6 268 yJ6_reverseBytes_0f7a4 ∈ LW := LW_of 704 (by decide +kernel) rfl
theorem q_705 : Cond.static yJ6_reverseBytes_0f7a4 ∈ LW := LW_of 705 (by decide +kernel) rfl
theorem q_706 : Cond.code yJ6_reverseBytes_0f7a4 cJ6_reverseBytes_0f7a4 1 (some .int) ∈ LW := LW_of 706 (by decide +kernel) rfl
theorem q_707 : Cond.constant RJ6 274 65280 ∈ LW := LW_of 707 (by decide +kernel) rfl
theorem q_715 : Cond.methodLink RX1 33 yJ13_reverseBytes_067f4 ∈ LW := LW_of 715 (by decide +kernel) rfl
theorem q_716 : Cond.methodLink RX1 36 yJ6_reverseBytes_0f7a4 ∈ LW := LW_of 716 (by decide +kernel) rfl
theorem q_724 : Cond.methodLink RX1 50 yJ13_highestOneBit_067f4 ∈ LW := LW_of 724 (by decide +kernel) rfl
theorem q_725 : Cond.static yJ13_highestOneBit_067f4 ∈ LW := LW_of 725 (by decide +kernel) rfl
theorem q_726 : Cond.code yJ13_highestOneBit_067f4 cJ13_highestOneBit_067f4 2 (some .long) ∈ LW := LW_of 726 (by decide +kernel) rfl
theorem q_727 : Cond.constantLong RJ13 168 (-9223372036854775808) ∈ LW := LW_of 727 (by decide +kernel) rfl
theorem q_728 : Cond.methodLink RJ13 98 yJ13_numberOfLeadingZeros_95d88 ∈ LW := LW_of 728 (by decide +kernel) rfl
theorem q_729 : Cond.methodLink RX1 53 yJ6_highestOneBit_0f7a4 ∈ LW := LW_of 729 (by decide +kernel) rfl
theorem q_730 : Cond.static yJ6_highestOneBit_0f7a4 ∈ LW := LW_of 730 (by decide +kernel) rfl
theorem q_731 : Cond.code yJ6_highestOneBit_0f7a4 cJ6_highestOneBit_0f7a4 1 (some .int) ∈ LW := LW_of 731 (by decide +kernel) rfl
theorem q_732 : Cond.constant RJ6 127 (-2147483648) ∈ LW := LW_of 732 (by decide +kernel) rfl
theorem q_733 : Cond.methodLink RJ6 51 yJ6_numberOfLeadingZeros_0f7a4 ∈ LW := LW_of 733 (by decide +kernel) rfl
theorem q_741 : Cond.methodLink RX1 55 yJ13_lowestOneBit_067f4 ∈ LW := LW_of 741 (by decide +kernel) rfl
theorem q_742 : Cond.static yJ13_lowestOneBit_067f4 ∈ LW := LW_of 742 (by decide +kernel) rfl
theorem q_743 : Cond.code yJ13_lowestOneBit_067f4 cJ13_lowestOneBit_067f4 2 (some .long) ∈ LW := LW_of 743 (by decide +kernel) rfl
theorem q_744 : Cond.methodLink RX1 58 yJ6_lowestOneBit_0f7a4 ∈ LW := LW_of 744 (by decide +kernel) rfl
theorem q_745 : Cond.static yJ6_lowestOneBit_0f7a4 ∈ LW := LW_of 745 (by decide +kernel) rfl
theorem q_746 : Cond.code yJ6_lowestOneBit_0f7a4 cJ6_lowestOneBit_0f7a4 1 (some .int) ∈ LW := LW_of 746 (by decide +kernel) rfl
theorem q_755 : Cond.methodLink RX1 38 yJ13_rotateLeft_b2ac5 ∈ LW := LW_of 755 (by decide +kernel) rfl
theorem q_756 : Cond.static yJ13_rotateLeft_b2ac5 ∈ LW := LW_of 756 (by decide +kernel) rfl
theorem q_757 : Cond.code yJ13_rotateLeft_b2ac5 cJ13_rotateLeft_b2ac5 3 (some .long) ∈ LW := LW_of 757 (by decide +kernel) rfl
theorem q_758 : Cond.methodLink RX1 42 yJ6_rotateLeft_7cf53 ∈ LW := LW_of 758 (by decide +kernel) rfl
theorem q_759 : Cond.static yJ6_rotateLeft_7cf53 ∈ LW := LW_of 759 (by decide +kernel) rfl
theorem q_760 : Cond.code yJ6_rotateLeft_7cf53 cJ6_rotateLeft_7cf53 2 (some .int) ∈ LW := LW_of 760 (by decide +kernel) rfl
theorem q_764 : Cond.methodLink RX1 45 yJ13_rotateRight_b2ac5 ∈ LW := LW_of 764 (by decide +kernel) rfl
theorem q_765 : Cond.static yJ13_rotateRight_b2ac5 ∈ LW := LW_of 765 (by decide +kernel) rfl
theorem q_766 : Cond.code yJ13_rotateRight_b2ac5 cJ13_rotateRight_b2ac5 3 (some .long) ∈ LW := LW_of 766 (by decide +kernel) rfl
theorem q_767 : Cond.methodLink RX1 48 yJ6_rotateRight_7cf53 ∈ LW := LW_of 767 (by decide +kernel) rfl
theorem q_768 : Cond.static yJ6_rotateRight_7cf53 ∈ LW := LW_of 768 (by decide +kernel) rfl
theorem q_769 : Cond.code yJ6_rotateRight_7cf53 cJ6_rotateRight_7cf53 2 (some .int) ∈ LW := LW_of 769 (by decide +kernel) rfl
theorem hyJ13_highestOneBit_067f4 : yJ13_highestOneBit_067f4.cls ≠ "java/lang/invoke/MethodHandle" ∧ yJ13_highestOneBit_067f4.cls ≠ "java/lang/invoke/VarHandle" ∧ (parseMethodDescriptor yJ13_highestOneBit_067f4.desc).map (fun d => d.parameters.length) = some 1 := by decide +kernel
theorem hyJ13_lowestOneBit_067f4 : yJ13_lowestOneBit_067f4.cls ≠ "java/lang/invoke/MethodHandle" ∧ yJ13_lowestOneBit_067f4.cls ≠ "java/lang/invoke/VarHandle" ∧ (parseMethodDescriptor yJ13_lowestOneBit_067f4.desc).map (fun d => d.parameters.length) = some 1 := by decide +kernel
theorem hyJ13_numberOfLeadingZeros_95d88 : yJ13_numberOfLeadingZeros_95d88.cls ≠ "java/lang/invoke/MethodHandle" ∧ yJ13_numberOfLeadingZeros_95d88.cls ≠ "java/lang/invoke/VarHandle" ∧ (parseMethodDescriptor yJ13_numberOfLeadingZeros_95d88.desc).map (fun d => d.parameters.length) = some 1 := by decide +kernel
theorem hyJ13_numberOfTrailingZeros_95d88 : yJ13_numberOfTrailingZeros_95d88.cls ≠ "java/lang/invoke/MethodHandle" ∧ yJ13_numberOfTrailingZeros_95d88.cls ≠ "java/lang/invoke/VarHandle" ∧ (parseMethodDescriptor yJ13_numberOfTrailingZeros_95d88.desc).map (fun d => d.parameters.length) = some 1 := by decide +kernel
theorem hyJ13_reverseBytes_067f4 : yJ13_reverseBytes_067f4.cls ≠ "java/lang/invoke/MethodHandle" ∧ yJ13_reverseBytes_067f4.cls ≠ "java/lang/invoke/VarHandle" ∧ (parseMethodDescriptor yJ13_reverseBytes_067f4.desc).map (fun d => d.parameters.length) = some 1 := by decide +kernel
theorem hyJ13_reverse_067f4 : yJ13_reverse_067f4.cls ≠ "java/lang/invoke/MethodHandle" ∧ yJ13_reverse_067f4.cls ≠ "java/lang/invoke/VarHandle" ∧ (parseMethodDescriptor yJ13_reverse_067f4.desc).map (fun d => d.parameters.length) = some 1 := by decide +kernel
theorem hyJ13_rotateLeft_b2ac5 : yJ13_rotateLeft_b2ac5.cls ≠ "java/lang/invoke/MethodHandle" ∧ yJ13_rotateLeft_b2ac5.cls ≠ "java/lang/invoke/VarHandle" ∧ (parseMethodDescriptor yJ13_rotateLeft_b2ac5.desc).map (fun d => d.parameters.length) = some 2 := by decide +kernel
theorem hyJ13_rotateRight_b2ac5 : yJ13_rotateRight_b2ac5.cls ≠ "java/lang/invoke/MethodHandle" ∧ yJ13_rotateRight_b2ac5.cls ≠ "java/lang/invoke/VarHandle" ∧ (parseMethodDescriptor yJ13_rotateRight_b2ac5.desc).map (fun d => d.parameters.length) = some 2 := by decide +kernel
theorem hyJ6_highestOneBit_0f7a4 : yJ6_highestOneBit_0f7a4.cls ≠ "java/lang/invoke/MethodHandle" ∧ yJ6_highestOneBit_0f7a4.cls ≠ "java/lang/invoke/VarHandle" ∧ (parseMethodDescriptor yJ6_highestOneBit_0f7a4.desc).map (fun d => d.parameters.length) = some 1 := by decide +kernel
theorem hyJ6_lowestOneBit_0f7a4 : yJ6_lowestOneBit_0f7a4.cls ≠ "java/lang/invoke/MethodHandle" ∧ yJ6_lowestOneBit_0f7a4.cls ≠ "java/lang/invoke/VarHandle" ∧ (parseMethodDescriptor yJ6_lowestOneBit_0f7a4.desc).map (fun d => d.parameters.length) = some 1 := by decide +kernel
theorem hyJ6_numberOfLeadingZeros_0f7a4 : yJ6_numberOfLeadingZeros_0f7a4.cls ≠ "java/lang/invoke/MethodHandle" ∧ yJ6_numberOfLeadingZeros_0f7a4.cls ≠ "java/lang/invoke/VarHandle" ∧ (parseMethodDescriptor yJ6_numberOfLeadingZeros_0f7a4.desc).map (fun d => d.parameters.length) = some 1 := by decide +kernel
theorem hyJ6_numberOfTrailingZeros_0f7a4 : yJ6_numberOfTrailingZeros_0f7a4.cls ≠ "java/lang/invoke/MethodHandle" ∧ yJ6_numberOfTrailingZeros_0f7a4.cls ≠ "java/lang/invoke/VarHandle" ∧ (parseMethodDescriptor yJ6_numberOfTrailingZeros_0f7a4.desc).map (fun d => d.parameters.length) = some 1 := by decide +kernel
theorem hyJ6_reverseBytes_0f7a4 : yJ6_reverseBytes_0f7a4.cls ≠ "java/lang/invoke/MethodHandle" ∧ yJ6_reverseBytes_0f7a4.cls ≠ "java/lang/invoke/VarHandle" ∧ (parseMethodDescriptor yJ6_reverseBytes_0f7a4.desc).map (fun d => d.parameters.length) = some 1 := by decide +kernel
theorem hyJ6_reverse_0f7a4 : yJ6_reverse_0f7a4.cls ≠ "java/lang/invoke/MethodHandle" ∧ yJ6_reverse_0f7a4.cls ≠ "java/lang/invoke/VarHandle" ∧ (parseMethodDescriptor yJ6_reverse_0f7a4.desc).map (fun d => d.parameters.length) = some 1 := by decide +kernel
theorem hyJ6_rotateLeft_7cf53 : yJ6_rotateLeft_7cf53.cls ≠ "java/lang/invoke/MethodHandle" ∧ yJ6_rotateLeft_7cf53.cls ≠ "java/lang/invoke/VarHandle" ∧ (parseMethodDescriptor yJ6_rotateLeft_7cf53.desc).map (fun d => d.parameters.length) = some 2 := by decide +kernel
theorem hyJ6_rotateRight_7cf53 : yJ6_rotateRight_7cf53.cls ≠ "java/lang/invoke/MethodHandle" ∧ yJ6_rotateRight_7cf53.cls ≠ "java/lang/invoke/VarHandle" ∧ (parseMethodDescriptor yJ6_rotateRight_7cf53.desc).map (fun d => d.parameters.length) = some 2 := by decide +kernel
theorem dJ6_numberOfLeadingZeros_0f7a4_0 : decode cJ6_numberOfLeadingZeros_0f7a4 0 = .ok (.iload_n 0, 1) := by decide +kernel
theorem dJ6_numberOfLeadingZeros_0f7a4_1 : decode cJ6_numberOfLeadingZeros_0f7a4 1 = .ok (.ifCond .gt 14, 3) := by decide +kernel
theorem dJ6_numberOfLeadingZeros_0f7a4_4 : decode cJ6_numberOfLeadingZeros_0f7a4 4 = .ok (.iload_n 0, 1) := by decide +kernel
theorem dJ6_numberOfLeadingZeros_0f7a4_5 : decode cJ6_numberOfLeadingZeros_0f7a4 5 = .ok (.ifCond .ne 8, 3) := by decide +kernel
theorem dJ6_numberOfLeadingZeros_0f7a4_8 : decode cJ6_numberOfLeadingZeros_0f7a4 8 = .ok (.bipush 32, 2) := by decide +kernel
theorem dJ6_numberOfLeadingZeros_0f7a4_10 : decode cJ6_numberOfLeadingZeros_0f7a4 10 = .ok (.goto 4, 3) := by decide +kernel
theorem dJ6_numberOfLeadingZeros_0f7a4_13 : decode cJ6_numberOfLeadingZeros_0f7a4 13 = .ok (.iconst 0, 1) := by decide +kernel
theorem dJ6_numberOfLeadingZeros_0f7a4_14 : decode cJ6_numberOfLeadingZeros_0f7a4 14 = .ok (.ireturn, 1) := by decide +kernel
theorem dJ6_numberOfLeadingZeros_0f7a4_15 : decode cJ6_numberOfLeadingZeros_0f7a4 15 = .ok (.bipush 31, 2) := by decide +kernel
theorem dJ6_numberOfLeadingZeros_0f7a4_17 : decode cJ6_numberOfLeadingZeros_0f7a4 17 = .ok (.istore_n 1, 1) := by decide +kernel
theorem dJ6_numberOfLeadingZeros_0f7a4_18 : decode cJ6_numberOfLeadingZeros_0f7a4 18 = .ok (.iload_n 0, 1) := by decide +kernel
theorem dJ6_numberOfLeadingZeros_0f7a4_19 : decode cJ6_numberOfLeadingZeros_0f7a4 19 = .ok (.ldc_w 264, 3) := by decide +kernel
theorem dJ6_numberOfLeadingZeros_0f7a4_22 : decode cJ6_numberOfLeadingZeros_0f7a4 22 = .ok (.if_icmp .lt 11, 3) := by decide +kernel
theorem dJ6_numberOfLeadingZeros_0f7a4_25 : decode cJ6_numberOfLeadingZeros_0f7a4 25 = .ok (.iinc 1 (-16), 3) := by decide +kernel
theorem dJ6_numberOfLeadingZeros_0f7a4_28 : decode cJ6_numberOfLeadingZeros_0f7a4 28 = .ok (.iload_n 0, 1) := by decide +kernel
theorem dJ6_numberOfLeadingZeros_0f7a4_29 : decode cJ6_numberOfLeadingZeros_0f7a4 29 = .ok (.bipush 16, 2) := by decide +kernel
theorem dJ6_numberOfLeadingZeros_0f7a4_31 : decode cJ6_numberOfLeadingZeros_0f7a4 31 = .ok (.iushr, 1) := by decide +kernel
theorem dJ6_numberOfLeadingZeros_0f7a4_32 : decode cJ6_numberOfLeadingZeros_0f7a4 32 = .ok (.istore_n 0, 1) := by decide +kernel
theorem dJ6_numberOfLeadingZeros_0f7a4_33 : decode cJ6_numberOfLeadingZeros_0f7a4 33 = .ok (.iload_n 0, 1) := by decide +kernel
theorem dJ6_numberOfLeadingZeros_0f7a4_34 : decode cJ6_numberOfLeadingZeros_0f7a4 34 = .ok (.sipush 256, 3) := by decide +kernel
theorem dJ6_numberOfLeadingZeros_0f7a4_37 : decode cJ6_numberOfLeadingZeros_0f7a4 37 = .ok (.if_icmp .lt 11, 3) := by decide +kernel
theorem dJ6_numberOfLeadingZeros_0f7a4_40 : decode cJ6_numberOfLeadingZeros_0f7a4 40 = .ok (.iinc 1 (-8), 3) := by decide +kernel
theorem dJ6_numberOfLeadingZeros_0f7a4_43 : decode cJ6_numberOfLeadingZeros_0f7a4 43 = .ok (.iload_n 0, 1) := by decide +kernel
theorem dJ6_numberOfLeadingZeros_0f7a4_44 : decode cJ6_numberOfLeadingZeros_0f7a4 44 = .ok (.bipush 8, 2) := by decide +kernel
theorem dJ6_numberOfLeadingZeros_0f7a4_46 : decode cJ6_numberOfLeadingZeros_0f7a4 46 = .ok (.iushr, 1) := by decide +kernel
theorem dJ6_numberOfLeadingZeros_0f7a4_47 : decode cJ6_numberOfLeadingZeros_0f7a4 47 = .ok (.istore_n 0, 1) := by decide +kernel
theorem dJ6_numberOfLeadingZeros_0f7a4_48 : decode cJ6_numberOfLeadingZeros_0f7a4 48 = .ok (.iload_n 0, 1) := by decide +kernel
theorem dJ6_numberOfLeadingZeros_0f7a4_49 : decode cJ6_numberOfLeadingZeros_0f7a4 49 = .ok (.bipush 16, 2) := by decide +kernel
theorem dJ6_numberOfLeadingZeros_0f7a4_51 : decode cJ6_numberOfLeadingZeros_0f7a4 51 = .ok (.if_icmp .lt 10, 3) := by decide +kernel
theorem dJ6_numberOfLeadingZeros_0f7a4_54 : decode cJ6_numberOfLeadingZeros_0f7a4 54 = .ok (.iinc 1 (-4), 3) := by decide +kernel
theorem dJ6_numberOfLeadingZeros_0f7a4_57 : decode cJ6_numberOfLeadingZeros_0f7a4 57 = .ok (.iload_n 0, 1) := by decide +kernel
theorem dJ6_numberOfLeadingZeros_0f7a4_58 : decode cJ6_numberOfLeadingZeros_0f7a4 58 = .ok (.iconst 4, 1) := by decide +kernel
theorem dJ6_numberOfLeadingZeros_0f7a4_59 : decode cJ6_numberOfLeadingZeros_0f7a4 59 = .ok (.iushr, 1) := by decide +kernel
theorem dJ6_numberOfLeadingZeros_0f7a4_60 : decode cJ6_numberOfLeadingZeros_0f7a4 60 = .ok (.istore_n 0, 1) := by decide +kernel
theorem dJ6_numberOfLeadingZeros_0f7a4_61 : decode cJ6_numberOfLeadingZeros_0f7a4 61 = .ok (.iload_n 0, 1) := by decide +kernel
theorem dJ6_numberOfLeadingZeros_0f7a4_62 : decode cJ6_numberOfLeadingZeros_0f7a4 62 = .ok (.iconst 4, 1) := by decide +kernel
theorem dJ6_numberOfLeadingZeros_0f7a4_63 : decode cJ6_numberOfLeadingZeros_0f7a4 63 = .ok (.if_icmp .lt 10, 3) := by decide +kernel
theorem dJ6_numberOfLeadingZeros_0f7a4_66 : decode cJ6_numberOfLeadingZeros_0f7a4 66 = .ok (.iinc 1 (-2), 3) := by decide +kernel
theorem dJ6_numberOfLeadingZeros_0f7a4_69 : decode cJ6_numberOfLeadingZeros_0f7a4 69 = .ok (.iload_n 0, 1) := by decide +kernel
theorem dJ6_numberOfLeadingZeros_0f7a4_70 : decode cJ6_numberOfLeadingZeros_0f7a4 70 = .ok (.iconst 2, 1) := by decide +kernel
theorem dJ6_numberOfLeadingZeros_0f7a4_71 : decode cJ6_numberOfLeadingZeros_0f7a4 71 = .ok (.iushr, 1) := by decide +kernel
theorem dJ6_numberOfLeadingZeros_0f7a4_72 : decode cJ6_numberOfLeadingZeros_0f7a4 72 = .ok (.istore_n 0, 1) := by decide +kernel
theorem dJ6_numberOfLeadingZeros_0f7a4_73 : decode cJ6_numberOfLeadingZeros_0f7a4 73 = .ok (.iload_n 1, 1) := by decide +kernel
theorem dJ6_numberOfLeadingZeros_0f7a4_74 : decode cJ6_numberOfLeadingZeros_0f7a4 74 = .ok (.iload_n 0, 1) := by decide +kernel
theorem dJ6_numberOfLeadingZeros_0f7a4_75 : decode cJ6_numberOfLeadingZeros_0f7a4 75 = .ok (.iconst 1, 1) := by decide +kernel
theorem dJ6_numberOfLeadingZeros_0f7a4_76 : decode cJ6_numberOfLeadingZeros_0f7a4 76 = .ok (.iushr, 1) := by decide +kernel
theorem dJ6_numberOfLeadingZeros_0f7a4_77 : decode cJ6_numberOfLeadingZeros_0f7a4 77 = .ok (.isub, 1) := by decide +kernel
theorem dJ6_numberOfLeadingZeros_0f7a4_78 : decode cJ6_numberOfLeadingZeros_0f7a4 78 = .ok (.ireturn, 1) := by decide +kernel
def mJ6_numberOfLeadingZeros_0f7a4 (x1 : Int32) : Option (Int32) := (if (0 : Int32) < x1 then (((if x1 < 65536 then some (31, x1) else ((some (((x1).toUInt32 >>> (((16 : Int32)).toUInt32 &&& Int32.toUInt32 31)).toInt32) : Option Int32).bind (fun x_15 => some ((31 + (-16)), x_15)))) : Option (Int32 × Int32)).bind (fun x_4 => (((if x_4.2 < 256 then some (x_4.1, x_4.2) else ((some (((x_4.2).toUInt32 >>> (((8 : Int32)).toUInt32 &&& Int32.toUInt32 31)).toInt32) : Option Int32).bind (fun x_14 => some ((x_4.1 + (-8)), x_14)))) : Option (Int32 × Int32)).bind (fun x_7 => (((if x_7.2 < 16 then some (x_7.1, x_7.2) else ((some (((x_7.2).toUInt32 >>> (((4 : Int32)).toUInt32 &&& Int32.toUInt32 31)).toInt32) : Option Int32).bind (fun x_13 => some ((x_7.1 + (-4)), x_13)))) : Option (Int32 × Int32)).bind (fun x_10 => (if x_10.2 < 4 then some (x_10.1 - (((x_10.2).toUInt32 >>> (((1 : Int32)).toUInt32 &&& Int32.toUInt32 31)).toInt32)) else ((some (((x_10.2).toUInt32 >>> (((2 : Int32)).toUInt32 &&& Int32.toUInt32 31)).toInt32) : Option Int32).bind (fun x_12 => some ((x_10.1 + (-2)) - (((x_12).toUInt32 >>> (((1 : Int32)).toUInt32 &&& Int32.toUInt32 31)).toInt32))))))))))) else (if x1 = 0 then some 32 else some 0))
set_option maxHeartbeats 4000000 in
set_option maxRecDepth 100000 in
theorem kcJ6_numberOfLeadingZeros_0f7a4 (l : Launch) (D : va_G) (cy : Nat → ClassId) (g : Nat → Nat) (x1 : Int32) (R : Int32) (hm : mJ6_numberOfLeadingZeros_0f7a4 x1 = some R) : Con l D cy g yJ6_numberOfLeadingZeros_0f7a4 cJ6_numberOfLeadingZeros_0f7a4 2 (some .int) 0 0 0 0 [.int x1] [] [] (some (.int R)) := by
  refine Con.of (by decide +kernel) (Nat.le_of_ble_eq_true rfl) ?_
  intro p e RM s m ar below meth c A Qc ls hx hb hr hml hown hlocks hnm ht hK hP hD hS hA hR hC hQc hl
  have hown : s.vm.findClass RJ6 = some m.cls := hown
  have hl : lv_has ls 2 [(0, .int x1)] := hl
  rw [mJ6_numberOfLeadingZeros_0f7a4] at hm
  refine lv_iload_n hx hb dJ6_numberOfLeadingZeros_0f7a4_0 rfl (lv_at hl 0 rfl) ?_
  refine lv_if_gt (tgt := 15) hx hb dJ6_numberOfLeadingZeros_0f7a4_1 (by decide) (fun c_1 => ?_) (fun c_1 => ?_)
  · replace hm := hm_t c_1 hm
    refine lv_bipush (v := 31) hx hb dJ6_numberOfLeadingZeros_0f7a4_15 (by decide) ?_
    refine lv_istore_n (lv' := [(1, .int 31), (0, .int x1)]) hx hb dJ6_numberOfLeadingZeros_0f7a4_17 rfl hl (by decide) rfl (fun ls hl => ?_)
    refine lv_iload_n hx hb dJ6_numberOfLeadingZeros_0f7a4_18 rfl (lv_at hl 1 rfl) ?_
    refine lv_ldcw (v := 65536) hx hb hown (ht _ q_658) dJ6_numberOfLeadingZeros_0f7a4_19 ?_
    obtain ⟨x_4, hreg, hm⟩ := hm_b hm
    have J33 : ∀ (H : Heap) (locs : List Loc) (ls : Array Slot), va_P D classes [] H → va_D A [] → va_S A s.heap H locs → lv_has ls 2 [(1, .int x_4.1), (0, .int x_4.2)] → W p l e RM s m ar below meth c H locs 0 0 (MQ below Qc ar s 0 0 A) (F0 m 33 ls []) := by
      intro H locs ls hP hD hS hl
      refine lv_iload_n hx hb dJ6_numberOfLeadingZeros_0f7a4_33 rfl (lv_at hl 1 rfl) ?_
      refine lv_sipush (v := 256) hx hb dJ6_numberOfLeadingZeros_0f7a4_34 (by decide) ?_
      obtain ⟨x_7, hreg, hm⟩ := hm_b hm
      have J48 : ∀ (H : Heap) (locs : List Loc) (ls : Array Slot), va_P D classes [] H → va_D A [] → va_S A s.heap H locs → lv_has ls 2 [(1, .int x_7.1), (0, .int x_7.2)] → W p l e RM s m ar below meth c H locs 0 0 (MQ below Qc ar s 0 0 A) (F0 m 48 ls []) := by
        intro H locs ls hP hD hS hl
        refine lv_iload_n hx hb dJ6_numberOfLeadingZeros_0f7a4_48 rfl (lv_at hl 1 rfl) ?_
        refine lv_bipush (v := 16) hx hb dJ6_numberOfLeadingZeros_0f7a4_49 (by decide) ?_
        obtain ⟨x_10, hreg, hm⟩ := hm_b hm
        have J61 : ∀ (H : Heap) (locs : List Loc) (ls : Array Slot), va_P D classes [] H → va_D A [] → va_S A s.heap H locs → lv_has ls 2 [(1, .int x_10.1), (0, .int x_10.2)] → W p l e RM s m ar below meth c H locs 0 0 (MQ below Qc ar s 0 0 A) (F0 m 61 ls []) := by
          intro H locs ls hP hD hS hl
          refine lv_iload_n hx hb dJ6_numberOfLeadingZeros_0f7a4_61 rfl (lv_at hl 1 rfl) ?_
          refine lv_iconst (v := 4) hx hb dJ6_numberOfLeadingZeros_0f7a4_62 (by decide) ?_
          refine lv_icmp_lt (tgt := 73) hx hb dJ6_numberOfLeadingZeros_0f7a4_63 (by decide) (fun c_11 => ?_) (fun c_11 => ?_)
          · replace hm := hm_t c_11 hm
            refine lv_iload_n hx hb dJ6_numberOfLeadingZeros_0f7a4_73 rfl (lv_at hl 0 rfl) ?_
            refine lv_iload_n hx hb dJ6_numberOfLeadingZeros_0f7a4_74 rfl (lv_at hl 1 rfl) ?_
            refine lv_iconst (v := 1) hx hb dJ6_numberOfLeadingZeros_0f7a4_75 (by decide) ?_
            refine lv_iushr hx hb dJ6_numberOfLeadingZeros_0f7a4_76 rfl ?_
            refine lv_isub hx hb dJ6_numberOfLeadingZeros_0f7a4_77 ?_
            obtain rfl := Option.some.inj hm
            exact k_iret hx hb hr hlocks hQc hP hS rfl rfl dJ6_numberOfLeadingZeros_0f7a4_78
          · replace hm := hm_f c_11 hm
            refine lv_iinc (v := (x_10.1 + (-2))) (lv' := [(1, .int (x_10.1 + (-2))), (0, .int x_10.2)]) hx hb dJ6_numberOfLeadingZeros_0f7a4_66 hl (k := 0) rfl rfl (by decide) rfl (fun ls hl => ?_)
            refine lv_iload_n hx hb dJ6_numberOfLeadingZeros_0f7a4_69 rfl (lv_at hl 1 rfl) ?_
            refine lv_iconst (v := 2) hx hb dJ6_numberOfLeadingZeros_0f7a4_70 (by decide) ?_
            refine lv_iushr hx hb dJ6_numberOfLeadingZeros_0f7a4_71 rfl ?_
            obtain ⟨x_12, hx_, hm⟩ := hm_b hm
            refine k_topi (y := x_12) (Option.some.inj hx_) ?_
            refine lv_istore_n (lv' := [(0, .int x_12), (1, .int (x_10.1 + (-2)))]) hx hb dJ6_numberOfLeadingZeros_0f7a4_72 rfl hl (by decide) rfl (fun ls hl => ?_)
            refine lv_iload_n hx hb dJ6_numberOfLeadingZeros_0f7a4_73 rfl (lv_at hl 1 rfl) ?_
            refine lv_iload_n hx hb dJ6_numberOfLeadingZeros_0f7a4_74 rfl (lv_at hl 0 rfl) ?_
            refine lv_iconst (v := 1) hx hb dJ6_numberOfLeadingZeros_0f7a4_75 (by decide) ?_
            refine lv_iushr hx hb dJ6_numberOfLeadingZeros_0f7a4_76 rfl ?_
            refine lv_isub hx hb dJ6_numberOfLeadingZeros_0f7a4_77 ?_
            obtain rfl := Option.some.inj hm
            exact k_iret hx hb hr hlocks hQc hP hS rfl rfl dJ6_numberOfLeadingZeros_0f7a4_78
        replace hm := hreg
        refine lv_icmp_lt (tgt := 61) hx hb dJ6_numberOfLeadingZeros_0f7a4_51 (by decide) (fun c_8 => ?_) (fun c_8 => ?_)
        · replace hm := hm_t c_8 hm
          obtain rfl := Option.some.inj hm
          exact J61 _ _ _ hP hD hS (lv_sub hl [0, 1] rfl)
        · replace hm := hm_f c_8 hm
          refine lv_iinc (v := (x_7.1 + (-4))) (lv' := [(1, .int (x_7.1 + (-4))), (0, .int x_7.2)]) hx hb dJ6_numberOfLeadingZeros_0f7a4_54 hl (k := 0) rfl rfl (by decide) rfl (fun ls hl => ?_)
          refine lv_iload_n hx hb dJ6_numberOfLeadingZeros_0f7a4_57 rfl (lv_at hl 1 rfl) ?_
          refine lv_iconst (v := 4) hx hb dJ6_numberOfLeadingZeros_0f7a4_58 (by decide) ?_
          refine lv_iushr hx hb dJ6_numberOfLeadingZeros_0f7a4_59 rfl ?_
          obtain ⟨x_13, hx_, hm⟩ := hm_b hm
          refine k_topi (y := x_13) (Option.some.inj hx_) ?_
          refine lv_istore_n (lv' := [(0, .int x_13), (1, .int (x_7.1 + (-4)))]) hx hb dJ6_numberOfLeadingZeros_0f7a4_60 rfl hl (by decide) rfl (fun ls hl => ?_)
          obtain rfl := Option.some.inj hm
          exact J61 _ _ _ hP hD hS (lv_sub hl [1, 0] rfl)
      replace hm := hreg
      refine lv_icmp_lt (tgt := 48) hx hb dJ6_numberOfLeadingZeros_0f7a4_37 (by decide) (fun c_5 => ?_) (fun c_5 => ?_)
      · replace hm := hm_t c_5 hm
        obtain rfl := Option.some.inj hm
        exact J48 _ _ _ hP hD hS (lv_sub hl [0, 1] rfl)
      · replace hm := hm_f c_5 hm
        refine lv_iinc (v := (x_4.1 + (-8))) (lv' := [(1, .int (x_4.1 + (-8))), (0, .int x_4.2)]) hx hb dJ6_numberOfLeadingZeros_0f7a4_40 hl (k := 0) rfl rfl (by decide) rfl (fun ls hl => ?_)
        refine lv_iload_n hx hb dJ6_numberOfLeadingZeros_0f7a4_43 rfl (lv_at hl 1 rfl) ?_
        refine lv_bipush (v := 8) hx hb dJ6_numberOfLeadingZeros_0f7a4_44 (by decide) ?_
        refine lv_iushr hx hb dJ6_numberOfLeadingZeros_0f7a4_46 rfl ?_
        obtain ⟨x_14, hx_, hm⟩ := hm_b hm
        refine k_topi (y := x_14) (Option.some.inj hx_) ?_
        refine lv_istore_n (lv' := [(0, .int x_14), (1, .int (x_4.1 + (-8)))]) hx hb dJ6_numberOfLeadingZeros_0f7a4_47 rfl hl (by decide) rfl (fun ls hl => ?_)
        obtain rfl := Option.some.inj hm
        exact J48 _ _ _ hP hD hS (lv_sub hl [1, 0] rfl)
    replace hm := hreg
    refine lv_icmp_lt (tgt := 33) hx hb dJ6_numberOfLeadingZeros_0f7a4_22 (by decide) (fun c_2 => ?_) (fun c_2 => ?_)
    · replace hm := hm_t c_2 hm
      obtain rfl := Option.some.inj hm
      exact J33 _ _ _ hP hD hS (lv_sub hl [0, 1] rfl)
    · replace hm := hm_f c_2 hm
      refine lv_iinc (v := (31 + (-16))) (lv' := [(1, .int (31 + (-16))), (0, .int x1)]) hx hb dJ6_numberOfLeadingZeros_0f7a4_25 hl (k := 0) rfl rfl (by decide) rfl (fun ls hl => ?_)
      refine lv_iload_n hx hb dJ6_numberOfLeadingZeros_0f7a4_28 rfl (lv_at hl 1 rfl) ?_
      refine lv_bipush (v := 16) hx hb dJ6_numberOfLeadingZeros_0f7a4_29 (by decide) ?_
      refine lv_iushr hx hb dJ6_numberOfLeadingZeros_0f7a4_31 rfl ?_
      obtain ⟨x_15, hx_, hm⟩ := hm_b hm
      refine k_topi (y := x_15) (Option.some.inj hx_) ?_
      refine lv_istore_n (lv' := [(0, .int x_15), (1, .int (31 + (-16)))]) hx hb dJ6_numberOfLeadingZeros_0f7a4_32 rfl hl (by decide) rfl (fun ls hl => ?_)
      obtain rfl := Option.some.inj hm
      exact J33 _ _ _ hP hD hS (lv_sub hl [1, 0] rfl)
  · replace hm := hm_f c_1 hm
    refine lv_iload_n hx hb dJ6_numberOfLeadingZeros_0f7a4_4 rfl (lv_at hl 0 rfl) ?_
    refine lv_if_ne (tgt := 13) hx hb dJ6_numberOfLeadingZeros_0f7a4_5 (by decide) (fun c_16 => ?_) (fun c_16 => ?_)
    · replace hm := hm_f c_16 hm
      refine lv_iconst (v := 0) hx hb dJ6_numberOfLeadingZeros_0f7a4_13 (by decide) ?_
      obtain rfl := Option.some.inj hm
      exact k_iret hx hb hr hlocks hQc hP hS rfl rfl dJ6_numberOfLeadingZeros_0f7a4_14
    · replace hm := hm_t c_16 hm
      refine lv_bipush (v := 32) hx hb dJ6_numberOfLeadingZeros_0f7a4_8 (by decide) ?_
      refine lv_goto (tgt := 14) hx hb dJ6_numberOfLeadingZeros_0f7a4_10 (by decide) ?_
      obtain rfl := Option.some.inj hm
      exact k_iret hx hb hr hlocks hQc hP hS rfl rfl dJ6_numberOfLeadingZeros_0f7a4_14
theorem dJ6_numberOfTrailingZeros_0f7a4_0 : decode cJ6_numberOfTrailingZeros_0f7a4 0 = .ok (.iload_n 0, 1) := by decide +kernel
theorem dJ6_numberOfTrailingZeros_0f7a4_1 : decode cJ6_numberOfTrailingZeros_0f7a4 1 = .ok (.iconst (-1), 1) := by decide +kernel
theorem dJ6_numberOfTrailingZeros_0f7a4_2 : decode cJ6_numberOfTrailingZeros_0f7a4 2 = .ok (.ixor, 1) := by decide +kernel
theorem dJ6_numberOfTrailingZeros_0f7a4_3 : decode cJ6_numberOfTrailingZeros_0f7a4 3 = .ok (.iload_n 0, 1) := by decide +kernel
theorem dJ6_numberOfTrailingZeros_0f7a4_4 : decode cJ6_numberOfTrailingZeros_0f7a4 4 = .ok (.iconst 1, 1) := by decide +kernel
theorem dJ6_numberOfTrailingZeros_0f7a4_5 : decode cJ6_numberOfTrailingZeros_0f7a4 5 = .ok (.isub, 1) := by decide +kernel
theorem dJ6_numberOfTrailingZeros_0f7a4_6 : decode cJ6_numberOfTrailingZeros_0f7a4 6 = .ok (.iand, 1) := by decide +kernel
theorem dJ6_numberOfTrailingZeros_0f7a4_7 : decode cJ6_numberOfTrailingZeros_0f7a4 7 = .ok (.istore_n 0, 1) := by decide +kernel
theorem dJ6_numberOfTrailingZeros_0f7a4_8 : decode cJ6_numberOfTrailingZeros_0f7a4 8 = .ok (.iload_n 0, 1) := by decide +kernel
theorem dJ6_numberOfTrailingZeros_0f7a4_9 : decode cJ6_numberOfTrailingZeros_0f7a4 9 = .ok (.ifCond .gt 8, 3) := by decide +kernel
theorem dJ6_numberOfTrailingZeros_0f7a4_12 : decode cJ6_numberOfTrailingZeros_0f7a4 12 = .ok (.iload_n 0, 1) := by decide +kernel
theorem dJ6_numberOfTrailingZeros_0f7a4_13 : decode cJ6_numberOfTrailingZeros_0f7a4 13 = .ok (.bipush 32, 2) := by decide +kernel
theorem dJ6_numberOfTrailingZeros_0f7a4_15 : decode cJ6_numberOfTrailingZeros_0f7a4 15 = .ok (.iand, 1) := by decide +kernel
theorem dJ6_numberOfTrailingZeros_0f7a4_16 : decode cJ6_numberOfTrailingZeros_0f7a4 16 = .ok (.ireturn, 1) := by decide +kernel
theorem dJ6_numberOfTrailingZeros_0f7a4_17 : decode cJ6_numberOfTrailingZeros_0f7a4 17 = .ok (.iconst 1, 1) := by decide +kernel
theorem dJ6_numberOfTrailingZeros_0f7a4_18 : decode cJ6_numberOfTrailingZeros_0f7a4 18 = .ok (.istore_n 1, 1) := by decide +kernel
theorem dJ6_numberOfTrailingZeros_0f7a4_19 : decode cJ6_numberOfTrailingZeros_0f7a4 19 = .ok (.iload_n 0, 1) := by decide +kernel
theorem dJ6_numberOfTrailingZeros_0f7a4_20 : decode cJ6_numberOfTrailingZeros_0f7a4 20 = .ok (.ldc_w 264, 3) := by decide +kernel
theorem dJ6_numberOfTrailingZeros_0f7a4_23 : decode cJ6_numberOfTrailingZeros_0f7a4 23 = .ok (.if_icmp .le 11, 3) := by decide +kernel
theorem dJ6_numberOfTrailingZeros_0f7a4_26 : decode cJ6_numberOfTrailingZeros_0f7a4 26 = .ok (.iinc 1 16, 3) := by decide +kernel
theorem dJ6_numberOfTrailingZeros_0f7a4_29 : decode cJ6_numberOfTrailingZeros_0f7a4 29 = .ok (.iload_n 0, 1) := by decide +kernel
theorem dJ6_numberOfTrailingZeros_0f7a4_30 : decode cJ6_numberOfTrailingZeros_0f7a4 30 = .ok (.bipush 16, 2) := by decide +kernel
theorem dJ6_numberOfTrailingZeros_0f7a4_32 : decode cJ6_numberOfTrailingZeros_0f7a4 32 = .ok (.iushr, 1) := by decide +kernel
theorem dJ6_numberOfTrailingZeros_0f7a4_33 : decode cJ6_numberOfTrailingZeros_0f7a4 33 = .ok (.istore_n 0, 1) := by decide +kernel
theorem dJ6_numberOfTrailingZeros_0f7a4_34 : decode cJ6_numberOfTrailingZeros_0f7a4 34 = .ok (.iload_n 0, 1) := by decide +kernel
theorem dJ6_numberOfTrailingZeros_0f7a4_35 : decode cJ6_numberOfTrailingZeros_0f7a4 35 = .ok (.sipush 256, 3) := by decide +kernel
theorem dJ6_numberOfTrailingZeros_0f7a4_38 : decode cJ6_numberOfTrailingZeros_0f7a4 38 = .ok (.if_icmp .le 11, 3) := by decide +kernel
theorem dJ6_numberOfTrailingZeros_0f7a4_41 : decode cJ6_numberOfTrailingZeros_0f7a4 41 = .ok (.iinc 1 8, 3) := by decide +kernel
theorem dJ6_numberOfTrailingZeros_0f7a4_44 : decode cJ6_numberOfTrailingZeros_0f7a4 44 = .ok (.iload_n 0, 1) := by decide +kernel
theorem dJ6_numberOfTrailingZeros_0f7a4_45 : decode cJ6_numberOfTrailingZeros_0f7a4 45 = .ok (.bipush 8, 2) := by decide +kernel
theorem dJ6_numberOfTrailingZeros_0f7a4_47 : decode cJ6_numberOfTrailingZeros_0f7a4 47 = .ok (.iushr, 1) := by decide +kernel
theorem dJ6_numberOfTrailingZeros_0f7a4_48 : decode cJ6_numberOfTrailingZeros_0f7a4 48 = .ok (.istore_n 0, 1) := by decide +kernel
theorem dJ6_numberOfTrailingZeros_0f7a4_49 : decode cJ6_numberOfTrailingZeros_0f7a4 49 = .ok (.iload_n 0, 1) := by decide +kernel
theorem dJ6_numberOfTrailingZeros_0f7a4_50 : decode cJ6_numberOfTrailingZeros_0f7a4 50 = .ok (.bipush 16, 2) := by decide +kernel
theorem dJ6_numberOfTrailingZeros_0f7a4_52 : decode cJ6_numberOfTrailingZeros_0f7a4 52 = .ok (.if_icmp .le 10, 3) := by decide +kernel
theorem dJ6_numberOfTrailingZeros_0f7a4_55 : decode cJ6_numberOfTrailingZeros_0f7a4 55 = .ok (.iinc 1 4, 3) := by decide +kernel
theorem dJ6_numberOfTrailingZeros_0f7a4_58 : decode cJ6_numberOfTrailingZeros_0f7a4 58 = .ok (.iload_n 0, 1) := by decide +kernel
theorem dJ6_numberOfTrailingZeros_0f7a4_59 : decode cJ6_numberOfTrailingZeros_0f7a4 59 = .ok (.iconst 4, 1) := by decide +kernel
theorem dJ6_numberOfTrailingZeros_0f7a4_60 : decode cJ6_numberOfTrailingZeros_0f7a4 60 = .ok (.iushr, 1) := by decide +kernel
theorem dJ6_numberOfTrailingZeros_0f7a4_61 : decode cJ6_numberOfTrailingZeros_0f7a4 61 = .ok (.istore_n 0, 1) := by decide +kernel
theorem dJ6_numberOfTrailingZeros_0f7a4_62 : decode cJ6_numberOfTrailingZeros_0f7a4 62 = .ok (.iload_n 0, 1) := by decide +kernel
theorem dJ6_numberOfTrailingZeros_0f7a4_63 : decode cJ6_numberOfTrailingZeros_0f7a4 63 = .ok (.iconst 4, 1) := by decide +kernel
theorem dJ6_numberOfTrailingZeros_0f7a4_64 : decode cJ6_numberOfTrailingZeros_0f7a4 64 = .ok (.if_icmp .le 10, 3) := by decide +kernel
theorem dJ6_numberOfTrailingZeros_0f7a4_67 : decode cJ6_numberOfTrailingZeros_0f7a4 67 = .ok (.iinc 1 2, 3) := by decide +kernel
theorem dJ6_numberOfTrailingZeros_0f7a4_70 : decode cJ6_numberOfTrailingZeros_0f7a4 70 = .ok (.iload_n 0, 1) := by decide +kernel
theorem dJ6_numberOfTrailingZeros_0f7a4_71 : decode cJ6_numberOfTrailingZeros_0f7a4 71 = .ok (.iconst 2, 1) := by decide +kernel
theorem dJ6_numberOfTrailingZeros_0f7a4_72 : decode cJ6_numberOfTrailingZeros_0f7a4 72 = .ok (.iushr, 1) := by decide +kernel
theorem dJ6_numberOfTrailingZeros_0f7a4_73 : decode cJ6_numberOfTrailingZeros_0f7a4 73 = .ok (.istore_n 0, 1) := by decide +kernel
theorem dJ6_numberOfTrailingZeros_0f7a4_74 : decode cJ6_numberOfTrailingZeros_0f7a4 74 = .ok (.iload_n 1, 1) := by decide +kernel
theorem dJ6_numberOfTrailingZeros_0f7a4_75 : decode cJ6_numberOfTrailingZeros_0f7a4 75 = .ok (.iload_n 0, 1) := by decide +kernel
theorem dJ6_numberOfTrailingZeros_0f7a4_76 : decode cJ6_numberOfTrailingZeros_0f7a4 76 = .ok (.iconst 1, 1) := by decide +kernel
theorem dJ6_numberOfTrailingZeros_0f7a4_77 : decode cJ6_numberOfTrailingZeros_0f7a4 77 = .ok (.iushr, 1) := by decide +kernel
theorem dJ6_numberOfTrailingZeros_0f7a4_78 : decode cJ6_numberOfTrailingZeros_0f7a4 78 = .ok (.iadd, 1) := by decide +kernel
theorem dJ6_numberOfTrailingZeros_0f7a4_79 : decode cJ6_numberOfTrailingZeros_0f7a4 79 = .ok (.ireturn, 1) := by decide +kernel
def mJ6_numberOfTrailingZeros_0f7a4 (x1 : Int32) : Option (Int32) := ((some ((x1 ^^^ (-1)) &&& (x1 - 1)) : Option Int32).bind (fun x_1 => (if (0 : Int32) < x_1 then (((if x_1 ≤ 65536 then some (1, x_1) else ((some (((x_1).toUInt32 >>> (((16 : Int32)).toUInt32 &&& Int32.toUInt32 31)).toInt32) : Option Int32).bind (fun x_16 => some ((1 + 16), x_16)))) : Option (Int32 × Int32)).bind (fun x_5 => (((if x_5.2 ≤ 256 then some (x_5.1, x_5.2) else ((some (((x_5.2).toUInt32 >>> (((8 : Int32)).toUInt32 &&& Int32.toUInt32 31)).toInt32) : Option Int32).bind (fun x_15 => some ((x_5.1 + 8), x_15)))) : Option (Int32 × Int32)).bind (fun x_8 => (((if x_8.2 ≤ 16 then some (x_8.1, x_8.2) else ((some (((x_8.2).toUInt32 >>> (((4 : Int32)).toUInt32 &&& Int32.toUInt32 31)).toInt32) : Option Int32).bind (fun x_14 => some ((x_8.1 + 4), x_14)))) : Option (Int32 × Int32)).bind (fun x_11 => (if x_11.2 ≤ 4 then some (x_11.1 + (((x_11.2).toUInt32 >>> (((1 : Int32)).toUInt32 &&& Int32.toUInt32 31)).toInt32)) else ((some (((x_11.2).toUInt32 >>> (((2 : Int32)).toUInt32 &&& Int32.toUInt32 31)).toInt32) : Option Int32).bind (fun x_13 => some ((x_11.1 + 2) + (((x_13).toUInt32 >>> (((1 : Int32)).toUInt32 &&& Int32.toUInt32 31)).toInt32))))))))))) else some (x_1 &&& 32))))
set_option maxHeartbeats 4000000 in
set_option maxRecDepth 100000 in
theorem kcJ6_numberOfTrailingZeros_0f7a4 (l : Launch) (D : va_G) (cy : Nat → ClassId) (g : Nat → Nat) (x1 : Int32) (R : Int32) (hm : mJ6_numberOfTrailingZeros_0f7a4 x1 = some R) : Con l D cy g yJ6_numberOfTrailingZeros_0f7a4 cJ6_numberOfTrailingZeros_0f7a4 2 (some .int) 0 0 0 0 [.int x1] [] [] (some (.int R)) := by
  refine Con.of (by decide +kernel) (Nat.le_of_ble_eq_true rfl) ?_
  intro p e RM s m ar below meth c A Qc ls hx hb hr hml hown hlocks hnm ht hK hP hD hS hA hR hC hQc hl
  have hown : s.vm.findClass RJ6 = some m.cls := hown
  have hl : lv_has ls 2 [(0, .int x1)] := hl
  rw [mJ6_numberOfTrailingZeros_0f7a4] at hm
  refine lv_iload_n hx hb dJ6_numberOfTrailingZeros_0f7a4_0 rfl (lv_at hl 0 rfl) ?_
  refine lv_iconst (v := (-1)) hx hb dJ6_numberOfTrailingZeros_0f7a4_1 (by decide) ?_
  refine lv_ixor hx hb dJ6_numberOfTrailingZeros_0f7a4_2 ?_
  refine lv_iload_n hx hb dJ6_numberOfTrailingZeros_0f7a4_3 rfl (lv_at hl 0 rfl) ?_
  refine lv_iconst (v := 1) hx hb dJ6_numberOfTrailingZeros_0f7a4_4 (by decide) ?_
  refine lv_isub hx hb dJ6_numberOfTrailingZeros_0f7a4_5 ?_
  refine lv_iand hx hb dJ6_numberOfTrailingZeros_0f7a4_6 ?_
  obtain ⟨x_1, hx_, hm⟩ := hm_b hm
  refine k_topi (y := x_1) (Option.some.inj hx_) ?_
  refine lv_istore_n (lv' := [(0, .int x_1)]) hx hb dJ6_numberOfTrailingZeros_0f7a4_7 rfl hl (by decide) rfl (fun ls hl => ?_)
  refine lv_iload_n hx hb dJ6_numberOfTrailingZeros_0f7a4_8 rfl (lv_at hl 0 rfl) ?_
  refine lv_if_gt (tgt := 17) hx hb dJ6_numberOfTrailingZeros_0f7a4_9 (by decide) (fun c_2 => ?_) (fun c_2 => ?_)
  · replace hm := hm_t c_2 hm
    refine lv_iconst (v := 1) hx hb dJ6_numberOfTrailingZeros_0f7a4_17 (by decide) ?_
    refine lv_istore_n (lv' := [(1, .int 1), (0, .int x_1)]) hx hb dJ6_numberOfTrailingZeros_0f7a4_18 rfl hl (by decide) rfl (fun ls hl => ?_)
    refine lv_iload_n hx hb dJ6_numberOfTrailingZeros_0f7a4_19 rfl (lv_at hl 1 rfl) ?_
    refine lv_ldcw (v := 65536) hx hb hown (ht _ q_658) dJ6_numberOfTrailingZeros_0f7a4_20 ?_
    obtain ⟨x_5, hreg, hm⟩ := hm_b hm
    have J34 : ∀ (H : Heap) (locs : List Loc) (ls : Array Slot), va_P D classes [] H → va_D A [] → va_S A s.heap H locs → lv_has ls 2 [(1, .int x_5.1), (0, .int x_5.2)] → W p l e RM s m ar below meth c H locs 0 0 (MQ below Qc ar s 0 0 A) (F0 m 34 ls []) := by
      intro H locs ls hP hD hS hl
      refine lv_iload_n hx hb dJ6_numberOfTrailingZeros_0f7a4_34 rfl (lv_at hl 1 rfl) ?_
      refine lv_sipush (v := 256) hx hb dJ6_numberOfTrailingZeros_0f7a4_35 (by decide) ?_
      obtain ⟨x_8, hreg, hm⟩ := hm_b hm
      have J49 : ∀ (H : Heap) (locs : List Loc) (ls : Array Slot), va_P D classes [] H → va_D A [] → va_S A s.heap H locs → lv_has ls 2 [(1, .int x_8.1), (0, .int x_8.2)] → W p l e RM s m ar below meth c H locs 0 0 (MQ below Qc ar s 0 0 A) (F0 m 49 ls []) := by
        intro H locs ls hP hD hS hl
        refine lv_iload_n hx hb dJ6_numberOfTrailingZeros_0f7a4_49 rfl (lv_at hl 1 rfl) ?_
        refine lv_bipush (v := 16) hx hb dJ6_numberOfTrailingZeros_0f7a4_50 (by decide) ?_
        obtain ⟨x_11, hreg, hm⟩ := hm_b hm
        have J62 : ∀ (H : Heap) (locs : List Loc) (ls : Array Slot), va_P D classes [] H → va_D A [] → va_S A s.heap H locs → lv_has ls 2 [(1, .int x_11.1), (0, .int x_11.2)] → W p l e RM s m ar below meth c H locs 0 0 (MQ below Qc ar s 0 0 A) (F0 m 62 ls []) := by
          intro H locs ls hP hD hS hl
          refine lv_iload_n hx hb dJ6_numberOfTrailingZeros_0f7a4_62 rfl (lv_at hl 1 rfl) ?_
          refine lv_iconst (v := 4) hx hb dJ6_numberOfTrailingZeros_0f7a4_63 (by decide) ?_
          refine lv_icmp_le (tgt := 74) hx hb dJ6_numberOfTrailingZeros_0f7a4_64 (by decide) (fun c_12 => ?_) (fun c_12 => ?_)
          · replace hm := hm_t c_12 hm
            refine lv_iload_n hx hb dJ6_numberOfTrailingZeros_0f7a4_74 rfl (lv_at hl 0 rfl) ?_
            refine lv_iload_n hx hb dJ6_numberOfTrailingZeros_0f7a4_75 rfl (lv_at hl 1 rfl) ?_
            refine lv_iconst (v := 1) hx hb dJ6_numberOfTrailingZeros_0f7a4_76 (by decide) ?_
            refine lv_iushr hx hb dJ6_numberOfTrailingZeros_0f7a4_77 rfl ?_
            refine lv_iadd hx hb dJ6_numberOfTrailingZeros_0f7a4_78 ?_
            obtain rfl := Option.some.inj hm
            exact k_iret hx hb hr hlocks hQc hP hS rfl rfl dJ6_numberOfTrailingZeros_0f7a4_79
          · replace hm := hm_f c_12 hm
            refine lv_iinc (v := (x_11.1 + 2)) (lv' := [(1, .int (x_11.1 + 2)), (0, .int x_11.2)]) hx hb dJ6_numberOfTrailingZeros_0f7a4_67 hl (k := 0) rfl rfl (by decide) rfl (fun ls hl => ?_)
            refine lv_iload_n hx hb dJ6_numberOfTrailingZeros_0f7a4_70 rfl (lv_at hl 1 rfl) ?_
            refine lv_iconst (v := 2) hx hb dJ6_numberOfTrailingZeros_0f7a4_71 (by decide) ?_
            refine lv_iushr hx hb dJ6_numberOfTrailingZeros_0f7a4_72 rfl ?_
            obtain ⟨x_13, hx_, hm⟩ := hm_b hm
            refine k_topi (y := x_13) (Option.some.inj hx_) ?_
            refine lv_istore_n (lv' := [(0, .int x_13), (1, .int (x_11.1 + 2))]) hx hb dJ6_numberOfTrailingZeros_0f7a4_73 rfl hl (by decide) rfl (fun ls hl => ?_)
            refine lv_iload_n hx hb dJ6_numberOfTrailingZeros_0f7a4_74 rfl (lv_at hl 1 rfl) ?_
            refine lv_iload_n hx hb dJ6_numberOfTrailingZeros_0f7a4_75 rfl (lv_at hl 0 rfl) ?_
            refine lv_iconst (v := 1) hx hb dJ6_numberOfTrailingZeros_0f7a4_76 (by decide) ?_
            refine lv_iushr hx hb dJ6_numberOfTrailingZeros_0f7a4_77 rfl ?_
            refine lv_iadd hx hb dJ6_numberOfTrailingZeros_0f7a4_78 ?_
            obtain rfl := Option.some.inj hm
            exact k_iret hx hb hr hlocks hQc hP hS rfl rfl dJ6_numberOfTrailingZeros_0f7a4_79
        replace hm := hreg
        refine lv_icmp_le (tgt := 62) hx hb dJ6_numberOfTrailingZeros_0f7a4_52 (by decide) (fun c_9 => ?_) (fun c_9 => ?_)
        · replace hm := hm_t c_9 hm
          obtain rfl := Option.some.inj hm
          exact J62 _ _ _ hP hD hS (lv_sub hl [0, 1] rfl)
        · replace hm := hm_f c_9 hm
          refine lv_iinc (v := (x_8.1 + 4)) (lv' := [(1, .int (x_8.1 + 4)), (0, .int x_8.2)]) hx hb dJ6_numberOfTrailingZeros_0f7a4_55 hl (k := 0) rfl rfl (by decide) rfl (fun ls hl => ?_)
          refine lv_iload_n hx hb dJ6_numberOfTrailingZeros_0f7a4_58 rfl (lv_at hl 1 rfl) ?_
          refine lv_iconst (v := 4) hx hb dJ6_numberOfTrailingZeros_0f7a4_59 (by decide) ?_
          refine lv_iushr hx hb dJ6_numberOfTrailingZeros_0f7a4_60 rfl ?_
          obtain ⟨x_14, hx_, hm⟩ := hm_b hm
          refine k_topi (y := x_14) (Option.some.inj hx_) ?_
          refine lv_istore_n (lv' := [(0, .int x_14), (1, .int (x_8.1 + 4))]) hx hb dJ6_numberOfTrailingZeros_0f7a4_61 rfl hl (by decide) rfl (fun ls hl => ?_)
          obtain rfl := Option.some.inj hm
          exact J62 _ _ _ hP hD hS (lv_sub hl [1, 0] rfl)
      replace hm := hreg
      refine lv_icmp_le (tgt := 49) hx hb dJ6_numberOfTrailingZeros_0f7a4_38 (by decide) (fun c_6 => ?_) (fun c_6 => ?_)
      · replace hm := hm_t c_6 hm
        obtain rfl := Option.some.inj hm
        exact J49 _ _ _ hP hD hS (lv_sub hl [0, 1] rfl)
      · replace hm := hm_f c_6 hm
        refine lv_iinc (v := (x_5.1 + 8)) (lv' := [(1, .int (x_5.1 + 8)), (0, .int x_5.2)]) hx hb dJ6_numberOfTrailingZeros_0f7a4_41 hl (k := 0) rfl rfl (by decide) rfl (fun ls hl => ?_)
        refine lv_iload_n hx hb dJ6_numberOfTrailingZeros_0f7a4_44 rfl (lv_at hl 1 rfl) ?_
        refine lv_bipush (v := 8) hx hb dJ6_numberOfTrailingZeros_0f7a4_45 (by decide) ?_
        refine lv_iushr hx hb dJ6_numberOfTrailingZeros_0f7a4_47 rfl ?_
        obtain ⟨x_15, hx_, hm⟩ := hm_b hm
        refine k_topi (y := x_15) (Option.some.inj hx_) ?_
        refine lv_istore_n (lv' := [(0, .int x_15), (1, .int (x_5.1 + 8))]) hx hb dJ6_numberOfTrailingZeros_0f7a4_48 rfl hl (by decide) rfl (fun ls hl => ?_)
        obtain rfl := Option.some.inj hm
        exact J49 _ _ _ hP hD hS (lv_sub hl [1, 0] rfl)
    replace hm := hreg
    refine lv_icmp_le (tgt := 34) hx hb dJ6_numberOfTrailingZeros_0f7a4_23 (by decide) (fun c_3 => ?_) (fun c_3 => ?_)
    · replace hm := hm_t c_3 hm
      obtain rfl := Option.some.inj hm
      exact J34 _ _ _ hP hD hS (lv_sub hl [0, 1] rfl)
    · replace hm := hm_f c_3 hm
      refine lv_iinc (v := (1 + 16)) (lv' := [(1, .int (1 + 16)), (0, .int x_1)]) hx hb dJ6_numberOfTrailingZeros_0f7a4_26 hl (k := 0) rfl rfl (by decide) rfl (fun ls hl => ?_)
      refine lv_iload_n hx hb dJ6_numberOfTrailingZeros_0f7a4_29 rfl (lv_at hl 1 rfl) ?_
      refine lv_bipush (v := 16) hx hb dJ6_numberOfTrailingZeros_0f7a4_30 (by decide) ?_
      refine lv_iushr hx hb dJ6_numberOfTrailingZeros_0f7a4_32 rfl ?_
      obtain ⟨x_16, hx_, hm⟩ := hm_b hm
      refine k_topi (y := x_16) (Option.some.inj hx_) ?_
      refine lv_istore_n (lv' := [(0, .int x_16), (1, .int (1 + 16))]) hx hb dJ6_numberOfTrailingZeros_0f7a4_33 rfl hl (by decide) rfl (fun ls hl => ?_)
      obtain rfl := Option.some.inj hm
      exact J34 _ _ _ hP hD hS (lv_sub hl [1, 0] rfl)
  · replace hm := hm_f c_2 hm
    refine lv_iload_n hx hb dJ6_numberOfTrailingZeros_0f7a4_12 rfl (lv_at hl 0 rfl) ?_
    refine lv_bipush (v := 32) hx hb dJ6_numberOfTrailingZeros_0f7a4_13 (by decide) ?_
    refine lv_iand hx hb dJ6_numberOfTrailingZeros_0f7a4_15 ?_
    obtain rfl := Option.some.inj hm
    exact k_iret hx hb hr hlocks hQc hP hS rfl rfl dJ6_numberOfTrailingZeros_0f7a4_16
theorem dJ6_rotateLeft_7cf53_0 : decode cJ6_rotateLeft_7cf53 0 = .ok (.iload_n 0, 1) := by decide +kernel
theorem dJ6_rotateLeft_7cf53_1 : decode cJ6_rotateLeft_7cf53 1 = .ok (.iload_n 1, 1) := by decide +kernel
theorem dJ6_rotateLeft_7cf53_2 : decode cJ6_rotateLeft_7cf53 2 = .ok (.ishl, 1) := by decide +kernel
theorem dJ6_rotateLeft_7cf53_3 : decode cJ6_rotateLeft_7cf53 3 = .ok (.iload_n 0, 1) := by decide +kernel
theorem dJ6_rotateLeft_7cf53_4 : decode cJ6_rotateLeft_7cf53 4 = .ok (.iload_n 1, 1) := by decide +kernel
theorem dJ6_rotateLeft_7cf53_5 : decode cJ6_rotateLeft_7cf53 5 = .ok (.ineg, 1) := by decide +kernel
theorem dJ6_rotateLeft_7cf53_6 : decode cJ6_rotateLeft_7cf53 6 = .ok (.iushr, 1) := by decide +kernel
theorem dJ6_rotateLeft_7cf53_7 : decode cJ6_rotateLeft_7cf53 7 = .ok (.ior, 1) := by decide +kernel
theorem dJ6_rotateLeft_7cf53_8 : decode cJ6_rotateLeft_7cf53 8 = .ok (.ireturn, 1) := by decide +kernel
def mJ6_rotateLeft_7cf53 (x1 : Int32) (x2 : Int32) : Option (Int32) := some (((x1 <<< (x2 &&& 31))) ||| (((x1).toUInt32 >>> (((-x2)).toUInt32 &&& Int32.toUInt32 31)).toInt32))
set_option maxHeartbeats 4000000 in
set_option maxRecDepth 100000 in
theorem kcJ6_rotateLeft_7cf53 (l : Launch) (D : va_G) (cy : Nat → ClassId) (g : Nat → Nat) (x1 : Int32) (x2 : Int32) (R : Int32) (hm : mJ6_rotateLeft_7cf53 x1 x2 = some R) : Con l D cy g yJ6_rotateLeft_7cf53 cJ6_rotateLeft_7cf53 2 (some .int) 0 0 0 0 [.int x1, .int x2] [] [] (some (.int R)) := by
  refine Con.of (by decide +kernel) (Nat.le_of_ble_eq_true rfl) ?_
  intro p e RM s m ar below meth c A Qc ls hx hb hr hml hown hlocks hnm ht hK hP hD hS hA hR hC hQc hl
  have hown : s.vm.findClass RJ6 = some m.cls := hown
  have hl : lv_has ls 2 [(0, .int x1), (1, .int x2)] := hl
  rw [mJ6_rotateLeft_7cf53] at hm
  refine lv_iload_n hx hb dJ6_rotateLeft_7cf53_0 rfl (lv_at hl 0 rfl) ?_
  refine lv_iload_n hx hb dJ6_rotateLeft_7cf53_1 rfl (lv_at hl 1 rfl) ?_
  refine lv_ishl hx hb dJ6_rotateLeft_7cf53_2 ?_
  refine lv_iload_n hx hb dJ6_rotateLeft_7cf53_3 rfl (lv_at hl 0 rfl) ?_
  refine lv_iload_n hx hb dJ6_rotateLeft_7cf53_4 rfl (lv_at hl 1 rfl) ?_
  refine lv_ineg hx hb dJ6_rotateLeft_7cf53_5 ?_
  refine lv_iushr hx hb dJ6_rotateLeft_7cf53_6 rfl ?_
  refine lv_ior hx hb dJ6_rotateLeft_7cf53_7 ?_
  obtain rfl := Option.some.inj hm
  exact k_iret hx hb hr hlocks hQc hP hS rfl rfl dJ6_rotateLeft_7cf53_8
theorem dJ6_rotateRight_7cf53_0 : decode cJ6_rotateRight_7cf53 0 = .ok (.iload_n 0, 1) := by decide +kernel
theorem dJ6_rotateRight_7cf53_1 : decode cJ6_rotateRight_7cf53 1 = .ok (.iload_n 1, 1) := by decide +kernel
theorem dJ6_rotateRight_7cf53_2 : decode cJ6_rotateRight_7cf53 2 = .ok (.iushr, 1) := by decide +kernel
theorem dJ6_rotateRight_7cf53_3 : decode cJ6_rotateRight_7cf53 3 = .ok (.iload_n 0, 1) := by decide +kernel
theorem dJ6_rotateRight_7cf53_4 : decode cJ6_rotateRight_7cf53 4 = .ok (.iload_n 1, 1) := by decide +kernel
theorem dJ6_rotateRight_7cf53_5 : decode cJ6_rotateRight_7cf53 5 = .ok (.ineg, 1) := by decide +kernel
theorem dJ6_rotateRight_7cf53_6 : decode cJ6_rotateRight_7cf53 6 = .ok (.ishl, 1) := by decide +kernel
theorem dJ6_rotateRight_7cf53_7 : decode cJ6_rotateRight_7cf53 7 = .ok (.ior, 1) := by decide +kernel
theorem dJ6_rotateRight_7cf53_8 : decode cJ6_rotateRight_7cf53 8 = .ok (.ireturn, 1) := by decide +kernel
def mJ6_rotateRight_7cf53 (x1 : Int32) (x2 : Int32) : Option (Int32) := some ((((x1).toUInt32 >>> ((x2).toUInt32 &&& Int32.toUInt32 31)).toInt32) ||| ((x1 <<< ((-x2) &&& 31))))
set_option maxHeartbeats 4000000 in
set_option maxRecDepth 100000 in
theorem kcJ6_rotateRight_7cf53 (l : Launch) (D : va_G) (cy : Nat → ClassId) (g : Nat → Nat) (x1 : Int32) (x2 : Int32) (R : Int32) (hm : mJ6_rotateRight_7cf53 x1 x2 = some R) : Con l D cy g yJ6_rotateRight_7cf53 cJ6_rotateRight_7cf53 2 (some .int) 0 0 0 0 [.int x1, .int x2] [] [] (some (.int R)) := by
  refine Con.of (by decide +kernel) (Nat.le_of_ble_eq_true rfl) ?_
  intro p e RM s m ar below meth c A Qc ls hx hb hr hml hown hlocks hnm ht hK hP hD hS hA hR hC hQc hl
  have hown : s.vm.findClass RJ6 = some m.cls := hown
  have hl : lv_has ls 2 [(0, .int x1), (1, .int x2)] := hl
  rw [mJ6_rotateRight_7cf53] at hm
  refine lv_iload_n hx hb dJ6_rotateRight_7cf53_0 rfl (lv_at hl 0 rfl) ?_
  refine lv_iload_n hx hb dJ6_rotateRight_7cf53_1 rfl (lv_at hl 1 rfl) ?_
  refine lv_iushr hx hb dJ6_rotateRight_7cf53_2 rfl ?_
  refine lv_iload_n hx hb dJ6_rotateRight_7cf53_3 rfl (lv_at hl 0 rfl) ?_
  refine lv_iload_n hx hb dJ6_rotateRight_7cf53_4 rfl (lv_at hl 1 rfl) ?_
  refine lv_ineg hx hb dJ6_rotateRight_7cf53_5 ?_
  refine lv_ishl hx hb dJ6_rotateRight_7cf53_6 ?_
  refine lv_ior hx hb dJ6_rotateRight_7cf53_7 ?_
  obtain rfl := Option.some.inj hm
  exact k_iret hx hb hr hlocks hQc hP hS rfl rfl dJ6_rotateRight_7cf53_8
theorem dJ6_reverseBytes_0f7a4_0 : decode cJ6_reverseBytes_0f7a4 0 = .ok (.iload_n 0, 1) := by decide +kernel
theorem dJ6_reverseBytes_0f7a4_1 : decode cJ6_reverseBytes_0f7a4 1 = .ok (.bipush 24, 2) := by decide +kernel
theorem dJ6_reverseBytes_0f7a4_3 : decode cJ6_reverseBytes_0f7a4 3 = .ok (.ishl, 1) := by decide +kernel
theorem dJ6_reverseBytes_0f7a4_4 : decode cJ6_reverseBytes_0f7a4 4 = .ok (.iload_n 0, 1) := by decide +kernel
theorem dJ6_reverseBytes_0f7a4_5 : decode cJ6_reverseBytes_0f7a4 5 = .ok (.ldc_w 274, 3) := by decide +kernel
theorem dJ6_reverseBytes_0f7a4_8 : decode cJ6_reverseBytes_0f7a4 8 = .ok (.iand, 1) := by decide +kernel
theorem dJ6_reverseBytes_0f7a4_9 : decode cJ6_reverseBytes_0f7a4 9 = .ok (.bipush 8, 2) := by decide +kernel
theorem dJ6_reverseBytes_0f7a4_11 : decode cJ6_reverseBytes_0f7a4 11 = .ok (.ishl, 1) := by decide +kernel
theorem dJ6_reverseBytes_0f7a4_12 : decode cJ6_reverseBytes_0f7a4 12 = .ok (.ior, 1) := by decide +kernel
theorem dJ6_reverseBytes_0f7a4_13 : decode cJ6_reverseBytes_0f7a4 13 = .ok (.iload_n 0, 1) := by decide +kernel
theorem dJ6_reverseBytes_0f7a4_14 : decode cJ6_reverseBytes_0f7a4 14 = .ok (.bipush 8, 2) := by decide +kernel
theorem dJ6_reverseBytes_0f7a4_16 : decode cJ6_reverseBytes_0f7a4 16 = .ok (.iushr, 1) := by decide +kernel
theorem dJ6_reverseBytes_0f7a4_17 : decode cJ6_reverseBytes_0f7a4 17 = .ok (.ldc_w 274, 3) := by decide +kernel
theorem dJ6_reverseBytes_0f7a4_20 : decode cJ6_reverseBytes_0f7a4 20 = .ok (.iand, 1) := by decide +kernel
theorem dJ6_reverseBytes_0f7a4_21 : decode cJ6_reverseBytes_0f7a4 21 = .ok (.ior, 1) := by decide +kernel
theorem dJ6_reverseBytes_0f7a4_22 : decode cJ6_reverseBytes_0f7a4 22 = .ok (.iload_n 0, 1) := by decide +kernel
theorem dJ6_reverseBytes_0f7a4_23 : decode cJ6_reverseBytes_0f7a4 23 = .ok (.bipush 24, 2) := by decide +kernel
theorem dJ6_reverseBytes_0f7a4_25 : decode cJ6_reverseBytes_0f7a4 25 = .ok (.iushr, 1) := by decide +kernel
theorem dJ6_reverseBytes_0f7a4_26 : decode cJ6_reverseBytes_0f7a4 26 = .ok (.ior, 1) := by decide +kernel
theorem dJ6_reverseBytes_0f7a4_27 : decode cJ6_reverseBytes_0f7a4 27 = .ok (.ireturn, 1) := by decide +kernel
def mJ6_reverseBytes_0f7a4 (x1 : Int32) : Option (Int32) := some (((((x1 <<< ((24 : Int32) &&& 31))) ||| (((x1 &&& 65280) <<< ((8 : Int32) &&& 31)))) ||| ((((x1).toUInt32 >>> (((8 : Int32)).toUInt32 &&& Int32.toUInt32 31)).toInt32) &&& 65280)) ||| (((x1).toUInt32 >>> (((24 : Int32)).toUInt32 &&& Int32.toUInt32 31)).toInt32))
set_option maxHeartbeats 4000000 in
set_option maxRecDepth 100000 in
theorem kcJ6_reverseBytes_0f7a4 (l : Launch) (D : va_G) (cy : Nat → ClassId) (g : Nat → Nat) (x1 : Int32) (R : Int32) (hm : mJ6_reverseBytes_0f7a4 x1 = some R) : Con l D cy g yJ6_reverseBytes_0f7a4 cJ6_reverseBytes_0f7a4 1 (some .int) 0 0 0 0 [.int x1] [] [] (some (.int R)) := by
  refine Con.of (by decide +kernel) (Nat.le_of_ble_eq_true rfl) ?_
  intro p e RM s m ar below meth c A Qc ls hx hb hr hml hown hlocks hnm ht hK hP hD hS hA hR hC hQc hl
  have hown : s.vm.findClass RJ6 = some m.cls := hown
  have hl : lv_has ls 1 [(0, .int x1)] := hl
  rw [mJ6_reverseBytes_0f7a4] at hm
  refine lv_iload_n hx hb dJ6_reverseBytes_0f7a4_0 rfl (lv_at hl 0 rfl) ?_
  refine lv_bipush (v := 24) hx hb dJ6_reverseBytes_0f7a4_1 (by decide) ?_
  refine lv_ishl hx hb dJ6_reverseBytes_0f7a4_3 ?_
  refine lv_iload_n hx hb dJ6_reverseBytes_0f7a4_4 rfl (lv_at hl 0 rfl) ?_
  refine lv_ldcw (v := 65280) hx hb hown (ht _ q_707) dJ6_reverseBytes_0f7a4_5 ?_
  refine lv_iand hx hb dJ6_reverseBytes_0f7a4_8 ?_
  refine lv_bipush (v := 8) hx hb dJ6_reverseBytes_0f7a4_9 (by decide) ?_
  refine lv_ishl hx hb dJ6_reverseBytes_0f7a4_11 ?_
  refine lv_ior hx hb dJ6_reverseBytes_0f7a4_12 ?_
  refine lv_iload_n hx hb dJ6_reverseBytes_0f7a4_13 rfl (lv_at hl 0 rfl) ?_
  refine lv_bipush (v := 8) hx hb dJ6_reverseBytes_0f7a4_14 (by decide) ?_
  refine lv_iushr hx hb dJ6_reverseBytes_0f7a4_16 rfl ?_
  refine lv_ldcw (v := 65280) hx hb hown (ht _ q_707) dJ6_reverseBytes_0f7a4_17 ?_
  refine lv_iand hx hb dJ6_reverseBytes_0f7a4_20 ?_
  refine lv_ior hx hb dJ6_reverseBytes_0f7a4_21 ?_
  refine lv_iload_n hx hb dJ6_reverseBytes_0f7a4_22 rfl (lv_at hl 0 rfl) ?_
  refine lv_bipush (v := 24) hx hb dJ6_reverseBytes_0f7a4_23 (by decide) ?_
  refine lv_iushr hx hb dJ6_reverseBytes_0f7a4_25 rfl ?_
  refine lv_ior hx hb dJ6_reverseBytes_0f7a4_26 ?_
  obtain rfl := Option.some.inj hm
  exact k_iret hx hb hr hlocks hQc hP hS rfl rfl dJ6_reverseBytes_0f7a4_27
theorem dJ6_reverse_0f7a4_0 : decode cJ6_reverse_0f7a4 0 = .ok (.iload_n 0, 1) := by decide +kernel
theorem dJ6_reverse_0f7a4_1 : decode cJ6_reverse_0f7a4 1 = .ok (.ldc_w 265, 3) := by decide +kernel
theorem dJ6_reverse_0f7a4_4 : decode cJ6_reverse_0f7a4 4 = .ok (.iand, 1) := by decide +kernel
theorem dJ6_reverse_0f7a4_5 : decode cJ6_reverse_0f7a4 5 = .ok (.iconst 1, 1) := by decide +kernel
theorem dJ6_reverse_0f7a4_6 : decode cJ6_reverse_0f7a4 6 = .ok (.ishl, 1) := by decide +kernel
theorem dJ6_reverse_0f7a4_7 : decode cJ6_reverse_0f7a4 7 = .ok (.iload_n 0, 1) := by decide +kernel
theorem dJ6_reverse_0f7a4_8 : decode cJ6_reverse_0f7a4 8 = .ok (.iconst 1, 1) := by decide +kernel
theorem dJ6_reverse_0f7a4_9 : decode cJ6_reverse_0f7a4 9 = .ok (.iushr, 1) := by decide +kernel
theorem dJ6_reverse_0f7a4_10 : decode cJ6_reverse_0f7a4 10 = .ok (.ldc_w 265, 3) := by decide +kernel
theorem dJ6_reverse_0f7a4_13 : decode cJ6_reverse_0f7a4 13 = .ok (.iand, 1) := by decide +kernel
theorem dJ6_reverse_0f7a4_14 : decode cJ6_reverse_0f7a4 14 = .ok (.ior, 1) := by decide +kernel
theorem dJ6_reverse_0f7a4_15 : decode cJ6_reverse_0f7a4 15 = .ok (.istore_n 0, 1) := by decide +kernel
theorem dJ6_reverse_0f7a4_16 : decode cJ6_reverse_0f7a4 16 = .ok (.iload_n 0, 1) := by decide +kernel
theorem dJ6_reverse_0f7a4_17 : decode cJ6_reverse_0f7a4 17 = .ok (.ldc_w 266, 3) := by decide +kernel
theorem dJ6_reverse_0f7a4_20 : decode cJ6_reverse_0f7a4 20 = .ok (.iand, 1) := by decide +kernel
theorem dJ6_reverse_0f7a4_21 : decode cJ6_reverse_0f7a4 21 = .ok (.iconst 2, 1) := by decide +kernel
theorem dJ6_reverse_0f7a4_22 : decode cJ6_reverse_0f7a4 22 = .ok (.ishl, 1) := by decide +kernel
theorem dJ6_reverse_0f7a4_23 : decode cJ6_reverse_0f7a4 23 = .ok (.iload_n 0, 1) := by decide +kernel
theorem dJ6_reverse_0f7a4_24 : decode cJ6_reverse_0f7a4 24 = .ok (.iconst 2, 1) := by decide +kernel
theorem dJ6_reverse_0f7a4_25 : decode cJ6_reverse_0f7a4 25 = .ok (.iushr, 1) := by decide +kernel
theorem dJ6_reverse_0f7a4_26 : decode cJ6_reverse_0f7a4 26 = .ok (.ldc_w 266, 3) := by decide +kernel
theorem dJ6_reverse_0f7a4_29 : decode cJ6_reverse_0f7a4 29 = .ok (.iand, 1) := by decide +kernel
theorem dJ6_reverse_0f7a4_30 : decode cJ6_reverse_0f7a4 30 = .ok (.ior, 1) := by decide +kernel
theorem dJ6_reverse_0f7a4_31 : decode cJ6_reverse_0f7a4 31 = .ok (.istore_n 0, 1) := by decide +kernel
theorem dJ6_reverse_0f7a4_32 : decode cJ6_reverse_0f7a4 32 = .ok (.iload_n 0, 1) := by decide +kernel
theorem dJ6_reverse_0f7a4_33 : decode cJ6_reverse_0f7a4 33 = .ok (.ldc_w 267, 3) := by decide +kernel
theorem dJ6_reverse_0f7a4_36 : decode cJ6_reverse_0f7a4 36 = .ok (.iand, 1) := by decide +kernel
theorem dJ6_reverse_0f7a4_37 : decode cJ6_reverse_0f7a4 37 = .ok (.iconst 4, 1) := by decide +kernel
theorem dJ6_reverse_0f7a4_38 : decode cJ6_reverse_0f7a4 38 = .ok (.ishl, 1) := by decide +kernel
theorem dJ6_reverse_0f7a4_39 : decode cJ6_reverse_0f7a4 39 = .ok (.iload_n 0, 1) := by decide +kernel
theorem dJ6_reverse_0f7a4_40 : decode cJ6_reverse_0f7a4 40 = .ok (.iconst 4, 1) := by decide +kernel
theorem dJ6_reverse_0f7a4_41 : decode cJ6_reverse_0f7a4 41 = .ok (.iushr, 1) := by decide +kernel
theorem dJ6_reverse_0f7a4_42 : decode cJ6_reverse_0f7a4 42 = .ok (.ldc_w 267, 3) := by decide +kernel
theorem dJ6_reverse_0f7a4_45 : decode cJ6_reverse_0f7a4 45 = .ok (.iand, 1) := by decide +kernel
theorem dJ6_reverse_0f7a4_46 : decode cJ6_reverse_0f7a4 46 = .ok (.ior, 1) := by decide +kernel
theorem dJ6_reverse_0f7a4_47 : decode cJ6_reverse_0f7a4 47 = .ok (.istore_n 0, 1) := by decide +kernel
theorem dJ6_reverse_0f7a4_48 : decode cJ6_reverse_0f7a4 48 = .ok (.iload_n 0, 1) := by decide +kernel
theorem dJ6_reverse_0f7a4_49 : decode cJ6_reverse_0f7a4 49 = .ok (.invokestatic 268, 3) := by decide +kernel
theorem dJ6_reverse_0f7a4_52 : decode cJ6_reverse_0f7a4 52 = .ok (.ireturn, 1) := by decide +kernel
def mJ6_reverse_0f7a4 (x1 : Int32) : Option (Int32) := ((some ((((x1 &&& 1431655765) <<< ((1 : Int32) &&& 31))) ||| ((((x1).toUInt32 >>> (((1 : Int32)).toUInt32 &&& Int32.toUInt32 31)).toInt32) &&& 1431655765)) : Option Int32).bind (fun x_1 => ((some ((((x_1 &&& 858993459) <<< ((2 : Int32) &&& 31))) ||| ((((x_1).toUInt32 >>> (((2 : Int32)).toUInt32 &&& Int32.toUInt32 31)).toInt32) &&& 858993459)) : Option Int32).bind (fun x_2 => ((some ((((x_2 &&& 252645135) <<< ((4 : Int32) &&& 31))) ||| ((((x_2).toUInt32 >>> (((4 : Int32)).toUInt32 &&& Int32.toUInt32 31)).toInt32) &&& 252645135)) : Option Int32).bind (fun x_3 => ((mJ6_reverseBytes_0f7a4 x_3).bind (fun r_4 => some r_4))))))))
set_option maxHeartbeats 4000000 in
set_option maxRecDepth 100000 in
theorem kcJ6_reverse_0f7a4 (l : Launch) (D : va_G) (cy : Nat → ClassId) (g : Nat → Nat) (x1 : Int32) (R : Int32) (hm : mJ6_reverse_0f7a4 x1 = some R) : Con l D cy g yJ6_reverse_0f7a4 cJ6_reverse_0f7a4 1 (some .int) 1 20 0 0 [.int x1] [] [] (some (.int R)) := by
  refine Con.of (by decide +kernel) (Nat.le_of_ble_eq_true rfl) ?_
  intro p e RM s m ar below meth c A Qc ls hx hb hr hml hown hlocks hnm ht hK hP hD hS hA hR hC hQc hl
  have hown : s.vm.findClass RJ6 = some m.cls := hown
  have hl : lv_has ls 1 [(0, .int x1)] := hl
  rw [mJ6_reverse_0f7a4] at hm
  refine lv_iload_n hx hb dJ6_reverse_0f7a4_0 rfl (lv_at hl 0 rfl) ?_
  refine lv_ldcw (v := 1431655765) hx hb hown (ht _ q_701) dJ6_reverse_0f7a4_1 ?_
  refine lv_iand hx hb dJ6_reverse_0f7a4_4 ?_
  refine lv_iconst (v := 1) hx hb dJ6_reverse_0f7a4_5 (by decide) ?_
  refine lv_ishl hx hb dJ6_reverse_0f7a4_6 ?_
  refine lv_iload_n hx hb dJ6_reverse_0f7a4_7 rfl (lv_at hl 0 rfl) ?_
  refine lv_iconst (v := 1) hx hb dJ6_reverse_0f7a4_8 (by decide) ?_
  refine lv_iushr hx hb dJ6_reverse_0f7a4_9 rfl ?_
  refine lv_ldcw (v := 1431655765) hx hb hown (ht _ q_701) dJ6_reverse_0f7a4_10 ?_
  refine lv_iand hx hb dJ6_reverse_0f7a4_13 ?_
  refine lv_ior hx hb dJ6_reverse_0f7a4_14 ?_
  obtain ⟨x_1, hx_, hm⟩ := hm_b hm
  refine k_topi (y := x_1) (Option.some.inj hx_) ?_
  refine lv_istore_n (lv' := [(0, .int x_1)]) hx hb dJ6_reverse_0f7a4_15 rfl hl (by decide) rfl (fun ls hl => ?_)
  refine lv_iload_n hx hb dJ6_reverse_0f7a4_16 rfl (lv_at hl 0 rfl) ?_
  refine lv_ldcw (v := 858993459) hx hb hown (ht _ q_702) dJ6_reverse_0f7a4_17 ?_
  refine lv_iand hx hb dJ6_reverse_0f7a4_20 ?_
  refine lv_iconst (v := 2) hx hb dJ6_reverse_0f7a4_21 (by decide) ?_
  refine lv_ishl hx hb dJ6_reverse_0f7a4_22 ?_
  refine lv_iload_n hx hb dJ6_reverse_0f7a4_23 rfl (lv_at hl 0 rfl) ?_
  refine lv_iconst (v := 2) hx hb dJ6_reverse_0f7a4_24 (by decide) ?_
  refine lv_iushr hx hb dJ6_reverse_0f7a4_25 rfl ?_
  refine lv_ldcw (v := 858993459) hx hb hown (ht _ q_702) dJ6_reverse_0f7a4_26 ?_
  refine lv_iand hx hb dJ6_reverse_0f7a4_29 ?_
  refine lv_ior hx hb dJ6_reverse_0f7a4_30 ?_
  obtain ⟨x_2, hx_, hm⟩ := hm_b hm
  refine k_topi (y := x_2) (Option.some.inj hx_) ?_
  refine lv_istore_n (lv' := [(0, .int x_2)]) hx hb dJ6_reverse_0f7a4_31 rfl hl (by decide) rfl (fun ls hl => ?_)
  refine lv_iload_n hx hb dJ6_reverse_0f7a4_32 rfl (lv_at hl 0 rfl) ?_
  refine lv_ldcw (v := 252645135) hx hb hown (ht _ q_703) dJ6_reverse_0f7a4_33 ?_
  refine lv_iand hx hb dJ6_reverse_0f7a4_36 ?_
  refine lv_iconst (v := 4) hx hb dJ6_reverse_0f7a4_37 (by decide) ?_
  refine lv_ishl hx hb dJ6_reverse_0f7a4_38 ?_
  refine lv_iload_n hx hb dJ6_reverse_0f7a4_39 rfl (lv_at hl 0 rfl) ?_
  refine lv_iconst (v := 4) hx hb dJ6_reverse_0f7a4_40 (by decide) ?_
  refine lv_iushr hx hb dJ6_reverse_0f7a4_41 rfl ?_
  refine lv_ldcw (v := 252645135) hx hb hown (ht _ q_703) dJ6_reverse_0f7a4_42 ?_
  refine lv_iand hx hb dJ6_reverse_0f7a4_45 ?_
  refine lv_ior hx hb dJ6_reverse_0f7a4_46 ?_
  obtain ⟨x_3, hx_, hm⟩ := hm_b hm
  refine k_topi (y := x_3) (Option.some.inj hx_) ?_
  refine lv_istore_n (lv' := [(0, .int x_3)]) hx hb dJ6_reverse_0f7a4_47 rfl hl (by decide) rfl (fun ls hl => ?_)
  refine lv_iload_n hx hb dJ6_reverse_0f7a4_48 rfl (lv_at hl 0 rfl) ?_
  obtain ⟨r_4, hr_4, hm⟩ := hm_b hm
  refine k_S (as := [.int x_3]) (rest := []) (ws' := []) (st2 := [.int r_4]) hx hb hml hown ht hK hP hD hS hA hC hR hl (kcJ6_reverseBytes_0f7a4 l D cy g x_3 r_4 hr_4) [] q_704 q_705 q_71 q_706 hyJ6_reverseBytes_0f7a4 ⟨Nat.le_of_ble_eq_true rfl, Nat.le_of_ble_eq_true rfl, Nat.le_of_ble_eq_true rfl, Nat.le_of_ble_eq_true rfl⟩ rfl rfl rfl rfl (Nat.le_of_ble_eq_true rfl) dJ6_reverse_0f7a4_49 rfl rfl (fun H locs hP hD hS => ?_)
  obtain rfl := Option.some.inj hm
  exact k_iret hx hb hr hlocks hQc hP hS rfl rfl dJ6_reverse_0f7a4_52
theorem dJ6_signum_0f7a4_0 : decode cJ6_signum_0f7a4 0 = .ok (.iload_n 0, 1) := by decide +kernel
theorem dJ6_signum_0f7a4_1 : decode cJ6_signum_0f7a4 1 = .ok (.bipush 31, 2) := by decide +kernel
theorem dJ6_signum_0f7a4_3 : decode cJ6_signum_0f7a4 3 = .ok (.ishr, 1) := by decide +kernel
theorem dJ6_signum_0f7a4_4 : decode cJ6_signum_0f7a4 4 = .ok (.iload_n 0, 1) := by decide +kernel
theorem dJ6_signum_0f7a4_5 : decode cJ6_signum_0f7a4 5 = .ok (.ineg, 1) := by decide +kernel
theorem dJ6_signum_0f7a4_6 : decode cJ6_signum_0f7a4 6 = .ok (.bipush 31, 2) := by decide +kernel
theorem dJ6_signum_0f7a4_8 : decode cJ6_signum_0f7a4 8 = .ok (.iushr, 1) := by decide +kernel
theorem dJ6_signum_0f7a4_9 : decode cJ6_signum_0f7a4 9 = .ok (.ior, 1) := by decide +kernel
theorem dJ6_signum_0f7a4_10 : decode cJ6_signum_0f7a4 10 = .ok (.ireturn, 1) := by decide +kernel
def mJ6_signum_0f7a4 (x1 : Int32) : Option (Int32) := some (((x1 >>> ((31 : Int32) &&& 31))) ||| ((((-x1)).toUInt32 >>> (((31 : Int32)).toUInt32 &&& Int32.toUInt32 31)).toInt32))
set_option maxHeartbeats 4000000 in
set_option maxRecDepth 100000 in
theorem kcJ6_signum_0f7a4 (l : Launch) (D : va_G) (cy : Nat → ClassId) (g : Nat → Nat) (x1 : Int32) (R : Int32) (hm : mJ6_signum_0f7a4 x1 = some R) : Con l D cy g yJ6_signum_0f7a4 cJ6_signum_0f7a4 1 (some .int) 0 0 0 0 [.int x1] [] [] (some (.int R)) := by
  refine Con.of (by decide +kernel) (Nat.le_of_ble_eq_true rfl) ?_
  intro p e RM s m ar below meth c A Qc ls hx hb hr hml hown hlocks hnm ht hK hP hD hS hA hR hC hQc hl
  have hown : s.vm.findClass RJ6 = some m.cls := hown
  have hl : lv_has ls 1 [(0, .int x1)] := hl
  rw [mJ6_signum_0f7a4] at hm
  refine lv_iload_n hx hb dJ6_signum_0f7a4_0 rfl (lv_at hl 0 rfl) ?_
  refine lv_bipush (v := 31) hx hb dJ6_signum_0f7a4_1 (by decide) ?_
  refine lv_ishr hx hb dJ6_signum_0f7a4_3 ?_
  refine lv_iload_n hx hb dJ6_signum_0f7a4_4 rfl (lv_at hl 0 rfl) ?_
  refine lv_ineg hx hb dJ6_signum_0f7a4_5 ?_
  refine lv_bipush (v := 31) hx hb dJ6_signum_0f7a4_6 (by decide) ?_
  refine lv_iushr hx hb dJ6_signum_0f7a4_8 rfl ?_
  refine lv_ior hx hb dJ6_signum_0f7a4_9 ?_
  obtain rfl := Option.some.inj hm
  exact k_iret hx hb hr hlocks hQc hP hS rfl rfl dJ6_signum_0f7a4_10
theorem dJ6_highestOneBit_0f7a4_0 : decode cJ6_highestOneBit_0f7a4 0 = .ok (.iload_n 0, 1) := by decide +kernel
theorem dJ6_highestOneBit_0f7a4_1 : decode cJ6_highestOneBit_0f7a4 1 = .ok (.ldc 127, 2) := by decide +kernel
theorem dJ6_highestOneBit_0f7a4_3 : decode cJ6_highestOneBit_0f7a4 3 = .ok (.iload_n 0, 1) := by decide +kernel
theorem dJ6_highestOneBit_0f7a4_4 : decode cJ6_highestOneBit_0f7a4 4 = .ok (.invokestatic 51, 3) := by decide +kernel
theorem dJ6_highestOneBit_0f7a4_7 : decode cJ6_highestOneBit_0f7a4 7 = .ok (.iushr, 1) := by decide +kernel
theorem dJ6_highestOneBit_0f7a4_8 : decode cJ6_highestOneBit_0f7a4 8 = .ok (.iand, 1) := by decide +kernel
theorem dJ6_highestOneBit_0f7a4_9 : decode cJ6_highestOneBit_0f7a4 9 = .ok (.ireturn, 1) := by decide +kernel
def mJ6_highestOneBit_0f7a4 (x1 : Int32) : Option (Int32) := ((mJ6_numberOfLeadingZeros_0f7a4 x1).bind (fun r_1 => some (x1 &&& (((((-2147483648) : Int32)).toUInt32 >>> ((r_1).toUInt32 &&& Int32.toUInt32 31)).toInt32))))
set_option maxHeartbeats 4000000 in
set_option maxRecDepth 100000 in
theorem kcJ6_highestOneBit_0f7a4 (l : Launch) (D : va_G) (cy : Nat → ClassId) (g : Nat → Nat) (x1 : Int32) (R : Int32) (hm : mJ6_highestOneBit_0f7a4 x1 = some R) : Con l D cy g yJ6_highestOneBit_0f7a4 cJ6_highestOneBit_0f7a4 1 (some .int) 1 21 0 0 [.int x1] [] [] (some (.int R)) := by
  refine Con.of (by decide +kernel) (Nat.le_of_ble_eq_true rfl) ?_
  intro p e RM s m ar below meth c A Qc ls hx hb hr hml hown hlocks hnm ht hK hP hD hS hA hR hC hQc hl
  have hown : s.vm.findClass RJ6 = some m.cls := hown
  have hl : lv_has ls 1 [(0, .int x1)] := hl
  rw [mJ6_highestOneBit_0f7a4] at hm
  refine lv_iload_n hx hb dJ6_highestOneBit_0f7a4_0 rfl (lv_at hl 0 rfl) ?_
  refine lv_ldc (v := (-2147483648)) hx hb hown (ht _ q_732) dJ6_highestOneBit_0f7a4_1 ?_
  refine lv_iload_n hx hb dJ6_highestOneBit_0f7a4_3 rfl (lv_at hl 0 rfl) ?_
  obtain ⟨r_1, hr_1, hm⟩ := hm_b hm
  refine k_S (as := [.int x1]) (rest := [.int (-2147483648), .int x1]) (ws' := []) (st2 := [.int r_1, .int (-2147483648), .int x1]) hx hb hml hown ht hK hP hD hS hA hC hR hl (kcJ6_numberOfLeadingZeros_0f7a4 l D cy g x1 r_1 hr_1) [] q_733 q_656 q_71 q_657 hyJ6_numberOfLeadingZeros_0f7a4 ⟨Nat.le_of_ble_eq_true rfl, Nat.le_of_ble_eq_true rfl, Nat.le_of_ble_eq_true rfl, Nat.le_of_ble_eq_true rfl⟩ rfl rfl rfl rfl (Nat.le_of_ble_eq_true rfl) dJ6_highestOneBit_0f7a4_4 rfl rfl (fun H locs hP hD hS => ?_)
  refine lv_iushr hx hb dJ6_highestOneBit_0f7a4_7 rfl ?_
  refine lv_iand hx hb dJ6_highestOneBit_0f7a4_8 ?_
  obtain rfl := Option.some.inj hm
  exact k_iret hx hb hr hlocks hQc hP hS rfl rfl dJ6_highestOneBit_0f7a4_9
theorem dJ6_lowestOneBit_0f7a4_0 : decode cJ6_lowestOneBit_0f7a4 0 = .ok (.iload_n 0, 1) := by decide +kernel
theorem dJ6_lowestOneBit_0f7a4_1 : decode cJ6_lowestOneBit_0f7a4 1 = .ok (.iload_n 0, 1) := by decide +kernel
theorem dJ6_lowestOneBit_0f7a4_2 : decode cJ6_lowestOneBit_0f7a4 2 = .ok (.ineg, 1) := by decide +kernel
theorem dJ6_lowestOneBit_0f7a4_3 : decode cJ6_lowestOneBit_0f7a4 3 = .ok (.iand, 1) := by decide +kernel
theorem dJ6_lowestOneBit_0f7a4_4 : decode cJ6_lowestOneBit_0f7a4 4 = .ok (.ireturn, 1) := by decide +kernel
def mJ6_lowestOneBit_0f7a4 (x1 : Int32) : Option (Int32) := some (x1 &&& (-x1))
set_option maxHeartbeats 4000000 in
set_option maxRecDepth 100000 in
theorem kcJ6_lowestOneBit_0f7a4 (l : Launch) (D : va_G) (cy : Nat → ClassId) (g : Nat → Nat) (x1 : Int32) (R : Int32) (hm : mJ6_lowestOneBit_0f7a4 x1 = some R) : Con l D cy g yJ6_lowestOneBit_0f7a4 cJ6_lowestOneBit_0f7a4 1 (some .int) 0 0 0 0 [.int x1] [] [] (some (.int R)) := by
  refine Con.of (by decide +kernel) (Nat.le_of_ble_eq_true rfl) ?_
  intro p e RM s m ar below meth c A Qc ls hx hb hr hml hown hlocks hnm ht hK hP hD hS hA hR hC hQc hl
  have hown : s.vm.findClass RJ6 = some m.cls := hown
  have hl : lv_has ls 1 [(0, .int x1)] := hl
  rw [mJ6_lowestOneBit_0f7a4] at hm
  refine lv_iload_n hx hb dJ6_lowestOneBit_0f7a4_0 rfl (lv_at hl 0 rfl) ?_
  refine lv_iload_n hx hb dJ6_lowestOneBit_0f7a4_1 rfl (lv_at hl 0 rfl) ?_
  refine lv_ineg hx hb dJ6_lowestOneBit_0f7a4_2 ?_
  refine lv_iand hx hb dJ6_lowestOneBit_0f7a4_3 ?_
  obtain rfl := Option.some.inj hm
  exact k_iret hx hb hr hlocks hQc hP hS rfl rfl dJ6_lowestOneBit_0f7a4_4
theorem dJ13_numberOfLeadingZeros_95d88_0 : decode cJ13_numberOfLeadingZeros_95d88 0 = .ok (.lload_n 0, 1) := by decide +kernel
theorem dJ13_numberOfLeadingZeros_95d88_1 : decode cJ13_numberOfLeadingZeros_95d88 1 = .ok (.bipush 32, 2) := by decide +kernel
theorem dJ13_numberOfLeadingZeros_95d88_3 : decode cJ13_numberOfLeadingZeros_95d88 3 = .ok (.lushr, 1) := by decide +kernel
theorem dJ13_numberOfLeadingZeros_95d88_4 : decode cJ13_numberOfLeadingZeros_95d88 4 = .ok (.l2i, 1) := by decide +kernel
theorem dJ13_numberOfLeadingZeros_95d88_5 : decode cJ13_numberOfLeadingZeros_95d88 5 = .ok (.istore_n 2, 1) := by decide +kernel
theorem dJ13_numberOfLeadingZeros_95d88_6 : decode cJ13_numberOfLeadingZeros_95d88 6 = .ok (.iload_n 2, 1) := by decide +kernel
theorem dJ13_numberOfLeadingZeros_95d88_7 : decode cJ13_numberOfLeadingZeros_95d88 7 = .ok (.ifCond .ne 14, 3) := by decide +kernel
theorem dJ13_numberOfLeadingZeros_95d88_10 : decode cJ13_numberOfLeadingZeros_95d88 10 = .ok (.bipush 32, 2) := by decide +kernel
theorem dJ13_numberOfLeadingZeros_95d88_12 : decode cJ13_numberOfLeadingZeros_95d88 12 = .ok (.lload_n 0, 1) := by decide +kernel
theorem dJ13_numberOfLeadingZeros_95d88_13 : decode cJ13_numberOfLeadingZeros_95d88 13 = .ok (.l2i, 1) := by decide +kernel
theorem dJ13_numberOfLeadingZeros_95d88_14 : decode cJ13_numberOfLeadingZeros_95d88 14 = .ok (.invokestatic 308, 3) := by decide +kernel
theorem dJ13_numberOfLeadingZeros_95d88_17 : decode cJ13_numberOfLeadingZeros_95d88 17 = .ok (.iadd, 1) := by decide +kernel
theorem dJ13_numberOfLeadingZeros_95d88_18 : decode cJ13_numberOfLeadingZeros_95d88 18 = .ok (.goto 7, 3) := by decide +kernel
theorem dJ13_numberOfLeadingZeros_95d88_21 : decode cJ13_numberOfLeadingZeros_95d88 21 = .ok (.iload_n 2, 1) := by decide +kernel
theorem dJ13_numberOfLeadingZeros_95d88_22 : decode cJ13_numberOfLeadingZeros_95d88 22 = .ok (.invokestatic 308, 3) := by decide +kernel
theorem dJ13_numberOfLeadingZeros_95d88_25 : decode cJ13_numberOfLeadingZeros_95d88 25 = .ok (.ireturn, 1) := by decide +kernel
def mJ13_numberOfLeadingZeros_95d88 (x1 : Int64) : Option (Int32) := ((some ((((x1).toUInt64 >>> (((32 : Int32)).toInt64.toUInt64 &&& Int64.toUInt64 63)).toInt64).toInt32) : Option Int32).bind (fun x_1 => (if x_1 = 0 then ((mJ6_numberOfLeadingZeros_0f7a4 (x1.toInt32)).bind (fun r_4 => some (32 + r_4))) else ((mJ6_numberOfLeadingZeros_0f7a4 x_1).bind (fun r_3 => some r_3)))))
set_option maxHeartbeats 4000000 in
set_option maxRecDepth 100000 in
theorem kcJ13_numberOfLeadingZeros_95d88 (l : Launch) (D : va_G) (cy : Nat → ClassId) (g : Nat → Nat) (x1 : Int64) (R : Int32) (hm : mJ13_numberOfLeadingZeros_95d88 x1 = some R) : Con l D cy g yJ13_numberOfLeadingZeros_95d88 cJ13_numberOfLeadingZeros_95d88 3 (some .int) 1 21 0 0 [.long x1] [] [] (some (.int R)) := by
  refine Con.of (by decide +kernel) (Nat.le_of_ble_eq_true rfl) ?_
  intro p e RM s m ar below meth c A Qc ls hx hb hr hml hown hlocks hnm ht hK hP hD hS hA hR hC hQc hl
  have hown : s.vm.findClass RJ13 = some m.cls := hown
  have hl : lv_has ls 3 [(0, .long x1)] := hl
  rw [mJ13_numberOfLeadingZeros_95d88] at hm
  refine lv_lload_n hx hb dJ13_numberOfLeadingZeros_95d88_0 rfl (lv_at hl 0 rfl) ?_
  refine lv_bipush (v := 32) hx hb dJ13_numberOfLeadingZeros_95d88_1 (by decide) ?_
  refine lv_lushr hx hb dJ13_numberOfLeadingZeros_95d88_3 rfl ?_
  refine lv_l2i hx hb dJ13_numberOfLeadingZeros_95d88_4 rfl ?_
  obtain ⟨x_1, hx_, hm⟩ := hm_b hm
  refine k_topi (y := x_1) (Option.some.inj hx_) ?_
  refine lv_istore_n (lv' := [(2, .int x_1), (0, .long x1)]) hx hb dJ13_numberOfLeadingZeros_95d88_5 rfl hl (by decide) rfl (fun ls hl => ?_)
  refine lv_iload_n hx hb dJ13_numberOfLeadingZeros_95d88_6 rfl (lv_at hl 0 rfl) ?_
  refine lv_if_ne (tgt := 21) hx hb dJ13_numberOfLeadingZeros_95d88_7 (by decide) (fun c_2 => ?_) (fun c_2 => ?_)
  · replace hm := hm_f c_2 hm
    refine lv_iload_n hx hb dJ13_numberOfLeadingZeros_95d88_21 rfl (lv_at hl 0 rfl) ?_
    obtain ⟨r_3, hr_3, hm⟩ := hm_b hm
    refine k_S (as := [.int x_1]) (rest := []) (ws' := []) (st2 := [.int r_3]) hx hb hml hown ht hK hP hD hS hA hC hR hl (kcJ6_numberOfLeadingZeros_0f7a4 l D cy g x_1 r_3 hr_3) [] q_655 q_656 q_71 q_657 hyJ6_numberOfLeadingZeros_0f7a4 ⟨Nat.le_of_ble_eq_true rfl, Nat.le_of_ble_eq_true rfl, Nat.le_of_ble_eq_true rfl, Nat.le_of_ble_eq_true rfl⟩ rfl rfl rfl rfl (Nat.le_of_ble_eq_true rfl) dJ13_numberOfLeadingZeros_95d88_22 rfl rfl (fun H locs hP hD hS => ?_)
    obtain rfl := Option.some.inj hm
    exact k_iret hx hb hr hlocks hQc hP hS rfl rfl dJ13_numberOfLeadingZeros_95d88_25
  · replace hm := hm_t c_2 hm
    refine lv_bipush (v := 32) hx hb dJ13_numberOfLeadingZeros_95d88_10 (by decide) ?_
    refine lv_lload_n hx hb dJ13_numberOfLeadingZeros_95d88_12 rfl (lv_at hl 1 rfl) ?_
    refine lv_l2i hx hb dJ13_numberOfLeadingZeros_95d88_13 rfl ?_
    obtain ⟨r_4, hr_4, hm⟩ := hm_b hm
    refine k_S (as := [.int (x1.toInt32)]) (rest := [.int 32]) (ws' := []) (st2 := [.int r_4, .int 32]) hx hb hml hown ht hK hP hD hS hA hC hR hl (kcJ6_numberOfLeadingZeros_0f7a4 l D cy g (x1.toInt32) r_4 hr_4) [] q_655 q_656 q_71 q_657 hyJ6_numberOfLeadingZeros_0f7a4 ⟨Nat.le_of_ble_eq_true rfl, Nat.le_of_ble_eq_true rfl, Nat.le_of_ble_eq_true rfl, Nat.le_of_ble_eq_true rfl⟩ rfl rfl rfl rfl (Nat.le_of_ble_eq_true rfl) dJ13_numberOfLeadingZeros_95d88_14 rfl rfl (fun H locs hP hD hS => ?_)
    refine lv_iadd hx hb dJ13_numberOfLeadingZeros_95d88_17 ?_
    refine lv_goto (tgt := 25) hx hb dJ13_numberOfLeadingZeros_95d88_18 (by decide) ?_
    obtain rfl := Option.some.inj hm
    exact k_iret hx hb hr hlocks hQc hP hS rfl rfl dJ13_numberOfLeadingZeros_95d88_25
theorem dJ13_numberOfTrailingZeros_95d88_0 : decode cJ13_numberOfTrailingZeros_95d88 0 = .ok (.lload_n 0, 1) := by decide +kernel
theorem dJ13_numberOfTrailingZeros_95d88_1 : decode cJ13_numberOfTrailingZeros_95d88 1 = .ok (.l2i, 1) := by decide +kernel
theorem dJ13_numberOfTrailingZeros_95d88_2 : decode cJ13_numberOfTrailingZeros_95d88 2 = .ok (.istore_n 2, 1) := by decide +kernel
theorem dJ13_numberOfTrailingZeros_95d88_3 : decode cJ13_numberOfTrailingZeros_95d88 3 = .ok (.iload_n 2, 1) := by decide +kernel
theorem dJ13_numberOfTrailingZeros_95d88_4 : decode cJ13_numberOfTrailingZeros_95d88 4 = .ok (.ifCond .ne 17, 3) := by decide +kernel
theorem dJ13_numberOfTrailingZeros_95d88_7 : decode cJ13_numberOfTrailingZeros_95d88 7 = .ok (.bipush 32, 2) := by decide +kernel
theorem dJ13_numberOfTrailingZeros_95d88_9 : decode cJ13_numberOfTrailingZeros_95d88 9 = .ok (.lload_n 0, 1) := by decide +kernel
theorem dJ13_numberOfTrailingZeros_95d88_10 : decode cJ13_numberOfTrailingZeros_95d88 10 = .ok (.bipush 32, 2) := by decide +kernel
theorem dJ13_numberOfTrailingZeros_95d88_12 : decode cJ13_numberOfTrailingZeros_95d88 12 = .ok (.lushr, 1) := by decide +kernel
theorem dJ13_numberOfTrailingZeros_95d88_13 : decode cJ13_numberOfTrailingZeros_95d88 13 = .ok (.l2i, 1) := by decide +kernel
theorem dJ13_numberOfTrailingZeros_95d88_14 : decode cJ13_numberOfTrailingZeros_95d88 14 = .ok (.invokestatic 311, 3) := by decide +kernel
theorem dJ13_numberOfTrailingZeros_95d88_17 : decode cJ13_numberOfTrailingZeros_95d88 17 = .ok (.iadd, 1) := by decide +kernel
theorem dJ13_numberOfTrailingZeros_95d88_18 : decode cJ13_numberOfTrailingZeros_95d88 18 = .ok (.goto 7, 3) := by decide +kernel
theorem dJ13_numberOfTrailingZeros_95d88_21 : decode cJ13_numberOfTrailingZeros_95d88 21 = .ok (.iload_n 2, 1) := by decide +kernel
theorem dJ13_numberOfTrailingZeros_95d88_22 : decode cJ13_numberOfTrailingZeros_95d88 22 = .ok (.invokestatic 311, 3) := by decide +kernel
theorem dJ13_numberOfTrailingZeros_95d88_25 : decode cJ13_numberOfTrailingZeros_95d88 25 = .ok (.ireturn, 1) := by decide +kernel
def mJ13_numberOfTrailingZeros_95d88 (x1 : Int64) : Option (Int32) := (if (x1.toInt32) = 0 then ((mJ6_numberOfTrailingZeros_0f7a4 ((((x1).toUInt64 >>> (((32 : Int32)).toInt64.toUInt64 &&& Int64.toUInt64 63)).toInt64).toInt32)).bind (fun r_3 => some (32 + r_3))) else ((mJ6_numberOfTrailingZeros_0f7a4 (x1.toInt32)).bind (fun r_2 => some r_2)))
set_option maxHeartbeats 4000000 in
set_option maxRecDepth 100000 in
theorem kcJ13_numberOfTrailingZeros_95d88 (l : Launch) (D : va_G) (cy : Nat → ClassId) (g : Nat → Nat) (x1 : Int64) (R : Int32) (hm : mJ13_numberOfTrailingZeros_95d88 x1 = some R) : Con l D cy g yJ13_numberOfTrailingZeros_95d88 cJ13_numberOfTrailingZeros_95d88 3 (some .int) 1 21 0 0 [.long x1] [] [] (some (.int R)) := by
  refine Con.of (by decide +kernel) (Nat.le_of_ble_eq_true rfl) ?_
  intro p e RM s m ar below meth c A Qc ls hx hb hr hml hown hlocks hnm ht hK hP hD hS hA hR hC hQc hl
  have hown : s.vm.findClass RJ13 = some m.cls := hown
  have hl : lv_has ls 3 [(0, .long x1)] := hl
  rw [mJ13_numberOfTrailingZeros_95d88] at hm
  refine lv_lload_n hx hb dJ13_numberOfTrailingZeros_95d88_0 rfl (lv_at hl 0 rfl) ?_
  refine lv_l2i hx hb dJ13_numberOfTrailingZeros_95d88_1 rfl ?_
  refine lv_istore_n (lv' := [(2, .int (x1.toInt32)), (0, .long x1)]) hx hb dJ13_numberOfTrailingZeros_95d88_2 rfl hl (by decide) rfl (fun ls hl => ?_)
  refine lv_iload_n hx hb dJ13_numberOfTrailingZeros_95d88_3 rfl (lv_at hl 0 rfl) ?_
  refine lv_if_ne (tgt := 21) hx hb dJ13_numberOfTrailingZeros_95d88_4 (by decide) (fun c_1 => ?_) (fun c_1 => ?_)
  · replace hm := hm_f c_1 hm
    refine lv_iload_n hx hb dJ13_numberOfTrailingZeros_95d88_21 rfl (lv_at hl 0 rfl) ?_
    obtain ⟨r_2, hr_2, hm⟩ := hm_b hm
    refine k_S (as := [.int (x1.toInt32)]) (rest := []) (ws' := []) (st2 := [.int r_2]) hx hb hml hown ht hK hP hD hS hA hC hR hl (kcJ6_numberOfTrailingZeros_0f7a4 l D cy g (x1.toInt32) r_2 hr_2) [] q_670 q_671 q_71 q_672 hyJ6_numberOfTrailingZeros_0f7a4 ⟨Nat.le_of_ble_eq_true rfl, Nat.le_of_ble_eq_true rfl, Nat.le_of_ble_eq_true rfl, Nat.le_of_ble_eq_true rfl⟩ rfl rfl rfl rfl (Nat.le_of_ble_eq_true rfl) dJ13_numberOfTrailingZeros_95d88_22 rfl rfl (fun H locs hP hD hS => ?_)
    obtain rfl := Option.some.inj hm
    exact k_iret hx hb hr hlocks hQc hP hS rfl rfl dJ13_numberOfTrailingZeros_95d88_25
  · replace hm := hm_t c_1 hm
    refine lv_bipush (v := 32) hx hb dJ13_numberOfTrailingZeros_95d88_7 (by decide) ?_
    refine lv_lload_n hx hb dJ13_numberOfTrailingZeros_95d88_9 rfl (lv_at hl 1 rfl) ?_
    refine lv_bipush (v := 32) hx hb dJ13_numberOfTrailingZeros_95d88_10 (by decide) ?_
    refine lv_lushr hx hb dJ13_numberOfTrailingZeros_95d88_12 rfl ?_
    refine lv_l2i hx hb dJ13_numberOfTrailingZeros_95d88_13 rfl ?_
    obtain ⟨r_3, hr_3, hm⟩ := hm_b hm
    refine k_S (as := [.int ((((x1).toUInt64 >>> (((32 : Int32)).toInt64.toUInt64 &&& Int64.toUInt64 63)).toInt64).toInt32)]) (rest := [.int 32]) (ws' := []) (st2 := [.int r_3, .int 32]) hx hb hml hown ht hK hP hD hS hA hC hR hl (kcJ6_numberOfTrailingZeros_0f7a4 l D cy g ((((x1).toUInt64 >>> (((32 : Int32)).toInt64.toUInt64 &&& Int64.toUInt64 63)).toInt64).toInt32) r_3 hr_3) [] q_670 q_671 q_71 q_672 hyJ6_numberOfTrailingZeros_0f7a4 ⟨Nat.le_of_ble_eq_true rfl, Nat.le_of_ble_eq_true rfl, Nat.le_of_ble_eq_true rfl, Nat.le_of_ble_eq_true rfl⟩ rfl rfl rfl rfl (Nat.le_of_ble_eq_true rfl) dJ13_numberOfTrailingZeros_95d88_14 rfl rfl (fun H locs hP hD hS => ?_)
    refine lv_iadd hx hb dJ13_numberOfTrailingZeros_95d88_17 ?_
    refine lv_goto (tgt := 25) hx hb dJ13_numberOfTrailingZeros_95d88_18 (by decide) ?_
    obtain rfl := Option.some.inj hm
    exact k_iret hx hb hr hlocks hQc hP hS rfl rfl dJ13_numberOfTrailingZeros_95d88_25
theorem dJ13_rotateLeft_b2ac5_0 : decode cJ13_rotateLeft_b2ac5 0 = .ok (.lload_n 0, 1) := by decide +kernel
theorem dJ13_rotateLeft_b2ac5_1 : decode cJ13_rotateLeft_b2ac5 1 = .ok (.iload_n 2, 1) := by decide +kernel
theorem dJ13_rotateLeft_b2ac5_2 : decode cJ13_rotateLeft_b2ac5 2 = .ok (.lshl, 1) := by decide +kernel
theorem dJ13_rotateLeft_b2ac5_3 : decode cJ13_rotateLeft_b2ac5 3 = .ok (.lload_n 0, 1) := by decide +kernel
theorem dJ13_rotateLeft_b2ac5_4 : decode cJ13_rotateLeft_b2ac5 4 = .ok (.iload_n 2, 1) := by decide +kernel
theorem dJ13_rotateLeft_b2ac5_5 : decode cJ13_rotateLeft_b2ac5 5 = .ok (.ineg, 1) := by decide +kernel
theorem dJ13_rotateLeft_b2ac5_6 : decode cJ13_rotateLeft_b2ac5 6 = .ok (.lushr, 1) := by decide +kernel
theorem dJ13_rotateLeft_b2ac5_7 : decode cJ13_rotateLeft_b2ac5 7 = .ok (.lor, 1) := by decide +kernel
theorem dJ13_rotateLeft_b2ac5_8 : decode cJ13_rotateLeft_b2ac5 8 = .ok (.lreturn, 1) := by decide +kernel
def mJ13_rotateLeft_b2ac5 (x1 : Int64) (x2 : Int32) : Option (Int64) := some (((x1 <<< (x2.toInt64 &&& 63))) ||| (((x1).toUInt64 >>> (((-x2)).toInt64.toUInt64 &&& Int64.toUInt64 63)).toInt64))
set_option maxHeartbeats 4000000 in
set_option maxRecDepth 100000 in
theorem kcJ13_rotateLeft_b2ac5 (l : Launch) (D : va_G) (cy : Nat → ClassId) (g : Nat → Nat) (x1 : Int64) (x2 : Int32) (R : Int64) (hm : mJ13_rotateLeft_b2ac5 x1 x2 = some R) : Con l D cy g yJ13_rotateLeft_b2ac5 cJ13_rotateLeft_b2ac5 3 (some .long) 0 0 0 0 [.long x1, .int x2] [] [] (some (.long R)) := by
  refine Con.of (by decide +kernel) (Nat.le_of_ble_eq_true rfl) ?_
  intro p e RM s m ar below meth c A Qc ls hx hb hr hml hown hlocks hnm ht hK hP hD hS hA hR hC hQc hl
  have hown : s.vm.findClass RJ13 = some m.cls := hown
  have hl : lv_has ls 3 [(0, .long x1), (2, .int x2)] := hl
  rw [mJ13_rotateLeft_b2ac5] at hm
  refine lv_lload_n hx hb dJ13_rotateLeft_b2ac5_0 rfl (lv_at hl 0 rfl) ?_
  refine lv_iload_n hx hb dJ13_rotateLeft_b2ac5_1 rfl (lv_at hl 1 rfl) ?_
  refine lv_lshl hx hb dJ13_rotateLeft_b2ac5_2 rfl ?_
  refine lv_lload_n hx hb dJ13_rotateLeft_b2ac5_3 rfl (lv_at hl 0 rfl) ?_
  refine lv_iload_n hx hb dJ13_rotateLeft_b2ac5_4 rfl (lv_at hl 1 rfl) ?_
  refine lv_ineg hx hb dJ13_rotateLeft_b2ac5_5 ?_
  refine lv_lushr hx hb dJ13_rotateLeft_b2ac5_6 rfl ?_
  refine lv_lor hx hb dJ13_rotateLeft_b2ac5_7 ?_
  obtain rfl := Option.some.inj hm
  exact k_lret hx hb hr hlocks hQc hP hS rfl rfl dJ13_rotateLeft_b2ac5_8
theorem dJ13_rotateRight_b2ac5_0 : decode cJ13_rotateRight_b2ac5 0 = .ok (.lload_n 0, 1) := by decide +kernel
theorem dJ13_rotateRight_b2ac5_1 : decode cJ13_rotateRight_b2ac5 1 = .ok (.iload_n 2, 1) := by decide +kernel
theorem dJ13_rotateRight_b2ac5_2 : decode cJ13_rotateRight_b2ac5 2 = .ok (.lushr, 1) := by decide +kernel
theorem dJ13_rotateRight_b2ac5_3 : decode cJ13_rotateRight_b2ac5 3 = .ok (.lload_n 0, 1) := by decide +kernel
theorem dJ13_rotateRight_b2ac5_4 : decode cJ13_rotateRight_b2ac5 4 = .ok (.iload_n 2, 1) := by decide +kernel
theorem dJ13_rotateRight_b2ac5_5 : decode cJ13_rotateRight_b2ac5 5 = .ok (.ineg, 1) := by decide +kernel
theorem dJ13_rotateRight_b2ac5_6 : decode cJ13_rotateRight_b2ac5 6 = .ok (.lshl, 1) := by decide +kernel
theorem dJ13_rotateRight_b2ac5_7 : decode cJ13_rotateRight_b2ac5 7 = .ok (.lor, 1) := by decide +kernel
theorem dJ13_rotateRight_b2ac5_8 : decode cJ13_rotateRight_b2ac5 8 = .ok (.lreturn, 1) := by decide +kernel
def mJ13_rotateRight_b2ac5 (x1 : Int64) (x2 : Int32) : Option (Int64) := some ((((x1).toUInt64 >>> ((x2).toInt64.toUInt64 &&& Int64.toUInt64 63)).toInt64) ||| ((x1 <<< ((-x2).toInt64 &&& 63))))
set_option maxHeartbeats 4000000 in
set_option maxRecDepth 100000 in
theorem kcJ13_rotateRight_b2ac5 (l : Launch) (D : va_G) (cy : Nat → ClassId) (g : Nat → Nat) (x1 : Int64) (x2 : Int32) (R : Int64) (hm : mJ13_rotateRight_b2ac5 x1 x2 = some R) : Con l D cy g yJ13_rotateRight_b2ac5 cJ13_rotateRight_b2ac5 3 (some .long) 0 0 0 0 [.long x1, .int x2] [] [] (some (.long R)) := by
  refine Con.of (by decide +kernel) (Nat.le_of_ble_eq_true rfl) ?_
  intro p e RM s m ar below meth c A Qc ls hx hb hr hml hown hlocks hnm ht hK hP hD hS hA hR hC hQc hl
  have hown : s.vm.findClass RJ13 = some m.cls := hown
  have hl : lv_has ls 3 [(0, .long x1), (2, .int x2)] := hl
  rw [mJ13_rotateRight_b2ac5] at hm
  refine lv_lload_n hx hb dJ13_rotateRight_b2ac5_0 rfl (lv_at hl 0 rfl) ?_
  refine lv_iload_n hx hb dJ13_rotateRight_b2ac5_1 rfl (lv_at hl 1 rfl) ?_
  refine lv_lushr hx hb dJ13_rotateRight_b2ac5_2 rfl ?_
  refine lv_lload_n hx hb dJ13_rotateRight_b2ac5_3 rfl (lv_at hl 0 rfl) ?_
  refine lv_iload_n hx hb dJ13_rotateRight_b2ac5_4 rfl (lv_at hl 1 rfl) ?_
  refine lv_ineg hx hb dJ13_rotateRight_b2ac5_5 ?_
  refine lv_lshl hx hb dJ13_rotateRight_b2ac5_6 rfl ?_
  refine lv_lor hx hb dJ13_rotateRight_b2ac5_7 ?_
  obtain rfl := Option.some.inj hm
  exact k_lret hx hb hr hlocks hQc hP hS rfl rfl dJ13_rotateRight_b2ac5_8
theorem dJ13_reverseBytes_067f4_0 : decode cJ13_reverseBytes_067f4 0 = .ok (.lload_n 0, 1) := by decide +kernel
theorem dJ13_reverseBytes_067f4_1 : decode cJ13_reverseBytes_067f4 1 = .ok (.ldc2_w 327, 3) := by decide +kernel
theorem dJ13_reverseBytes_067f4_4 : decode cJ13_reverseBytes_067f4 4 = .ok (.land, 1) := by decide +kernel
theorem dJ13_reverseBytes_067f4_5 : decode cJ13_reverseBytes_067f4 5 = .ok (.bipush 8, 2) := by decide +kernel
theorem dJ13_reverseBytes_067f4_7 : decode cJ13_reverseBytes_067f4 7 = .ok (.lshl, 1) := by decide +kernel
theorem dJ13_reverseBytes_067f4_8 : decode cJ13_reverseBytes_067f4 8 = .ok (.lload_n 0, 1) := by decide +kernel
theorem dJ13_reverseBytes_067f4_9 : decode cJ13_reverseBytes_067f4 9 = .ok (.bipush 8, 2) := by decide +kernel
theorem dJ13_reverseBytes_067f4_11 : decode cJ13_reverseBytes_067f4 11 = .ok (.lushr, 1) := by decide +kernel
theorem dJ13_reverseBytes_067f4_12 : decode cJ13_reverseBytes_067f4 12 = .ok (.ldc2_w 327, 3) := by decide +kernel
theorem dJ13_reverseBytes_067f4_15 : decode cJ13_reverseBytes_067f4 15 = .ok (.land, 1) := by decide +kernel
theorem dJ13_reverseBytes_067f4_16 : decode cJ13_reverseBytes_067f4 16 = .ok (.lor, 1) := by decide +kernel
theorem dJ13_reverseBytes_067f4_17 : decode cJ13_reverseBytes_067f4 17 = .ok (.lstore_n 0, 1) := by decide +kernel
theorem dJ13_reverseBytes_067f4_18 : decode cJ13_reverseBytes_067f4 18 = .ok (.lload_n 0, 1) := by decide +kernel
theorem dJ13_reverseBytes_067f4_19 : decode cJ13_reverseBytes_067f4 19 = .ok (.bipush 48, 2) := by decide +kernel
theorem dJ13_reverseBytes_067f4_21 : decode cJ13_reverseBytes_067f4 21 = .ok (.lshl, 1) := by decide +kernel
theorem dJ13_reverseBytes_067f4_22 : decode cJ13_reverseBytes_067f4 22 = .ok (.lload_n 0, 1) := by decide +kernel
theorem dJ13_reverseBytes_067f4_23 : decode cJ13_reverseBytes_067f4 23 = .ok (.ldc2_w 329, 3) := by decide +kernel
theorem dJ13_reverseBytes_067f4_26 : decode cJ13_reverseBytes_067f4 26 = .ok (.land, 1) := by decide +kernel
theorem dJ13_reverseBytes_067f4_27 : decode cJ13_reverseBytes_067f4 27 = .ok (.bipush 16, 2) := by decide +kernel
theorem dJ13_reverseBytes_067f4_29 : decode cJ13_reverseBytes_067f4 29 = .ok (.lshl, 1) := by decide +kernel
theorem dJ13_reverseBytes_067f4_30 : decode cJ13_reverseBytes_067f4 30 = .ok (.lor, 1) := by decide +kernel
theorem dJ13_reverseBytes_067f4_31 : decode cJ13_reverseBytes_067f4 31 = .ok (.lload_n 0, 1) := by decide +kernel
theorem dJ13_reverseBytes_067f4_32 : decode cJ13_reverseBytes_067f4 32 = .ok (.bipush 16, 2) := by decide +kernel
theorem dJ13_reverseBytes_067f4_34 : decode cJ13_reverseBytes_067f4 34 = .ok (.lushr, 1) := by decide +kernel
theorem dJ13_reverseBytes_067f4_35 : decode cJ13_reverseBytes_067f4 35 = .ok (.ldc2_w 329, 3) := by decide +kernel
theorem dJ13_reverseBytes_067f4_38 : decode cJ13_reverseBytes_067f4 38 = .ok (.land, 1) := by decide +kernel
theorem dJ13_reverseBytes_067f4_39 : decode cJ13_reverseBytes_067f4 39 = .ok (.lor, 1) := by decide +kernel
theorem dJ13_reverseBytes_067f4_40 : decode cJ13_reverseBytes_067f4 40 = .ok (.lload_n 0, 1) := by decide +kernel
theorem dJ13_reverseBytes_067f4_41 : decode cJ13_reverseBytes_067f4 41 = .ok (.bipush 48, 2) := by decide +kernel
theorem dJ13_reverseBytes_067f4_43 : decode cJ13_reverseBytes_067f4 43 = .ok (.lushr, 1) := by decide +kernel
theorem dJ13_reverseBytes_067f4_44 : decode cJ13_reverseBytes_067f4 44 = .ok (.lor, 1) := by decide +kernel
theorem dJ13_reverseBytes_067f4_45 : decode cJ13_reverseBytes_067f4 45 = .ok (.lreturn, 1) := by decide +kernel
def mJ13_reverseBytes_067f4 (x1 : Int64) : Option (Int64) := ((some ((((x1 &&& 71777214294589695) <<< ((8 : Int32).toInt64 &&& 63))) ||| ((((x1).toUInt64 >>> (((8 : Int32)).toInt64.toUInt64 &&& Int64.toUInt64 63)).toInt64) &&& 71777214294589695)) : Option Int64).bind (fun x_1 => some (((((x_1 <<< ((48 : Int32).toInt64 &&& 63))) ||| (((x_1 &&& 4294901760) <<< ((16 : Int32).toInt64 &&& 63)))) ||| ((((x_1).toUInt64 >>> (((16 : Int32)).toInt64.toUInt64 &&& Int64.toUInt64 63)).toInt64) &&& 4294901760)) ||| (((x_1).toUInt64 >>> (((48 : Int32)).toInt64.toUInt64 &&& Int64.toUInt64 63)).toInt64))))
set_option maxHeartbeats 4000000 in
set_option maxRecDepth 100000 in
theorem kcJ13_reverseBytes_067f4 (l : Launch) (D : va_G) (cy : Nat → ClassId) (g : Nat → Nat) (x1 : Int64) (R : Int64) (hm : mJ13_reverseBytes_067f4 x1 = some R) : Con l D cy g yJ13_reverseBytes_067f4 cJ13_reverseBytes_067f4 2 (some .long) 0 0 0 0 [.long x1] [] [] (some (.long R)) := by
  refine Con.of (by decide +kernel) (Nat.le_of_ble_eq_true rfl) ?_
  intro p e RM s m ar below meth c A Qc ls hx hb hr hml hown hlocks hnm ht hK hP hD hS hA hR hC hQc hl
  have hown : s.vm.findClass RJ13 = some m.cls := hown
  have hl : lv_has ls 2 [(0, .long x1)] := hl
  rw [mJ13_reverseBytes_067f4] at hm
  refine lv_lload_n hx hb dJ13_reverseBytes_067f4_0 rfl (lv_at hl 0 rfl) ?_
  refine lv_ldc2 (v := 71777214294589695) hx hb hown (ht _ q_696) dJ13_reverseBytes_067f4_1 ?_
  refine lv_land hx hb dJ13_reverseBytes_067f4_4 ?_
  refine lv_bipush (v := 8) hx hb dJ13_reverseBytes_067f4_5 (by decide) ?_
  refine lv_lshl hx hb dJ13_reverseBytes_067f4_7 rfl ?_
  refine lv_lload_n hx hb dJ13_reverseBytes_067f4_8 rfl (lv_at hl 0 rfl) ?_
  refine lv_bipush (v := 8) hx hb dJ13_reverseBytes_067f4_9 (by decide) ?_
  refine lv_lushr hx hb dJ13_reverseBytes_067f4_11 rfl ?_
  refine lv_ldc2 (v := 71777214294589695) hx hb hown (ht _ q_696) dJ13_reverseBytes_067f4_12 ?_
  refine lv_land hx hb dJ13_reverseBytes_067f4_15 ?_
  refine lv_lor hx hb dJ13_reverseBytes_067f4_16 ?_
  obtain ⟨x_1, hx_, hm⟩ := hm_b hm
  refine k_topl (y := x_1) (Option.some.inj hx_) ?_
  refine lv_lstore_n (lv' := [(0, .long x_1)]) hx hb dJ13_reverseBytes_067f4_17 rfl hl (by decide) rfl (fun ls hl => ?_)
  refine lv_lload_n hx hb dJ13_reverseBytes_067f4_18 rfl (lv_at hl 0 rfl) ?_
  refine lv_bipush (v := 48) hx hb dJ13_reverseBytes_067f4_19 (by decide) ?_
  refine lv_lshl hx hb dJ13_reverseBytes_067f4_21 rfl ?_
  refine lv_lload_n hx hb dJ13_reverseBytes_067f4_22 rfl (lv_at hl 0 rfl) ?_
  refine lv_ldc2 (v := 4294901760) hx hb hown (ht _ q_697) dJ13_reverseBytes_067f4_23 ?_
  refine lv_land hx hb dJ13_reverseBytes_067f4_26 ?_
  refine lv_bipush (v := 16) hx hb dJ13_reverseBytes_067f4_27 (by decide) ?_
  refine lv_lshl hx hb dJ13_reverseBytes_067f4_29 rfl ?_
  refine lv_lor hx hb dJ13_reverseBytes_067f4_30 ?_
  refine lv_lload_n hx hb dJ13_reverseBytes_067f4_31 rfl (lv_at hl 0 rfl) ?_
  refine lv_bipush (v := 16) hx hb dJ13_reverseBytes_067f4_32 (by decide) ?_
  refine lv_lushr hx hb dJ13_reverseBytes_067f4_34 rfl ?_
  refine lv_ldc2 (v := 4294901760) hx hb hown (ht _ q_697) dJ13_reverseBytes_067f4_35 ?_
  refine lv_land hx hb dJ13_reverseBytes_067f4_38 ?_
  refine lv_lor hx hb dJ13_reverseBytes_067f4_39 ?_
  refine lv_lload_n hx hb dJ13_reverseBytes_067f4_40 rfl (lv_at hl 0 rfl) ?_
  refine lv_bipush (v := 48) hx hb dJ13_reverseBytes_067f4_41 (by decide) ?_
  refine lv_lushr hx hb dJ13_reverseBytes_067f4_43 rfl ?_
  refine lv_lor hx hb dJ13_reverseBytes_067f4_44 ?_
  obtain rfl := Option.some.inj hm
  exact k_lret hx hb hr hlocks hQc hP hS rfl rfl dJ13_reverseBytes_067f4_45
theorem dJ13_reverse_067f4_0 : decode cJ13_reverse_067f4 0 = .ok (.lload_n 0, 1) := by decide +kernel
theorem dJ13_reverse_067f4_1 : decode cJ13_reverse_067f4 1 = .ok (.ldc2_w 314, 3) := by decide +kernel
theorem dJ13_reverse_067f4_4 : decode cJ13_reverse_067f4 4 = .ok (.land, 1) := by decide +kernel
theorem dJ13_reverse_067f4_5 : decode cJ13_reverse_067f4 5 = .ok (.iconst 1, 1) := by decide +kernel
theorem dJ13_reverse_067f4_6 : decode cJ13_reverse_067f4 6 = .ok (.lshl, 1) := by decide +kernel
theorem dJ13_reverse_067f4_7 : decode cJ13_reverse_067f4 7 = .ok (.lload_n 0, 1) := by decide +kernel
theorem dJ13_reverse_067f4_8 : decode cJ13_reverse_067f4 8 = .ok (.iconst 1, 1) := by decide +kernel
theorem dJ13_reverse_067f4_9 : decode cJ13_reverse_067f4 9 = .ok (.lushr, 1) := by decide +kernel
theorem dJ13_reverse_067f4_10 : decode cJ13_reverse_067f4 10 = .ok (.ldc2_w 314, 3) := by decide +kernel
theorem dJ13_reverse_067f4_13 : decode cJ13_reverse_067f4 13 = .ok (.land, 1) := by decide +kernel
theorem dJ13_reverse_067f4_14 : decode cJ13_reverse_067f4 14 = .ok (.lor, 1) := by decide +kernel
theorem dJ13_reverse_067f4_15 : decode cJ13_reverse_067f4 15 = .ok (.lstore_n 0, 1) := by decide +kernel
theorem dJ13_reverse_067f4_16 : decode cJ13_reverse_067f4 16 = .ok (.lload_n 0, 1) := by decide +kernel
theorem dJ13_reverse_067f4_17 : decode cJ13_reverse_067f4 17 = .ok (.ldc2_w 316, 3) := by decide +kernel
theorem dJ13_reverse_067f4_20 : decode cJ13_reverse_067f4 20 = .ok (.land, 1) := by decide +kernel
theorem dJ13_reverse_067f4_21 : decode cJ13_reverse_067f4 21 = .ok (.iconst 2, 1) := by decide +kernel
theorem dJ13_reverse_067f4_22 : decode cJ13_reverse_067f4 22 = .ok (.lshl, 1) := by decide +kernel
theorem dJ13_reverse_067f4_23 : decode cJ13_reverse_067f4 23 = .ok (.lload_n 0, 1) := by decide +kernel
theorem dJ13_reverse_067f4_24 : decode cJ13_reverse_067f4 24 = .ok (.iconst 2, 1) := by decide +kernel
theorem dJ13_reverse_067f4_25 : decode cJ13_reverse_067f4 25 = .ok (.lushr, 1) := by decide +kernel
theorem dJ13_reverse_067f4_26 : decode cJ13_reverse_067f4 26 = .ok (.ldc2_w 316, 3) := by decide +kernel
theorem dJ13_reverse_067f4_29 : decode cJ13_reverse_067f4 29 = .ok (.land, 1) := by decide +kernel
theorem dJ13_reverse_067f4_30 : decode cJ13_reverse_067f4 30 = .ok (.lor, 1) := by decide +kernel
theorem dJ13_reverse_067f4_31 : decode cJ13_reverse_067f4 31 = .ok (.lstore_n 0, 1) := by decide +kernel
theorem dJ13_reverse_067f4_32 : decode cJ13_reverse_067f4 32 = .ok (.lload_n 0, 1) := by decide +kernel
theorem dJ13_reverse_067f4_33 : decode cJ13_reverse_067f4 33 = .ok (.ldc2_w 318, 3) := by decide +kernel
theorem dJ13_reverse_067f4_36 : decode cJ13_reverse_067f4 36 = .ok (.land, 1) := by decide +kernel
theorem dJ13_reverse_067f4_37 : decode cJ13_reverse_067f4 37 = .ok (.iconst 4, 1) := by decide +kernel
theorem dJ13_reverse_067f4_38 : decode cJ13_reverse_067f4 38 = .ok (.lshl, 1) := by decide +kernel
theorem dJ13_reverse_067f4_39 : decode cJ13_reverse_067f4 39 = .ok (.lload_n 0, 1) := by decide +kernel
theorem dJ13_reverse_067f4_40 : decode cJ13_reverse_067f4 40 = .ok (.iconst 4, 1) := by decide +kernel
theorem dJ13_reverse_067f4_41 : decode cJ13_reverse_067f4 41 = .ok (.lushr, 1) := by decide +kernel
theorem dJ13_reverse_067f4_42 : decode cJ13_reverse_067f4 42 = .ok (.ldc2_w 318, 3) := by decide +kernel
theorem dJ13_reverse_067f4_45 : decode cJ13_reverse_067f4 45 = .ok (.land, 1) := by decide +kernel
theorem dJ13_reverse_067f4_46 : decode cJ13_reverse_067f4 46 = .ok (.lor, 1) := by decide +kernel
theorem dJ13_reverse_067f4_47 : decode cJ13_reverse_067f4 47 = .ok (.lstore_n 0, 1) := by decide +kernel
theorem dJ13_reverse_067f4_48 : decode cJ13_reverse_067f4 48 = .ok (.lload_n 0, 1) := by decide +kernel
theorem dJ13_reverse_067f4_49 : decode cJ13_reverse_067f4 49 = .ok (.invokestatic 320, 3) := by decide +kernel
theorem dJ13_reverse_067f4_52 : decode cJ13_reverse_067f4 52 = .ok (.lreturn, 1) := by decide +kernel
def mJ13_reverse_067f4 (x1 : Int64) : Option (Int64) := ((some ((((x1 &&& 6148914691236517205) <<< ((1 : Int32).toInt64 &&& 63))) ||| ((((x1).toUInt64 >>> (((1 : Int32)).toInt64.toUInt64 &&& Int64.toUInt64 63)).toInt64) &&& 6148914691236517205)) : Option Int64).bind (fun x_1 => ((some ((((x_1 &&& 3689348814741910323) <<< ((2 : Int32).toInt64 &&& 63))) ||| ((((x_1).toUInt64 >>> (((2 : Int32)).toInt64.toUInt64 &&& Int64.toUInt64 63)).toInt64) &&& 3689348814741910323)) : Option Int64).bind (fun x_2 => ((some ((((x_2 &&& 1085102592571150095) <<< ((4 : Int32).toInt64 &&& 63))) ||| ((((x_2).toUInt64 >>> (((4 : Int32)).toInt64.toUInt64 &&& Int64.toUInt64 63)).toInt64) &&& 1085102592571150095)) : Option Int64).bind (fun x_3 => ((mJ13_reverseBytes_067f4 x_3).bind (fun r_4 => some r_4))))))))
set_option maxHeartbeats 4000000 in
set_option maxRecDepth 100000 in
theorem kcJ13_reverse_067f4 (l : Launch) (D : va_G) (cy : Nat → ClassId) (g : Nat → Nat) (x1 : Int64) (R : Int64) (hm : mJ13_reverse_067f4 x1 = some R) : Con l D cy g yJ13_reverse_067f4 cJ13_reverse_067f4 2 (some .long) 1 21 0 0 [.long x1] [] [] (some (.long R)) := by
  refine Con.of (by decide +kernel) (Nat.le_of_ble_eq_true rfl) ?_
  intro p e RM s m ar below meth c A Qc ls hx hb hr hml hown hlocks hnm ht hK hP hD hS hA hR hC hQc hl
  have hown : s.vm.findClass RJ13 = some m.cls := hown
  have hl : lv_has ls 2 [(0, .long x1)] := hl
  rw [mJ13_reverse_067f4] at hm
  refine lv_lload_n hx hb dJ13_reverse_067f4_0 rfl (lv_at hl 0 rfl) ?_
  refine lv_ldc2 (v := 6148914691236517205) hx hb hown (ht _ q_642) dJ13_reverse_067f4_1 ?_
  refine lv_land hx hb dJ13_reverse_067f4_4 ?_
  refine lv_iconst (v := 1) hx hb dJ13_reverse_067f4_5 (by decide) ?_
  refine lv_lshl hx hb dJ13_reverse_067f4_6 rfl ?_
  refine lv_lload_n hx hb dJ13_reverse_067f4_7 rfl (lv_at hl 0 rfl) ?_
  refine lv_iconst (v := 1) hx hb dJ13_reverse_067f4_8 (by decide) ?_
  refine lv_lushr hx hb dJ13_reverse_067f4_9 rfl ?_
  refine lv_ldc2 (v := 6148914691236517205) hx hb hown (ht _ q_642) dJ13_reverse_067f4_10 ?_
  refine lv_land hx hb dJ13_reverse_067f4_13 ?_
  refine lv_lor hx hb dJ13_reverse_067f4_14 ?_
  obtain ⟨x_1, hx_, hm⟩ := hm_b hm
  refine k_topl (y := x_1) (Option.some.inj hx_) ?_
  refine lv_lstore_n (lv' := [(0, .long x_1)]) hx hb dJ13_reverse_067f4_15 rfl hl (by decide) rfl (fun ls hl => ?_)
  refine lv_lload_n hx hb dJ13_reverse_067f4_16 rfl (lv_at hl 0 rfl) ?_
  refine lv_ldc2 (v := 3689348814741910323) hx hb hown (ht _ q_643) dJ13_reverse_067f4_17 ?_
  refine lv_land hx hb dJ13_reverse_067f4_20 ?_
  refine lv_iconst (v := 2) hx hb dJ13_reverse_067f4_21 (by decide) ?_
  refine lv_lshl hx hb dJ13_reverse_067f4_22 rfl ?_
  refine lv_lload_n hx hb dJ13_reverse_067f4_23 rfl (lv_at hl 0 rfl) ?_
  refine lv_iconst (v := 2) hx hb dJ13_reverse_067f4_24 (by decide) ?_
  refine lv_lushr hx hb dJ13_reverse_067f4_25 rfl ?_
  refine lv_ldc2 (v := 3689348814741910323) hx hb hown (ht _ q_643) dJ13_reverse_067f4_26 ?_
  refine lv_land hx hb dJ13_reverse_067f4_29 ?_
  refine lv_lor hx hb dJ13_reverse_067f4_30 ?_
  obtain ⟨x_2, hx_, hm⟩ := hm_b hm
  refine k_topl (y := x_2) (Option.some.inj hx_) ?_
  refine lv_lstore_n (lv' := [(0, .long x_2)]) hx hb dJ13_reverse_067f4_31 rfl hl (by decide) rfl (fun ls hl => ?_)
  refine lv_lload_n hx hb dJ13_reverse_067f4_32 rfl (lv_at hl 0 rfl) ?_
  refine lv_ldc2 (v := 1085102592571150095) hx hb hown (ht _ q_644) dJ13_reverse_067f4_33 ?_
  refine lv_land hx hb dJ13_reverse_067f4_36 ?_
  refine lv_iconst (v := 4) hx hb dJ13_reverse_067f4_37 (by decide) ?_
  refine lv_lshl hx hb dJ13_reverse_067f4_38 rfl ?_
  refine lv_lload_n hx hb dJ13_reverse_067f4_39 rfl (lv_at hl 0 rfl) ?_
  refine lv_iconst (v := 4) hx hb dJ13_reverse_067f4_40 (by decide) ?_
  refine lv_lushr hx hb dJ13_reverse_067f4_41 rfl ?_
  refine lv_ldc2 (v := 1085102592571150095) hx hb hown (ht _ q_644) dJ13_reverse_067f4_42 ?_
  refine lv_land hx hb dJ13_reverse_067f4_45 ?_
  refine lv_lor hx hb dJ13_reverse_067f4_46 ?_
  obtain ⟨x_3, hx_, hm⟩ := hm_b hm
  refine k_topl (y := x_3) (Option.some.inj hx_) ?_
  refine lv_lstore_n (lv' := [(0, .long x_3)]) hx hb dJ13_reverse_067f4_47 rfl hl (by decide) rfl (fun ls hl => ?_)
  refine lv_lload_n hx hb dJ13_reverse_067f4_48 rfl (lv_at hl 0 rfl) ?_
  obtain ⟨r_4, hr_4, hm⟩ := hm_b hm
  refine k_S (as := [.long x_3]) (rest := []) (ws' := []) (st2 := [.long r_4]) hx hb hml hown ht hK hP hD hS hA hC hR hl (kcJ13_reverseBytes_067f4 l D cy g x_3 r_4 hr_4) [] q_693 q_694 q_70 q_695 hyJ13_reverseBytes_067f4 ⟨Nat.le_of_ble_eq_true rfl, Nat.le_of_ble_eq_true rfl, Nat.le_of_ble_eq_true rfl, Nat.le_of_ble_eq_true rfl⟩ rfl rfl rfl rfl (Nat.le_of_ble_eq_true rfl) dJ13_reverse_067f4_49 rfl rfl (fun H locs hP hD hS => ?_)
  obtain rfl := Option.some.inj hm
  exact k_lret hx hb hr hlocks hQc hP hS rfl rfl dJ13_reverse_067f4_52
theorem dJ13_signum_95d88_0 : decode cJ13_signum_95d88 0 = .ok (.lload_n 0, 1) := by decide +kernel
theorem dJ13_signum_95d88_1 : decode cJ13_signum_95d88 1 = .ok (.bipush 63, 2) := by decide +kernel
theorem dJ13_signum_95d88_3 : decode cJ13_signum_95d88 3 = .ok (.lshr, 1) := by decide +kernel
theorem dJ13_signum_95d88_4 : decode cJ13_signum_95d88 4 = .ok (.lload_n 0, 1) := by decide +kernel
theorem dJ13_signum_95d88_5 : decode cJ13_signum_95d88 5 = .ok (.lneg, 1) := by decide +kernel
theorem dJ13_signum_95d88_6 : decode cJ13_signum_95d88 6 = .ok (.bipush 63, 2) := by decide +kernel
theorem dJ13_signum_95d88_8 : decode cJ13_signum_95d88 8 = .ok (.lushr, 1) := by decide +kernel
theorem dJ13_signum_95d88_9 : decode cJ13_signum_95d88 9 = .ok (.lor, 1) := by decide +kernel
theorem dJ13_signum_95d88_10 : decode cJ13_signum_95d88 10 = .ok (.l2i, 1) := by decide +kernel
theorem dJ13_signum_95d88_11 : decode cJ13_signum_95d88 11 = .ok (.ireturn, 1) := by decide +kernel
def mJ13_signum_95d88 (x1 : Int64) : Option (Int32) := some ((((x1 >>> ((63 : Int32).toInt64 &&& 63))) ||| ((((-x1)).toUInt64 >>> (((63 : Int32)).toInt64.toUInt64 &&& Int64.toUInt64 63)).toInt64)).toInt32)
set_option maxHeartbeats 4000000 in
set_option maxRecDepth 100000 in
theorem kcJ13_signum_95d88 (l : Launch) (D : va_G) (cy : Nat → ClassId) (g : Nat → Nat) (x1 : Int64) (R : Int32) (hm : mJ13_signum_95d88 x1 = some R) : Con l D cy g yJ13_signum_95d88 cJ13_signum_95d88 2 (some .int) 0 0 0 0 [.long x1] [] [] (some (.int R)) := by
  refine Con.of (by decide +kernel) (Nat.le_of_ble_eq_true rfl) ?_
  intro p e RM s m ar below meth c A Qc ls hx hb hr hml hown hlocks hnm ht hK hP hD hS hA hR hC hQc hl
  have hown : s.vm.findClass RJ13 = some m.cls := hown
  have hl : lv_has ls 2 [(0, .long x1)] := hl
  rw [mJ13_signum_95d88] at hm
  refine lv_lload_n hx hb dJ13_signum_95d88_0 rfl (lv_at hl 0 rfl) ?_
  refine lv_bipush (v := 63) hx hb dJ13_signum_95d88_1 (by decide) ?_
  refine lv_lshr hx hb dJ13_signum_95d88_3 rfl ?_
  refine lv_lload_n hx hb dJ13_signum_95d88_4 rfl (lv_at hl 0 rfl) ?_
  refine lv_lneg hx hb dJ13_signum_95d88_5 ?_
  refine lv_bipush (v := 63) hx hb dJ13_signum_95d88_6 (by decide) ?_
  refine lv_lushr hx hb dJ13_signum_95d88_8 rfl ?_
  refine lv_lor hx hb dJ13_signum_95d88_9 ?_
  refine lv_l2i hx hb dJ13_signum_95d88_10 rfl ?_
  obtain rfl := Option.some.inj hm
  exact k_iret hx hb hr hlocks hQc hP hS rfl rfl dJ13_signum_95d88_11
theorem dJ13_compare_74951_0 : decode cJ13_compare_74951 0 = .ok (.lload_n 0, 1) := by decide +kernel
theorem dJ13_compare_74951_1 : decode cJ13_compare_74951 1 = .ok (.lload_n 2, 1) := by decide +kernel
theorem dJ13_compare_74951_2 : decode cJ13_compare_74951 2 = .ok (.lcmp, 1) := by decide +kernel
theorem dJ13_compare_74951_3 : decode cJ13_compare_74951 3 = .ok (.ifCond .ge 7, 3) := by decide +kernel
theorem dJ13_compare_74951_6 : decode cJ13_compare_74951 6 = .ok (.iconst (-1), 1) := by decide +kernel
theorem dJ13_compare_74951_7 : decode cJ13_compare_74951 7 = .ok (.goto 14, 3) := by decide +kernel
theorem dJ13_compare_74951_10 : decode cJ13_compare_74951 10 = .ok (.lload_n 0, 1) := by decide +kernel
theorem dJ13_compare_74951_11 : decode cJ13_compare_74951 11 = .ok (.lload_n 2, 1) := by decide +kernel
theorem dJ13_compare_74951_12 : decode cJ13_compare_74951 12 = .ok (.lcmp, 1) := by decide +kernel
theorem dJ13_compare_74951_13 : decode cJ13_compare_74951 13 = .ok (.ifCond .ne 7, 3) := by decide +kernel
theorem dJ13_compare_74951_16 : decode cJ13_compare_74951 16 = .ok (.iconst 0, 1) := by decide +kernel
theorem dJ13_compare_74951_17 : decode cJ13_compare_74951 17 = .ok (.goto 4, 3) := by decide +kernel
theorem dJ13_compare_74951_20 : decode cJ13_compare_74951 20 = .ok (.iconst 1, 1) := by decide +kernel
theorem dJ13_compare_74951_21 : decode cJ13_compare_74951 21 = .ok (.ireturn, 1) := by decide +kernel
def mJ13_compare_74951 (x1 : Int64) (x2 : Int64) : Option (Int32) := (if (0 : Int32) ≤ (lg_cmp x1 x2) then (if (lg_cmp x1 x2) = 0 then some 0 else some 1) else some (-1))
set_option maxHeartbeats 4000000 in
set_option maxRecDepth 100000 in
theorem kcJ13_compare_74951 (l : Launch) (D : va_G) (cy : Nat → ClassId) (g : Nat → Nat) (x1 : Int64) (x2 : Int64) (R : Int32) (hm : mJ13_compare_74951 x1 x2 = some R) : Con l D cy g yJ13_compare_74951 cJ13_compare_74951 4 (some .int) 0 0 0 0 [.long x1, .long x2] [] [] (some (.int R)) := by
  refine Con.of (by decide +kernel) (Nat.le_of_ble_eq_true rfl) ?_
  intro p e RM s m ar below meth c A Qc ls hx hb hr hml hown hlocks hnm ht hK hP hD hS hA hR hC hQc hl
  have hown : s.vm.findClass RJ13 = some m.cls := hown
  have hl : lv_has ls 4 [(0, .long x1), (2, .long x2)] := hl
  rw [mJ13_compare_74951] at hm
  refine lv_lload_n hx hb dJ13_compare_74951_0 rfl (lv_at hl 0 rfl) ?_
  refine lv_lload_n hx hb dJ13_compare_74951_1 rfl (lv_at hl 1 rfl) ?_
  refine W.lcmp hx hb dJ13_compare_74951_2 ?_
  refine lv_if_ge (tgt := 10) hx hb dJ13_compare_74951_3 (by decide) (fun c_1 => ?_) (fun c_1 => ?_)
  · replace hm := hm_t c_1 hm
    refine lv_lload_n hx hb dJ13_compare_74951_10 rfl (lv_at hl 0 rfl) ?_
    refine lv_lload_n hx hb dJ13_compare_74951_11 rfl (lv_at hl 1 rfl) ?_
    refine W.lcmp hx hb dJ13_compare_74951_12 ?_
    refine lv_if_ne (tgt := 20) hx hb dJ13_compare_74951_13 (by decide) (fun c_2 => ?_) (fun c_2 => ?_)
    · replace hm := hm_f c_2 hm
      refine lv_iconst (v := 1) hx hb dJ13_compare_74951_20 (by decide) ?_
      obtain rfl := Option.some.inj hm
      exact k_iret hx hb hr hlocks hQc hP hS rfl rfl dJ13_compare_74951_21
    · replace hm := hm_t c_2 hm
      refine lv_iconst (v := 0) hx hb dJ13_compare_74951_16 (by decide) ?_
      refine lv_goto (tgt := 21) hx hb dJ13_compare_74951_17 (by decide) ?_
      obtain rfl := Option.some.inj hm
      exact k_iret hx hb hr hlocks hQc hP hS rfl rfl dJ13_compare_74951_21
  · replace hm := hm_f c_1 hm
    refine lv_iconst (v := (-1)) hx hb dJ13_compare_74951_6 (by decide) ?_
    refine lv_goto (tgt := 21) hx hb dJ13_compare_74951_7 (by decide) ?_
    obtain rfl := Option.some.inj hm
    exact k_iret hx hb hr hlocks hQc hP hS rfl rfl dJ13_compare_74951_21
theorem dJ13_highestOneBit_067f4_0 : decode cJ13_highestOneBit_067f4 0 = .ok (.lload_n 0, 1) := by decide +kernel
theorem dJ13_highestOneBit_067f4_1 : decode cJ13_highestOneBit_067f4 1 = .ok (.ldc2_w 168, 3) := by decide +kernel
theorem dJ13_highestOneBit_067f4_4 : decode cJ13_highestOneBit_067f4 4 = .ok (.lload_n 0, 1) := by decide +kernel
theorem dJ13_highestOneBit_067f4_5 : decode cJ13_highestOneBit_067f4 5 = .ok (.invokestatic 98, 3) := by decide +kernel
theorem dJ13_highestOneBit_067f4_8 : decode cJ13_highestOneBit_067f4 8 = .ok (.lushr, 1) := by decide +kernel
theorem dJ13_highestOneBit_067f4_9 : decode cJ13_highestOneBit_067f4 9 = .ok (.land, 1) := by decide +kernel
theorem dJ13_highestOneBit_067f4_10 : decode cJ13_highestOneBit_067f4 10 = .ok (.lreturn, 1) := by decide +kernel
def mJ13_highestOneBit_067f4 (x1 : Int64) : Option (Int64) := ((mJ13_numberOfLeadingZeros_95d88 x1).bind (fun r_1 => some (x1 &&& (((((-9223372036854775808) : Int64)).toUInt64 >>> ((r_1).toInt64.toUInt64 &&& Int64.toUInt64 63)).toInt64))))
set_option maxHeartbeats 4000000 in
set_option maxRecDepth 100000 in
theorem kcJ13_highestOneBit_067f4 (l : Launch) (D : va_G) (cy : Nat → ClassId) (g : Nat → Nat) (x1 : Int64) (R : Int64) (hm : mJ13_highestOneBit_067f4 x1 = some R) : Con l D cy g yJ13_highestOneBit_067f4 cJ13_highestOneBit_067f4 2 (some .long) 2 43 0 0 [.long x1] [] [] (some (.long R)) := by
  refine Con.of (by decide +kernel) (Nat.le_of_ble_eq_true rfl) ?_
  intro p e RM s m ar below meth c A Qc ls hx hb hr hml hown hlocks hnm ht hK hP hD hS hA hR hC hQc hl
  have hown : s.vm.findClass RJ13 = some m.cls := hown
  have hl : lv_has ls 2 [(0, .long x1)] := hl
  rw [mJ13_highestOneBit_067f4] at hm
  refine lv_lload_n hx hb dJ13_highestOneBit_067f4_0 rfl (lv_at hl 0 rfl) ?_
  refine lv_ldc2 (v := (-9223372036854775808)) hx hb hown (ht _ q_727) dJ13_highestOneBit_067f4_1 ?_
  refine lv_lload_n hx hb dJ13_highestOneBit_067f4_4 rfl (lv_at hl 0 rfl) ?_
  obtain ⟨r_1, hr_1, hm⟩ := hm_b hm
  refine k_S (as := [.long x1]) (rest := [.long (-9223372036854775808), .long x1]) (ws' := []) (st2 := [.int r_1, .long (-9223372036854775808), .long x1]) hx hb hml hown ht hK hP hD hS hA hC hR hl (kcJ13_numberOfLeadingZeros_95d88 l D cy g x1 r_1 hr_1) [] q_728 q_653 q_70 q_654 hyJ13_numberOfLeadingZeros_95d88 ⟨Nat.le_of_ble_eq_true rfl, Nat.le_of_ble_eq_true rfl, Nat.le_of_ble_eq_true rfl, Nat.le_of_ble_eq_true rfl⟩ rfl rfl rfl rfl (Nat.le_of_ble_eq_true rfl) dJ13_highestOneBit_067f4_5 rfl rfl (fun H locs hP hD hS => ?_)
  refine lv_lushr hx hb dJ13_highestOneBit_067f4_8 rfl ?_
  refine lv_land hx hb dJ13_highestOneBit_067f4_9 ?_
  obtain rfl := Option.some.inj hm
  exact k_lret hx hb hr hlocks hQc hP hS rfl rfl dJ13_highestOneBit_067f4_10
theorem dJ13_lowestOneBit_067f4_0 : decode cJ13_lowestOneBit_067f4 0 = .ok (.lload_n 0, 1) := by decide +kernel
theorem dJ13_lowestOneBit_067f4_1 : decode cJ13_lowestOneBit_067f4 1 = .ok (.lload_n 0, 1) := by decide +kernel
theorem dJ13_lowestOneBit_067f4_2 : decode cJ13_lowestOneBit_067f4 2 = .ok (.lneg, 1) := by decide +kernel
theorem dJ13_lowestOneBit_067f4_3 : decode cJ13_lowestOneBit_067f4 3 = .ok (.land, 1) := by decide +kernel
theorem dJ13_lowestOneBit_067f4_4 : decode cJ13_lowestOneBit_067f4 4 = .ok (.lreturn, 1) := by decide +kernel
def mJ13_lowestOneBit_067f4 (x1 : Int64) : Option (Int64) := some (x1 &&& (-x1))
set_option maxHeartbeats 4000000 in
set_option maxRecDepth 100000 in
theorem kcJ13_lowestOneBit_067f4 (l : Launch) (D : va_G) (cy : Nat → ClassId) (g : Nat → Nat) (x1 : Int64) (R : Int64) (hm : mJ13_lowestOneBit_067f4 x1 = some R) : Con l D cy g yJ13_lowestOneBit_067f4 cJ13_lowestOneBit_067f4 2 (some .long) 0 0 0 0 [.long x1] [] [] (some (.long R)) := by
  refine Con.of (by decide +kernel) (Nat.le_of_ble_eq_true rfl) ?_
  intro p e RM s m ar below meth c A Qc ls hx hb hr hml hown hlocks hnm ht hK hP hD hS hA hR hC hQc hl
  have hown : s.vm.findClass RJ13 = some m.cls := hown
  have hl : lv_has ls 2 [(0, .long x1)] := hl
  rw [mJ13_lowestOneBit_067f4] at hm
  refine lv_lload_n hx hb dJ13_lowestOneBit_067f4_0 rfl (lv_at hl 0 rfl) ?_
  refine lv_lload_n hx hb dJ13_lowestOneBit_067f4_1 rfl (lv_at hl 0 rfl) ?_
  refine lv_lneg hx hb dJ13_lowestOneBit_067f4_2 ?_
  refine lv_land hx hb dJ13_lowestOneBit_067f4_3 ?_
  obtain rfl := Option.some.inj hm
  exact k_lret hx hb hr hlocks hQc hP hS rfl rfl dJ13_lowestOneBit_067f4_4
theorem dJ13_bitCount_95d88_0 : decode cJ13_bitCount_95d88 0 = .ok (.lload_n 0, 1) := by decide +kernel
theorem dJ13_bitCount_95d88_1 : decode cJ13_bitCount_95d88 1 = .ok (.lload_n 0, 1) := by decide +kernel
theorem dJ13_bitCount_95d88_2 : decode cJ13_bitCount_95d88 2 = .ok (.iconst 1, 1) := by decide +kernel
theorem dJ13_bitCount_95d88_3 : decode cJ13_bitCount_95d88 3 = .ok (.lushr, 1) := by decide +kernel
theorem dJ13_bitCount_95d88_4 : decode cJ13_bitCount_95d88 4 = .ok (.ldc2_w 314, 3) := by decide +kernel
theorem dJ13_bitCount_95d88_7 : decode cJ13_bitCount_95d88 7 = .ok (.land, 1) := by decide +kernel
theorem dJ13_bitCount_95d88_8 : decode cJ13_bitCount_95d88 8 = .ok (.lsub, 1) := by decide +kernel
theorem dJ13_bitCount_95d88_9 : decode cJ13_bitCount_95d88 9 = .ok (.lstore_n 0, 1) := by decide +kernel
theorem dJ13_bitCount_95d88_10 : decode cJ13_bitCount_95d88 10 = .ok (.lload_n 0, 1) := by decide +kernel
theorem dJ13_bitCount_95d88_11 : decode cJ13_bitCount_95d88 11 = .ok (.ldc2_w 316, 3) := by decide +kernel
theorem dJ13_bitCount_95d88_14 : decode cJ13_bitCount_95d88 14 = .ok (.land, 1) := by decide +kernel
theorem dJ13_bitCount_95d88_15 : decode cJ13_bitCount_95d88 15 = .ok (.lload_n 0, 1) := by decide +kernel
theorem dJ13_bitCount_95d88_16 : decode cJ13_bitCount_95d88 16 = .ok (.iconst 2, 1) := by decide +kernel
theorem dJ13_bitCount_95d88_17 : decode cJ13_bitCount_95d88 17 = .ok (.lushr, 1) := by decide +kernel
theorem dJ13_bitCount_95d88_18 : decode cJ13_bitCount_95d88 18 = .ok (.ldc2_w 316, 3) := by decide +kernel
theorem dJ13_bitCount_95d88_21 : decode cJ13_bitCount_95d88 21 = .ok (.land, 1) := by decide +kernel
theorem dJ13_bitCount_95d88_22 : decode cJ13_bitCount_95d88 22 = .ok (.ladd, 1) := by decide +kernel
theorem dJ13_bitCount_95d88_23 : decode cJ13_bitCount_95d88 23 = .ok (.lstore_n 0, 1) := by decide +kernel
theorem dJ13_bitCount_95d88_24 : decode cJ13_bitCount_95d88 24 = .ok (.lload_n 0, 1) := by decide +kernel
theorem dJ13_bitCount_95d88_25 : decode cJ13_bitCount_95d88 25 = .ok (.lload_n 0, 1) := by decide +kernel
theorem dJ13_bitCount_95d88_26 : decode cJ13_bitCount_95d88 26 = .ok (.iconst 4, 1) := by decide +kernel
theorem dJ13_bitCount_95d88_27 : decode cJ13_bitCount_95d88 27 = .ok (.lushr, 1) := by decide +kernel
theorem dJ13_bitCount_95d88_28 : decode cJ13_bitCount_95d88 28 = .ok (.ladd, 1) := by decide +kernel
theorem dJ13_bitCount_95d88_29 : decode cJ13_bitCount_95d88 29 = .ok (.ldc2_w 318, 3) := by decide +kernel
theorem dJ13_bitCount_95d88_32 : decode cJ13_bitCount_95d88 32 = .ok (.land, 1) := by decide +kernel
theorem dJ13_bitCount_95d88_33 : decode cJ13_bitCount_95d88 33 = .ok (.lstore_n 0, 1) := by decide +kernel
theorem dJ13_bitCount_95d88_34 : decode cJ13_bitCount_95d88 34 = .ok (.lload_n 0, 1) := by decide +kernel
theorem dJ13_bitCount_95d88_35 : decode cJ13_bitCount_95d88 35 = .ok (.lload_n 0, 1) := by decide +kernel
theorem dJ13_bitCount_95d88_36 : decode cJ13_bitCount_95d88 36 = .ok (.bipush 8, 2) := by decide +kernel
theorem dJ13_bitCount_95d88_38 : decode cJ13_bitCount_95d88 38 = .ok (.lushr, 1) := by decide +kernel
theorem dJ13_bitCount_95d88_39 : decode cJ13_bitCount_95d88 39 = .ok (.ladd, 1) := by decide +kernel
theorem dJ13_bitCount_95d88_40 : decode cJ13_bitCount_95d88 40 = .ok (.lstore_n 0, 1) := by decide +kernel
theorem dJ13_bitCount_95d88_41 : decode cJ13_bitCount_95d88 41 = .ok (.lload_n 0, 1) := by decide +kernel
theorem dJ13_bitCount_95d88_42 : decode cJ13_bitCount_95d88 42 = .ok (.lload_n 0, 1) := by decide +kernel
theorem dJ13_bitCount_95d88_43 : decode cJ13_bitCount_95d88 43 = .ok (.bipush 16, 2) := by decide +kernel
theorem dJ13_bitCount_95d88_45 : decode cJ13_bitCount_95d88 45 = .ok (.lushr, 1) := by decide +kernel
theorem dJ13_bitCount_95d88_46 : decode cJ13_bitCount_95d88 46 = .ok (.ladd, 1) := by decide +kernel
theorem dJ13_bitCount_95d88_47 : decode cJ13_bitCount_95d88 47 = .ok (.lstore_n 0, 1) := by decide +kernel
theorem dJ13_bitCount_95d88_48 : decode cJ13_bitCount_95d88 48 = .ok (.lload_n 0, 1) := by decide +kernel
theorem dJ13_bitCount_95d88_49 : decode cJ13_bitCount_95d88 49 = .ok (.lload_n 0, 1) := by decide +kernel
theorem dJ13_bitCount_95d88_50 : decode cJ13_bitCount_95d88 50 = .ok (.bipush 32, 2) := by decide +kernel
theorem dJ13_bitCount_95d88_52 : decode cJ13_bitCount_95d88 52 = .ok (.lushr, 1) := by decide +kernel
theorem dJ13_bitCount_95d88_53 : decode cJ13_bitCount_95d88 53 = .ok (.ladd, 1) := by decide +kernel
theorem dJ13_bitCount_95d88_54 : decode cJ13_bitCount_95d88 54 = .ok (.lstore_n 0, 1) := by decide +kernel
theorem dJ13_bitCount_95d88_55 : decode cJ13_bitCount_95d88 55 = .ok (.lload_n 0, 1) := by decide +kernel
theorem dJ13_bitCount_95d88_56 : decode cJ13_bitCount_95d88 56 = .ok (.l2i, 1) := by decide +kernel
theorem dJ13_bitCount_95d88_57 : decode cJ13_bitCount_95d88 57 = .ok (.bipush 127, 2) := by decide +kernel
theorem dJ13_bitCount_95d88_59 : decode cJ13_bitCount_95d88 59 = .ok (.iand, 1) := by decide +kernel
theorem dJ13_bitCount_95d88_60 : decode cJ13_bitCount_95d88 60 = .ok (.ireturn, 1) := by decide +kernel
def mJ13_bitCount_95d88 (x1 : Int64) : Option (Int32) := ((some (x1 - ((((x1).toUInt64 >>> (((1 : Int32)).toInt64.toUInt64 &&& Int64.toUInt64 63)).toInt64) &&& 6148914691236517205)) : Option Int64).bind (fun x_1 => ((some ((x_1 &&& 3689348814741910323) + ((((x_1).toUInt64 >>> (((2 : Int32)).toInt64.toUInt64 &&& Int64.toUInt64 63)).toInt64) &&& 3689348814741910323)) : Option Int64).bind (fun x_2 => ((some ((x_2 + (((x_2).toUInt64 >>> (((4 : Int32)).toInt64.toUInt64 &&& Int64.toUInt64 63)).toInt64)) &&& 1085102592571150095) : Option Int64).bind (fun x_3 => ((some (x_3 + (((x_3).toUInt64 >>> (((8 : Int32)).toInt64.toUInt64 &&& Int64.toUInt64 63)).toInt64)) : Option Int64).bind (fun x_4 => ((some (x_4 + (((x_4).toUInt64 >>> (((16 : Int32)).toInt64.toUInt64 &&& Int64.toUInt64 63)).toInt64)) : Option Int64).bind (fun x_5 => ((some (x_5 + (((x_5).toUInt64 >>> (((32 : Int32)).toInt64.toUInt64 &&& Int64.toUInt64 63)).toInt64)) : Option Int64).bind (fun x_6 => some ((x_6.toInt32) &&& 127)))))))))))))
set_option maxHeartbeats 4000000 in
set_option maxRecDepth 100000 in
theorem kcJ13_bitCount_95d88 (l : Launch) (D : va_G) (cy : Nat → ClassId) (g : Nat → Nat) (x1 : Int64) (R : Int32) (hm : mJ13_bitCount_95d88 x1 = some R) : Con l D cy g yJ13_bitCount_95d88 cJ13_bitCount_95d88 2 (some .int) 0 0 0 0 [.long x1] [] [] (some (.int R)) := by
  refine Con.of (by decide +kernel) (Nat.le_of_ble_eq_true rfl) ?_
  intro p e RM s m ar below meth c A Qc ls hx hb hr hml hown hlocks hnm ht hK hP hD hS hA hR hC hQc hl
  have hown : s.vm.findClass RJ13 = some m.cls := hown
  have hl : lv_has ls 2 [(0, .long x1)] := hl
  rw [mJ13_bitCount_95d88] at hm
  refine lv_lload_n hx hb dJ13_bitCount_95d88_0 rfl (lv_at hl 0 rfl) ?_
  refine lv_lload_n hx hb dJ13_bitCount_95d88_1 rfl (lv_at hl 0 rfl) ?_
  refine lv_iconst (v := 1) hx hb dJ13_bitCount_95d88_2 (by decide) ?_
  refine lv_lushr hx hb dJ13_bitCount_95d88_3 rfl ?_
  refine lv_ldc2 (v := 6148914691236517205) hx hb hown (ht _ q_642) dJ13_bitCount_95d88_4 ?_
  refine lv_land hx hb dJ13_bitCount_95d88_7 ?_
  refine lv_lsub hx hb dJ13_bitCount_95d88_8 ?_
  obtain ⟨x_1, hx_, hm⟩ := hm_b hm
  refine k_topl (y := x_1) (Option.some.inj hx_) ?_
  refine lv_lstore_n (lv' := [(0, .long x_1)]) hx hb dJ13_bitCount_95d88_9 rfl hl (by decide) rfl (fun ls hl => ?_)
  refine lv_lload_n hx hb dJ13_bitCount_95d88_10 rfl (lv_at hl 0 rfl) ?_
  refine lv_ldc2 (v := 3689348814741910323) hx hb hown (ht _ q_643) dJ13_bitCount_95d88_11 ?_
  refine lv_land hx hb dJ13_bitCount_95d88_14 ?_
  refine lv_lload_n hx hb dJ13_bitCount_95d88_15 rfl (lv_at hl 0 rfl) ?_
  refine lv_iconst (v := 2) hx hb dJ13_bitCount_95d88_16 (by decide) ?_
  refine lv_lushr hx hb dJ13_bitCount_95d88_17 rfl ?_
  refine lv_ldc2 (v := 3689348814741910323) hx hb hown (ht _ q_643) dJ13_bitCount_95d88_18 ?_
  refine lv_land hx hb dJ13_bitCount_95d88_21 ?_
  refine lv_ladd hx hb dJ13_bitCount_95d88_22 ?_
  obtain ⟨x_2, hx_, hm⟩ := hm_b hm
  refine k_topl (y := x_2) (Option.some.inj hx_) ?_
  refine lv_lstore_n (lv' := [(0, .long x_2)]) hx hb dJ13_bitCount_95d88_23 rfl hl (by decide) rfl (fun ls hl => ?_)
  refine lv_lload_n hx hb dJ13_bitCount_95d88_24 rfl (lv_at hl 0 rfl) ?_
  refine lv_lload_n hx hb dJ13_bitCount_95d88_25 rfl (lv_at hl 0 rfl) ?_
  refine lv_iconst (v := 4) hx hb dJ13_bitCount_95d88_26 (by decide) ?_
  refine lv_lushr hx hb dJ13_bitCount_95d88_27 rfl ?_
  refine lv_ladd hx hb dJ13_bitCount_95d88_28 ?_
  refine lv_ldc2 (v := 1085102592571150095) hx hb hown (ht _ q_644) dJ13_bitCount_95d88_29 ?_
  refine lv_land hx hb dJ13_bitCount_95d88_32 ?_
  obtain ⟨x_3, hx_, hm⟩ := hm_b hm
  refine k_topl (y := x_3) (Option.some.inj hx_) ?_
  refine lv_lstore_n (lv' := [(0, .long x_3)]) hx hb dJ13_bitCount_95d88_33 rfl hl (by decide) rfl (fun ls hl => ?_)
  refine lv_lload_n hx hb dJ13_bitCount_95d88_34 rfl (lv_at hl 0 rfl) ?_
  refine lv_lload_n hx hb dJ13_bitCount_95d88_35 rfl (lv_at hl 0 rfl) ?_
  refine lv_bipush (v := 8) hx hb dJ13_bitCount_95d88_36 (by decide) ?_
  refine lv_lushr hx hb dJ13_bitCount_95d88_38 rfl ?_
  refine lv_ladd hx hb dJ13_bitCount_95d88_39 ?_
  obtain ⟨x_4, hx_, hm⟩ := hm_b hm
  refine k_topl (y := x_4) (Option.some.inj hx_) ?_
  refine lv_lstore_n (lv' := [(0, .long x_4)]) hx hb dJ13_bitCount_95d88_40 rfl hl (by decide) rfl (fun ls hl => ?_)
  refine lv_lload_n hx hb dJ13_bitCount_95d88_41 rfl (lv_at hl 0 rfl) ?_
  refine lv_lload_n hx hb dJ13_bitCount_95d88_42 rfl (lv_at hl 0 rfl) ?_
  refine lv_bipush (v := 16) hx hb dJ13_bitCount_95d88_43 (by decide) ?_
  refine lv_lushr hx hb dJ13_bitCount_95d88_45 rfl ?_
  refine lv_ladd hx hb dJ13_bitCount_95d88_46 ?_
  obtain ⟨x_5, hx_, hm⟩ := hm_b hm
  refine k_topl (y := x_5) (Option.some.inj hx_) ?_
  refine lv_lstore_n (lv' := [(0, .long x_5)]) hx hb dJ13_bitCount_95d88_47 rfl hl (by decide) rfl (fun ls hl => ?_)
  refine lv_lload_n hx hb dJ13_bitCount_95d88_48 rfl (lv_at hl 0 rfl) ?_
  refine lv_lload_n hx hb dJ13_bitCount_95d88_49 rfl (lv_at hl 0 rfl) ?_
  refine lv_bipush (v := 32) hx hb dJ13_bitCount_95d88_50 (by decide) ?_
  refine lv_lushr hx hb dJ13_bitCount_95d88_52 rfl ?_
  refine lv_ladd hx hb dJ13_bitCount_95d88_53 ?_
  obtain ⟨x_6, hx_, hm⟩ := hm_b hm
  refine k_topl (y := x_6) (Option.some.inj hx_) ?_
  refine lv_lstore_n (lv' := [(0, .long x_6)]) hx hb dJ13_bitCount_95d88_54 rfl hl (by decide) rfl (fun ls hl => ?_)
  refine lv_lload_n hx hb dJ13_bitCount_95d88_55 rfl (lv_at hl 0 rfl) ?_
  refine lv_l2i hx hb dJ13_bitCount_95d88_56 rfl ?_
  refine lv_bipush (v := 127) hx hb dJ13_bitCount_95d88_57 (by decide) ?_
  refine lv_iand hx hb dJ13_bitCount_95d88_59 ?_
  obtain rfl := Option.some.inj hm
  exact k_iret hx hb hr hlocks hQc hP hS rfl rfl dJ13_bitCount_95d88_60
theorem dX1_signed_0 : decode cX1_signed 0 = .ok (.iload_n 2, 1) := by decide +kernel
theorem dX1_signed_1 : decode cX1_signed 1 = .ok (.ifCond .eq 7, 3) := by decide +kernel
theorem dX1_signed_4 : decode cX1_signed 4 = .ok (.lload_n 0, 1) := by decide +kernel
theorem dX1_signed_5 : decode cX1_signed 5 = .ok (.goto 6, 3) := by decide +kernel
theorem dX1_signed_8 : decode cX1_signed 8 = .ok (.lload_n 0, 1) := by decide +kernel
theorem dX1_signed_9 : decode cX1_signed 9 = .ok (.l2i, 1) := by decide +kernel
theorem dX1_signed_10 : decode cX1_signed 10 = .ok (.i2l, 1) := by decide +kernel
theorem dX1_signed_11 : decode cX1_signed 11 = .ok (.lreturn, 1) := by decide +kernel
def mX1_signed (x1 : Int64) (x2 : Int32) : Option (Int64) := (if x2 = 0 then some ((x1.toInt32).toInt64) else some x1)
set_option maxHeartbeats 4000000 in
set_option maxRecDepth 100000 in
theorem kcX1_signed (l : Launch) (D : va_G) (cy : Nat → ClassId) (g : Nat → Nat) (x1 : Int64) (x2 : Int32) (R : Int64) (hm : mX1_signed x1 x2 = some R) : Con l D cy g yX1_signed cX1_signed 3 (some .long) 0 0 0 0 [.long x1, .int x2] [] [] (some (.long R)) := by
  refine Con.of (by decide +kernel) (Nat.le_of_ble_eq_true rfl) ?_
  intro p e RM s m ar below meth c A Qc ls hx hb hr hml hown hlocks hnm ht hK hP hD hS hA hR hC hQc hl
  have hown : s.vm.findClass RX1 = some m.cls := hown
  have hl : lv_has ls 3 [(0, .long x1), (2, .int x2)] := hl
  rw [mX1_signed] at hm
  refine lv_iload_n hx hb dX1_signed_0 rfl (lv_at hl 1 rfl) ?_
  refine lv_if_eq (tgt := 8) hx hb dX1_signed_1 (by decide) (fun c_1 => ?_) (fun c_1 => ?_)
  · replace hm := hm_t c_1 hm
    refine lv_lload_n hx hb dX1_signed_8 rfl (lv_at hl 0 rfl) ?_
    refine lv_l2i hx hb dX1_signed_9 rfl ?_
    refine lv_i2l hx hb dX1_signed_10 rfl ?_
    obtain rfl := Option.some.inj hm
    exact k_lret hx hb hr hlocks hQc hP hS rfl rfl dX1_signed_11
  · replace hm := hm_f c_1 hm
    refine lv_lload_n hx hb dX1_signed_4 rfl (lv_at hl 0 rfl) ?_
    refine lv_goto (tgt := 11) hx hb dX1_signed_5 (by decide) ?_
    obtain rfl := Option.some.inj hm
    exact k_lret hx hb hr hlocks hQc hP hS rfl rfl dX1_signed_11
theorem dX1_plain_0 : decode cX1_plain 0 = .ok (.iload_n 2, 1) := by decide +kernel
theorem dX1_plain_1 : decode cX1_plain 1 = .ok (.ifCond .eq 7, 3) := by decide +kernel
theorem dX1_plain_4 : decode cX1_plain 4 = .ok (.lload_n 0, 1) := by decide +kernel
theorem dX1_plain_5 : decode cX1_plain 5 = .ok (.goto 8, 3) := by decide +kernel
theorem dX1_plain_8 : decode cX1_plain 8 = .ok (.lload_n 0, 1) := by decide +kernel
theorem dX1_plain_9 : decode cX1_plain 9 = .ok (.ldc2_w 9, 3) := by decide +kernel
theorem dX1_plain_12 : decode cX1_plain 12 = .ok (.land, 1) := by decide +kernel
theorem dX1_plain_13 : decode cX1_plain 13 = .ok (.lreturn, 1) := by decide +kernel
def mX1_plain (x1 : Int64) (x2 : Int32) : Option (Int64) := (if x2 = 0 then some (x1 &&& 4294967295) else some x1)
set_option maxHeartbeats 4000000 in
set_option maxRecDepth 100000 in
theorem kcX1_plain (l : Launch) (D : va_G) (cy : Nat → ClassId) (g : Nat → Nat) (x1 : Int64) (x2 : Int32) (R : Int64) (hm : mX1_plain x1 x2 = some R) : Con l D cy g yX1_plain cX1_plain 3 (some .long) 0 0 0 0 [.long x1, .int x2] [] [] (some (.long R)) := by
  refine Con.of (by decide +kernel) (Nat.le_of_ble_eq_true rfl) ?_
  intro p e RM s m ar below meth c A Qc ls hx hb hr hml hown hlocks hnm ht hK hP hD hS hA hR hC hQc hl
  have hown : s.vm.findClass RX1 = some m.cls := hown
  have hl : lv_has ls 3 [(0, .long x1), (2, .int x2)] := hl
  rw [mX1_plain] at hm
  refine lv_iload_n hx hb dX1_plain_0 rfl (lv_at hl 1 rfl) ?_
  refine lv_if_eq (tgt := 8) hx hb dX1_plain_1 (by decide) (fun c_1 => ?_) (fun c_1 => ?_)
  · replace hm := hm_t c_1 hm
    refine lv_lload_n hx hb dX1_plain_8 rfl (lv_at hl 0 rfl) ?_
    refine lv_ldc2 (v := 4294967295) hx hb hown (ht _ q_337) dX1_plain_9 ?_
    refine lv_land hx hb dX1_plain_12 ?_
    obtain rfl := Option.some.inj hm
    exact k_lret hx hb hr hlocks hQc hP hS rfl rfl dX1_plain_13
  · replace hm := hm_f c_1 hm
    refine lv_lload_n hx hb dX1_plain_4 rfl (lv_at hl 0 rfl) ?_
    refine lv_goto (tgt := 13) hx hb dX1_plain_5 (by decide) ?_
    obtain rfl := Option.some.inj hm
    exact k_lret hx hb hr hlocks hQc hP hS rfl rfl dX1_plain_13
theorem dX1_zerosInFront_0 : decode cX1_zerosInFront 0 = .ok (.iload_n 2, 1) := by decide +kernel
theorem dX1_zerosInFront_1 : decode cX1_zerosInFront 1 = .ok (.ifCond .eq 10, 3) := by decide +kernel
theorem dX1_zerosInFront_4 : decode cX1_zerosInFront 4 = .ok (.lload_n 0, 1) := by decide +kernel
theorem dX1_zerosInFront_5 : decode cX1_zerosInFront 5 = .ok (.invokestatic 11, 3) := by decide +kernel
theorem dX1_zerosInFront_8 : decode cX1_zerosInFront 8 = .ok (.goto 8, 3) := by decide +kernel
theorem dX1_zerosInFront_11 : decode cX1_zerosInFront 11 = .ok (.lload_n 0, 1) := by decide +kernel
theorem dX1_zerosInFront_12 : decode cX1_zerosInFront 12 = .ok (.l2i, 1) := by decide +kernel
theorem dX1_zerosInFront_13 : decode cX1_zerosInFront 13 = .ok (.invokestatic 17, 3) := by decide +kernel
theorem dX1_zerosInFront_16 : decode cX1_zerosInFront 16 = .ok (.ireturn, 1) := by decide +kernel
def mX1_zerosInFront (x1 : Int64) (x2 : Int32) : Option (Int32) := (if x2 = 0 then ((mJ6_numberOfLeadingZeros_0f7a4 (x1.toInt32)).bind (fun r_2 => some r_2)) else ((mJ13_numberOfLeadingZeros_95d88 x1).bind (fun r_3 => some r_3)))
set_option maxHeartbeats 4000000 in
set_option maxRecDepth 100000 in
theorem kcX1_zerosInFront (l : Launch) (D : va_G) (cy : Nat → ClassId) (g : Nat → Nat) (x1 : Int64) (x2 : Int32) (R : Int32) (hm : mX1_zerosInFront x1 x2 = some R) : Con l D cy g yX1_zerosInFront cX1_zerosInFront 3 (some .int) 2 43 0 0 [.long x1, .int x2] [] [] (some (.int R)) := by
  refine Con.of (by decide +kernel) (Nat.le_of_ble_eq_true rfl) ?_
  intro p e RM s m ar below meth c A Qc ls hx hb hr hml hown hlocks hnm ht hK hP hD hS hA hR hC hQc hl
  have hown : s.vm.findClass RX1 = some m.cls := hown
  have hl : lv_has ls 3 [(0, .long x1), (2, .int x2)] := hl
  rw [mX1_zerosInFront] at hm
  refine lv_iload_n hx hb dX1_zerosInFront_0 rfl (lv_at hl 1 rfl) ?_
  refine lv_if_eq (tgt := 11) hx hb dX1_zerosInFront_1 (by decide) (fun c_1 => ?_) (fun c_1 => ?_)
  · replace hm := hm_t c_1 hm
    refine lv_lload_n hx hb dX1_zerosInFront_11 rfl (lv_at hl 0 rfl) ?_
    refine lv_l2i hx hb dX1_zerosInFront_12 rfl ?_
    obtain ⟨r_2, hr_2, hm⟩ := hm_b hm
    refine k_S (as := [.int (x1.toInt32)]) (rest := []) (ws' := []) (st2 := [.int r_2]) hx hb hml hown ht hK hP hD hS hA hC hR hl (kcJ6_numberOfLeadingZeros_0f7a4 l D cy g (x1.toInt32) r_2 hr_2) [] q_659 q_656 q_71 q_657 hyJ6_numberOfLeadingZeros_0f7a4 ⟨Nat.le_of_ble_eq_true rfl, Nat.le_of_ble_eq_true rfl, Nat.le_of_ble_eq_true rfl, Nat.le_of_ble_eq_true rfl⟩ rfl rfl rfl rfl (Nat.le_of_ble_eq_true rfl) dX1_zerosInFront_13 rfl rfl (fun H locs hP hD hS => ?_)
    obtain rfl := Option.some.inj hm
    exact k_iret hx hb hr hlocks hQc hP hS rfl rfl dX1_zerosInFront_16
  · replace hm := hm_f c_1 hm
    refine lv_lload_n hx hb dX1_zerosInFront_4 rfl (lv_at hl 0 rfl) ?_
    obtain ⟨r_3, hr_3, hm⟩ := hm_b hm
    refine k_S (as := [.long x1]) (rest := []) (ws' := []) (st2 := [.int r_3]) hx hb hml hown ht hK hP hD hS hA hC hR hl (kcJ13_numberOfLeadingZeros_95d88 l D cy g x1 r_3 hr_3) [] q_652 q_653 q_70 q_654 hyJ13_numberOfLeadingZeros_95d88 ⟨Nat.le_of_ble_eq_true rfl, Nat.le_of_ble_eq_true rfl, Nat.le_of_ble_eq_true rfl, Nat.le_of_ble_eq_true rfl⟩ rfl rfl rfl rfl (Nat.le_of_ble_eq_true rfl) dX1_zerosInFront_5 rfl rfl (fun H locs hP hD hS => ?_)
    refine lv_goto (tgt := 16) hx hb dX1_zerosInFront_8 (by decide) ?_
    obtain rfl := Option.some.inj hm
    exact k_iret hx hb hr hlocks hQc hP hS rfl rfl dX1_zerosInFront_16
theorem dX1_zerosBehind_0 : decode cX1_zerosBehind 0 = .ok (.iload_n 2, 1) := by decide +kernel
theorem dX1_zerosBehind_1 : decode cX1_zerosBehind 1 = .ok (.ifCond .eq 10, 3) := by decide +kernel
theorem dX1_zerosBehind_4 : decode cX1_zerosBehind 4 = .ok (.lload_n 0, 1) := by decide +kernel
theorem dX1_zerosBehind_5 : decode cX1_zerosBehind 5 = .ok (.invokestatic 22, 3) := by decide +kernel
theorem dX1_zerosBehind_8 : decode cX1_zerosBehind 8 = .ok (.goto 8, 3) := by decide +kernel
theorem dX1_zerosBehind_11 : decode cX1_zerosBehind 11 = .ok (.lload_n 0, 1) := by decide +kernel
theorem dX1_zerosBehind_12 : decode cX1_zerosBehind 12 = .ok (.l2i, 1) := by decide +kernel
theorem dX1_zerosBehind_13 : decode cX1_zerosBehind 13 = .ok (.invokestatic 25, 3) := by decide +kernel
theorem dX1_zerosBehind_16 : decode cX1_zerosBehind 16 = .ok (.ireturn, 1) := by decide +kernel
def mX1_zerosBehind (x1 : Int64) (x2 : Int32) : Option (Int32) := (if x2 = 0 then ((mJ6_numberOfTrailingZeros_0f7a4 (x1.toInt32)).bind (fun r_2 => some r_2)) else ((mJ13_numberOfTrailingZeros_95d88 x1).bind (fun r_3 => some r_3)))
set_option maxHeartbeats 4000000 in
set_option maxRecDepth 100000 in
theorem kcX1_zerosBehind (l : Launch) (D : va_G) (cy : Nat → ClassId) (g : Nat → Nat) (x1 : Int64) (x2 : Int32) (R : Int32) (hm : mX1_zerosBehind x1 x2 = some R) : Con l D cy g yX1_zerosBehind cX1_zerosBehind 3 (some .int) 2 43 0 0 [.long x1, .int x2] [] [] (some (.int R)) := by
  refine Con.of (by decide +kernel) (Nat.le_of_ble_eq_true rfl) ?_
  intro p e RM s m ar below meth c A Qc ls hx hb hr hml hown hlocks hnm ht hK hP hD hS hA hR hC hQc hl
  have hown : s.vm.findClass RX1 = some m.cls := hown
  have hl : lv_has ls 3 [(0, .long x1), (2, .int x2)] := hl
  rw [mX1_zerosBehind] at hm
  refine lv_iload_n hx hb dX1_zerosBehind_0 rfl (lv_at hl 1 rfl) ?_
  refine lv_if_eq (tgt := 11) hx hb dX1_zerosBehind_1 (by decide) (fun c_1 => ?_) (fun c_1 => ?_)
  · replace hm := hm_t c_1 hm
    refine lv_lload_n hx hb dX1_zerosBehind_11 rfl (lv_at hl 0 rfl) ?_
    refine lv_l2i hx hb dX1_zerosBehind_12 rfl ?_
    obtain ⟨r_2, hr_2, hm⟩ := hm_b hm
    refine k_S (as := [.int (x1.toInt32)]) (rest := []) (ws' := []) (st2 := [.int r_2]) hx hb hml hown ht hK hP hD hS hA hC hR hl (kcJ6_numberOfTrailingZeros_0f7a4 l D cy g (x1.toInt32) r_2 hr_2) [] q_673 q_671 q_71 q_672 hyJ6_numberOfTrailingZeros_0f7a4 ⟨Nat.le_of_ble_eq_true rfl, Nat.le_of_ble_eq_true rfl, Nat.le_of_ble_eq_true rfl, Nat.le_of_ble_eq_true rfl⟩ rfl rfl rfl rfl (Nat.le_of_ble_eq_true rfl) dX1_zerosBehind_13 rfl rfl (fun H locs hP hD hS => ?_)
    obtain rfl := Option.some.inj hm
    exact k_iret hx hb hr hlocks hQc hP hS rfl rfl dX1_zerosBehind_16
  · replace hm := hm_f c_1 hm
    refine lv_lload_n hx hb dX1_zerosBehind_4 rfl (lv_at hl 0 rfl) ?_
    obtain ⟨r_3, hr_3, hm⟩ := hm_b hm
    refine k_S (as := [.long x1]) (rest := []) (ws' := []) (st2 := [.int r_3]) hx hb hml hown ht hK hP hD hS hA hC hR hl (kcJ13_numberOfTrailingZeros_95d88 l D cy g x1 r_3 hr_3) [] q_667 q_668 q_70 q_669 hyJ13_numberOfTrailingZeros_95d88 ⟨Nat.le_of_ble_eq_true rfl, Nat.le_of_ble_eq_true rfl, Nat.le_of_ble_eq_true rfl, Nat.le_of_ble_eq_true rfl⟩ rfl rfl rfl rfl (Nat.le_of_ble_eq_true rfl) dX1_zerosBehind_5 rfl rfl (fun H locs hP hD hS => ?_)
    refine lv_goto (tgt := 16) hx hb dX1_zerosBehind_8 (by decide) ?_
    obtain rfl := Option.some.inj hm
    exact k_iret hx hb hr hlocks hQc hP hS rfl rfl dX1_zerosBehind_16
theorem dX1_turned_0 : decode cX1_turned 0 = .ok (.iload_n 2, 1) := by decide +kernel
theorem dX1_turned_1 : decode cX1_turned 1 = .ok (.ifCond .eq 10, 3) := by decide +kernel
theorem dX1_turned_4 : decode cX1_turned 4 = .ok (.lload_n 0, 1) := by decide +kernel
theorem dX1_turned_5 : decode cX1_turned 5 = .ok (.invokestatic 27, 3) := by decide +kernel
theorem dX1_turned_8 : decode cX1_turned 8 = .ok (.goto 9, 3) := by decide +kernel
theorem dX1_turned_11 : decode cX1_turned 11 = .ok (.lload_n 0, 1) := by decide +kernel
theorem dX1_turned_12 : decode cX1_turned 12 = .ok (.l2i, 1) := by decide +kernel
theorem dX1_turned_13 : decode cX1_turned 13 = .ok (.invokestatic 31, 3) := by decide +kernel
theorem dX1_turned_16 : decode cX1_turned 16 = .ok (.i2l, 1) := by decide +kernel
theorem dX1_turned_17 : decode cX1_turned 17 = .ok (.lreturn, 1) := by decide +kernel
def mX1_turned (x1 : Int64) (x2 : Int32) : Option (Int64) := (if x2 = 0 then ((mJ6_reverse_0f7a4 (x1.toInt32)).bind (fun r_2 => some (r_2.toInt64))) else ((mJ13_reverse_067f4 x1).bind (fun r_3 => some r_3)))
set_option maxHeartbeats 4000000 in
set_option maxRecDepth 100000 in
theorem kcX1_turned (l : Launch) (D : va_G) (cy : Nat → ClassId) (g : Nat → Nat) (x1 : Int64) (x2 : Int32) (R : Int64) (hm : mX1_turned x1 x2 = some R) : Con l D cy g yX1_turned cX1_turned 3 (some .long) 2 42 0 0 [.long x1, .int x2] [] [] (some (.long R)) := by
  refine Con.of (by decide +kernel) (Nat.le_of_ble_eq_true rfl) ?_
  intro p e RM s m ar below meth c A Qc ls hx hb hr hml hown hlocks hnm ht hK hP hD hS hA hR hC hQc hl
  have hown : s.vm.findClass RX1 = some m.cls := hown
  have hl : lv_has ls 3 [(0, .long x1), (2, .int x2)] := hl
  rw [mX1_turned] at hm
  refine lv_iload_n hx hb dX1_turned_0 rfl (lv_at hl 1 rfl) ?_
  refine lv_if_eq (tgt := 11) hx hb dX1_turned_1 (by decide) (fun c_1 => ?_) (fun c_1 => ?_)
  · replace hm := hm_t c_1 hm
    refine lv_lload_n hx hb dX1_turned_11 rfl (lv_at hl 0 rfl) ?_
    refine lv_l2i hx hb dX1_turned_12 rfl ?_
    obtain ⟨r_2, hr_2, hm⟩ := hm_b hm
    refine k_S (as := [.int (x1.toInt32)]) (rest := []) (ws' := []) (st2 := [.int r_2]) hx hb hml hown ht hK hP hD hS hA hC hR hl (kcJ6_reverse_0f7a4 l D cy g (x1.toInt32) r_2 hr_2) [] q_698 q_699 q_71 q_700 hyJ6_reverse_0f7a4 ⟨Nat.le_of_ble_eq_true rfl, Nat.le_of_ble_eq_true rfl, Nat.le_of_ble_eq_true rfl, Nat.le_of_ble_eq_true rfl⟩ rfl rfl rfl rfl (Nat.le_of_ble_eq_true rfl) dX1_turned_13 rfl rfl (fun H locs hP hD hS => ?_)
    refine lv_i2l hx hb dX1_turned_16 rfl ?_
    obtain rfl := Option.some.inj hm
    exact k_lret hx hb hr hlocks hQc hP hS rfl rfl dX1_turned_17
  · replace hm := hm_f c_1 hm
    refine lv_lload_n hx hb dX1_turned_4 rfl (lv_at hl 0 rfl) ?_
    obtain ⟨r_3, hr_3, hm⟩ := hm_b hm
    refine k_S (as := [.long x1]) (rest := []) (ws' := []) (st2 := [.long r_3]) hx hb hml hown ht hK hP hD hS hA hC hR hl (kcJ13_reverse_067f4 l D cy g x1 r_3 hr_3) [] q_690 q_691 q_70 q_692 hyJ13_reverse_067f4 ⟨Nat.le_of_ble_eq_true rfl, Nat.le_of_ble_eq_true rfl, Nat.le_of_ble_eq_true rfl, Nat.le_of_ble_eq_true rfl⟩ rfl rfl rfl rfl (Nat.le_of_ble_eq_true rfl) dX1_turned_5 rfl rfl (fun H locs hP hD hS => ?_)
    refine lv_goto (tgt := 17) hx hb dX1_turned_8 (by decide) ?_
    obtain rfl := Option.some.inj hm
    exact k_lret hx hb hr hlocks hQc hP hS rfl rfl dX1_turned_17
theorem dX1_bytesTurned_0 : decode cX1_bytesTurned 0 = .ok (.iload_n 2, 1) := by decide +kernel
theorem dX1_bytesTurned_1 : decode cX1_bytesTurned 1 = .ok (.ifCond .eq 10, 3) := by decide +kernel
theorem dX1_bytesTurned_4 : decode cX1_bytesTurned 4 = .ok (.lload_n 0, 1) := by decide +kernel
theorem dX1_bytesTurned_5 : decode cX1_bytesTurned 5 = .ok (.invokestatic 33, 3) := by decide +kernel
theorem dX1_bytesTurned_8 : decode cX1_bytesTurned 8 = .ok (.goto 9, 3) := by decide +kernel
theorem dX1_bytesTurned_11 : decode cX1_bytesTurned 11 = .ok (.lload_n 0, 1) := by decide +kernel
theorem dX1_bytesTurned_12 : decode cX1_bytesTurned 12 = .ok (.l2i, 1) := by decide +kernel
theorem dX1_bytesTurned_13 : decode cX1_bytesTurned 13 = .ok (.invokestatic 36, 3) := by decide +kernel
theorem dX1_bytesTurned_16 : decode cX1_bytesTurned 16 = .ok (.i2l, 1) := by decide +kernel
theorem dX1_bytesTurned_17 : decode cX1_bytesTurned 17 = .ok (.lreturn, 1) := by decide +kernel
def mX1_bytesTurned (x1 : Int64) (x2 : Int32) : Option (Int64) := (if x2 = 0 then ((mJ6_reverseBytes_0f7a4 (x1.toInt32)).bind (fun r_2 => some (r_2.toInt64))) else ((mJ13_reverseBytes_067f4 x1).bind (fun r_3 => some r_3)))
set_option maxHeartbeats 4000000 in
set_option maxRecDepth 100000 in
theorem kcX1_bytesTurned (l : Launch) (D : va_G) (cy : Nat → ClassId) (g : Nat → Nat) (x1 : Int64) (x2 : Int32) (R : Int64) (hm : mX1_bytesTurned x1 x2 = some R) : Con l D cy g yX1_bytesTurned cX1_bytesTurned 3 (some .long) 1 21 0 0 [.long x1, .int x2] [] [] (some (.long R)) := by
  refine Con.of (by decide +kernel) (Nat.le_of_ble_eq_true rfl) ?_
  intro p e RM s m ar below meth c A Qc ls hx hb hr hml hown hlocks hnm ht hK hP hD hS hA hR hC hQc hl
  have hown : s.vm.findClass RX1 = some m.cls := hown
  have hl : lv_has ls 3 [(0, .long x1), (2, .int x2)] := hl
  rw [mX1_bytesTurned] at hm
  refine lv_iload_n hx hb dX1_bytesTurned_0 rfl (lv_at hl 1 rfl) ?_
  refine lv_if_eq (tgt := 11) hx hb dX1_bytesTurned_1 (by decide) (fun c_1 => ?_) (fun c_1 => ?_)
  · replace hm := hm_t c_1 hm
    refine lv_lload_n hx hb dX1_bytesTurned_11 rfl (lv_at hl 0 rfl) ?_
    refine lv_l2i hx hb dX1_bytesTurned_12 rfl ?_
    obtain ⟨r_2, hr_2, hm⟩ := hm_b hm
    refine k_S (as := [.int (x1.toInt32)]) (rest := []) (ws' := []) (st2 := [.int r_2]) hx hb hml hown ht hK hP hD hS hA hC hR hl (kcJ6_reverseBytes_0f7a4 l D cy g (x1.toInt32) r_2 hr_2) [] q_716 q_705 q_71 q_706 hyJ6_reverseBytes_0f7a4 ⟨Nat.le_of_ble_eq_true rfl, Nat.le_of_ble_eq_true rfl, Nat.le_of_ble_eq_true rfl, Nat.le_of_ble_eq_true rfl⟩ rfl rfl rfl rfl (Nat.le_of_ble_eq_true rfl) dX1_bytesTurned_13 rfl rfl (fun H locs hP hD hS => ?_)
    refine lv_i2l hx hb dX1_bytesTurned_16 rfl ?_
    obtain rfl := Option.some.inj hm
    exact k_lret hx hb hr hlocks hQc hP hS rfl rfl dX1_bytesTurned_17
  · replace hm := hm_f c_1 hm
    refine lv_lload_n hx hb dX1_bytesTurned_4 rfl (lv_at hl 0 rfl) ?_
    obtain ⟨r_3, hr_3, hm⟩ := hm_b hm
    refine k_S (as := [.long x1]) (rest := []) (ws' := []) (st2 := [.long r_3]) hx hb hml hown ht hK hP hD hS hA hC hR hl (kcJ13_reverseBytes_067f4 l D cy g x1 r_3 hr_3) [] q_715 q_694 q_70 q_695 hyJ13_reverseBytes_067f4 ⟨Nat.le_of_ble_eq_true rfl, Nat.le_of_ble_eq_true rfl, Nat.le_of_ble_eq_true rfl, Nat.le_of_ble_eq_true rfl⟩ rfl rfl rfl rfl (Nat.le_of_ble_eq_true rfl) dX1_bytesTurned_5 rfl rfl (fun H locs hP hD hS => ?_)
    refine lv_goto (tgt := 17) hx hb dX1_bytesTurned_8 (by decide) ?_
    obtain rfl := Option.some.inj hm
    exact k_lret hx hb hr hlocks hQc hP hS rfl rfl dX1_bytesTurned_17
theorem dX1_rotatedLeft_0 : decode cX1_rotatedLeft 0 = .ok (.iload_n 3, 1) := by decide +kernel
theorem dX1_rotatedLeft_1 : decode cX1_rotatedLeft 1 = .ok (.ifCond .eq 11, 3) := by decide +kernel
theorem dX1_rotatedLeft_4 : decode cX1_rotatedLeft 4 = .ok (.lload_n 0, 1) := by decide +kernel
theorem dX1_rotatedLeft_5 : decode cX1_rotatedLeft 5 = .ok (.iload_n 2, 1) := by decide +kernel
theorem dX1_rotatedLeft_6 : decode cX1_rotatedLeft 6 = .ok (.invokestatic 38, 3) := by decide +kernel
theorem dX1_rotatedLeft_9 : decode cX1_rotatedLeft 9 = .ok (.goto 10, 3) := by decide +kernel
theorem dX1_rotatedLeft_12 : decode cX1_rotatedLeft 12 = .ok (.lload_n 0, 1) := by decide +kernel
theorem dX1_rotatedLeft_13 : decode cX1_rotatedLeft 13 = .ok (.l2i, 1) := by decide +kernel
theorem dX1_rotatedLeft_14 : decode cX1_rotatedLeft 14 = .ok (.iload_n 2, 1) := by decide +kernel
theorem dX1_rotatedLeft_15 : decode cX1_rotatedLeft 15 = .ok (.invokestatic 42, 3) := by decide +kernel
theorem dX1_rotatedLeft_18 : decode cX1_rotatedLeft 18 = .ok (.i2l, 1) := by decide +kernel
theorem dX1_rotatedLeft_19 : decode cX1_rotatedLeft 19 = .ok (.lreturn, 1) := by decide +kernel
def mX1_rotatedLeft (x1 : Int64) (x2 : Int32) (x3 : Int32) : Option (Int64) := (if x3 = 0 then ((mJ6_rotateLeft_7cf53 (x1.toInt32) x2).bind (fun r_2 => some (r_2.toInt64))) else ((mJ13_rotateLeft_b2ac5 x1 x2).bind (fun r_3 => some r_3)))
set_option maxHeartbeats 4000000 in
set_option maxRecDepth 100000 in
theorem kcX1_rotatedLeft (l : Launch) (D : va_G) (cy : Nat → ClassId) (g : Nat → Nat) (x1 : Int64) (x2 : Int32) (x3 : Int32) (R : Int64) (hm : mX1_rotatedLeft x1 x2 x3 = some R) : Con l D cy g yX1_rotatedLeft cX1_rotatedLeft 4 (some .long) 1 22 0 0 [.long x1, .int x2, .int x3] [] [] (some (.long R)) := by
  refine Con.of (by decide +kernel) (Nat.le_of_ble_eq_true rfl) ?_
  intro p e RM s m ar below meth c A Qc ls hx hb hr hml hown hlocks hnm ht hK hP hD hS hA hR hC hQc hl
  have hown : s.vm.findClass RX1 = some m.cls := hown
  have hl : lv_has ls 4 [(0, .long x1), (2, .int x2), (3, .int x3)] := hl
  rw [mX1_rotatedLeft] at hm
  refine lv_iload_n hx hb dX1_rotatedLeft_0 rfl (lv_at hl 2 rfl) ?_
  refine lv_if_eq (tgt := 12) hx hb dX1_rotatedLeft_1 (by decide) (fun c_1 => ?_) (fun c_1 => ?_)
  · replace hm := hm_t c_1 hm
    refine lv_lload_n hx hb dX1_rotatedLeft_12 rfl (lv_at hl 0 rfl) ?_
    refine lv_l2i hx hb dX1_rotatedLeft_13 rfl ?_
    refine lv_iload_n hx hb dX1_rotatedLeft_14 rfl (lv_at hl 1 rfl) ?_
    obtain ⟨r_2, hr_2, hm⟩ := hm_b hm
    refine k_S (as := [.int (x1.toInt32), .int x2]) (rest := []) (ws' := []) (st2 := [.int r_2]) hx hb hml hown ht hK hP hD hS hA hC hR hl (kcJ6_rotateLeft_7cf53 l D cy g (x1.toInt32) x2 r_2 hr_2) [] q_758 q_759 q_71 q_760 hyJ6_rotateLeft_7cf53 ⟨Nat.le_of_ble_eq_true rfl, Nat.le_of_ble_eq_true rfl, Nat.le_of_ble_eq_true rfl, Nat.le_of_ble_eq_true rfl⟩ rfl rfl rfl rfl (Nat.le_of_ble_eq_true rfl) dX1_rotatedLeft_15 rfl rfl (fun H locs hP hD hS => ?_)
    refine lv_i2l hx hb dX1_rotatedLeft_18 rfl ?_
    obtain rfl := Option.some.inj hm
    exact k_lret hx hb hr hlocks hQc hP hS rfl rfl dX1_rotatedLeft_19
  · replace hm := hm_f c_1 hm
    refine lv_lload_n hx hb dX1_rotatedLeft_4 rfl (lv_at hl 0 rfl) ?_
    refine lv_iload_n hx hb dX1_rotatedLeft_5 rfl (lv_at hl 1 rfl) ?_
    obtain ⟨r_3, hr_3, hm⟩ := hm_b hm
    refine k_S (as := [.long x1, .int x2]) (rest := []) (ws' := []) (st2 := [.long r_3]) hx hb hml hown ht hK hP hD hS hA hC hR hl (kcJ13_rotateLeft_b2ac5 l D cy g x1 x2 r_3 hr_3) [] q_755 q_756 q_70 q_757 hyJ13_rotateLeft_b2ac5 ⟨Nat.le_of_ble_eq_true rfl, Nat.le_of_ble_eq_true rfl, Nat.le_of_ble_eq_true rfl, Nat.le_of_ble_eq_true rfl⟩ rfl rfl rfl rfl (Nat.le_of_ble_eq_true rfl) dX1_rotatedLeft_6 rfl rfl (fun H locs hP hD hS => ?_)
    refine lv_goto (tgt := 19) hx hb dX1_rotatedLeft_9 (by decide) ?_
    obtain rfl := Option.some.inj hm
    exact k_lret hx hb hr hlocks hQc hP hS rfl rfl dX1_rotatedLeft_19
theorem dX1_rotatedRight_0 : decode cX1_rotatedRight 0 = .ok (.iload_n 3, 1) := by decide +kernel
theorem dX1_rotatedRight_1 : decode cX1_rotatedRight 1 = .ok (.ifCond .eq 11, 3) := by decide +kernel
theorem dX1_rotatedRight_4 : decode cX1_rotatedRight 4 = .ok (.lload_n 0, 1) := by decide +kernel
theorem dX1_rotatedRight_5 : decode cX1_rotatedRight 5 = .ok (.iload_n 2, 1) := by decide +kernel
theorem dX1_rotatedRight_6 : decode cX1_rotatedRight 6 = .ok (.invokestatic 45, 3) := by decide +kernel
theorem dX1_rotatedRight_9 : decode cX1_rotatedRight 9 = .ok (.goto 10, 3) := by decide +kernel
theorem dX1_rotatedRight_12 : decode cX1_rotatedRight 12 = .ok (.lload_n 0, 1) := by decide +kernel
theorem dX1_rotatedRight_13 : decode cX1_rotatedRight 13 = .ok (.l2i, 1) := by decide +kernel
theorem dX1_rotatedRight_14 : decode cX1_rotatedRight 14 = .ok (.iload_n 2, 1) := by decide +kernel
theorem dX1_rotatedRight_15 : decode cX1_rotatedRight 15 = .ok (.invokestatic 48, 3) := by decide +kernel
theorem dX1_rotatedRight_18 : decode cX1_rotatedRight 18 = .ok (.i2l, 1) := by decide +kernel
theorem dX1_rotatedRight_19 : decode cX1_rotatedRight 19 = .ok (.lreturn, 1) := by decide +kernel
def mX1_rotatedRight (x1 : Int64) (x2 : Int32) (x3 : Int32) : Option (Int64) := (if x3 = 0 then ((mJ6_rotateRight_7cf53 (x1.toInt32) x2).bind (fun r_2 => some (r_2.toInt64))) else ((mJ13_rotateRight_b2ac5 x1 x2).bind (fun r_3 => some r_3)))
set_option maxHeartbeats 4000000 in
set_option maxRecDepth 100000 in
theorem kcX1_rotatedRight (l : Launch) (D : va_G) (cy : Nat → ClassId) (g : Nat → Nat) (x1 : Int64) (x2 : Int32) (x3 : Int32) (R : Int64) (hm : mX1_rotatedRight x1 x2 x3 = some R) : Con l D cy g yX1_rotatedRight cX1_rotatedRight 4 (some .long) 1 22 0 0 [.long x1, .int x2, .int x3] [] [] (some (.long R)) := by
  refine Con.of (by decide +kernel) (Nat.le_of_ble_eq_true rfl) ?_
  intro p e RM s m ar below meth c A Qc ls hx hb hr hml hown hlocks hnm ht hK hP hD hS hA hR hC hQc hl
  have hown : s.vm.findClass RX1 = some m.cls := hown
  have hl : lv_has ls 4 [(0, .long x1), (2, .int x2), (3, .int x3)] := hl
  rw [mX1_rotatedRight] at hm
  refine lv_iload_n hx hb dX1_rotatedRight_0 rfl (lv_at hl 2 rfl) ?_
  refine lv_if_eq (tgt := 12) hx hb dX1_rotatedRight_1 (by decide) (fun c_1 => ?_) (fun c_1 => ?_)
  · replace hm := hm_t c_1 hm
    refine lv_lload_n hx hb dX1_rotatedRight_12 rfl (lv_at hl 0 rfl) ?_
    refine lv_l2i hx hb dX1_rotatedRight_13 rfl ?_
    refine lv_iload_n hx hb dX1_rotatedRight_14 rfl (lv_at hl 1 rfl) ?_
    obtain ⟨r_2, hr_2, hm⟩ := hm_b hm
    refine k_S (as := [.int (x1.toInt32), .int x2]) (rest := []) (ws' := []) (st2 := [.int r_2]) hx hb hml hown ht hK hP hD hS hA hC hR hl (kcJ6_rotateRight_7cf53 l D cy g (x1.toInt32) x2 r_2 hr_2) [] q_767 q_768 q_71 q_769 hyJ6_rotateRight_7cf53 ⟨Nat.le_of_ble_eq_true rfl, Nat.le_of_ble_eq_true rfl, Nat.le_of_ble_eq_true rfl, Nat.le_of_ble_eq_true rfl⟩ rfl rfl rfl rfl (Nat.le_of_ble_eq_true rfl) dX1_rotatedRight_15 rfl rfl (fun H locs hP hD hS => ?_)
    refine lv_i2l hx hb dX1_rotatedRight_18 rfl ?_
    obtain rfl := Option.some.inj hm
    exact k_lret hx hb hr hlocks hQc hP hS rfl rfl dX1_rotatedRight_19
  · replace hm := hm_f c_1 hm
    refine lv_lload_n hx hb dX1_rotatedRight_4 rfl (lv_at hl 0 rfl) ?_
    refine lv_iload_n hx hb dX1_rotatedRight_5 rfl (lv_at hl 1 rfl) ?_
    obtain ⟨r_3, hr_3, hm⟩ := hm_b hm
    refine k_S (as := [.long x1, .int x2]) (rest := []) (ws' := []) (st2 := [.long r_3]) hx hb hml hown ht hK hP hD hS hA hC hR hl (kcJ13_rotateRight_b2ac5 l D cy g x1 x2 r_3 hr_3) [] q_764 q_765 q_70 q_766 hyJ13_rotateRight_b2ac5 ⟨Nat.le_of_ble_eq_true rfl, Nat.le_of_ble_eq_true rfl, Nat.le_of_ble_eq_true rfl, Nat.le_of_ble_eq_true rfl⟩ rfl rfl rfl rfl (Nat.le_of_ble_eq_true rfl) dX1_rotatedRight_6 rfl rfl (fun H locs hP hD hS => ?_)
    refine lv_goto (tgt := 19) hx hb dX1_rotatedRight_9 (by decide) ?_
    obtain rfl := Option.some.inj hm
    exact k_lret hx hb hr hlocks hQc hP hS rfl rfl dX1_rotatedRight_19
theorem dX1_highestBit_0 : decode cX1_highestBit 0 = .ok (.iload_n 2, 1) := by decide +kernel
theorem dX1_highestBit_1 : decode cX1_highestBit 1 = .ok (.ifCond .eq 10, 3) := by decide +kernel
theorem dX1_highestBit_4 : decode cX1_highestBit 4 = .ok (.lload_n 0, 1) := by decide +kernel
theorem dX1_highestBit_5 : decode cX1_highestBit 5 = .ok (.invokestatic 50, 3) := by decide +kernel
theorem dX1_highestBit_8 : decode cX1_highestBit 8 = .ok (.goto 9, 3) := by decide +kernel
theorem dX1_highestBit_11 : decode cX1_highestBit 11 = .ok (.lload_n 0, 1) := by decide +kernel
theorem dX1_highestBit_12 : decode cX1_highestBit 12 = .ok (.l2i, 1) := by decide +kernel
theorem dX1_highestBit_13 : decode cX1_highestBit 13 = .ok (.invokestatic 53, 3) := by decide +kernel
theorem dX1_highestBit_16 : decode cX1_highestBit 16 = .ok (.i2l, 1) := by decide +kernel
theorem dX1_highestBit_17 : decode cX1_highestBit 17 = .ok (.lreturn, 1) := by decide +kernel
def mX1_highestBit (x1 : Int64) (x2 : Int32) : Option (Int64) := (if x2 = 0 then ((mJ6_highestOneBit_0f7a4 (x1.toInt32)).bind (fun r_2 => some (r_2.toInt64))) else ((mJ13_highestOneBit_067f4 x1).bind (fun r_3 => some r_3)))
set_option maxHeartbeats 4000000 in
set_option maxRecDepth 100000 in
theorem kcX1_highestBit (l : Launch) (D : va_G) (cy : Nat → ClassId) (g : Nat → Nat) (x1 : Int64) (x2 : Int32) (R : Int64) (hm : mX1_highestBit x1 x2 = some R) : Con l D cy g yX1_highestBit cX1_highestBit 3 (some .long) 3 64 0 0 [.long x1, .int x2] [] [] (some (.long R)) := by
  refine Con.of (by decide +kernel) (Nat.le_of_ble_eq_true rfl) ?_
  intro p e RM s m ar below meth c A Qc ls hx hb hr hml hown hlocks hnm ht hK hP hD hS hA hR hC hQc hl
  have hown : s.vm.findClass RX1 = some m.cls := hown
  have hl : lv_has ls 3 [(0, .long x1), (2, .int x2)] := hl
  rw [mX1_highestBit] at hm
  refine lv_iload_n hx hb dX1_highestBit_0 rfl (lv_at hl 1 rfl) ?_
  refine lv_if_eq (tgt := 11) hx hb dX1_highestBit_1 (by decide) (fun c_1 => ?_) (fun c_1 => ?_)
  · replace hm := hm_t c_1 hm
    refine lv_lload_n hx hb dX1_highestBit_11 rfl (lv_at hl 0 rfl) ?_
    refine lv_l2i hx hb dX1_highestBit_12 rfl ?_
    obtain ⟨r_2, hr_2, hm⟩ := hm_b hm
    refine k_S (as := [.int (x1.toInt32)]) (rest := []) (ws' := []) (st2 := [.int r_2]) hx hb hml hown ht hK hP hD hS hA hC hR hl (kcJ6_highestOneBit_0f7a4 l D cy g (x1.toInt32) r_2 hr_2) [] q_729 q_730 q_71 q_731 hyJ6_highestOneBit_0f7a4 ⟨Nat.le_of_ble_eq_true rfl, Nat.le_of_ble_eq_true rfl, Nat.le_of_ble_eq_true rfl, Nat.le_of_ble_eq_true rfl⟩ rfl rfl rfl rfl (Nat.le_of_ble_eq_true rfl) dX1_highestBit_13 rfl rfl (fun H locs hP hD hS => ?_)
    refine lv_i2l hx hb dX1_highestBit_16 rfl ?_
    obtain rfl := Option.some.inj hm
    exact k_lret hx hb hr hlocks hQc hP hS rfl rfl dX1_highestBit_17
  · replace hm := hm_f c_1 hm
    refine lv_lload_n hx hb dX1_highestBit_4 rfl (lv_at hl 0 rfl) ?_
    obtain ⟨r_3, hr_3, hm⟩ := hm_b hm
    refine k_S (as := [.long x1]) (rest := []) (ws' := []) (st2 := [.long r_3]) hx hb hml hown ht hK hP hD hS hA hC hR hl (kcJ13_highestOneBit_067f4 l D cy g x1 r_3 hr_3) [] q_724 q_725 q_70 q_726 hyJ13_highestOneBit_067f4 ⟨Nat.le_of_ble_eq_true rfl, Nat.le_of_ble_eq_true rfl, Nat.le_of_ble_eq_true rfl, Nat.le_of_ble_eq_true rfl⟩ rfl rfl rfl rfl (Nat.le_of_ble_eq_true rfl) dX1_highestBit_5 rfl rfl (fun H locs hP hD hS => ?_)
    refine lv_goto (tgt := 17) hx hb dX1_highestBit_8 (by decide) ?_
    obtain rfl := Option.some.inj hm
    exact k_lret hx hb hr hlocks hQc hP hS rfl rfl dX1_highestBit_17
theorem dX1_lowestBit_0 : decode cX1_lowestBit 0 = .ok (.iload_n 2, 1) := by decide +kernel
theorem dX1_lowestBit_1 : decode cX1_lowestBit 1 = .ok (.ifCond .eq 10, 3) := by decide +kernel
theorem dX1_lowestBit_4 : decode cX1_lowestBit 4 = .ok (.lload_n 0, 1) := by decide +kernel
theorem dX1_lowestBit_5 : decode cX1_lowestBit 5 = .ok (.invokestatic 55, 3) := by decide +kernel
theorem dX1_lowestBit_8 : decode cX1_lowestBit 8 = .ok (.goto 9, 3) := by decide +kernel
theorem dX1_lowestBit_11 : decode cX1_lowestBit 11 = .ok (.lload_n 0, 1) := by decide +kernel
theorem dX1_lowestBit_12 : decode cX1_lowestBit 12 = .ok (.l2i, 1) := by decide +kernel
theorem dX1_lowestBit_13 : decode cX1_lowestBit 13 = .ok (.invokestatic 58, 3) := by decide +kernel
theorem dX1_lowestBit_16 : decode cX1_lowestBit 16 = .ok (.i2l, 1) := by decide +kernel
theorem dX1_lowestBit_17 : decode cX1_lowestBit 17 = .ok (.lreturn, 1) := by decide +kernel
def mX1_lowestBit (x1 : Int64) (x2 : Int32) : Option (Int64) := (if x2 = 0 then ((mJ6_lowestOneBit_0f7a4 (x1.toInt32)).bind (fun r_2 => some (r_2.toInt64))) else ((mJ13_lowestOneBit_067f4 x1).bind (fun r_3 => some r_3)))
set_option maxHeartbeats 4000000 in
set_option maxRecDepth 100000 in
theorem kcX1_lowestBit (l : Launch) (D : va_G) (cy : Nat → ClassId) (g : Nat → Nat) (x1 : Int64) (x2 : Int32) (R : Int64) (hm : mX1_lowestBit x1 x2 = some R) : Con l D cy g yX1_lowestBit cX1_lowestBit 3 (some .long) 1 21 0 0 [.long x1, .int x2] [] [] (some (.long R)) := by
  refine Con.of (by decide +kernel) (Nat.le_of_ble_eq_true rfl) ?_
  intro p e RM s m ar below meth c A Qc ls hx hb hr hml hown hlocks hnm ht hK hP hD hS hA hR hC hQc hl
  have hown : s.vm.findClass RX1 = some m.cls := hown
  have hl : lv_has ls 3 [(0, .long x1), (2, .int x2)] := hl
  rw [mX1_lowestBit] at hm
  refine lv_iload_n hx hb dX1_lowestBit_0 rfl (lv_at hl 1 rfl) ?_
  refine lv_if_eq (tgt := 11) hx hb dX1_lowestBit_1 (by decide) (fun c_1 => ?_) (fun c_1 => ?_)
  · replace hm := hm_t c_1 hm
    refine lv_lload_n hx hb dX1_lowestBit_11 rfl (lv_at hl 0 rfl) ?_
    refine lv_l2i hx hb dX1_lowestBit_12 rfl ?_
    obtain ⟨r_2, hr_2, hm⟩ := hm_b hm
    refine k_S (as := [.int (x1.toInt32)]) (rest := []) (ws' := []) (st2 := [.int r_2]) hx hb hml hown ht hK hP hD hS hA hC hR hl (kcJ6_lowestOneBit_0f7a4 l D cy g (x1.toInt32) r_2 hr_2) [] q_744 q_745 q_71 q_746 hyJ6_lowestOneBit_0f7a4 ⟨Nat.le_of_ble_eq_true rfl, Nat.le_of_ble_eq_true rfl, Nat.le_of_ble_eq_true rfl, Nat.le_of_ble_eq_true rfl⟩ rfl rfl rfl rfl (Nat.le_of_ble_eq_true rfl) dX1_lowestBit_13 rfl rfl (fun H locs hP hD hS => ?_)
    refine lv_i2l hx hb dX1_lowestBit_16 rfl ?_
    obtain rfl := Option.some.inj hm
    exact k_lret hx hb hr hlocks hQc hP hS rfl rfl dX1_lowestBit_17
  · replace hm := hm_f c_1 hm
    refine lv_lload_n hx hb dX1_lowestBit_4 rfl (lv_at hl 0 rfl) ?_
    obtain ⟨r_3, hr_3, hm⟩ := hm_b hm
    refine k_S (as := [.long x1]) (rest := []) (ws' := []) (st2 := [.long r_3]) hx hb hml hown ht hK hP hD hS hA hC hR hl (kcJ13_lowestOneBit_067f4 l D cy g x1 r_3 hr_3) [] q_741 q_742 q_70 q_743 hyJ13_lowestOneBit_067f4 ⟨Nat.le_of_ble_eq_true rfl, Nat.le_of_ble_eq_true rfl, Nat.le_of_ble_eq_true rfl, Nat.le_of_ble_eq_true rfl⟩ rfl rfl rfl rfl (Nat.le_of_ble_eq_true rfl) dX1_lowestBit_5 rfl rfl (fun H locs hP hD hS => ?_)
    refine lv_goto (tgt := 17) hx hb dX1_lowestBit_8 (by decide) ?_
    obtain rfl := Option.some.inj hm
    exact k_lret hx hb hr hlocks hQc hP hS rfl rfl dX1_lowestBit_17
theorem dX1_plainOrder_0 : decode cX1_plainOrder 0 = .ok (.lload_n 0, 1) := by decide +kernel
theorem dX1_plainOrder_1 : decode cX1_plainOrder 1 = .ok (.lload_n 2, 1) := by decide +kernel
theorem dX1_plainOrder_2 : decode cX1_plainOrder 2 = .ok (.lcmp, 1) := by decide +kernel
theorem dX1_plainOrder_3 : decode cX1_plainOrder 3 = .ok (.ifCond .ne 5, 3) := by decide +kernel
theorem dX1_plainOrder_6 : decode cX1_plainOrder 6 = .ok (.iconst 0, 1) := by decide +kernel
theorem dX1_plainOrder_7 : decode cX1_plainOrder 7 = .ok (.ireturn, 1) := by decide +kernel
theorem dX1_plainOrder_8 : decode cX1_plainOrder 8 = .ok (.lload_n 0, 1) := by decide +kernel
theorem dX1_plainOrder_9 : decode cX1_plainOrder 9 = .ok (.ldc2_w 60, 3) := by decide +kernel
theorem dX1_plainOrder_12 : decode cX1_plainOrder 12 = .ok (.lxor, 1) := by decide +kernel
theorem dX1_plainOrder_13 : decode cX1_plainOrder 13 = .ok (.lload_n 2, 1) := by decide +kernel
theorem dX1_plainOrder_14 : decode cX1_plainOrder 14 = .ok (.ldc2_w 60, 3) := by decide +kernel
theorem dX1_plainOrder_17 : decode cX1_plainOrder 17 = .ok (.lxor, 1) := by decide +kernel
theorem dX1_plainOrder_18 : decode cX1_plainOrder 18 = .ok (.lcmp, 1) := by decide +kernel
theorem dX1_plainOrder_19 : decode cX1_plainOrder 19 = .ok (.ifCond .ge 7, 3) := by decide +kernel
theorem dX1_plainOrder_22 : decode cX1_plainOrder 22 = .ok (.iconst (-1), 1) := by decide +kernel
theorem dX1_plainOrder_23 : decode cX1_plainOrder 23 = .ok (.goto 4, 3) := by decide +kernel
theorem dX1_plainOrder_26 : decode cX1_plainOrder 26 = .ok (.iconst 1, 1) := by decide +kernel
theorem dX1_plainOrder_27 : decode cX1_plainOrder 27 = .ok (.ireturn, 1) := by decide +kernel
def mX1_plainOrder (x1 : Int64) (x2 : Int64) : Option (Int32) := (if (lg_cmp x1 x2) = 0 then some 0 else (if (0 : Int32) ≤ (lg_cmp (x1 ^^^ (-9223372036854775808)) (x2 ^^^ (-9223372036854775808))) then some 1 else some (-1)))
set_option maxHeartbeats 4000000 in
set_option maxRecDepth 100000 in
theorem kcX1_plainOrder (l : Launch) (D : va_G) (cy : Nat → ClassId) (g : Nat → Nat) (x1 : Int64) (x2 : Int64) (R : Int32) (hm : mX1_plainOrder x1 x2 = some R) : Con l D cy g yX1_plainOrder cX1_plainOrder 4 (some .int) 0 0 0 0 [.long x1, .long x2] [] [] (some (.int R)) := by
  refine Con.of (by decide +kernel) (Nat.le_of_ble_eq_true rfl) ?_
  intro p e RM s m ar below meth c A Qc ls hx hb hr hml hown hlocks hnm ht hK hP hD hS hA hR hC hQc hl
  have hown : s.vm.findClass RX1 = some m.cls := hown
  have hl : lv_has ls 4 [(0, .long x1), (2, .long x2)] := hl
  rw [mX1_plainOrder] at hm
  refine lv_lload_n hx hb dX1_plainOrder_0 rfl (lv_at hl 0 rfl) ?_
  refine lv_lload_n hx hb dX1_plainOrder_1 rfl (lv_at hl 1 rfl) ?_
  refine W.lcmp hx hb dX1_plainOrder_2 ?_
  refine lv_if_ne (tgt := 8) hx hb dX1_plainOrder_3 (by decide) (fun c_1 => ?_) (fun c_1 => ?_)
  · replace hm := hm_f c_1 hm
    refine lv_lload_n hx hb dX1_plainOrder_8 rfl (lv_at hl 0 rfl) ?_
    refine lv_ldc2 (v := (-9223372036854775808)) hx hb hown (ht _ q_385) dX1_plainOrder_9 ?_
    refine lv_lxor hx hb dX1_plainOrder_12 ?_
    refine lv_lload_n hx hb dX1_plainOrder_13 rfl (lv_at hl 1 rfl) ?_
    refine lv_ldc2 (v := (-9223372036854775808)) hx hb hown (ht _ q_385) dX1_plainOrder_14 ?_
    refine lv_lxor hx hb dX1_plainOrder_17 ?_
    refine W.lcmp hx hb dX1_plainOrder_18 ?_
    refine lv_if_ge (tgt := 26) hx hb dX1_plainOrder_19 (by decide) (fun c_2 => ?_) (fun c_2 => ?_)
    · replace hm := hm_t c_2 hm
      refine lv_iconst (v := 1) hx hb dX1_plainOrder_26 (by decide) ?_
      obtain rfl := Option.some.inj hm
      exact k_iret hx hb hr hlocks hQc hP hS rfl rfl dX1_plainOrder_27
    · replace hm := hm_f c_2 hm
      refine lv_iconst (v := (-1)) hx hb dX1_plainOrder_22 (by decide) ?_
      refine lv_goto (tgt := 27) hx hb dX1_plainOrder_23 (by decide) ?_
      obtain rfl := Option.some.inj hm
      exact k_iret hx hb hr hlocks hQc hP hS rfl rfl dX1_plainOrder_27
  · replace hm := hm_t c_1 hm
    refine lv_iconst (v := 0) hx hb dX1_plainOrder_6 (by decide) ?_
    obtain rfl := Option.some.inj hm
    exact k_iret hx hb hr hlocks hQc hP hS rfl rfl dX1_plainOrder_7
theorem dX1_plainQuotient_0 : decode cX1_plainQuotient 0 = .ok (.lload_n 2, 1) := by decide +kernel
theorem dX1_plainQuotient_1 : decode cX1_plainQuotient 1 = .ok (.lconst 0, 1) := by decide +kernel
theorem dX1_plainQuotient_2 : decode cX1_plainQuotient 2 = .ok (.lcmp, 1) := by decide +kernel
theorem dX1_plainQuotient_3 : decode cX1_plainQuotient 3 = .ok (.ifCond .gt 21, 3) := by decide +kernel
theorem dX1_plainQuotient_6 : decode cX1_plainQuotient 6 = .ok (.lload_n 0, 1) := by decide +kernel
theorem dX1_plainQuotient_7 : decode cX1_plainQuotient 7 = .ok (.lconst 0, 1) := by decide +kernel
theorem dX1_plainQuotient_8 : decode cX1_plainQuotient 8 = .ok (.lcmp, 1) := by decide +kernel
theorem dX1_plainQuotient_9 : decode cX1_plainQuotient 9 = .ok (.ifCond .ge 13, 3) := by decide +kernel
theorem dX1_plainQuotient_12 : decode cX1_plainQuotient 12 = .ok (.lload_n 0, 1) := by decide +kernel
theorem dX1_plainQuotient_13 : decode cX1_plainQuotient 13 = .ok (.lload_n 2, 1) := by decide +kernel
theorem dX1_plainQuotient_14 : decode cX1_plainQuotient 14 = .ok (.lcmp, 1) := by decide +kernel
theorem dX1_plainQuotient_15 : decode cX1_plainQuotient 15 = .ok (.ifCond .lt 7, 3) := by decide +kernel
theorem dX1_plainQuotient_18 : decode cX1_plainQuotient 18 = .ok (.lconst 1, 1) := by decide +kernel
theorem dX1_plainQuotient_19 : decode cX1_plainQuotient 19 = .ok (.goto 4, 3) := by decide +kernel
theorem dX1_plainQuotient_22 : decode cX1_plainQuotient 22 = .ok (.lconst 0, 1) := by decide +kernel
theorem dX1_plainQuotient_23 : decode cX1_plainQuotient 23 = .ok (.lreturn, 1) := by decide +kernel
theorem dX1_plainQuotient_24 : decode cX1_plainQuotient 24 = .ok (.lload_n 0, 1) := by decide +kernel
theorem dX1_plainQuotient_25 : decode cX1_plainQuotient 25 = .ok (.lconst 0, 1) := by decide +kernel
theorem dX1_plainQuotient_26 : decode cX1_plainQuotient 26 = .ok (.lcmp, 1) := by decide +kernel
theorem dX1_plainQuotient_27 : decode cX1_plainQuotient 27 = .ok (.ifCond .lt 7, 3) := by decide +kernel
theorem dX1_plainQuotient_30 : decode cX1_plainQuotient 30 = .ok (.lload_n 0, 1) := by decide +kernel
theorem dX1_plainQuotient_31 : decode cX1_plainQuotient 31 = .ok (.lload_n 2, 1) := by decide +kernel
theorem dX1_plainQuotient_32 : decode cX1_plainQuotient 32 = .ok (.ldiv, 1) := by decide +kernel
theorem dX1_plainQuotient_33 : decode cX1_plainQuotient 33 = .ok (.lreturn, 1) := by decide +kernel
theorem dX1_plainQuotient_34 : decode cX1_plainQuotient 34 = .ok (.lload_n 0, 1) := by decide +kernel
theorem dX1_plainQuotient_35 : decode cX1_plainQuotient 35 = .ok (.iconst 1, 1) := by decide +kernel
theorem dX1_plainQuotient_36 : decode cX1_plainQuotient 36 = .ok (.lushr, 1) := by decide +kernel
theorem dX1_plainQuotient_37 : decode cX1_plainQuotient 37 = .ok (.lload_n 2, 1) := by decide +kernel
theorem dX1_plainQuotient_38 : decode cX1_plainQuotient 38 = .ok (.ldiv, 1) := by decide +kernel
theorem dX1_plainQuotient_39 : decode cX1_plainQuotient 39 = .ok (.ldc2_w 62, 3) := by decide +kernel
theorem dX1_plainQuotient_42 : decode cX1_plainQuotient 42 = .ok (.lmul, 1) := by decide +kernel
theorem dX1_plainQuotient_43 : decode cX1_plainQuotient 43 = .ok (.lstore 4, 2) := by decide +kernel
theorem dX1_plainQuotient_45 : decode cX1_plainQuotient 45 = .ok (.lload_n 0, 1) := by decide +kernel
theorem dX1_plainQuotient_46 : decode cX1_plainQuotient 46 = .ok (.lload 4, 2) := by decide +kernel
theorem dX1_plainQuotient_48 : decode cX1_plainQuotient 48 = .ok (.lload_n 2, 1) := by decide +kernel
theorem dX1_plainQuotient_49 : decode cX1_plainQuotient 49 = .ok (.lmul, 1) := by decide +kernel
theorem dX1_plainQuotient_50 : decode cX1_plainQuotient 50 = .ok (.lsub, 1) := by decide +kernel
theorem dX1_plainQuotient_51 : decode cX1_plainQuotient 51 = .ok (.lstore 6, 2) := by decide +kernel
theorem dX1_plainQuotient_53 : decode cX1_plainQuotient 53 = .ok (.lload 6, 2) := by decide +kernel
theorem dX1_plainQuotient_55 : decode cX1_plainQuotient 55 = .ok (.lconst 0, 1) := by decide +kernel
theorem dX1_plainQuotient_56 : decode cX1_plainQuotient 56 = .ok (.lcmp, 1) := by decide +kernel
theorem dX1_plainQuotient_57 : decode cX1_plainQuotient 57 = .ok (.ifCond .lt 10, 3) := by decide +kernel
theorem dX1_plainQuotient_60 : decode cX1_plainQuotient 60 = .ok (.lload 6, 2) := by decide +kernel
theorem dX1_plainQuotient_62 : decode cX1_plainQuotient 62 = .ok (.lload_n 2, 1) := by decide +kernel
theorem dX1_plainQuotient_63 : decode cX1_plainQuotient 63 = .ok (.lcmp, 1) := by decide +kernel
theorem dX1_plainQuotient_64 : decode cX1_plainQuotient 64 = .ok (.ifCond .lt 10, 3) := by decide +kernel
theorem dX1_plainQuotient_67 : decode cX1_plainQuotient 67 = .ok (.lload 4, 2) := by decide +kernel
theorem dX1_plainQuotient_69 : decode cX1_plainQuotient 69 = .ok (.lconst 1, 1) := by decide +kernel
theorem dX1_plainQuotient_70 : decode cX1_plainQuotient 70 = .ok (.ladd, 1) := by decide +kernel
theorem dX1_plainQuotient_71 : decode cX1_plainQuotient 71 = .ok (.goto 5, 3) := by decide +kernel
theorem dX1_plainQuotient_74 : decode cX1_plainQuotient 74 = .ok (.lload 4, 2) := by decide +kernel
theorem dX1_plainQuotient_76 : decode cX1_plainQuotient 76 = .ok (.lreturn, 1) := by decide +kernel
def mX1_plainQuotient (x1 : Int64) (x2 : Int64) : Option (Int64) := (if (0 : Int32) < (lg_cmp x2 0) then (if (lg_cmp x1 0) < 0 then (if x2 = 0 then none else ((some (((((x1).toUInt64 >>> (((1 : Int32)).toInt64.toUInt64 &&& Int64.toUInt64 63)).toInt64) / x2) * 2) : Option Int64).bind (fun x_3 => ((some (x1 - (x_3 * x2)) : Option Int64).bind (fun x_4 => (if (lg_cmp x_4 0) < 0 then some (x_3 + 1) else (if (lg_cmp x_4 x2) < 0 then some x_3 else some (x_3 + 1)))))))) else (if x2 = 0 then none else some (x1 / x2))) else (if (0 : Int32) ≤ (lg_cmp x1 0) then some 0 else (if (lg_cmp x1 x2) < 0 then some 0 else some 1)))
set_option maxHeartbeats 4000000 in
set_option maxRecDepth 100000 in
theorem kcX1_plainQuotient (l : Launch) (D : va_G) (cy : Nat → ClassId) (g : Nat → Nat) (x1 : Int64) (x2 : Int64) (R : Int64) (hm : mX1_plainQuotient x1 x2 = some R) : Con l D cy g yX1_plainQuotient cX1_plainQuotient 8 (some .long) 0 0 0 0 [.long x1, .long x2] [] [] (some (.long R)) := by
  refine Con.of (by decide +kernel) (Nat.le_of_ble_eq_true rfl) ?_
  intro p e RM s m ar below meth c A Qc ls hx hb hr hml hown hlocks hnm ht hK hP hD hS hA hR hC hQc hl
  have hown : s.vm.findClass RX1 = some m.cls := hown
  have hl : lv_has ls 8 [(0, .long x1), (2, .long x2)] := hl
  rw [mX1_plainQuotient] at hm
  refine lv_lload_n hx hb dX1_plainQuotient_0 rfl (lv_at hl 1 rfl) ?_
  refine lv_lconst (v := 0) hx hb dX1_plainQuotient_1 (by decide) ?_
  refine W.lcmp hx hb dX1_plainQuotient_2 ?_
  refine lv_if_gt (tgt := 24) hx hb dX1_plainQuotient_3 (by decide) (fun c_1 => ?_) (fun c_1 => ?_)
  · replace hm := hm_t c_1 hm
    refine lv_lload_n hx hb dX1_plainQuotient_24 rfl (lv_at hl 0 rfl) ?_
    refine lv_lconst (v := 0) hx hb dX1_plainQuotient_25 (by decide) ?_
    refine W.lcmp hx hb dX1_plainQuotient_26 ?_
    refine lv_if_lt (tgt := 34) hx hb dX1_plainQuotient_27 (by decide) (fun c_2 => ?_) (fun c_2 => ?_)
    · replace hm := hm_t c_2 hm
      refine lv_lload_n hx hb dX1_plainQuotient_34 rfl (lv_at hl 0 rfl) ?_
      refine lv_iconst (v := 1) hx hb dX1_plainQuotient_35 (by decide) ?_
      refine lv_lushr hx hb dX1_plainQuotient_36 rfl ?_
      refine lv_lload_n hx hb dX1_plainQuotient_37 rfl (lv_at hl 1 rfl) ?_
      obtain ⟨hne, hm⟩ := hm_g hm
      refine lv_ldiv hx hb dX1_plainQuotient_38 hne ?_
      refine lv_ldc2 (v := 2) hx hb hown (ht _ q_349) dX1_plainQuotient_39 ?_
      refine lv_lmul hx hb dX1_plainQuotient_42 ?_
      obtain ⟨x_3, hx_, hm⟩ := hm_b hm
      refine k_topl (y := x_3) (Option.some.inj hx_) ?_
      refine lv_lstore (lv' := [(4, .long x_3), (0, .long x1), (2, .long x2)]) hx hb dX1_plainQuotient_43 hl (by decide) rfl (fun ls hl => ?_)
      refine lv_lload_n hx hb dX1_plainQuotient_45 rfl (lv_at hl 1 rfl) ?_
      refine lv_lload hx hb dX1_plainQuotient_46 (lv_at hl 0 rfl) ?_
      refine lv_lload_n hx hb dX1_plainQuotient_48 rfl (lv_at hl 2 rfl) ?_
      refine lv_lmul hx hb dX1_plainQuotient_49 ?_
      refine lv_lsub hx hb dX1_plainQuotient_50 ?_
      obtain ⟨x_4, hx_, hm⟩ := hm_b hm
      refine k_topl (y := x_4) (Option.some.inj hx_) ?_
      refine lv_lstore (lv' := [(6, .long x_4), (4, .long x_3), (0, .long x1), (2, .long x2)]) hx hb dX1_plainQuotient_51 hl (by decide) rfl (fun ls hl => ?_)
      refine lv_lload hx hb dX1_plainQuotient_53 (lv_at hl 0 rfl) ?_
      refine lv_lconst (v := 0) hx hb dX1_plainQuotient_55 (by decide) ?_
      refine W.lcmp hx hb dX1_plainQuotient_56 ?_
      refine lv_if_lt (tgt := 67) hx hb dX1_plainQuotient_57 (by decide) (fun c_5 => ?_) (fun c_5 => ?_)
      · replace hm := hm_t c_5 hm
        refine lv_lload hx hb dX1_plainQuotient_67 (lv_at hl 1 rfl) ?_
        refine lv_lconst (v := 1) hx hb dX1_plainQuotient_69 (by decide) ?_
        refine lv_ladd hx hb dX1_plainQuotient_70 ?_
        refine lv_goto (tgt := 76) hx hb dX1_plainQuotient_71 (by decide) ?_
        obtain rfl := Option.some.inj hm
        exact k_lret hx hb hr hlocks hQc hP hS rfl rfl dX1_plainQuotient_76
      · replace hm := hm_f c_5 hm
        refine lv_lload hx hb dX1_plainQuotient_60 (lv_at hl 0 rfl) ?_
        refine lv_lload_n hx hb dX1_plainQuotient_62 rfl (lv_at hl 3 rfl) ?_
        refine W.lcmp hx hb dX1_plainQuotient_63 ?_
        refine lv_if_lt (tgt := 74) hx hb dX1_plainQuotient_64 (by decide) (fun c_6 => ?_) (fun c_6 => ?_)
        · replace hm := hm_t c_6 hm
          refine lv_lload hx hb dX1_plainQuotient_74 (lv_at hl 1 rfl) ?_
          obtain rfl := Option.some.inj hm
          exact k_lret hx hb hr hlocks hQc hP hS rfl rfl dX1_plainQuotient_76
        · replace hm := hm_f c_6 hm
          refine lv_lload hx hb dX1_plainQuotient_67 (lv_at hl 1 rfl) ?_
          refine lv_lconst (v := 1) hx hb dX1_plainQuotient_69 (by decide) ?_
          refine lv_ladd hx hb dX1_plainQuotient_70 ?_
          refine lv_goto (tgt := 76) hx hb dX1_plainQuotient_71 (by decide) ?_
          obtain rfl := Option.some.inj hm
          exact k_lret hx hb hr hlocks hQc hP hS rfl rfl dX1_plainQuotient_76
    · replace hm := hm_f c_2 hm
      refine lv_lload_n hx hb dX1_plainQuotient_30 rfl (lv_at hl 0 rfl) ?_
      refine lv_lload_n hx hb dX1_plainQuotient_31 rfl (lv_at hl 1 rfl) ?_
      obtain ⟨hne, hm⟩ := hm_g hm
      refine lv_ldiv hx hb dX1_plainQuotient_32 hne ?_
      obtain rfl := Option.some.inj hm
      exact k_lret hx hb hr hlocks hQc hP hS rfl rfl dX1_plainQuotient_33
  · replace hm := hm_f c_1 hm
    refine lv_lload_n hx hb dX1_plainQuotient_6 rfl (lv_at hl 0 rfl) ?_
    refine lv_lconst (v := 0) hx hb dX1_plainQuotient_7 (by decide) ?_
    refine W.lcmp hx hb dX1_plainQuotient_8 ?_
    refine lv_if_ge (tgt := 22) hx hb dX1_plainQuotient_9 (by decide) (fun c_7 => ?_) (fun c_7 => ?_)
    · replace hm := hm_t c_7 hm
      refine lv_lconst (v := 0) hx hb dX1_plainQuotient_22 (by decide) ?_
      obtain rfl := Option.some.inj hm
      exact k_lret hx hb hr hlocks hQc hP hS rfl rfl dX1_plainQuotient_23
    · replace hm := hm_f c_7 hm
      refine lv_lload_n hx hb dX1_plainQuotient_12 rfl (lv_at hl 0 rfl) ?_
      refine lv_lload_n hx hb dX1_plainQuotient_13 rfl (lv_at hl 1 rfl) ?_
      refine W.lcmp hx hb dX1_plainQuotient_14 ?_
      refine lv_if_lt (tgt := 22) hx hb dX1_plainQuotient_15 (by decide) (fun c_8 => ?_) (fun c_8 => ?_)
      · replace hm := hm_t c_8 hm
        refine lv_lconst (v := 0) hx hb dX1_plainQuotient_22 (by decide) ?_
        obtain rfl := Option.some.inj hm
        exact k_lret hx hb hr hlocks hQc hP hS rfl rfl dX1_plainQuotient_23
      · replace hm := hm_f c_8 hm
        refine lv_lconst (v := 1) hx hb dX1_plainQuotient_18 (by decide) ?_
        refine lv_goto (tgt := 23) hx hb dX1_plainQuotient_19 (by decide) ?_
        obtain rfl := Option.some.inj hm
        exact k_lret hx hb hr hlocks hQc hP hS rfl rfl dX1_plainQuotient_23
