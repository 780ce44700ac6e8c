theorem q_16 : Cond.selects yX12_told.cls yX12_told yX12_told ∈ LW := LW_of 16 (by decide +kernel) rfl
theorem q_18 : Cond.selects yX12_puts.cls yX12_puts yX12_puts ∈ LW := LW_of 18 (by decide +kernel) rfl
theorem q_19 : Cond.selects yX12_sizes.cls yX12_sizes yX12_sizes ∈ LW := LW_of 19 (by decide +kernel) rfl
theorem q_46 : Cond.initialized RJ9 ∈ LW := LW_of 46 (by decide +kernel) rfl
theorem q_54 : Cond.initialized RX13 ∈ LW := LW_of 54 (by decide +kernel) rfl
theorem q_55 : Cond.initialized RX12 ∈ LW := LW_of 55 (by decide +kernel) rfl
theorem q_430 : Cond.static yJ9_min_7cf53 ∈ LW := LW_of 430 (by decide +kernel) rfl
theorem q_431 : Cond.code yJ9_min_7cf53 cJ9_min_7cf53 2 (some .int) ∈ LW := LW_of 431 (by decide +kernel) rfl
theorem q_1243 : Cond.fieldLink RX12 39 "RadixDeskModel$Desk" "isWide" "Z" ∈ LW := LW_of 1243 (by decide +kernel) rfl
theorem q_1245 : Cond.fieldLink RX12 11 "RadixDeskModel$Desk" "cells" "[[Z" ∈ LW := LW_of 1245 (by decide +kernel) rfl
theorem q_1247 : Cond.fieldLink RX12 16 "RadixDeskModel$Desk" "page" "[I" ∈ LW := LW_of 1247 (by decide +kernel) rfl
theorem q_1249 : Cond.fieldLink RX12 47 "RadixDeskModel$Desk" "pageMany" "I" ∈ LW := LW_of 1249 (by decide +kernel) rfl
theorem q_1251 : Cond.fieldLink RX12 20 "RadixDeskModel$Desk" "digits" "[I" ∈ LW := LW_of 1251 (by decide +kernel) rfl
theorem q_1253 : Cond.fieldLink RX12 98 "RadixDeskModel$Desk" "many" "I" ∈ LW := LW_of 1253 (by decide +kernel) rfl
theorem q_1255 : Cond.fieldLink RX12 95 "RadixDeskModel$Desk" "isMinus" "Z" ∈ LW := LW_of 1255 (by decide +kernel) rfl
theorem q_1258 : Cond.fieldLink RX12 27 "RadixDeskModel$Desk" "one" "[Z" ∈ LW := LW_of 1258 (by decide +kernel) rfl
theorem q_1260 : Cond.fieldLink RX12 33 "RadixDeskModel$Desk" "sum" "[Z" ∈ LW := LW_of 1260 (by decide +kernel) rfl
theorem q_1343 : Cond.methodLink RX13 7 yX13_in ∈ LW := LW_of 1343 (by decide +kernel) rfl
theorem q_1344 : Cond.static yX13_in ∈ LW := LW_of 1344 (by decide +kernel) rfl
theorem q_1345 : Cond.code yX13_in cX13_in 3 (some .boolean) ∈ LW := LW_of 1345 (by decide +kernel) rfl
theorem q_1351 : Cond.instanceMethod yX12_number ∈ LW := LW_of 1351 (by decide +kernel) rfl
theorem q_1352 : Cond.selects yX12_number.cls yX12_number yX12_number ∈ LW := LW_of 1352 (by decide +kernel) rfl
theorem q_1353 : Cond.code yX12_number cX12_number 2 (some .long) ∈ LW := LW_of 1353 (by decide +kernel) rfl
theorem q_1354 : Cond.methodLink RX12 59 yX12_bits ∈ LW := LW_of 1354 (by decide +kernel) rfl
theorem q_1355 : Cond.instanceMethod yX12_bits ∈ LW := LW_of 1355 (by decide +kernel) rfl
theorem q_1356 : Cond.selects yX12_bits.cls yX12_bits yX12_bits ∈ LW := LW_of 1356 (by decide +kernel) rfl
theorem q_1357 : Cond.code yX12_bits cX12_bits 1 (some .int) ∈ LW := LW_of 1357 (by decide +kernel) rfl
theorem q_1358 : Cond.methodLink RX12 63 yX12_told ∈ LW := LW_of 1358 (by decide +kernel) rfl
theorem q_1360 : Cond.instanceMethod yX12_told ∈ LW := LW_of 1360 (by decide +kernel) rfl
theorem q_1361 : Cond.code yX12_told cX12_told 6 (some .long) ∈ LW := LW_of 1361 (by decide +kernel) rfl
theorem q_1362 : Cond.constantLong RX12 51 2 ∈ LW := LW_of 1362 (by decide +kernel) rfl
theorem q_1363 : Cond.methodLink RX12 53 yJ9_min_7cf53 ∈ LW := LW_of 1363 (by decide +kernel) rfl
theorem q_1365 : Cond.static yX13_lays ∈ LW := LW_of 1365 (by decide +kernel) rfl
theorem q_1366 : Cond.code yX13_lays cX13_lays 6 none ∈ LW := LW_of 1366 (by decide +kernel) rfl
theorem q_1422 : Cond.static yX13_clear ∈ LW := LW_of 1422 (by decide +kernel) rfl
theorem q_1423 : Cond.code yX13_clear cX13_clear 2 none ∈ LW := LW_of 1423 (by decide +kernel) rfl
theorem q_1428 : Cond.static yX13_isNothing ∈ LW := LW_of 1428 (by decide +kernel) rfl
theorem q_1429 : Cond.code yX13_isNothing cX13_isNothing 3 (some .boolean) ∈ LW := LW_of 1429 (by decide +kernel) rfl
theorem q_1431 : Cond.static yX13_negates ∈ LW := LW_of 1431 (by decide +kernel) rfl
theorem q_1432 : Cond.code yX13_negates cX13_negates 5 none ∈ LW := LW_of 1432 (by decide +kernel) rfl
theorem q_1433 : Cond.methodLink RX12 75 yX12_puts ∈ LW := LW_of 1433 (by decide +kernel) rfl
theorem q_1435 : Cond.instanceMethod yX12_puts ∈ LW := LW_of 1435 (by decide +kernel) rfl
theorem q_1436 : Cond.code yX12_puts cX12_puts 4 (some .long) ∈ LW := LW_of 1436 (by decide +kernel) rfl
theorem q_1437 : Cond.methodLink RX12 67 yX12_number ∈ LW := LW_of 1437 (by decide +kernel) rfl
theorem q_1446 : Cond.methodLink RX12 105 yX12_digits ∈ LW := LW_of 1446 (by decide +kernel) rfl
theorem q_1447 : Cond.instanceMethod yX12_digits ∈ LW := LW_of 1447 (by decide +kernel) rfl
theorem q_1448 : Cond.selects yX12_digits.cls yX12_digits yX12_digits ∈ LW := LW_of 1448 (by decide +kernel) rfl
theorem q_1449 : Cond.code yX12_digits cX12_digits 8 none ∈ LW := LW_of 1449 (by decide +kernel) rfl
theorem q_1450 : Cond.methodLink RX12 91 yX12_sizes ∈ LW := LW_of 1450 (by decide +kernel) rfl
theorem q_1452 : Cond.instanceMethod yX12_sizes ∈ LW := LW_of 1452 (by decide +kernel) rfl
theorem q_1453 : Cond.code yX12_sizes cX12_sizes 5 (some .boolean) ∈ LW := LW_of 1453 (by decide +kernel) rfl
theorem q_1455 : Cond.static yX13_copy ∈ LW := LW_of 1455 (by decide +kernel) rfl
theorem q_1456 : Cond.code yX13_copy cX13_copy 4 none ∈ LW := LW_of 1456 (by decide +kernel) rfl
theorem q_1458 : Cond.static yX13_signOf ∈ LW := LW_of 1458 (by decide +kernel) rfl
theorem q_1459 : Cond.code yX13_signOf cX13_signOf 1 (some .int) ∈ LW := LW_of 1459 (by decide +kernel) rfl
theorem qn_1378 : Cond.methodLinkNest RX12 87 yX13_in "RadixDeskModel" ∈ NW := NW_of 1378 (by decide +kernel) rfl
theorem qn_1379 : Cond.methodLinkNest RX12 79 yX13_clear "RadixDeskModel" ∈ NW := NW_of 1379 (by decide +kernel) rfl
theorem qn_1385 : Cond.methodLinkNest RX12 101 yX13_isNothing "RadixDeskModel" ∈ NW := NW_of 1385 (by decide +kernel) rfl
theorem qn_1388 : Cond.methodLinkNest RX12 83 yX13_negates "RadixDeskModel" ∈ NW := NW_of 1388 (by decide +kernel) rfl
theorem qn_1412 : Cond.methodLinkNest RX12 43 yX13_copy "RadixDeskModel" ∈ NW := NW_of 1412 (by decide +kernel) rfl
theorem qn_1415 : Cond.methodLinkNest RX12 108 yX13_signOf "RadixDeskModel" ∈ NW := NW_of 1415 (by decide +kernel) rfl
theorem qn_1963 : Cond.methodLinkNest RX12 71 yX13_lays "RadixDeskModel" ∈ NW := NW_of 1963 (by decide +kernel) rfl
theorem hyX12_bits : yX12_bits.cls ≠ "java/lang/invoke/MethodHandle" ∧ yX12_bits.cls ≠ "java/lang/invoke/VarHandle" ∧ (parseMethodDescriptor yX12_bits.desc).map (fun d => d.parameters.length) = some 0 := by decide +kernel
theorem hyX12_digits : yX12_digits.cls ≠ "java/lang/invoke/MethodHandle" ∧ yX12_digits.cls ≠ "java/lang/invoke/VarHandle" ∧ (parseMethodDescriptor yX12_digits.desc).map (fun d => d.parameters.length) = some 3 := by decide +kernel
theorem hyX12_number : yX12_number.cls ≠ "java/lang/invoke/MethodHandle" ∧ yX12_number.cls ≠ "java/lang/invoke/VarHandle" ∧ (parseMethodDescriptor yX12_number.desc).map (fun d => d.parameters.length) = some 1 := by decide +kernel
theorem hyX12_puts : yX12_puts.cls ≠ "java/lang/invoke/MethodHandle" ∧ yX12_puts.cls ≠ "java/lang/invoke/VarHandle" ∧ (parseMethodDescriptor yX12_puts.desc).map (fun d => d.parameters.length) = some 2 := by decide +kernel
theorem hyX12_sizes : yX12_sizes.cls ≠ "java/lang/invoke/MethodHandle" ∧ yX12_sizes.cls ≠ "java/lang/invoke/VarHandle" ∧ (parseMethodDescriptor yX12_sizes.desc).map (fun d => d.parameters.length) = some 3 := by decide +kernel
theorem hyX12_told : yX12_told.cls ≠ "java/lang/invoke/MethodHandle" ∧ yX12_told.cls ≠ "java/lang/invoke/VarHandle" ∧ (parseMethodDescriptor yX12_told.desc).map (fun d => d.parameters.length) = some 2 := by decide +kernel
theorem hyX13_clear : yX13_clear.cls ≠ "java/lang/invoke/MethodHandle" ∧ yX13_clear.cls ≠ "java/lang/invoke/VarHandle" ∧ (parseMethodDescriptor yX13_clear.desc).map (fun d => d.parameters.length) = some 1 := by decide +kernel
theorem hyX13_copy : yX13_copy.cls ≠ "java/lang/invoke/MethodHandle" ∧ yX13_copy.cls ≠ "java/lang/invoke/VarHandle" ∧ (parseMethodDescriptor yX13_copy.desc).map (fun d => d.parameters.length) = some 3 := by decide +kernel
theorem hyX13_in : yX13_in.cls ≠ "java/lang/invoke/MethodHandle" ∧ yX13_in.cls ≠ "java/lang/invoke/VarHandle" ∧ (parseMethodDescriptor yX13_in.desc).map (fun d => d.parameters.length) = some 3 := by decide +kernel
theorem hyX13_isNothing : yX13_isNothing.cls ≠ "java/lang/invoke/MethodHandle" ∧ yX13_isNothing.cls ≠ "java/lang/invoke/VarHandle" ∧ (parseMethodDescriptor yX13_isNothing.desc).map (fun d => d.parameters.length) = some 2 := by decide +kernel
theorem hyX13_lays : yX13_lays.cls ≠ "java/lang/invoke/MethodHandle" ∧ yX13_lays.cls ≠ "java/lang/invoke/VarHandle" ∧ (parseMethodDescriptor yX13_lays.desc).map (fun d => d.parameters.length) = some 2 := by decide +kernel
theorem hyX13_negates : yX13_negates.cls ≠ "java/lang/invoke/MethodHandle" ∧ yX13_negates.cls ≠ "java/lang/invoke/VarHandle" ∧ (parseMethodDescriptor yX13_negates.desc).map (fun d => d.parameters.length) = some 2 := by decide +kernel
theorem hyX13_signOf : yX13_signOf.cls ≠ "java/lang/invoke/MethodHandle" ∧ yX13_signOf.cls ≠ "java/lang/invoke/VarHandle" ∧ (parseMethodDescriptor yX13_signOf.desc).map (fun d => d.parameters.length) = some 1 := by decide +kernel
theorem dX13_in_0 : decode cX13_in 0 = .ok (.iload_n 0, 1) := by decide +kernel
theorem dX13_in_1 : decode cX13_in 1 = .ok (.iload_n 1, 1) := by decide +kernel
theorem dX13_in_2 : decode cX13_in 2 = .ok (.if_icmp .lt 12, 3) := by decide +kernel
theorem dX13_in_5 : decode cX13_in 5 = .ok (.iload_n 0, 1) := by decide +kernel
theorem dX13_in_6 : decode cX13_in 6 = .ok (.iload_n 2, 1) := by decide +kernel
theorem dX13_in_7 : decode cX13_in 7 = .ok (.if_icmp .gt 7, 3) := by decide +kernel
theorem dX13_in_10 : decode cX13_in 10 = .ok (.iconst 1, 1) := by decide +kernel
theorem dX13_in_11 : decode cX13_in 11 = .ok (.goto 4, 3) := by decide +kernel
theorem dX13_in_14 : decode cX13_in 14 = .ok (.iconst 0, 1) := by decide +kernel
theorem dX13_in_15 : decode cX13_in 15 = .ok (.ireturn, 1) := by decide +kernel
def mX13_in (p1 : Int32) (p2 : Int32) (p3 : Int32) : Option (Int32) := (if p1 < p2 then some 0 else (if p3 < p1 then some 0 else some 1))
set_option maxHeartbeats 4000000 in
set_option maxRecDepth 100000 in
theorem kcX13_in (l : Launch) (D : va_G) (cy : Nat → ClassId) (g : Nat → Nat) (p1 : Int32) (p2 : Int32) (p3 : Int32) (R : Int32) (hm : mX13_in p1 p2 p3 = some R) : Con l D cy g yX13_in cX13_in 3 (some .boolean) 0 0 0 0 [.int p1, .int p2, .int p3] [] [] (some (.int R)) := by
  refine Con.of (by decide +kernel) (Nat.le_of_ble_eq_true rfl) ?_
  intro p e RM s m ar below meth c A Qc ls hx hb hr hml hown hlocks hnm ht hK hP hD hS hA hR hC hQc hl
  have hown : s.vm.findClass RX13 = some m.cls := hown
  have hl : lv_has ls 3 [(0, .int p1), (1, .int p2), (2, .int p3)] := hl
  rw [mX13_in] at hm
  refine lv_iload_n hx hb dX13_in_0 rfl (lv_at hl 0 rfl) ?_
  refine lv_iload_n hx hb dX13_in_1 rfl (lv_at hl 1 rfl) ?_
  refine lv_icmp_lt (tgt := 14) hx hb dX13_in_2 (by decide) (fun c_1 => ?_) (fun c_1 => ?_)
  · replace hm := hm_t c_1 hm
    refine lv_iconst (v := 0) hx hb dX13_in_14 (by decide) ?_
    obtain rfl := Option.some.inj hm
    exact k_zret hx hb hr hlocks hQc rfl hP hS rfl rfl dX13_in_15
  · replace hm := hm_f c_1 hm
    refine lv_iload_n hx hb dX13_in_5 rfl (lv_at hl 0 rfl) ?_
    refine lv_iload_n hx hb dX13_in_6 rfl (lv_at hl 2 rfl) ?_
    refine lv_icmp_gt (tgt := 14) hx hb dX13_in_7 (by decide) (fun c_2 => ?_) (fun c_2 => ?_)
    · replace hm := hm_t c_2 hm
      refine lv_iconst (v := 0) hx hb dX13_in_14 (by decide) ?_
      obtain rfl := Option.some.inj hm
      exact k_zret hx hb hr hlocks hQc rfl hP hS rfl rfl dX13_in_15
    · replace hm := hm_f c_2 hm
      refine lv_iconst (v := 1) hx hb dX13_in_10 (by decide) ?_
      refine lv_goto (tgt := 15) hx hb dX13_in_11 (by decide) ?_
      obtain rfl := Option.some.inj hm
      exact k_zret hx hb hr hlocks hQc rfl hP hS rfl rfl dX13_in_15
theorem dX13_isCell_0 : decode cX13_isCell 0 = .ok (.iload_n 0, 1) := by decide +kernel
theorem dX13_isCell_1 : decode cX13_isCell 1 = .ok (.iconst 0, 1) := by decide +kernel
theorem dX13_isCell_2 : decode cX13_isCell 2 = .ok (.bipush 7, 2) := by decide +kernel
theorem dX13_isCell_4 : decode cX13_isCell 4 = .ok (.invokestatic 7, 3) := by decide +kernel
theorem dX13_isCell_7 : decode cX13_isCell 7 = .ok (.ireturn, 1) := by decide +kernel
def mX13_isCell (p1 : Int32) : Option (Int32) := ((mX13_in p1 0 7).bind (fun r_1 => (if ¬ (r_1 = 0 ∨ r_1 = 1) then none else some r_1)))
set_option maxHeartbeats 4000000 in
set_option maxRecDepth 100000 in
theorem kcX13_isCell (l : Launch) (D : va_G) (cy : Nat → ClassId) (g : Nat → Nat) (p1 : Int32) (R : Int32) (hm : mX13_isCell p1 = some R) : Con l D cy g yX13_isCell cX13_isCell 1 (some .boolean) 1 22 0 0 [.int p1] [] [] (some (.int R)) := by
  refine Con.of (by decide +kernel) (Nat.le_of_ble_eq_true rfl) ?_
  intro p e RM s m ar below meth c A Qc ls hx hb hr hml hown hlocks hnm ht hK hP hD hS hA hR hC hQc hl
  have hown : s.vm.findClass RX13 = some m.cls := hown
  have hl : lv_has ls 1 [(0, .int p1)] := hl
  rw [mX13_isCell] at hm
  refine lv_iload_n hx hb dX13_isCell_0 rfl (lv_at hl 0 rfl) ?_
  refine lv_iconst (v := 0) hx hb dX13_isCell_1 (by decide) ?_
  refine lv_bipush (v := 7) hx hb dX13_isCell_2 (by decide) ?_
  obtain ⟨r_1, hr_1, hm⟩ := hm_b hm
  refine k_S (as := [.int p1, .int 0, .int 7]) (rest := []) (ws' := []) (st2 := [.int r_1]) hx hb hml hown ht hK hP hD hS hA hC hR hl (kcX13_in l D cy g p1 0 7 r_1 hr_1) [] q_1343 q_1344 q_54 q_1345 hyX13_in ⟨Nat.le_of_ble_eq_true rfl, Nat.le_of_ble_eq_true rfl, Nat.le_of_ble_eq_true rfl, Nat.le_of_ble_eq_true rfl⟩ rfl rfl rfl rfl (Nat.le_of_ble_eq_true rfl) dX13_isCell_4 rfl rfl (fun H locs hP hD hS => ?_)
  obtain ⟨hbz, hm⟩ := hm_g hm
  obtain rfl := Option.some.inj hm
  exact k_zret hx hb hr hlocks hQc (k_narz hbz) hP hS rfl rfl dX13_isCell_7
theorem dX13_digitOf_0 : decode cX13_digitOf 0 = .ok (.iload_n 0, 1) := by decide +kernel
theorem dX13_digitOf_1 : decode cX13_digitOf 1 = .ok (.bipush 48, 2) := by decide +kernel
theorem dX13_digitOf_3 : decode cX13_digitOf 3 = .ok (.bipush 57, 2) := by decide +kernel
theorem dX13_digitOf_5 : decode cX13_digitOf 5 = .ok (.invokestatic 7, 3) := by decide +kernel
theorem dX13_digitOf_8 : decode cX13_digitOf 8 = .ok (.ifCond .eq 8, 3) := by decide +kernel
theorem dX13_digitOf_11 : decode cX13_digitOf 11 = .ok (.iload_n 0, 1) := by decide +kernel
theorem dX13_digitOf_12 : decode cX13_digitOf 12 = .ok (.bipush 48, 2) := by decide +kernel
theorem dX13_digitOf_14 : decode cX13_digitOf 14 = .ok (.isub, 1) := by decide +kernel
theorem dX13_digitOf_15 : decode cX13_digitOf 15 = .ok (.ireturn, 1) := by decide +kernel
theorem dX13_digitOf_16 : decode cX13_digitOf 16 = .ok (.iload_n 0, 1) := by decide +kernel
theorem dX13_digitOf_17 : decode cX13_digitOf 17 = .ok (.bipush 97, 2) := by decide +kernel
theorem dX13_digitOf_19 : decode cX13_digitOf 19 = .ok (.bipush 122, 2) := by decide +kernel
theorem dX13_digitOf_21 : decode cX13_digitOf 21 = .ok (.invokestatic 7, 3) := by decide +kernel
theorem dX13_digitOf_24 : decode cX13_digitOf 24 = .ok (.ifCond .eq 11, 3) := by decide +kernel
theorem dX13_digitOf_27 : decode cX13_digitOf 27 = .ok (.iload_n 0, 1) := by decide +kernel
theorem dX13_digitOf_28 : decode cX13_digitOf 28 = .ok (.bipush 97, 2) := by decide +kernel
theorem dX13_digitOf_30 : decode cX13_digitOf 30 = .ok (.isub, 1) := by decide +kernel
theorem dX13_digitOf_31 : decode cX13_digitOf 31 = .ok (.bipush 10, 2) := by decide +kernel
theorem dX13_digitOf_33 : decode cX13_digitOf 33 = .ok (.iadd, 1) := by decide +kernel
theorem dX13_digitOf_34 : decode cX13_digitOf 34 = .ok (.ireturn, 1) := by decide +kernel
theorem dX13_digitOf_35 : decode cX13_digitOf 35 = .ok (.iload_n 0, 1) := by decide +kernel
theorem dX13_digitOf_36 : decode cX13_digitOf 36 = .ok (.bipush 65, 2) := by decide +kernel
theorem dX13_digitOf_38 : decode cX13_digitOf 38 = .ok (.bipush 90, 2) := by decide +kernel
theorem dX13_digitOf_40 : decode cX13_digitOf 40 = .ok (.invokestatic 7, 3) := by decide +kernel
theorem dX13_digitOf_43 : decode cX13_digitOf 43 = .ok (.ifCond .eq 13, 3) := by decide +kernel
theorem dX13_digitOf_46 : decode cX13_digitOf 46 = .ok (.iload_n 0, 1) := by decide +kernel
theorem dX13_digitOf_47 : decode cX13_digitOf 47 = .ok (.bipush 65, 2) := by decide +kernel
theorem dX13_digitOf_49 : decode cX13_digitOf 49 = .ok (.isub, 1) := by decide +kernel
theorem dX13_digitOf_50 : decode cX13_digitOf 50 = .ok (.bipush 10, 2) := by decide +kernel
theorem dX13_digitOf_52 : decode cX13_digitOf 52 = .ok (.iadd, 1) := by decide +kernel
theorem dX13_digitOf_53 : decode cX13_digitOf 53 = .ok (.goto 4, 3) := by decide +kernel
theorem dX13_digitOf_56 : decode cX13_digitOf 56 = .ok (.iconst (-1), 1) := by decide +kernel
theorem dX13_digitOf_57 : decode cX13_digitOf 57 = .ok (.ireturn, 1) := by decide +kernel
def mX13_digitOf (p1 : Int32) : Option (Int32) := ((mX13_in p1 48 57).bind (fun r_1 => (if r_1 = 0 then ((mX13_in p1 97 122).bind (fun r_3 => (if r_3 = 0 then ((mX13_in p1 65 90).bind (fun r_5 => (if r_5 = 0 then some (-1) else some ((p1 - 65) + 10)))) else some ((p1 - 97) + 10)))) else some (p1 - 48))))
set_option maxHeartbeats 4000000 in
set_option maxRecDepth 100000 in
theorem kcX13_digitOf (l : Launch) (D : va_G) (cy : Nat → ClassId) (g : Nat → Nat) (p1 : Int32) (R : Int32) (hm : mX13_digitOf p1 = some R) : Con l D cy g yX13_digitOf cX13_digitOf 1 (some .int) 1 22 0 0 [.int p1] [] [] (some (.int R)) := by
  refine Con.of (by decide +kernel) (Nat.le_of_ble_eq_true rfl) ?_
  intro p e RM s m ar below meth c A Qc ls hx hb hr hml hown hlocks hnm ht hK hP hD hS hA hR hC hQc hl
  have hown : s.vm.findClass RX13 = some m.cls := hown
  have hl : lv_has ls 1 [(0, .int p1)] := hl
  rw [mX13_digitOf] at hm
  refine lv_iload_n hx hb dX13_digitOf_0 rfl (lv_at hl 0 rfl) ?_
  refine lv_bipush (v := 48) hx hb dX13_digitOf_1 (by decide) ?_
  refine lv_bipush (v := 57) hx hb dX13_digitOf_3 (by decide) ?_
  obtain ⟨r_1, hr_1, hm⟩ := hm_b hm
  refine k_S (as := [.int p1, .int 48, .int 57]) (rest := []) (ws' := []) (st2 := [.int r_1]) hx hb hml hown ht hK hP hD hS hA hC hR hl (kcX13_in l D cy g p1 48 57 r_1 hr_1) [] q_1343 q_1344 q_54 q_1345 hyX13_in ⟨Nat.le_of_ble_eq_true rfl, Nat.le_of_ble_eq_true rfl, Nat.le_of_ble_eq_true rfl, Nat.le_of_ble_eq_true rfl⟩ rfl rfl rfl rfl (Nat.le_of_ble_eq_true rfl) dX13_digitOf_5 rfl rfl (fun H locs hP hD hS => ?_)
  refine lv_if_eq (tgt := 16) hx hb dX13_digitOf_8 (by decide) (fun c_2 => ?_) (fun c_2 => ?_)
  · replace hm := hm_t c_2 hm
    refine lv_iload_n hx hb dX13_digitOf_16 rfl (lv_at hl 0 rfl) ?_
    refine lv_bipush (v := 97) hx hb dX13_digitOf_17 (by decide) ?_
    refine lv_bipush (v := 122) hx hb dX13_digitOf_19 (by decide) ?_
    obtain ⟨r_3, hr_3, hm⟩ := hm_b hm
    refine k_S (as := [.int p1, .int 97, .int 122]) (rest := []) (ws' := []) (st2 := [.int r_3]) hx hb hml hown ht hK hP hD hS hA hC hR hl (kcX13_in l D cy g p1 97 122 r_3 hr_3) [] q_1343 q_1344 q_54 q_1345 hyX13_in ⟨Nat.le_of_ble_eq_true rfl, Nat.le_of_ble_eq_true rfl, Nat.le_of_ble_eq_true rfl, Nat.le_of_ble_eq_true rfl⟩ rfl rfl rfl rfl (Nat.le_of_ble_eq_true rfl) dX13_digitOf_21 rfl rfl (fun H locs hP hD hS => ?_)
    refine lv_if_eq (tgt := 35) hx hb dX13_digitOf_24 (by decide) (fun c_4 => ?_) (fun c_4 => ?_)
    · replace hm := hm_t c_4 hm
      refine lv_iload_n hx hb dX13_digitOf_35 rfl (lv_at hl 0 rfl) ?_
      refine lv_bipush (v := 65) hx hb dX13_digitOf_36 (by decide) ?_
      refine lv_bipush (v := 90) hx hb dX13_digitOf_38 (by decide) ?_
      obtain ⟨r_5, hr_5, hm⟩ := hm_b hm
      refine k_S (as := [.int p1, .int 65, .int 90]) (rest := []) (ws' := []) (st2 := [.int r_5]) hx hb hml hown ht hK hP hD hS hA hC hR hl (kcX13_in l D cy g p1 65 90 r_5 hr_5) [] q_1343 q_1344 q_54 q_1345 hyX13_in ⟨Nat.le_of_ble_eq_true rfl, Nat.le_of_ble_eq_true rfl, Nat.le_of_ble_eq_true rfl, Nat.le_of_ble_eq_true rfl⟩ rfl rfl rfl rfl (Nat.le_of_ble_eq_true rfl) dX13_digitOf_40 rfl rfl (fun H locs hP hD hS => ?_)
      refine lv_if_eq (tgt := 56) hx hb dX13_digitOf_43 (by decide) (fun c_6 => ?_) (fun c_6 => ?_)
      · replace hm := hm_t c_6 hm
        refine lv_iconst (v := (-1)) hx hb dX13_digitOf_56 (by decide) ?_
        obtain rfl := Option.some.inj hm
        exact k_iret hx hb hr hlocks hQc hP hS rfl rfl dX13_digitOf_57
      · replace hm := hm_f c_6 hm
        refine lv_iload_n hx hb dX13_digitOf_46 rfl (lv_at hl 0 rfl) ?_
        refine lv_bipush (v := 65) hx hb dX13_digitOf_47 (by decide) ?_
        refine lv_isub hx hb dX13_digitOf_49 ?_
        refine lv_bipush (v := 10) hx hb dX13_digitOf_50 (by decide) ?_
        refine lv_iadd hx hb dX13_digitOf_52 ?_
        refine lv_goto (tgt := 57) hx hb dX13_digitOf_53 (by decide) ?_
        obtain rfl := Option.some.inj hm
        exact k_iret hx hb hr hlocks hQc hP hS rfl rfl dX13_digitOf_57
    · replace hm := hm_f c_4 hm
      refine lv_iload_n hx hb dX13_digitOf_27 rfl (lv_at hl 0 rfl) ?_
      refine lv_bipush (v := 97) hx hb dX13_digitOf_28 (by decide) ?_
      refine lv_isub hx hb dX13_digitOf_30 ?_
      refine lv_bipush (v := 10) hx hb dX13_digitOf_31 (by decide) ?_
      refine lv_iadd hx hb dX13_digitOf_33 ?_
      obtain rfl := Option.some.inj hm
      exact k_iret hx hb hr hlocks hQc hP hS rfl rfl dX13_digitOf_34
  · replace hm := hm_f c_2 hm
    refine lv_iload_n hx hb dX13_digitOf_11 rfl (lv_at hl 0 rfl) ?_
    refine lv_bipush (v := 48) hx hb dX13_digitOf_12 (by decide) ?_
    refine lv_isub hx hb dX13_digitOf_14 ?_
    obtain rfl := Option.some.inj hm
    exact k_iret hx hb hr hlocks hQc hP hS rfl rfl dX13_digitOf_15
theorem dX13_signOf_0 : decode cX13_signOf 0 = .ok (.iload_n 0, 1) := by decide +kernel
theorem dX13_signOf_1 : decode cX13_signOf 1 = .ok (.bipush 10, 2) := by decide +kernel
theorem dX13_signOf_3 : decode cX13_signOf 3 = .ok (.if_icmp .ge 10, 3) := by decide +kernel
theorem dX13_signOf_6 : decode cX13_signOf 6 = .ok (.bipush 48, 2) := by decide +kernel
theorem dX13_signOf_8 : decode cX13_signOf 8 = .ok (.iload_n 0, 1) := by decide +kernel
theorem dX13_signOf_9 : decode cX13_signOf 9 = .ok (.iadd, 1) := by decide +kernel
theorem dX13_signOf_10 : decode cX13_signOf 10 = .ok (.goto 10, 3) := by decide +kernel
theorem dX13_signOf_13 : decode cX13_signOf 13 = .ok (.bipush 97, 2) := by decide +kernel
theorem dX13_signOf_15 : decode cX13_signOf 15 = .ok (.iload_n 0, 1) := by decide +kernel
theorem dX13_signOf_16 : decode cX13_signOf 16 = .ok (.iadd, 1) := by decide +kernel
theorem dX13_signOf_17 : decode cX13_signOf 17 = .ok (.bipush 10, 2) := by decide +kernel
theorem dX13_signOf_19 : decode cX13_signOf 19 = .ok (.isub, 1) := by decide +kernel
theorem dX13_signOf_20 : decode cX13_signOf 20 = .ok (.ireturn, 1) := by decide +kernel
def mX13_signOf (p1 : Int32) : Option (Int32) := (if (10 : Int32) ≤ p1 then some ((97 + p1) - 10) else some (48 + p1))
set_option maxHeartbeats 4000000 in
set_option maxRecDepth 100000 in
theorem kcX13_signOf (l : Launch) (D : va_G) (cy : Nat → ClassId) (g : Nat → Nat) (p1 : Int32) (R : Int32) (hm : mX13_signOf p1 = some R) : Con l D cy g yX13_signOf cX13_signOf 1 (some .int) 0 0 0 0 [.int p1] [] [] (some (.int R)) := by
  refine Con.of (by decide +kernel) (Nat.le_of_ble_eq_true rfl) ?_
  intro p e RM s m ar below meth c A Qc ls hx hb hr hml hown hlocks hnm ht hK hP hD hS hA hR hC hQc hl
  have hown : s.vm.findClass RX13 = some m.cls := hown
  have hl : lv_has ls 1 [(0, .int p1)] := hl
  rw [mX13_signOf] at hm
  refine lv_iload_n hx hb dX13_signOf_0 rfl (lv_at hl 0 rfl) ?_
  refine lv_bipush (v := 10) hx hb dX13_signOf_1 (by decide) ?_
  refine lv_icmp_ge (tgt := 13) hx hb dX13_signOf_3 (by decide) (fun c_1 => ?_) (fun c_1 => ?_)
  · replace hm := hm_t c_1 hm
    refine lv_bipush (v := 97) hx hb dX13_signOf_13 (by decide) ?_
    refine lv_iload_n hx hb dX13_signOf_15 rfl (lv_at hl 0 rfl) ?_
    refine lv_iadd hx hb dX13_signOf_16 ?_
    refine lv_bipush (v := 10) hx hb dX13_signOf_17 (by decide) ?_
    refine lv_isub hx hb dX13_signOf_19 ?_
    obtain rfl := Option.some.inj hm
    exact k_iret hx hb hr hlocks hQc hP hS rfl rfl dX13_signOf_20
  · replace hm := hm_f c_1 hm
    refine lv_bipush (v := 48) hx hb dX13_signOf_6 (by decide) ?_
    refine lv_iload_n hx hb dX13_signOf_8 rfl (lv_at hl 0 rfl) ?_
    refine lv_iadd hx hb dX13_signOf_9 ?_
    refine lv_goto (tgt := 20) hx hb dX13_signOf_10 (by decide) ?_
    obtain rfl := Option.some.inj hm
    exact k_iret hx hb hr hlocks hQc hP hS rfl rfl dX13_signOf_20
theorem dX13_isBlank_0 : decode cX13_isBlank 0 = .ok (.iload_n 0, 1) := by decide +kernel
theorem dX13_isBlank_1 : decode cX13_isBlank 1 = .ok (.bipush 32, 2) := by decide +kernel
theorem dX13_isBlank_3 : decode cX13_isBlank 3 = .ok (.if_icmp .eq 9, 3) := by decide +kernel
theorem dX13_isBlank_6 : decode cX13_isBlank 6 = .ok (.iload_n 0, 1) := by decide +kernel
theorem dX13_isBlank_7 : decode cX13_isBlank 7 = .ok (.bipush 10, 2) := by decide +kernel
theorem dX13_isBlank_9 : decode cX13_isBlank 9 = .ok (.if_icmp .ne 7, 3) := by decide +kernel
theorem dX13_isBlank_12 : decode cX13_isBlank 12 = .ok (.iconst 1, 1) := by decide +kernel
theorem dX13_isBlank_13 : decode cX13_isBlank 13 = .ok (.goto 4, 3) := by decide +kernel
theorem dX13_isBlank_16 : decode cX13_isBlank 16 = .ok (.iconst 0, 1) := by decide +kernel
theorem dX13_isBlank_17 : decode cX13_isBlank 17 = .ok (.ireturn, 1) := by decide +kernel
def mX13_isBlank (p1 : Int32) : Option (Int32) := (if p1 = 32 then some 1 else (if p1 = 10 then some 1 else some 0))
set_option maxHeartbeats 4000000 in
set_option maxRecDepth 100000 in
theorem kcX13_isBlank (l : Launch) (D : va_G) (cy : Nat → ClassId) (g : Nat → Nat) (p1 : Int32) (R : Int32) (hm : mX13_isBlank p1 = some R) : Con l D cy g yX13_isBlank cX13_isBlank 1 (some .boolean) 0 0 0 0 [.int p1] [] [] (some (.int R)) := by
  refine Con.of (by decide +kernel) (Nat.le_of_ble_eq_true rfl) ?_
  intro p e RM s m ar below meth c A Qc ls hx hb hr hml hown hlocks hnm ht hK hP hD hS hA hR hC hQc hl
  have hown : s.vm.findClass RX13 = some m.cls := hown
  have hl : lv_has ls 1 [(0, .int p1)] := hl
  rw [mX13_isBlank] at hm
  refine lv_iload_n hx hb dX13_isBlank_0 rfl (lv_at hl 0 rfl) ?_
  refine lv_bipush (v := 32) hx hb dX13_isBlank_1 (by decide) ?_
  refine lv_icmp_eq (tgt := 12) hx hb dX13_isBlank_3 (by decide) (fun c_1 => ?_) (fun c_1 => ?_)
  · replace hm := hm_t c_1 hm
    refine lv_iconst (v := 1) hx hb dX13_isBlank_12 (by decide) ?_
    refine lv_goto (tgt := 17) hx hb dX13_isBlank_13 (by decide) ?_
    obtain rfl := Option.some.inj hm
    exact k_zret hx hb hr hlocks hQc rfl hP hS rfl rfl dX13_isBlank_17
  · replace hm := hm_f c_1 hm
    refine lv_iload_n hx hb dX13_isBlank_6 rfl (lv_at hl 0 rfl) ?_
    refine lv_bipush (v := 10) hx hb dX13_isBlank_7 (by decide) ?_
    refine lv_icmp_ne (tgt := 16) hx hb dX13_isBlank_9 (by decide) (fun c_2 => ?_) (fun c_2 => ?_)
    · replace hm := hm_f c_2 hm
      refine lv_iconst (v := 0) hx hb dX13_isBlank_16 (by decide) ?_
      obtain rfl := Option.some.inj hm
      exact k_zret hx hb hr hlocks hQc rfl hP hS rfl rfl dX13_isBlank_17
    · replace hm := hm_t c_2 hm
      refine lv_iconst (v := 1) hx hb dX13_isBlank_12 (by decide) ?_
      refine lv_goto (tgt := 17) hx hb dX13_isBlank_13 (by decide) ?_
      obtain rfl := Option.some.inj hm
      exact k_zret hx hb hr hlocks hQc rfl hP hS rfl rfl dX13_isBlank_17
theorem dX13_isMark_0 : decode cX13_isMark 0 = .ok (.iload_n 0, 1) := by decide +kernel
theorem dX13_isMark_1 : decode cX13_isMark 1 = .ok (.bipush 59, 2) := by decide +kernel
theorem dX13_isMark_3 : decode cX13_isMark 3 = .ok (.if_icmp .eq 15, 3) := by decide +kernel
theorem dX13_isMark_6 : decode cX13_isMark 6 = .ok (.iload_n 0, 1) := by decide +kernel
theorem dX13_isMark_7 : decode cX13_isMark 7 = .ok (.bipush 123, 2) := by decide +kernel
theorem dX13_isMark_9 : decode cX13_isMark 9 = .ok (.if_icmp .eq 9, 3) := by decide +kernel
theorem dX13_isMark_12 : decode cX13_isMark 12 = .ok (.iload_n 0, 1) := by decide +kernel
theorem dX13_isMark_13 : decode cX13_isMark 13 = .ok (.bipush 125, 2) := by decide +kernel
theorem dX13_isMark_15 : decode cX13_isMark 15 = .ok (.if_icmp .ne 7, 3) := by decide +kernel
theorem dX13_isMark_18 : decode cX13_isMark 18 = .ok (.iconst 1, 1) := by decide +kernel
theorem dX13_isMark_19 : decode cX13_isMark 19 = .ok (.goto 4, 3) := by decide +kernel
theorem dX13_isMark_22 : decode cX13_isMark 22 = .ok (.iconst 0, 1) := by decide +kernel
theorem dX13_isMark_23 : decode cX13_isMark 23 = .ok (.ireturn, 1) := by decide +kernel
def mX13_isMark (p1 : Int32) : Option (Int32) := (if p1 = 59 then some 1 else (if p1 = 123 then some 1 else (if p1 = 125 then some 1 else some 0)))
set_option maxHeartbeats 4000000 in
set_option maxRecDepth 100000 in
theorem kcX13_isMark (l : Launch) (D : va_G) (cy : Nat → ClassId) (g : Nat → Nat) (p1 : Int32) (R : Int32) (hm : mX13_isMark p1 = some R) : Con l D cy g yX13_isMark cX13_isMark 1 (some .boolean) 0 0 0 0 [.int p1] [] [] (some (.int R)) := by
  refine Con.of (by decide +kernel) (Nat.le_of_ble_eq_true rfl) ?_
  intro p e RM s m ar below meth c A Qc ls hx hb hr hml hown hlocks hnm ht hK hP hD hS hA hR hC hQc hl
  have hown : s.vm.findClass RX13 = some m.cls := hown
  have hl : lv_has ls 1 [(0, .int p1)] := hl
  rw [mX13_isMark] at hm
  refine lv_iload_n hx hb dX13_isMark_0 rfl (lv_at hl 0 rfl) ?_
  refine lv_bipush (v := 59) hx hb dX13_isMark_1 (by decide) ?_
  refine lv_icmp_eq (tgt := 18) hx hb dX13_isMark_3 (by decide) (fun c_1 => ?_) (fun c_1 => ?_)
  · replace hm := hm_t c_1 hm
    refine lv_iconst (v := 1) hx hb dX13_isMark_18 (by decide) ?_
    refine lv_goto (tgt := 23) hx hb dX13_isMark_19 (by decide) ?_
    obtain rfl := Option.some.inj hm
    exact k_zret hx hb hr hlocks hQc rfl hP hS rfl rfl dX13_isMark_23
  · replace hm := hm_f c_1 hm
    refine lv_iload_n hx hb dX13_isMark_6 rfl (lv_at hl 0 rfl) ?_
    refine lv_bipush (v := 123) hx hb dX13_isMark_7 (by decide) ?_
    refine lv_icmp_eq (tgt := 18) hx hb dX13_isMark_9 (by decide) (fun c_2 => ?_) (fun c_2 => ?_)
    · replace hm := hm_t c_2 hm
      refine lv_iconst (v := 1) hx hb dX13_isMark_18 (by decide) ?_
      refine lv_goto (tgt := 23) hx hb dX13_isMark_19 (by decide) ?_
      obtain rfl := Option.some.inj hm
      exact k_zret hx hb hr hlocks hQc rfl hP hS rfl rfl dX13_isMark_23
    · replace hm := hm_f c_2 hm
      refine lv_iload_n hx hb dX13_isMark_12 rfl (lv_at hl 0 rfl) ?_
      refine lv_bipush (v := 125) hx hb dX13_isMark_13 (by decide) ?_
      refine lv_icmp_ne (tgt := 22) hx hb dX13_isMark_15 (by decide) (fun c_3 => ?_) (fun c_3 => ?_)
      · replace hm := hm_f c_3 hm
        refine lv_iconst (v := 0) hx hb dX13_isMark_22 (by decide) ?_
        obtain rfl := Option.some.inj hm
        exact k_zret hx hb hr hlocks hQc rfl hP hS rfl rfl dX13_isMark_23
      · replace hm := hm_t c_3 hm
        refine lv_iconst (v := 1) hx hb dX13_isMark_18 (by decide) ?_
        refine lv_goto (tgt := 23) hx hb dX13_isMark_19 (by decide) ?_
        obtain rfl := Option.some.inj hm
        exact k_zret hx hb hr hlocks hQc rfl hP hS rfl rfl dX13_isMark_23
theorem dX13_clear_0 : decode cX13_clear 0 = .ok (.iconst 0, 1) := by decide +kernel
theorem dX13_clear_1 : decode cX13_clear 1 = .ok (.istore_n 1, 1) := by decide +kernel
theorem dX13_clear_2 : decode cX13_clear 2 = .ok (.iload_n 1, 1) := by decide +kernel
theorem dX13_clear_3 : decode cX13_clear 3 = .ok (.aload_n 0, 1) := by decide +kernel
theorem dX13_clear_4 : decode cX13_clear 4 = .ok (.arraylength, 1) := by decide +kernel
theorem dX13_clear_5 : decode cX13_clear 5 = .ok (.if_icmp .ge 13, 3) := by decide +kernel
theorem dX13_clear_8 : decode cX13_clear 8 = .ok (.aload_n 0, 1) := by decide +kernel
theorem dX13_clear_9 : decode cX13_clear 9 = .ok (.iload_n 1, 1) := by decide +kernel
theorem dX13_clear_10 : decode cX13_clear 10 = .ok (.iconst 0, 1) := by decide +kernel
theorem dX13_clear_11 : decode cX13_clear 11 = .ok (.bastore, 1) := by decide +kernel
theorem dX13_clear_12 : decode cX13_clear 12 = .ok (.iinc 1 1, 3) := by decide +kernel
theorem dX13_clear_15 : decode cX13_clear 15 = .ok (.goto (-13), 3) := by decide +kernel
theorem dX13_clear_18 : decode cX13_clear 18 = .ok (.return_, 1) := by decide +kernel
def mX13_clear_L2 (n_p1 : Nat) : Nat → Int32 → (Nat → Int32) → Option ((Nat → Int32))
  | 0, _, _ => none
  | n_ + 1, y_5, y_6 => (if (nI n_p1) ≤ y_5 then some y_6 else (if y_5 < 0 ∨ n_p1 ≤ y_5.toNatClampNeg then none else (mX13_clear_L2 n_p1 n_ (y_5 + 1) (upd y_6 y_5.toNatClampNeg (vp_nar .boolean 0)))))
def mX13_clear (k : Nat) (n_p1 : Nat) (f_p1 : Nat → Int32) : Option ((Nat → Int32)) := ((mX13_clear_L2 n_p1 k 0 f_p1).bind (fun r_8 => some r_8))
set_option maxHeartbeats 4000000 in
set_option maxRecDepth 100000 in
theorem kcX13_clear (l : Launch) (D : va_G) (cy : Nat → ClassId) (g : Nat → Nat) (a_p1 : Nat) (n_p1 : Nat) (f_p1 : Nat → Int32) (k : Nat) (R : (Nat → Int32)) (hm : mX13_clear k n_p1 f_p1 = some R) : Con l D cy g yX13_clear cX13_clear 2 none 0 0 0 0 [.ref a_p1] [(a_p1, .inl (cy 2, n_p1, .inl f_p1))] [(a_p1, .inl (cy 2, n_p1, .inl R))] none := by
  refine Con.of (by decide +kernel) (Nat.le_of_ble_eq_true rfl) ?_
  intro p e RM s m ar below meth c A Qc ls hx hb hr hml hown hlocks hnm ht hK hP hD hS hA hR hC hQc hl
  have hown : s.vm.findClass RX13 = some m.cls := hown
  have hl : lv_has ls 2 [(0, .ref a_p1)] := hl
  rw [mX13_clear] at hm
  refine lv_iconst (v := 0) hx hb dX13_clear_0 (by decide) ?_
  refine lv_istore_n (lv' := [(1, .int 0), (0, .ref a_p1)]) hx hb dX13_clear_1 rfl hl (by decide) rfl (fun ls hl => ?_)
  have L2 : ∀ (rr : (Nat → Int32)) (kk : ∀ (H : Heap) (locs : List Loc) (ls : Array Slot), va_P D classes [(a_p1, .inl (cy 2, n_p1, .inl rr))] H → va_D A [(a_p1, .inl (cy 2, n_p1, .inl rr))] → va_S A s.heap H locs → lv_has ls 2 [] → W p l e RM s m ar below meth c H locs 0 0 (MQ below Qc ar s 0 0 A) (F0 m 18 ls [])) (n_ : Nat), ∀ (y_5 : Int32) (y_6 : Nat → Int32), mX13_clear_L2 n_p1 n_ y_5 y_6 = some rr → ∀ (H : Heap) (locs : List Loc) (ls : Array Slot), va_P D classes [(a_p1, .inl (cy 2, n_p1, .inl y_6))] H → va_D A [(a_p1, .inl (cy 2, n_p1, .inl y_6))] → va_S A s.heap H locs → lv_has ls 2 [(1, .int y_5), (0, .ref a_p1)] → W p l e RM s m ar below meth c H locs 0 0 (MQ below Qc ar s 0 0 A) (F0 m 2 ls []) := by
    intro rr kk n_
    induction n_ with
    | zero => intro y_5 y_6 hm; rw [mX13_clear_L2] at hm; cases hm
    | succ n_ ih =>
      intro y_5 y_6 hm H locs ls hP hD hS hl
      rw [mX13_clear_L2] at hm
      refine lv_iload_n hx hb dX13_clear_2 rfl (lv_at hl 0 rfl) ?_
      refine lv_aload_n hx hb dX13_clear_3 rfl (lv_at hl 1 rfl) ?_
      refine va_alen (v := (nI n_p1)) hx hb hK.1 hP 0 2 rfl rfl rfl dX13_clear_4 ?_
      refine lv_icmp_ge (tgt := 18) hx hb dX13_clear_5 (by decide) (fun c_7 => ?_) (fun c_7 => ?_)
      · replace hm := hm_t c_7 hm
        obtain rfl := Option.some.inj hm
        exact kk _ _ _ hP hD hS (lv_sub hl [] rfl)
      · replace hm := hm_f c_7 hm
        refine lv_aload_n hx hb dX13_clear_8 rfl (lv_at hl 1 rfl) ?_
        refine lv_iload_n hx hb dX13_clear_9 rfl (lv_at hl 0 rfl) ?_
        refine lv_iconst (v := 0) hx hb dX13_clear_10 (by decide) ?_
        obtain ⟨hin, hm⟩ := hm_g hm
        refine va_zast hx hb hK.1 hP hD hS 0 2 rfl rfl hin dX13_clear_11 (fun H locs hP hD hS => ?_)
        have hP : va_P D classes [(a_p1, .inl (cy 2, n_p1, .inl (upd y_6 y_5.toNatClampNeg (vp_nar .boolean 0))))] H := hP
        have hD : va_D A [(a_p1, .inl (cy 2, n_p1, .inl (upd y_6 y_5.toNatClampNeg (vp_nar .boolean 0))))] := hD
        refine lv_iinc (v := (y_5 + 1)) (lv' := [(1, .int (y_5 + 1)), (0, .ref a_p1)]) hx hb dX13_clear_12 hl (k := 0) rfl rfl (by decide) rfl (fun ls hl => ?_)
        refine lv_goto (tgt := 2) hx hb dX13_clear_15 (by decide) ?_
        exact ih (y_5 + 1) (upd y_6 y_5.toNatClampNeg (vp_nar .boolean 0)) hm _ _ _ hP hD hS (lv_sub hl [0, 1] rfl)
  obtain ⟨r_8, hL, hm⟩ := hm_b hm
  refine L2 r_8 ?_ k 0 f_p1 hL _ _ _ hP hD hS (lv_sub hl [0, 1] rfl)
  intro H locs ls hP hD hS hl
  obtain rfl := Option.some.inj hm
  exact k_vret hx hb hr hlocks hQc hP hS rfl rfl dX13_clear_18
theorem dX13_copy_0 : decode cX13_copy 0 = .ok (.iconst 0, 1) := by decide +kernel
theorem dX13_copy_1 : decode cX13_copy 1 = .ok (.istore_n 3, 1) := by decide +kernel
theorem dX13_copy_2 : decode cX13_copy 2 = .ok (.iload_n 3, 1) := by decide +kernel
theorem dX13_copy_3 : decode cX13_copy 3 = .ok (.iload_n 2, 1) := by decide +kernel
theorem dX13_copy_4 : decode cX13_copy 4 = .ok (.if_icmp .ge 15, 3) := by decide +kernel
theorem dX13_copy_7 : decode cX13_copy 7 = .ok (.aload_n 1, 1) := by decide +kernel
theorem dX13_copy_8 : decode cX13_copy 8 = .ok (.iload_n 3, 1) := by decide +kernel
theorem dX13_copy_9 : decode cX13_copy 9 = .ok (.aload_n 0, 1) := by decide +kernel
theorem dX13_copy_10 : decode cX13_copy 10 = .ok (.iload_n 3, 1) := by decide +kernel
theorem dX13_copy_11 : decode cX13_copy 11 = .ok (.baload, 1) := by decide +kernel
theorem dX13_copy_12 : decode cX13_copy 12 = .ok (.bastore, 1) := by decide +kernel
theorem dX13_copy_13 : decode cX13_copy 13 = .ok (.iinc 3 1, 3) := by decide +kernel
theorem dX13_copy_16 : decode cX13_copy 16 = .ok (.goto (-14), 3) := by decide +kernel
theorem dX13_copy_19 : decode cX13_copy 19 = .ok (.return_, 1) := by decide +kernel
def mX13_copy_L2 (p3 : Int32) (n_p1 : Nat) (n_p2 : Nat) (f_p1 : Nat → Int32) : Nat → Int32 → (Nat → Int32) → Option ((Nat → Int32))
  | 0, _, _ => none
  | n_ + 1, y_5, y_6 => (if p3 ≤ y_5 then some y_6 else (if y_5 < 0 ∨ n_p1 ≤ y_5.toNatClampNeg then none else (if y_5 < 0 ∨ n_p2 ≤ y_5.toNatClampNeg then none else (mX13_copy_L2 p3 n_p1 n_p2 f_p1 n_ (y_5 + 1) (upd y_6 y_5.toNatClampNeg (vp_nar .boolean (f_p1 y_5.toNatClampNeg)))))))
def mX13_copy (k : Nat) (n_p1 : Nat) (n_p2 : Nat) (f_p1 : Nat → Int32) (f_p2 : Nat → Int32) (p3 : Int32) : Option ((Nat → Int32)) := ((mX13_copy_L2 p3 n_p1 n_p2 f_p1 k 0 f_p2).bind (fun r_8 => some r_8))
set_option maxHeartbeats 4000000 in
set_option maxRecDepth 100000 in
theorem kcX13_copy (l : Launch) (D : va_G) (cy : Nat → ClassId) (g : Nat → Nat) (a_p1 : Nat) (a_p2 : Nat) (n_p1 : Nat) (n_p2 : Nat) (f_p1 : Nat → Int32) (f_p2 : Nat → Int32) (p3 : Int32) (k : Nat) (R : (Nat → Int32)) (hm : mX13_copy k n_p1 n_p2 f_p1 f_p2 p3 = some R) : Con l D cy g yX13_copy cX13_copy 4 none 0 0 0 0 [.ref a_p1, .ref a_p2, .int p3] [(a_p1, .inl (cy 2, n_p1, .inl f_p1)), (a_p2, .inl (cy 2, n_p2, .inl f_p2))] [(a_p1, .inl (cy 2, n_p1, .inl f_p1)), (a_p2, .inl (cy 2, n_p2, .inl R))] none := by
  refine Con.of (by decide +kernel) (Nat.le_of_ble_eq_true rfl) ?_
  intro p e RM s m ar below meth c A Qc ls hx hb hr hml hown hlocks hnm ht hK hP hD hS hA hR hC hQc hl
  have hown : s.vm.findClass RX13 = some m.cls := hown
  have hl : lv_has ls 4 [(0, .ref a_p1), (1, .ref a_p2), (2, .int p3)] := hl
  rw [mX13_copy] at hm
  refine lv_iconst (v := 0) hx hb dX13_copy_0 (by decide) ?_
  refine lv_istore_n (lv' := [(3, .int 0), (0, .ref a_p1), (1, .ref a_p2), (2, .int p3)]) hx hb dX13_copy_1 rfl hl (by decide) rfl (fun ls hl => ?_)
  have L2 : ∀ (rr : (Nat → Int32)) (kk : ∀ (H : Heap) (locs : List Loc) (ls : Array Slot), va_P D classes [(a_p1, .inl (cy 2, n_p1, .inl f_p1)), (a_p2, .inl (cy 2, n_p2, .inl rr))] H → va_D A [(a_p1, .inl (cy 2, n_p1, .inl f_p1)), (a_p2, .inl (cy 2, n_p2, .inl rr))] → va_S A s.heap H locs → lv_has ls 4 [] → W p l e RM s m ar below meth c H locs 0 0 (MQ below Qc ar s 0 0 A) (F0 m 19 ls [])) (n_ : Nat), ∀ (y_5 : Int32) (y_6 : Nat → Int32), mX13_copy_L2 p3 n_p1 n_p2 f_p1 n_ y_5 y_6 = some rr → ∀ (H : Heap) (locs : List Loc) (ls : Array Slot), va_P D classes [(a_p1, .inl (cy 2, n_p1, .inl f_p1)), (a_p2, .inl (cy 2, n_p2, .inl y_6))] H → va_D A [(a_p1, .inl (cy 2, n_p1, .inl f_p1)), (a_p2, .inl (cy 2, n_p2, .inl y_6))] → va_S A s.heap H locs → lv_has ls 4 [(3, .int y_5), (0, .ref a_p1), (1, .ref a_p2), (2, .int p3)] → W p l e RM s m ar below meth c H locs 0 0 (MQ below Qc ar s 0 0 A) (F0 m 2 ls []) := by
    intro rr kk n_
    induction n_ with
    | zero => intro y_5 y_6 hm; rw [mX13_copy_L2] at hm; cases hm
    | succ n_ ih =>
      intro y_5 y_6 hm H locs ls hP hD hS hl
      rw [mX13_copy_L2] at hm
      refine lv_iload_n hx hb dX13_copy_2 rfl (lv_at hl 0 rfl) ?_
      refine lv_iload_n hx hb dX13_copy_3 rfl (lv_at hl 3 rfl) ?_
      refine lv_icmp_ge (tgt := 19) hx hb dX13_copy_4 (by decide) (fun c_7 => ?_) (fun c_7 => ?_)
      · replace hm := hm_t c_7 hm
        obtain rfl := Option.some.inj hm
        exact kk _ _ _ hP hD hS (lv_sub hl [] rfl)
      · replace hm := hm_f c_7 hm
        refine lv_aload_n hx hb dX13_copy_7 rfl (lv_at hl 2 rfl) ?_
        refine lv_iload_n hx hb dX13_copy_8 rfl (lv_at hl 0 rfl) ?_
        refine lv_aload_n hx hb dX13_copy_9 rfl (lv_at hl 1 rfl) ?_
        refine lv_iload_n hx hb dX13_copy_10 rfl (lv_at hl 0 rfl) ?_
        obtain ⟨hin, hm⟩ := hm_g hm
        refine va_zald hx hb hK.1 hP 0 2 rfl rfl hin dX13_copy_11 ?_
        obtain ⟨hin, hm⟩ := hm_g hm
        refine va_zast hx hb hK.1 hP hD hS 1 2 rfl rfl hin dX13_copy_12 (fun H locs hP hD hS => ?_)
        have hP : va_P D classes [(a_p1, .inl (cy 2, n_p1, .inl f_p1)), (a_p2, .inl (cy 2, n_p2, .inl (upd y_6 y_5.toNatClampNeg (vp_nar .boolean (f_p1 y_5.toNatClampNeg)))))] H := hP
        have hD : va_D A [(a_p1, .inl (cy 2, n_p1, .inl f_p1)), (a_p2, .inl (cy 2, n_p2, .inl (upd y_6 y_5.toNatClampNeg (vp_nar .boolean (f_p1 y_5.toNatClampNeg)))))] := hD
        refine lv_iinc (v := (y_5 + 1)) (lv' := [(3, .int (y_5 + 1)), (0, .ref a_p1), (1, .ref a_p2), (2, .int p3)]) hx hb dX13_copy_13 hl (k := 0) rfl rfl (by decide) rfl (fun ls hl => ?_)
        refine lv_goto (tgt := 2) hx hb dX13_copy_16 (by decide) ?_
        exact ih (y_5 + 1) (upd y_6 y_5.toNatClampNeg (vp_nar .boolean (f_p1 y_5.toNatClampNeg))) hm _ _ _ hP hD hS (lv_sub hl [0, 1, 2, 3] rfl)
  obtain ⟨r_8, hL, hm⟩ := hm_b hm
  refine L2 r_8 ?_ k 0 f_p2 hL _ _ _ hP hD hS (lv_sub hl [0, 1, 2, 3] rfl)
  intro H locs ls hP hD hS hl
  obtain rfl := Option.some.inj hm
  exact k_vret hx hb hr hlocks hQc hP hS rfl rfl dX13_copy_19
theorem dX13_compared_0 : decode cX13_compared 0 = .ok (.iload_n 2, 1) := by decide +kernel
theorem dX13_compared_1 : decode cX13_compared 1 = .ok (.iconst 1, 1) := by decide +kernel
theorem dX13_compared_2 : decode cX13_compared 2 = .ok (.isub, 1) := by decide +kernel
theorem dX13_compared_3 : decode cX13_compared 3 = .ok (.istore_n 3, 1) := by decide +kernel
theorem dX13_compared_4 : decode cX13_compared 4 = .ok (.iload_n 3, 1) := by decide +kernel
theorem dX13_compared_5 : decode cX13_compared 5 = .ok (.ifCond .lt 30, 3) := by decide +kernel
theorem dX13_compared_8 : decode cX13_compared 8 = .ok (.aload_n 0, 1) := by decide +kernel
theorem dX13_compared_9 : decode cX13_compared 9 = .ok (.iload_n 3, 1) := by decide +kernel
theorem dX13_compared_10 : decode cX13_compared 10 = .ok (.baload, 1) := by decide +kernel
theorem dX13_compared_11 : decode cX13_compared 11 = .ok (.aload_n 1, 1) := by decide +kernel
theorem dX13_compared_12 : decode cX13_compared 12 = .ok (.iload_n 3, 1) := by decide +kernel
theorem dX13_compared_13 : decode cX13_compared 13 = .ok (.baload, 1) := by decide +kernel
theorem dX13_compared_14 : decode cX13_compared 14 = .ok (.if_icmp .eq 15, 3) := by decide +kernel
theorem dX13_compared_17 : decode cX13_compared 17 = .ok (.aload_n 0, 1) := by decide +kernel
theorem dX13_compared_18 : decode cX13_compared 18 = .ok (.iload_n 3, 1) := by decide +kernel
theorem dX13_compared_19 : decode cX13_compared 19 = .ok (.baload, 1) := by decide +kernel
theorem dX13_compared_20 : decode cX13_compared 20 = .ok (.ifCond .eq 7, 3) := by decide +kernel
theorem dX13_compared_23 : decode cX13_compared 23 = .ok (.iconst 1, 1) := by decide +kernel
theorem dX13_compared_24 : decode cX13_compared 24 = .ok (.goto 4, 3) := by decide +kernel
theorem dX13_compared_27 : decode cX13_compared 27 = .ok (.iconst (-1), 1) := by decide +kernel
theorem dX13_compared_28 : decode cX13_compared 28 = .ok (.ireturn, 1) := by decide +kernel
theorem dX13_compared_29 : decode cX13_compared 29 = .ok (.iinc 3 (-1), 3) := by decide +kernel
theorem dX13_compared_32 : decode cX13_compared 32 = .ok (.goto (-28), 3) := by decide +kernel
theorem dX13_compared_35 : decode cX13_compared 35 = .ok (.iconst 0, 1) := by decide +kernel
theorem dX13_compared_36 : decode cX13_compared 36 = .ok (.ireturn, 1) := by decide +kernel
def mX13_compared_L4 (n_p1 : Nat) (n_p2 : Nat) (f_p1 : Nat → Int32) (f_p2 : Nat → Int32) : Nat → Int32 → Option (Int32)
  | 0, _ => none
  | n_ + 1, y_6 => (if y_6 < 0 then some 0 else (if y_6 < 0 ∨ n_p1 ≤ y_6.toNatClampNeg then none else (if y_6 < 0 ∨ n_p2 ≤ y_6.toNatClampNeg then none else (if (f_p1 y_6.toNatClampNeg) = (f_p2 y_6.toNatClampNeg) then (mX13_compared_L4 n_p1 n_p2 f_p1 f_p2 n_ (y_6 + (-1))) else (if y_6 < 0 ∨ n_p1 ≤ y_6.toNatClampNeg then none else (if (f_p1 y_6.toNatClampNeg) = 0 then some (-1) else some 1))))))
def mX13_compared (k : Nat) (n_p1 : Nat) (n_p2 : Nat) (f_p1 : Nat → Int32) (f_p2 : Nat → Int32) (p3 : Int32) : Option (Int32) := (mX13_compared_L4 n_p1 n_p2 f_p1 f_p2 k (p3 - 1))
set_option maxHeartbeats 4000000 in
set_option maxRecDepth 100000 in
theorem kcX13_compared (l : Launch) (D : va_G) (cy : Nat → ClassId) (g : Nat → Nat) (a_p1 : Nat) (a_p2 : Nat) (n_p1 : Nat) (n_p2 : Nat) (f_p1 : Nat → Int32) (f_p2 : Nat → Int32) (p3 : Int32) (k : Nat) (R : Int32) (hm : mX13_compared k n_p1 n_p2 f_p1 f_p2 p3 = some R) : Con l D cy g yX13_compared cX13_compared 4 (some .int) 0 0 0 0 [.ref a_p1, .ref a_p2, .int p3] [(a_p1, .inl (cy 2, n_p1, .inl f_p1)), (a_p2, .inl (cy 2, n_p2, .inl f_p2))] [(a_p1, .inl (cy 2, n_p1, .inl f_p1)), (a_p2, .inl (cy 2, n_p2, .inl f_p2))] (some (.int R)) := by
  refine Con.of (by decide +kernel) (Nat.le_of_ble_eq_true rfl) ?_
  intro p e RM s m ar below meth c A Qc ls hx hb hr hml hown hlocks hnm ht hK hP hD hS hA hR hC hQc hl
  have hown : s.vm.findClass RX13 = some m.cls := hown
  have hl : lv_has ls 4 [(0, .ref a_p1), (1, .ref a_p2), (2, .int p3)] := hl
  rw [mX13_compared] at hm
  refine lv_iload_n hx hb dX13_compared_0 rfl (lv_at hl 2 rfl) ?_
  refine lv_iconst (v := 1) hx hb dX13_compared_1 (by decide) ?_
  refine lv_isub hx hb dX13_compared_2 ?_
  refine lv_istore_n (lv' := [(3, .int (p3 - 1)), (0, .ref a_p1), (1, .ref a_p2), (2, .int p3)]) hx hb dX13_compared_3 rfl hl (by decide) rfl (fun ls hl => ?_)
  have L4 : ∀ (n_ : Nat), ∀ (y_6 : Int32), mX13_compared_L4 n_p1 n_p2 f_p1 f_p2 n_ y_6 = some R → ∀ (H : Heap) (locs : List Loc) (ls : Array Slot), va_P D classes [(a_p1, .inl (cy 2, n_p1, .inl f_p1)), (a_p2, .inl (cy 2, n_p2, .inl f_p2))] H → va_D A [(a_p1, .inl (cy 2, n_p1, .inl f_p1)), (a_p2, .inl (cy 2, n_p2, .inl f_p2))] → va_S A s.heap H locs → lv_has ls 4 [(3, .int y_6), (0, .ref a_p1), (1, .ref a_p2)] → W p l e RM s m ar below meth c H locs 0 0 (MQ below Qc ar s 0 0 A) (F0 m 4 ls []) := by
    intro n_
    induction n_ with
    | zero => intro y_6 hm; rw [mX13_compared_L4] at hm; cases hm
    | succ n_ ih =>
      intro y_6 hm H locs ls hP hD hS hl
      rw [mX13_compared_L4] at hm
      refine lv_iload_n hx hb dX13_compared_4 rfl (lv_at hl 0 rfl) ?_
      refine lv_if_lt (tgt := 35) hx hb dX13_compared_5 (by decide) (fun c_7 => ?_) (fun c_7 => ?_)
      · replace hm := hm_t c_7 hm
        refine lv_iconst (v := 0) hx hb dX13_compared_35 (by decide) ?_
        obtain rfl := Option.some.inj hm
        exact k_iret hx hb hr hlocks hQc hP hS rfl rfl dX13_compared_36
      · replace hm := hm_f c_7 hm
        refine lv_aload_n hx hb dX13_compared_8 rfl (lv_at hl 1 rfl) ?_
        refine lv_iload_n hx hb dX13_compared_9 rfl (lv_at hl 0 rfl) ?_
        obtain ⟨hin, hm⟩ := hm_g hm
        refine va_zald hx hb hK.1 hP 0 2 rfl rfl hin dX13_compared_10 ?_
        refine lv_aload_n hx hb dX13_compared_11 rfl (lv_at hl 2 rfl) ?_
        refine lv_iload_n hx hb dX13_compared_12 rfl (lv_at hl 0 rfl) ?_
        obtain ⟨hin, hm⟩ := hm_g hm
        refine va_zald hx hb hK.1 hP 1 2 rfl rfl hin dX13_compared_13 ?_
        refine lv_icmp_eq (tgt := 29) hx hb dX13_compared_14 (by decide) (fun c_8 => ?_) (fun c_8 => ?_)
        · replace hm := hm_t c_8 hm
          refine lv_iinc (v := (y_6 + (-1))) (lv' := [(3, .int (y_6 + (-1))), (0, .ref a_p1), (1, .ref a_p2)]) hx hb dX13_compared_29 hl (k := 0) rfl rfl (by decide) rfl (fun ls hl => ?_)
          refine lv_goto (tgt := 4) hx hb dX13_compared_32 (by decide) ?_
          exact ih (y_6 + (-1)) hm _ _ _ hP hD hS (lv_sub hl [0, 1, 2] rfl)
        · replace hm := hm_f c_8 hm
          refine lv_aload_n hx hb dX13_compared_17 rfl (lv_at hl 1 rfl) ?_
          refine lv_iload_n hx hb dX13_compared_18 rfl (lv_at hl 0 rfl) ?_
          obtain ⟨hin, hm⟩ := hm_g hm
          refine va_zald hx hb hK.1 hP 0 2 rfl rfl hin dX13_compared_19 ?_
          refine lv_if_eq (tgt := 27) hx hb dX13_compared_20 (by decide) (fun c_9 => ?_) (fun c_9 => ?_)
          · replace hm := hm_t c_9 hm
            refine lv_iconst (v := (-1)) hx hb dX13_compared_27 (by decide) ?_
            obtain rfl := Option.some.inj hm
            exact k_iret hx hb hr hlocks hQc hP hS rfl rfl dX13_compared_28
          · replace hm := hm_f c_9 hm
            refine lv_iconst (v := 1) hx hb dX13_compared_23 (by decide) ?_
            refine lv_goto (tgt := 28) hx hb dX13_compared_24 (by decide) ?_
            obtain rfl := Option.some.inj hm
            exact k_iret hx hb hr hlocks hQc hP hS rfl rfl dX13_compared_28
  exact L4 k (p3 - 1) hm _ _ _ hP hD hS (lv_sub hl [0, 1, 2] rfl)
def mX13_compared_s_L4 (n_p1 : Nat) (f_p1 : Nat → Int32) : Nat → Int32 → Option (Int32)
  | 0, _ => none
  | n_ + 1, y_6 => (if y_6 < 0 then some 0 else (if y_6 < 0 ∨ n_p1 ≤ y_6.toNatClampNeg then none else (if y_6 < 0 ∨ n_p1 ≤ y_6.toNatClampNeg then none else (if (f_p1 y_6.toNatClampNeg) = (f_p1 y_6.toNatClampNeg) then (mX13_compared_s_L4 n_p1 f_p1 n_ (y_6 + (-1))) else (if y_6 < 0 ∨ n_p1 ≤ y_6.toNatClampNeg then none else (if (f_p1 y_6.toNatClampNeg) = 0 then some (-1) else some 1))))))
def mX13_compared_s (k : Nat) (n_p1 : Nat) (f_p1 : Nat → Int32) (p3 : Int32) : Option (Int32) := (mX13_compared_s_L4 n_p1 f_p1 k (p3 - 1))
set_option maxHeartbeats 4000000 in
set_option maxRecDepth 100000 in
theorem kcX13_compared_s (l : Launch) (D : va_G) (cy : Nat → ClassId) (g : Nat → Nat) (a_p1 : Nat) (n_p1 : Nat) (f_p1 : Nat → Int32) (p3 : Int32) (k : Nat) (R : Int32) (hm : mX13_compared_s k n_p1 f_p1 p3 = some R) : Con l D cy g yX13_compared cX13_compared 4 (some .int) 0 0 0 0 [.ref a_p1, .ref a_p1, .int p3] [(a_p1, .inl (cy 2, n_p1, .inl f_p1))] [(a_p1, .inl (cy 2, n_p1, .inl f_p1))] (some (.int R)) := by
  refine Con.of (by decide +kernel) (Nat.le_of_ble_eq_true rfl) ?_
  intro p e RM s m ar below meth c A Qc ls hx hb hr hml hown hlocks hnm ht hK hP hD hS hA hR hC hQc hl
  have hown : s.vm.findClass RX13 = some m.cls := hown
  have hl : lv_has ls 4 [(0, .ref a_p1), (1, .ref a_p1), (2, .int p3)] := hl
  rw [mX13_compared_s] at hm
  refine lv_iload_n hx hb dX13_compared_0 rfl (lv_at hl 2 rfl) ?_
  refine lv_iconst (v := 1) hx hb dX13_compared_1 (by decide) ?_
  refine lv_isub hx hb dX13_compared_2 ?_
  refine lv_istore_n (lv' := [(3, .int (p3 - 1)), (0, .ref a_p1), (1, .ref a_p1), (2, .int p3)]) hx hb dX13_compared_3 rfl hl (by decide) rfl (fun ls hl => ?_)
  have L4 : ∀ (n_ : Nat), ∀ (y_6 : Int32), mX13_compared_s_L4 n_p1 f_p1 n_ y_6 = some R → ∀ (H : Heap) (locs : List Loc) (ls : Array Slot), va_P D classes [(a_p1, .inl (cy 2, n_p1, .inl f_p1))] H → va_D A [(a_p1, .inl (cy 2, n_p1, .inl f_p1))] → va_S A s.heap H locs → lv_has ls 4 [(3, .int y_6), (0, .ref a_p1), (1, .ref a_p1)] → W p l e RM s m ar below meth c H locs 0 0 (MQ below Qc ar s 0 0 A) (F0 m 4 ls []) := by
    intro n_
    induction n_ with
    | zero => intro y_6 hm; rw [mX13_compared_s_L4] at hm; cases hm
    | succ n_ ih =>
      intro y_6 hm H locs ls hP hD hS hl
      rw [mX13_compared_s_L4] at hm
      refine lv_iload_n hx hb dX13_compared_4 rfl (lv_at hl 0 rfl) ?_
      refine lv_if_lt (tgt := 35) hx hb dX13_compared_5 (by decide) (fun c_7 => ?_) (fun c_7 => ?_)
      · replace hm := hm_t c_7 hm
        refine lv_iconst (v := 0) hx hb dX13_compared_35 (by decide) ?_
        obtain rfl := Option.some.inj hm
        exact k_iret hx hb hr hlocks hQc hP hS rfl rfl dX13_compared_36
      · replace hm := hm_f c_7 hm
        refine lv_aload_n hx hb dX13_compared_8 rfl (lv_at hl 1 rfl) ?_
        refine lv_iload_n hx hb dX13_compared_9 rfl (lv_at hl 0 rfl) ?_
        obtain ⟨hin, hm⟩ := hm_g hm
        refine va_zald hx hb hK.1 hP 0 2 rfl rfl hin dX13_compared_10 ?_
        refine lv_aload_n hx hb dX13_compared_11 rfl (lv_at hl 2 rfl) ?_
        refine lv_iload_n hx hb dX13_compared_12 rfl (lv_at hl 0 rfl) ?_
        obtain ⟨hin, hm⟩ := hm_g hm
        refine va_zald hx hb hK.1 hP 0 2 rfl rfl hin dX13_compared_13 ?_
        refine lv_icmp_eq (tgt := 29) hx hb dX13_compared_14 (by decide) (fun c_8 => ?_) (fun c_8 => ?_)
        · replace hm := hm_t c_8 hm
          refine lv_iinc (v := (y_6 + (-1))) (lv' := [(3, .int (y_6 + (-1))), (0, .ref a_p1), (1, .ref a_p1)]) hx hb dX13_compared_29 hl (k := 0) rfl rfl (by decide) rfl (fun ls hl => ?_)
          refine lv_goto (tgt := 4) hx hb dX13_compared_32 (by decide) ?_
          exact ih (y_6 + (-1)) hm _ _ _ hP hD hS (lv_sub hl [0, 1, 2] rfl)
        · replace hm := hm_f c_8 hm
          refine lv_aload_n hx hb dX13_compared_17 rfl (lv_at hl 1 rfl) ?_
          refine lv_iload_n hx hb dX13_compared_18 rfl (lv_at hl 0 rfl) ?_
          obtain ⟨hin, hm⟩ := hm_g hm
          refine va_zald hx hb hK.1 hP 0 2 rfl rfl hin dX13_compared_19 ?_
          refine lv_if_eq (tgt := 27) hx hb dX13_compared_20 (by decide) (fun c_9 => ?_) (fun c_9 => ?_)
          · replace hm := hm_t c_9 hm
            refine lv_iconst (v := (-1)) hx hb dX13_compared_27 (by decide) ?_
            obtain rfl := Option.some.inj hm
            exact k_iret hx hb hr hlocks hQc hP hS rfl rfl dX13_compared_28
          · replace hm := hm_f c_9 hm
            refine lv_iconst (v := 1) hx hb dX13_compared_23 (by decide) ?_
            refine lv_goto (tgt := 28) hx hb dX13_compared_24 (by decide) ?_
            obtain rfl := Option.some.inj hm
            exact k_iret hx hb hr hlocks hQc hP hS rfl rfl dX13_compared_28
  exact L4 k (p3 - 1) hm _ _ _ hP hD hS (lv_sub hl [0, 1, 2] rfl)
theorem dX13_adds_0 : decode cX13_adds 0 = .ok (.iload_n 3, 1) := by decide +kernel
theorem dX13_adds_1 : decode cX13_adds 1 = .ok (.istore 4, 2) := by decide +kernel
theorem dX13_adds_3 : decode cX13_adds 3 = .ok (.iconst 0, 1) := by decide +kernel
theorem dX13_adds_4 : decode cX13_adds 4 = .ok (.istore 5, 2) := by decide +kernel
theorem dX13_adds_6 : decode cX13_adds 6 = .ok (.iload 5, 2) := by decide +kernel
theorem dX13_adds_8 : decode cX13_adds 8 = .ok (.iload_n 2, 1) := by decide +kernel
theorem dX13_adds_9 : decode cX13_adds 9 = .ok (.if_icmp .ge 97, 3) := by decide +kernel
theorem dX13_adds_12 : decode cX13_adds 12 = .ok (.aload_n 1, 1) := by decide +kernel
theorem dX13_adds_13 : decode cX13_adds 13 = .ok (.iload 5, 2) := by decide +kernel
theorem dX13_adds_15 : decode cX13_adds 15 = .ok (.baload, 1) := by decide +kernel
theorem dX13_adds_16 : decode cX13_adds 16 = .ok (.iload_n 3, 1) := by decide +kernel
theorem dX13_adds_17 : decode cX13_adds 17 = .ok (.if_icmp .eq 7, 3) := by decide +kernel
theorem dX13_adds_20 : decode cX13_adds 20 = .ok (.iconst 1, 1) := by decide +kernel
theorem dX13_adds_21 : decode cX13_adds 21 = .ok (.goto 4, 3) := by decide +kernel
theorem dX13_adds_24 : decode cX13_adds 24 = .ok (.iconst 0, 1) := by decide +kernel
theorem dX13_adds_25 : decode cX13_adds 25 = .ok (.istore 6, 2) := by decide +kernel
theorem dX13_adds_27 : decode cX13_adds 27 = .ok (.aload_n 0, 1) := by decide +kernel
theorem dX13_adds_28 : decode cX13_adds 28 = .ok (.iload 5, 2) := by decide +kernel
theorem dX13_adds_30 : decode cX13_adds 30 = .ok (.baload, 1) := by decide +kernel
theorem dX13_adds_31 : decode cX13_adds 31 = .ok (.iload 6, 2) := by decide +kernel
theorem dX13_adds_33 : decode cX13_adds 33 = .ok (.if_icmp .eq 7, 3) := by decide +kernel
theorem dX13_adds_36 : decode cX13_adds 36 = .ok (.iconst 1, 1) := by decide +kernel
theorem dX13_adds_37 : decode cX13_adds 37 = .ok (.goto 4, 3) := by decide +kernel
theorem dX13_adds_40 : decode cX13_adds 40 = .ok (.iconst 0, 1) := by decide +kernel
theorem dX13_adds_41 : decode cX13_adds 41 = .ok (.iload 4, 2) := by decide +kernel
theorem dX13_adds_43 : decode cX13_adds 43 = .ok (.if_icmp .eq 7, 3) := by decide +kernel
theorem dX13_adds_46 : decode cX13_adds 46 = .ok (.iconst 1, 1) := by decide +kernel
theorem dX13_adds_47 : decode cX13_adds 47 = .ok (.goto 4, 3) := by decide +kernel
theorem dX13_adds_50 : decode cX13_adds 50 = .ok (.iconst 0, 1) := by decide +kernel
theorem dX13_adds_51 : decode cX13_adds 51 = .ok (.istore 7, 2) := by decide +kernel
theorem dX13_adds_53 : decode cX13_adds 53 = .ok (.aload_n 0, 1) := by decide +kernel
theorem dX13_adds_54 : decode cX13_adds 54 = .ok (.iload 5, 2) := by decide +kernel
theorem dX13_adds_56 : decode cX13_adds 56 = .ok (.baload, 1) := by decide +kernel
theorem dX13_adds_57 : decode cX13_adds 57 = .ok (.ifCond .eq 8, 3) := by decide +kernel
theorem dX13_adds_60 : decode cX13_adds 60 = .ok (.iload 6, 2) := by decide +kernel
theorem dX13_adds_62 : decode cX13_adds 62 = .ok (.ifCond .ne 25, 3) := by decide +kernel
theorem dX13_adds_65 : decode cX13_adds 65 = .ok (.aload_n 0, 1) := by decide +kernel
theorem dX13_adds_66 : decode cX13_adds 66 = .ok (.iload 5, 2) := by decide +kernel
theorem dX13_adds_68 : decode cX13_adds 68 = .ok (.baload, 1) := by decide +kernel
theorem dX13_adds_69 : decode cX13_adds 69 = .ok (.ifCond .eq 8, 3) := by decide +kernel
theorem dX13_adds_72 : decode cX13_adds 72 = .ok (.iload 4, 2) := by decide +kernel
theorem dX13_adds_74 : decode cX13_adds 74 = .ok (.ifCond .ne 13, 3) := by decide +kernel
theorem dX13_adds_77 : decode cX13_adds 77 = .ok (.iload 6, 2) := by decide +kernel
theorem dX13_adds_79 : decode cX13_adds 79 = .ok (.ifCond .eq 12, 3) := by decide +kernel
theorem dX13_adds_82 : decode cX13_adds 82 = .ok (.iload 4, 2) := by decide +kernel
theorem dX13_adds_84 : decode cX13_adds 84 = .ok (.ifCond .eq 7, 3) := by decide +kernel
theorem dX13_adds_87 : decode cX13_adds 87 = .ok (.iconst 1, 1) := by decide +kernel
theorem dX13_adds_88 : decode cX13_adds 88 = .ok (.goto 4, 3) := by decide +kernel
theorem dX13_adds_91 : decode cX13_adds 91 = .ok (.iconst 0, 1) := by decide +kernel
theorem dX13_adds_92 : decode cX13_adds 92 = .ok (.istore 4, 2) := by decide +kernel
theorem dX13_adds_94 : decode cX13_adds 94 = .ok (.aload_n 0, 1) := by decide +kernel
theorem dX13_adds_95 : decode cX13_adds 95 = .ok (.iload 5, 2) := by decide +kernel
theorem dX13_adds_97 : decode cX13_adds 97 = .ok (.iload 7, 2) := by decide +kernel
theorem dX13_adds_99 : decode cX13_adds 99 = .ok (.bastore, 1) := by decide +kernel
theorem dX13_adds_100 : decode cX13_adds 100 = .ok (.iinc 5 1, 3) := by decide +kernel
theorem dX13_adds_103 : decode cX13_adds 103 = .ok (.goto (-97), 3) := by decide +kernel
theorem dX13_adds_106 : decode cX13_adds 106 = .ok (.return_, 1) := by decide +kernel
def mX13_adds_L6 (p3 : Int32) (n_p2 : Nat) (f_p2 : Nat → Int32) (p4 : Int32) (n_p1 : Nat) : Nat → Int32 → Int32 → (Nat → Int32) → Option ((Nat → Int32))
  | 0, _, _, _ => none
  | n_ + 1, y_70, y_71, y_72 => (if p3 ≤ y_71 then some y_72 else (if y_71 < 0 ∨ n_p2 ≤ y_71.toNatClampNeg then none else (((if (f_p2 y_71.toNatClampNeg) = p4 then some 0 else some 1) : Option (Int32)).bind (fun x_75 => (if y_71 < 0 ∨ n_p1 ≤ y_71.toNatClampNeg then none else (((if (y_72 y_71.toNatClampNeg) = x_75 then some 0 else some 1) : Option (Int32)).bind (fun x_77 => (((if x_77 = y_70 then some 0 else some 1) : Option (Int32)).bind (fun x_79 => (if y_71 < 0 ∨ n_p1 ≤ y_71.toNatClampNeg then none else (((if (y_72 y_71.toNatClampNeg) = 0 then (if y_71 < 0 ∨ n_p1 ≤ y_71.toNatClampNeg then none else ((fun (j_99 : Unit → Option (Int32)) => (if (y_72 y_71.toNatClampNeg) = 0 then (j_99 ()) else (if y_70 = 0 then (j_99 ()) else some 1))) (fun _ => (if x_75 = 0 then some 0 else (if y_70 = 0 then some 0 else some 1))))) else (if x_75 = 0 then (if y_71 < 0 ∨ n_p1 ≤ y_71.toNatClampNeg then none else ((fun (j_106 : Unit → Option (Int32)) => (if (y_72 y_71.toNatClampNeg) = 0 then (j_106 ()) else (if y_70 = 0 then (j_106 ()) else some 1))) (fun _ => (if x_75 = 0 then some 0 else (if y_70 = 0 then some 0 else some 1))))) else some 1)) : Option (Int32)).bind (fun x_94 => (if y_71 < 0 ∨ n_p1 ≤ y_71.toNatClampNeg then none else (mX13_adds_L6 p3 n_p2 f_p2 p4 n_p1 n_ x_94 (y_71 + 1) (upd y_72 y_71.toNatClampNeg (vp_nar .boolean x_79))))))))))))))))
def mX13_adds (k : Nat) (n_p1 : Nat) (n_p2 : Nat) (f_p1 : Nat → Int32) (f_p2 : Nat → Int32) (p3 : Int32) (p4 : Int32) : Option ((Nat → Int32)) := ((mX13_adds_L6 p3 n_p2 f_p2 p4 n_p1 k p4 0 f_p1).bind (fun r_108 => some r_108))
set_option maxHeartbeats 4000000 in
set_option maxRecDepth 100000 in
theorem kcX13_adds (l : Launch) (D : va_G) (cy : Nat → ClassId) (g : Nat → Nat) (a_p1 : Nat) (a_p2 : Nat) (n_p1 : Nat) (n_p2 : Nat) (f_p1 : Nat → Int32) (f_p2 : Nat → Int32) (p3 : Int32) (p4 : Int32) (k : Nat) (R : (Nat → Int32)) (hm : mX13_adds k n_p1 n_p2 f_p1 f_p2 p3 p4 = some R) : Con l D cy g yX13_adds cX13_adds 8 none 0 0 0 0 [.ref a_p1, .ref a_p2, .int p3, .int p4] [(a_p1, .inl (cy 2, n_p1, .inl f_p1)), (a_p2, .inl (cy 2, n_p2, .inl f_p2))] [(a_p1, .inl (cy 2, n_p1, .inl R)), (a_p2, .inl (cy 2, n_p2, .inl f_p2))] none := by
  refine Con.of (by decide +kernel) (Nat.le_of_ble_eq_true rfl) ?_
  intro p e RM s m ar below meth c A Qc ls hx hb hr hml hown hlocks hnm ht hK hP hD hS hA hR hC hQc hl
  have hown : s.vm.findClass RX13 = some m.cls := hown
  have hl : lv_has ls 8 [(0, .ref a_p1), (1, .ref a_p2), (2, .int p3), (3, .int p4)] := hl
  rw [mX13_adds] at hm
  refine lv_iload_n hx hb dX13_adds_0 rfl (lv_at hl 3 rfl) ?_
  refine lv_istore (lv' := [(4, .int p4), (0, .ref a_p1), (1, .ref a_p2), (2, .int p3), (3, .int p4)]) hx hb dX13_adds_1 hl (by decide) rfl (fun ls hl => ?_)
  refine lv_iconst (v := 0) hx hb dX13_adds_3 (by decide) ?_
  refine lv_istore (lv' := [(5, .int 0), (4, .int p4), (0, .ref a_p1), (1, .ref a_p2), (2, .int p3), (3, .int p4)]) hx hb dX13_adds_4 hl (by decide) rfl (fun ls hl => ?_)
  have L6 : ∀ (rr : (Nat → Int32)) (kk : ∀ (H : Heap) (locs : List Loc) (ls : Array Slot), va_P D classes [(a_p1, .inl (cy 2, n_p1, .inl rr)), (a_p2, .inl (cy 2, n_p2, .inl f_p2))] H → va_D A [(a_p1, .inl (cy 2, n_p1, .inl rr)), (a_p2, .inl (cy 2, n_p2, .inl f_p2))] → va_S A s.heap H locs → lv_has ls 8 [] → W p l e RM s m ar below meth c H locs 0 0 (MQ below Qc ar s 0 0 A) (F0 m 106 ls [])) (n_ : Nat), ∀ (y_70 : Int32) (y_71 : Int32) (y_72 : Nat → Int32), mX13_adds_L6 p3 n_p2 f_p2 p4 n_p1 n_ y_70 y_71 y_72 = some rr → ∀ (H : Heap) (locs : List Loc) (ls : Array Slot), va_P D classes [(a_p1, .inl (cy 2, n_p1, .inl y_72)), (a_p2, .inl (cy 2, n_p2, .inl f_p2))] H → va_D A [(a_p1, .inl (cy 2, n_p1, .inl y_72)), (a_p2, .inl (cy 2, n_p2, .inl f_p2))] → va_S A s.heap H locs → lv_has ls 8 [(5, .int y_71), (4, .int y_70), (0, .ref a_p1), (1, .ref a_p2), (2, .int p3), (3, .int p4)] → W p l e RM s m ar below meth c H locs 0 0 (MQ below Qc ar s 0 0 A) (F0 m 6 ls []) := by
    intro rr kk n_
    induction n_ with
    | zero => intro y_70 y_71 y_72 hm; rw [mX13_adds_L6] at hm; cases hm
    | succ n_ ih =>
      intro y_70 y_71 y_72 hm H locs ls hP hD hS hl
      rw [mX13_adds_L6] at hm
      refine lv_iload hx hb dX13_adds_6 (lv_at hl 0 rfl) ?_
      refine lv_iload_n hx hb dX13_adds_8 rfl (lv_at hl 4 rfl) ?_
      refine lv_icmp_ge (tgt := 106) hx hb dX13_adds_9 (by decide) (fun c_73 => ?_) (fun c_73 => ?_)
      · replace hm := hm_t c_73 hm
        obtain rfl := Option.some.inj hm
        exact kk _ _ _ hP hD hS (lv_sub hl [] rfl)
      · replace hm := hm_f c_73 hm
        refine lv_aload_n hx hb dX13_adds_12 rfl (lv_at hl 3 rfl) ?_
        refine lv_iload hx hb dX13_adds_13 (lv_at hl 0 rfl) ?_
        obtain ⟨hin, hm⟩ := hm_g hm
        refine va_zald hx hb hK.1 hP 1 2 rfl rfl hin dX13_adds_15 ?_
        refine lv_iload_n hx hb dX13_adds_16 rfl (lv_at hl 5 rfl) ?_
        obtain ⟨x_75, hreg, hm⟩ := hm_b hm
        have J25 : ∀ (H : Heap) (locs : List Loc) (ls : Array Slot), va_P D classes [(a_p1, .inl (cy 2, n_p1, .inl y_72)), (a_p2, .inl (cy 2, n_p2, .inl f_p2))] H → va_D A [(a_p1, .inl (cy 2, n_p1, .inl y_72)), (a_p2, .inl (cy 2, n_p2, .inl f_p2))] → va_S A s.heap H locs → lv_has ls 8 [(5, .int y_71), (4, .int y_70), (0, .ref a_p1), (1, .ref a_p2), (2, .int p3), (3, .int p4)] → W p l e RM s m ar below meth c H locs 0 0 (MQ below Qc ar s 0 0 A) (F0 m 25 ls [.int x_75]) := by
          intro H locs ls hP hD hS hl
          refine lv_istore (lv' := [(6, .int x_75), (5, .int y_71), (4, .int y_70), (0, .ref a_p1), (1, .ref a_p2), (2, .int p3), (3, .int p4)]) hx hb dX13_adds_25 hl (by decide) rfl (fun ls hl => ?_)
          refine lv_aload_n hx hb dX13_adds_27 rfl (lv_at hl 3 rfl) ?_
          refine lv_iload hx hb dX13_adds_28 (lv_at hl 1 rfl) ?_
          obtain ⟨hin, hm⟩ := hm_g hm
          refine va_zald hx hb hK.1 hP 0 2 rfl rfl hin dX13_adds_30 ?_
          refine lv_iload hx hb dX13_adds_31 (lv_at hl 0 rfl) ?_
          obtain ⟨x_77, hreg, hm⟩ := hm_b hm
          have J41 : ∀ (H : Heap) (locs : List Loc) (ls : Array Slot), va_P D classes [(a_p1, .inl (cy 2, n_p1, .inl y_72)), (a_p2, .inl (cy 2, n_p2, .inl f_p2))] H → va_D A [(a_p1, .inl (cy 2, n_p1, .inl y_72)), (a_p2, .inl (cy 2, n_p2, .inl f_p2))] → va_S A s.heap H locs → lv_has ls 8 [(6, .int x_75), (5, .int y_71), (4, .int y_70), (0, .ref a_p1), (1, .ref a_p2), (2, .int p3), (3, .int p4)] → W p l e RM s m ar below meth c H locs 0 0 (MQ below Qc ar s 0 0 A) (F0 m 41 ls [.int x_77]) := by
            intro H locs ls hP hD hS hl
            refine lv_iload hx hb dX13_adds_41 (lv_at hl 2 rfl) ?_
            obtain ⟨x_79, hreg, hm⟩ := hm_b hm
            have J51 : ∀ (H : Heap) (locs : List Loc) (ls : Array Slot), va_P D classes [(a_p1, .inl (cy 2, n_p1, .inl y_72)), (a_p2, .inl (cy 2, n_p2, .inl f_p2))] H → va_D A [(a_p1, .inl (cy 2, n_p1, .inl y_72)), (a_p2, .inl (cy 2, n_p2, .inl f_p2))] → va_S A s.heap H locs → lv_has ls 8 [(6, .int x_75), (5, .int y_71), (4, .int y_70), (0, .ref a_p1), (1, .ref a_p2), (2, .int p3), (3, .int p4)] → W p l e RM s m ar below meth c H locs 0 0 (MQ below Qc ar s 0 0 A) (F0 m 51 ls [.int x_79]) := by
              intro H locs ls hP hD hS hl
              refine lv_istore (lv' := [(7, .int x_79), (6, .int x_75), (5, .int y_71), (4, .int y_70), (0, .ref a_p1), (1, .ref a_p2), (2, .int p3), (3, .int p4)]) hx hb dX13_adds_51 hl (by decide) rfl (fun ls hl => ?_)
              refine lv_aload_n hx hb dX13_adds_53 rfl (lv_at hl 4 rfl) ?_
              refine lv_iload hx hb dX13_adds_54 (lv_at hl 2 rfl) ?_
              obtain ⟨hin, hm⟩ := hm_g hm
              refine va_zald hx hb hK.1 hP 0 2 rfl rfl hin dX13_adds_56 ?_
              obtain ⟨x_94, hreg, hm⟩ := hm_b hm
              have J92 : ∀ (H : Heap) (locs : List Loc) (ls : Array Slot), va_P D classes [(a_p1, .inl (cy 2, n_p1, .inl y_72)), (a_p2, .inl (cy 2, n_p2, .inl f_p2))] H → va_D A [(a_p1, .inl (cy 2, n_p1, .inl y_72)), (a_p2, .inl (cy 2, n_p2, .inl f_p2))] → va_S A s.heap H locs → lv_has ls 8 [(7, .int x_79), (5, .int y_71), (0, .ref a_p1), (1, .ref a_p2), (2, .int p3), (3, .int p4)] → W p l e RM s m ar below meth c H locs 0 0 (MQ below Qc ar s 0 0 A) (F0 m 92 ls [.int x_94]) := by
                intro H locs ls hP hD hS hl
                refine lv_istore (lv' := [(4, .int x_94), (7, .int x_79), (5, .int y_71), (0, .ref a_p1), (1, .ref a_p2), (2, .int p3), (3, .int p4)]) hx hb dX13_adds_92 hl (by decide) rfl (fun ls hl => ?_)
                refine lv_aload_n hx hb dX13_adds_94 rfl (lv_at hl 3 rfl) ?_
                refine lv_iload hx hb dX13_adds_95 (lv_at hl 2 rfl) ?_
                refine lv_iload hx hb dX13_adds_97 (lv_at hl 1 rfl) ?_
                obtain ⟨hin, hm⟩ := hm_g hm
                refine va_zast hx hb hK.1 hP hD hS 0 2 rfl rfl hin dX13_adds_99 (fun H locs hP hD hS => ?_)
                have hP : va_P D classes [(a_p1, .inl (cy 2, n_p1, .inl (upd y_72 y_71.toNatClampNeg (vp_nar .boolean x_79)))), (a_p2, .inl (cy 2, n_p2, .inl f_p2))] H := hP
                have hD : va_D A [(a_p1, .inl (cy 2, n_p1, .inl (upd y_72 y_71.toNatClampNeg (vp_nar .boolean x_79)))), (a_p2, .inl (cy 2, n_p2, .inl f_p2))] := hD
                refine lv_iinc (v := (y_71 + 1)) (lv' := [(5, .int (y_71 + 1)), (4, .int x_94), (7, .int x_79), (0, .ref a_p1), (1, .ref a_p2), (2, .int p3), (3, .int p4)]) hx hb dX13_adds_100 hl (k := 2) rfl rfl (by decide) rfl (fun ls hl => ?_)
                refine lv_goto (tgt := 6) hx hb dX13_adds_103 (by decide) ?_
                exact ih x_94 (y_71 + 1) (upd y_72 y_71.toNatClampNeg (vp_nar .boolean x_79)) hm _ _ _ hP hD hS (lv_sub hl [0, 1, 3, 4, 5, 6] rfl)
              replace hm := hreg
              refine lv_if_eq (tgt := 65) hx hb dX13_adds_57 (by decide) (fun c_80 => ?_) (fun c_80 => ?_)
              · replace hm := hm_t c_80 hm
                refine lv_aload_n hx hb dX13_adds_65 rfl (lv_at hl 4 rfl) ?_
                refine lv_iload hx hb dX13_adds_66 (lv_at hl 2 rfl) ?_
                obtain ⟨hin, hm⟩ := hm_g hm
                refine va_zald hx hb hK.1 hP 0 2 rfl rfl hin dX13_adds_68 ?_
                have J77 : ∀ (_ : Unit), (if x_75 = 0 then some 0 else (if y_70 = 0 then some 0 else some 1)) = some x_94 → ∀ (H : Heap) (locs : List Loc) (ls : Array Slot), va_P D classes [(a_p1, .inl (cy 2, n_p1, .inl y_72)), (a_p2, .inl (cy 2, n_p2, .inl f_p2))] H → va_D A [(a_p1, .inl (cy 2, n_p1, .inl y_72)), (a_p2, .inl (cy 2, n_p2, .inl f_p2))] → va_S A s.heap H locs → lv_has ls 8 [(7, .int x_79), (6, .int x_75), (5, .int y_71), (4, .int y_70), (0, .ref a_p1), (1, .ref a_p2), (2, .int p3), (3, .int p4)] → W p l e RM s m ar below meth c H locs 0 0 (MQ below Qc ar s 0 0 A) (F0 m 77 ls []) := by
                  intro _ hm H locs ls hP hD hS hl
                  refine lv_iload hx hb dX13_adds_77 (lv_at hl 1 rfl) ?_
                  refine lv_if_eq (tgt := 91) hx hb dX13_adds_79 (by decide) (fun c_97 => ?_) (fun c_97 => ?_)
                  · replace hm := hm_t c_97 hm
                    refine lv_iconst (v := 0) hx hb dX13_adds_91 (by decide) ?_
                    obtain rfl := Option.some.inj hm
                    exact J92 _ _ _ hP hD hS (lv_sub hl [0, 2, 4, 5, 6, 7] rfl)
                  · replace hm := hm_f c_97 hm
                    refine lv_iload hx hb dX13_adds_82 (lv_at hl 3 rfl) ?_
                    refine lv_if_eq (tgt := 91) hx hb dX13_adds_84 (by decide) (fun c_98 => ?_) (fun c_98 => ?_)
                    · replace hm := hm_t c_98 hm
                      refine lv_iconst (v := 0) hx hb dX13_adds_91 (by decide) ?_
                      obtain rfl := Option.some.inj hm
                      exact J92 _ _ _ hP hD hS (lv_sub hl [0, 2, 4, 5, 6, 7] rfl)
                    · replace hm := hm_f c_98 hm
                      refine lv_iconst (v := 1) hx hb dX13_adds_87 (by decide) ?_
                      refine lv_goto (tgt := 92) hx hb dX13_adds_88 (by decide) ?_
                      obtain rfl := Option.some.inj hm
                      exact J92 _ _ _ hP hD hS (lv_sub hl [0, 2, 4, 5, 6, 7] rfl)
                refine lv_if_eq (tgt := 77) hx hb dX13_adds_69 (by decide) (fun c_95 => ?_) (fun c_95 => ?_)
                · replace hm := hm_t c_95 hm
                  exact J77 () hm _ _ _ hP hD hS (lv_sub hl [0, 1, 2, 3, 4, 5, 6, 7] rfl)
                · replace hm := hm_f c_95 hm
                  refine lv_iload hx hb dX13_adds_72 (lv_at hl 3 rfl) ?_
                  refine lv_if_ne (tgt := 87) hx hb dX13_adds_74 (by decide) (fun c_100 => ?_) (fun c_100 => ?_)
                  · replace hm := hm_f c_100 hm
                    refine lv_iconst (v := 1) hx hb dX13_adds_87 (by decide) ?_
                    refine lv_goto (tgt := 92) hx hb dX13_adds_88 (by decide) ?_
                    obtain rfl := Option.some.inj hm
                    exact J92 _ _ _ hP hD hS (lv_sub hl [0, 2, 4, 5, 6, 7] rfl)
                  · replace hm := hm_t c_100 hm
                    exact J77 () hm _ _ _ hP hD hS (lv_sub hl [0, 1, 2, 3, 4, 5, 6, 7] rfl)
              · replace hm := hm_f c_80 hm
                refine lv_iload hx hb dX13_adds_60 (lv_at hl 1 rfl) ?_
                refine lv_if_ne (tgt := 87) hx hb dX13_adds_62 (by decide) (fun c_101 => ?_) (fun c_101 => ?_)
                · replace hm := hm_f c_101 hm
                  refine lv_iconst (v := 1) hx hb dX13_adds_87 (by decide) ?_
                  refine lv_goto (tgt := 92) hx hb dX13_adds_88 (by decide) ?_
                  obtain rfl := Option.some.inj hm
                  exact J92 _ _ _ hP hD hS (lv_sub hl [0, 2, 4, 5, 6, 7] rfl)
                · replace hm := hm_t c_101 hm
                  refine lv_aload_n hx hb dX13_adds_65 rfl (lv_at hl 4 rfl) ?_
                  refine lv_iload hx hb dX13_adds_66 (lv_at hl 2 rfl) ?_
                  obtain ⟨hin, hm⟩ := hm_g hm
                  refine va_zald hx hb hK.1 hP 0 2 rfl rfl hin dX13_adds_68 ?_
                  have J77 : ∀ (_ : Unit), (if x_75 = 0 then some 0 else (if y_70 = 0 then some 0 else some 1)) = some x_94 → ∀ (H : Heap) (locs : List Loc) (ls : Array Slot), va_P D classes [(a_p1, .inl (cy 2, n_p1, .inl y_72)), (a_p2, .inl (cy 2, n_p2, .inl f_p2))] H → va_D A [(a_p1, .inl (cy 2, n_p1, .inl y_72)), (a_p2, .inl (cy 2, n_p2, .inl f_p2))] → va_S A s.heap H locs → lv_has ls 8 [(7, .int x_79), (6, .int x_75), (5, .int y_71), (4, .int y_70), (0, .ref a_p1), (1, .ref a_p2), (2, .int p3), (3, .int p4)] → W p l e RM s m ar below meth c H locs 0 0 (MQ below Qc ar s 0 0 A) (F0 m 77 ls []) := by
                    intro _ hm H locs ls hP hD hS hl
                    refine lv_iload hx hb dX13_adds_77 (lv_at hl 1 rfl) ?_
                    refine lv_if_eq (tgt := 91) hx hb dX13_adds_79 (by decide) (fun c_104 => ?_) (fun c_104 => ?_)
                    · replace hm := hm_t c_104 hm
                      refine lv_iconst (v := 0) hx hb dX13_adds_91 (by decide) ?_
                      obtain rfl := Option.some.inj hm
                      exact J92 _ _ _ hP hD hS (lv_sub hl [0, 2, 4, 5, 6, 7] rfl)
                    · replace hm := hm_f c_104 hm
                      refine lv_iload hx hb dX13_adds_82 (lv_at hl 3 rfl) ?_
                      refine lv_if_eq (tgt := 91) hx hb dX13_adds_84 (by decide) (fun c_105 => ?_) (fun c_105 => ?_)
                      · replace hm := hm_t c_105 hm
                        refine lv_iconst (v := 0) hx hb dX13_adds_91 (by decide) ?_
                        obtain rfl := Option.some.inj hm
                        exact J92 _ _ _ hP hD hS (lv_sub hl [0, 2, 4, 5, 6, 7] rfl)
                      · replace hm := hm_f c_105 hm
                        refine lv_iconst (v := 1) hx hb dX13_adds_87 (by decide) ?_
                        refine lv_goto (tgt := 92) hx hb dX13_adds_88 (by decide) ?_
                        obtain rfl := Option.some.inj hm
                        exact J92 _ _ _ hP hD hS (lv_sub hl [0, 2, 4, 5, 6, 7] rfl)
                  refine lv_if_eq (tgt := 77) hx hb dX13_adds_69 (by decide) (fun c_102 => ?_) (fun c_102 => ?_)
                  · replace hm := hm_t c_102 hm
                    exact J77 () hm _ _ _ hP hD hS (lv_sub hl [0, 1, 2, 3, 4, 5, 6, 7] rfl)
                  · replace hm := hm_f c_102 hm
                    refine lv_iload hx hb dX13_adds_72 (lv_at hl 3 rfl) ?_
                    refine lv_if_ne (tgt := 87) hx hb dX13_adds_74 (by decide) (fun c_107 => ?_) (fun c_107 => ?_)
                    · replace hm := hm_f c_107 hm
                      refine lv_iconst (v := 1) hx hb dX13_adds_87 (by decide) ?_
                      refine lv_goto (tgt := 92) hx hb dX13_adds_88 (by decide) ?_
                      obtain rfl := Option.some.inj hm
                      exact J92 _ _ _ hP hD hS (lv_sub hl [0, 2, 4, 5, 6, 7] rfl)
                    · replace hm := hm_t c_107 hm
                      exact J77 () hm _ _ _ hP hD hS (lv_sub hl [0, 1, 2, 3, 4, 5, 6, 7] rfl)
            replace hm := hreg
            refine lv_icmp_eq (tgt := 50) hx hb dX13_adds_43 (by decide) (fun c_78 => ?_) (fun c_78 => ?_)
            · replace hm := hm_t c_78 hm
              refine lv_iconst (v := 0) hx hb dX13_adds_50 (by decide) ?_
              obtain rfl := Option.some.inj hm
              exact J51 _ _ _ hP hD hS (lv_sub hl [0, 1, 2, 3, 4, 5, 6] rfl)
            · replace hm := hm_f c_78 hm
              refine lv_iconst (v := 1) hx hb dX13_adds_46 (by decide) ?_
              refine lv_goto (tgt := 51) hx hb dX13_adds_47 (by decide) ?_
              obtain rfl := Option.some.inj hm
              exact J51 _ _ _ hP hD hS (lv_sub hl [0, 1, 2, 3, 4, 5, 6] rfl)
          replace hm := hreg
          refine lv_icmp_eq (tgt := 40) hx hb dX13_adds_33 (by decide) (fun c_76 => ?_) (fun c_76 => ?_)
          · replace hm := hm_t c_76 hm
            refine lv_iconst (v := 0) hx hb dX13_adds_40 (by decide) ?_
            obtain rfl := Option.some.inj hm
            exact J41 _ _ _ hP hD hS (lv_sub hl [0, 1, 2, 3, 4, 5, 6] rfl)
          · replace hm := hm_f c_76 hm
            refine lv_iconst (v := 1) hx hb dX13_adds_36 (by decide) ?_
            refine lv_goto (tgt := 41) hx hb dX13_adds_37 (by decide) ?_
            obtain rfl := Option.some.inj hm
            exact J41 _ _ _ hP hD hS (lv_sub hl [0, 1, 2, 3, 4, 5, 6] rfl)
        replace hm := hreg
        refine lv_icmp_eq (tgt := 24) hx hb dX13_adds_17 (by decide) (fun c_74 => ?_) (fun c_74 => ?_)
        · replace hm := hm_t c_74 hm
          refine lv_iconst (v := 0) hx hb dX13_adds_24 (by decide) ?_
          obtain rfl := Option.some.inj hm
          exact J25 _ _ _ hP hD hS (lv_sub hl [0, 1, 2, 3, 4, 5] rfl)
        · replace hm := hm_f c_74 hm
          refine lv_iconst (v := 1) hx hb dX13_adds_20 (by decide) ?_
          refine lv_goto (tgt := 25) hx hb dX13_adds_21 (by decide) ?_
          obtain rfl := Option.some.inj hm
          exact J25 _ _ _ hP hD hS (lv_sub hl [0, 1, 2, 3, 4, 5] rfl)
  obtain ⟨r_108, hL, hm⟩ := hm_b hm
  refine L6 r_108 ?_ k p4 0 f_p1 hL _ _ _ hP hD hS (lv_sub hl [0, 1, 2, 3, 4, 5] rfl)
  intro H locs ls hP hD hS hl
  obtain rfl := Option.some.inj hm
  exact k_vret hx hb hr hlocks hQc hP hS rfl rfl dX13_adds_106
theorem dX13_negates_0 : decode cX13_negates 0 = .ok (.iconst 1, 1) := by decide +kernel
theorem dX13_negates_1 : decode cX13_negates 1 = .ok (.istore_n 2, 1) := by decide +kernel
theorem dX13_negates_2 : decode cX13_negates 2 = .ok (.iconst 0, 1) := by decide +kernel
theorem dX13_negates_3 : decode cX13_negates 3 = .ok (.istore_n 3, 1) := by decide +kernel
theorem dX13_negates_4 : decode cX13_negates 4 = .ok (.iload_n 3, 1) := by decide +kernel
theorem dX13_negates_5 : decode cX13_negates 5 = .ok (.iload_n 1, 1) := by decide +kernel
theorem dX13_negates_6 : decode cX13_negates 6 = .ok (.if_icmp .ge 51, 3) := by decide +kernel
theorem dX13_negates_9 : decode cX13_negates 9 = .ok (.aload_n 0, 1) := by decide +kernel
theorem dX13_negates_10 : decode cX13_negates 10 = .ok (.iload_n 3, 1) := by decide +kernel
theorem dX13_negates_11 : decode cX13_negates 11 = .ok (.baload, 1) := by decide +kernel
theorem dX13_negates_12 : decode cX13_negates 12 = .ok (.ifCond .ne 7, 3) := by decide +kernel
theorem dX13_negates_15 : decode cX13_negates 15 = .ok (.iconst 1, 1) := by decide +kernel
theorem dX13_negates_16 : decode cX13_negates 16 = .ok (.goto 4, 3) := by decide +kernel
theorem dX13_negates_19 : decode cX13_negates 19 = .ok (.iconst 0, 1) := by decide +kernel
theorem dX13_negates_20 : decode cX13_negates 20 = .ok (.istore 4, 2) := by decide +kernel
theorem dX13_negates_22 : decode cX13_negates 22 = .ok (.aload_n 0, 1) := by decide +kernel
theorem dX13_negates_23 : decode cX13_negates 23 = .ok (.iload_n 3, 1) := by decide +kernel
theorem dX13_negates_24 : decode cX13_negates 24 = .ok (.iload 4, 2) := by decide +kernel
theorem dX13_negates_26 : decode cX13_negates 26 = .ok (.iload_n 2, 1) := by decide +kernel
theorem dX13_negates_27 : decode cX13_negates 27 = .ok (.if_icmp .eq 7, 3) := by decide +kernel
theorem dX13_negates_30 : decode cX13_negates 30 = .ok (.iconst 1, 1) := by decide +kernel
theorem dX13_negates_31 : decode cX13_negates 31 = .ok (.goto 4, 3) := by decide +kernel
theorem dX13_negates_34 : decode cX13_negates 34 = .ok (.iconst 0, 1) := by decide +kernel
theorem dX13_negates_35 : decode cX13_negates 35 = .ok (.bastore, 1) := by decide +kernel
theorem dX13_negates_36 : decode cX13_negates 36 = .ok (.iload 4, 2) := by decide +kernel
theorem dX13_negates_38 : decode cX13_negates 38 = .ok (.ifCond .eq 11, 3) := by decide +kernel
theorem dX13_negates_41 : decode cX13_negates 41 = .ok (.iload_n 2, 1) := by decide +kernel
theorem dX13_negates_42 : decode cX13_negates 42 = .ok (.ifCond .eq 7, 3) := by decide +kernel
theorem dX13_negates_45 : decode cX13_negates 45 = .ok (.iconst 1, 1) := by decide +kernel
theorem dX13_negates_46 : decode cX13_negates 46 = .ok (.goto 4, 3) := by decide +kernel
theorem dX13_negates_49 : decode cX13_negates 49 = .ok (.iconst 0, 1) := by decide +kernel
theorem dX13_negates_50 : decode cX13_negates 50 = .ok (.istore_n 2, 1) := by decide +kernel
theorem dX13_negates_51 : decode cX13_negates 51 = .ok (.iinc 3 1, 3) := by decide +kernel
theorem dX13_negates_54 : decode cX13_negates 54 = .ok (.goto (-50), 3) := by decide +kernel
theorem dX13_negates_57 : decode cX13_negates 57 = .ok (.return_, 1) := by decide +kernel
def mX13_negates_L4 (p2 : Int32) (n_p1 : Nat) : Nat → Int32 → Int32 → (Nat → Int32) → Option ((Nat → Int32))
  | 0, _, _, _ => none
  | n_ + 1, y_22, y_23, y_24 => (if p2 ≤ y_23 then some y_24 else (if y_23 < 0 ∨ n_p1 ≤ y_23.toNatClampNeg then none else (((if (y_24 y_23.toNatClampNeg) = 0 then some 1 else some 0) : Option (Int32)).bind (fun x_27 => (((if x_27 = y_22 then some 0 else some 1) : Option (Int32)).bind (fun x_29 => (if y_23 < 0 ∨ n_p1 ≤ y_23.toNatClampNeg then none else (((if x_27 = 0 then some 0 else (if y_22 = 0 then some 0 else some 1)) : Option (Int32)).bind (fun x_32 => (mX13_negates_L4 p2 n_p1 n_ x_32 (y_23 + 1) (upd y_24 y_23.toNatClampNeg (vp_nar .boolean x_29))))))))))))
def mX13_negates (k : Nat) (n_p1 : Nat) (f_p1 : Nat → Int32) (p2 : Int32) : Option ((Nat → Int32)) := ((mX13_negates_L4 p2 n_p1 k 1 0 f_p1).bind (fun r_34 => some r_34))
set_option maxHeartbeats 4000000 in
set_option maxRecDepth 100000 in
theorem kcX13_negates (l : Launch) (D : va_G) (cy : Nat → ClassId) (g : Nat → Nat) (a_p1 : Nat) (n_p1 : Nat) (f_p1 : Nat → Int32) (p2 : Int32) (k : Nat) (R : (Nat → Int32)) (hm : mX13_negates k n_p1 f_p1 p2 = some R) : Con l D cy g yX13_negates cX13_negates 5 none 0 0 0 0 [.ref a_p1, .int p2] [(a_p1, .inl (cy 2, n_p1, .inl f_p1))] [(a_p1, .inl (cy 2, n_p1, .inl R))] none := by
  refine Con.of (by decide +kernel) (Nat.le_of_ble_eq_true rfl) ?_
  intro p e RM s m ar below meth c A Qc ls hx hb hr hml hown hlocks hnm ht hK hP hD hS hA hR hC hQc hl
  have hown : s.vm.findClass RX13 = some m.cls := hown
  have hl : lv_has ls 5 [(0, .ref a_p1), (1, .int p2)] := hl
  rw [mX13_negates] at hm
  refine lv_iconst (v := 1) hx hb dX13_negates_0 (by decide) ?_
  refine lv_istore_n (lv' := [(2, .int 1), (0, .ref a_p1), (1, .int p2)]) hx hb dX13_negates_1 rfl hl (by decide) rfl (fun ls hl => ?_)
  refine lv_iconst (v := 0) hx hb dX13_negates_2 (by decide) ?_
  refine lv_istore_n (lv' := [(3, .int 0), (2, .int 1), (0, .ref a_p1), (1, .int p2)]) hx hb dX13_negates_3 rfl hl (by decide) rfl (fun ls hl => ?_)
  have L4 : ∀ (rr : (Nat → Int32)) (kk : ∀ (H : Heap) (locs : List Loc) (ls : Array Slot), va_P D classes [(a_p1, .inl (cy 2, n_p1, .inl rr))] H → va_D A [(a_p1, .inl (cy 2, n_p1, .inl rr))] → va_S A s.heap H locs → lv_has ls 5 [] → W p l e RM s m ar below meth c H locs 0 0 (MQ below Qc ar s 0 0 A) (F0 m 57 ls [])) (n_ : Nat), ∀ (y_22 : Int32) (y_23 : Int32) (y_24 : Nat → Int32), mX13_negates_L4 p2 n_p1 n_ y_22 y_23 y_24 = some rr → ∀ (H : Heap) (locs : List Loc) (ls : Array Slot), va_P D classes [(a_p1, .inl (cy 2, n_p1, .inl y_24))] H → va_D A [(a_p1, .inl (cy 2, n_p1, .inl y_24))] → va_S A s.heap H locs → lv_has ls 5 [(3, .int y_23), (2, .int y_22), (0, .ref a_p1), (1, .int p2)] → W p l e RM s m ar below meth c H locs 0 0 (MQ below Qc ar s 0 0 A) (F0 m 4 ls []) := by
    intro rr kk n_
    induction n_ with
    | zero => intro y_22 y_23 y_24 hm; rw [mX13_negates_L4] at hm; cases hm
    | succ n_ ih =>
      intro y_22 y_23 y_24 hm H locs ls hP hD hS hl
      rw [mX13_negates_L4] at hm
      refine lv_iload_n hx hb dX13_negates_4 rfl (lv_at hl 0 rfl) ?_
      refine lv_iload_n hx hb dX13_negates_5 rfl (lv_at hl 3 rfl) ?_
      refine lv_icmp_ge (tgt := 57) hx hb dX13_negates_6 (by decide) (fun c_25 => ?_) (fun c_25 => ?_)
      · replace hm := hm_t c_25 hm
        obtain rfl := Option.some.inj hm
        exact kk _ _ _ hP hD hS (lv_sub hl [] rfl)
      · replace hm := hm_f c_25 hm
        refine lv_aload_n hx hb dX13_negates_9 rfl (lv_at hl 2 rfl) ?_
        refine lv_iload_n hx hb dX13_negates_10 rfl (lv_at hl 0 rfl) ?_
        obtain ⟨hin, hm⟩ := hm_g hm
        refine va_zald hx hb hK.1 hP 0 2 rfl rfl hin dX13_negates_11 ?_
        obtain ⟨x_27, hreg, hm⟩ := hm_b hm
        have J20 : ∀ (H : Heap) (locs : List Loc) (ls : Array Slot), va_P D classes [(a_p1, .inl (cy 2, n_p1, .inl y_24))] H → va_D A [(a_p1, .inl (cy 2, n_p1, .inl y_24))] → va_S A s.heap H locs → lv_has ls 5 [(3, .int y_23), (2, .int y_22), (0, .ref a_p1), (1, .int p2)] → W p l e RM s m ar below meth c H locs 0 0 (MQ below Qc ar s 0 0 A) (F0 m 20 ls [.int x_27]) := by
          intro H locs ls hP hD hS hl
          refine lv_istore (lv' := [(4, .int x_27), (3, .int y_23), (2, .int y_22), (0, .ref a_p1), (1, .int p2)]) hx hb dX13_negates_20 hl (by decide) rfl (fun ls hl => ?_)
          refine lv_aload_n hx hb dX13_negates_22 rfl (lv_at hl 3 rfl) ?_
          refine lv_iload_n hx hb dX13_negates_23 rfl (lv_at hl 1 rfl) ?_
          refine lv_iload hx hb dX13_negates_24 (lv_at hl 0 rfl) ?_
          refine lv_iload_n hx hb dX13_negates_26 rfl (lv_at hl 2 rfl) ?_
          obtain ⟨x_29, hreg, hm⟩ := hm_b hm
          have J35 : ∀ (H : Heap) (locs : List Loc) (ls : Array Slot), va_P D classes [(a_p1, .inl (cy 2, n_p1, .inl y_24))] H → va_D A [(a_p1, .inl (cy 2, n_p1, .inl y_24))] → va_S A s.heap H locs → lv_has ls 5 [(4, .int x_27), (3, .int y_23), (2, .int y_22), (0, .ref a_p1), (1, .int p2)] → W p l e RM s m ar below meth c H locs 0 0 (MQ below Qc ar s 0 0 A) (F0 m 35 ls [.int x_29, .int y_23, .ref a_p1]) := by
            intro H locs ls hP hD hS hl
            obtain ⟨hin, hm⟩ := hm_g hm
            refine va_zast hx hb hK.1 hP hD hS 0 2 rfl rfl hin dX13_negates_35 (fun H locs hP hD hS => ?_)
            have hP : va_P D classes [(a_p1, .inl (cy 2, n_p1, .inl (upd y_24 y_23.toNatClampNeg (vp_nar .boolean x_29))))] H := hP
            have hD : va_D A [(a_p1, .inl (cy 2, n_p1, .inl (upd y_24 y_23.toNatClampNeg (vp_nar .boolean x_29))))] := hD
            refine lv_iload hx hb dX13_negates_36 (lv_at hl 0 rfl) ?_
            obtain ⟨x_32, hreg, hm⟩ := hm_b hm
            have J50 : ∀ (H : Heap) (locs : List Loc) (ls : Array Slot), va_P D classes [(a_p1, .inl (cy 2, n_p1, .inl (upd y_24 y_23.toNatClampNeg (vp_nar .boolean x_29))))] H → va_D A [(a_p1, .inl (cy 2, n_p1, .inl (upd y_24 y_23.toNatClampNeg (vp_nar .boolean x_29))))] → va_S A s.heap H locs → lv_has ls 5 [(3, .int y_23), (0, .ref a_p1), (1, .int p2)] → W p l e RM s m ar below meth c H locs 0 0 (MQ below Qc ar s 0 0 A) (F0 m 50 ls [.int x_32]) := by
              intro H locs ls hP hD hS hl
              refine lv_istore_n (lv' := [(2, .int x_32), (3, .int y_23), (0, .ref a_p1), (1, .int p2)]) hx hb dX13_negates_50 rfl hl (by decide) rfl (fun ls hl => ?_)
              refine lv_iinc (v := (y_23 + 1)) (lv' := [(3, .int (y_23 + 1)), (2, .int x_32), (0, .ref a_p1), (1, .int p2)]) hx hb dX13_negates_51 hl (k := 1) rfl rfl (by decide) rfl (fun ls hl => ?_)
              refine lv_goto (tgt := 4) hx hb dX13_negates_54 (by decide) ?_
              exact ih x_32 (y_23 + 1) (upd y_24 y_23.toNatClampNeg (vp_nar .boolean x_29)) hm _ _ _ hP hD hS (lv_sub hl [0, 1, 2, 3] rfl)
            replace hm := hreg
            refine lv_if_eq (tgt := 49) hx hb dX13_negates_38 (by decide) (fun c_30 => ?_) (fun c_30 => ?_)
            · replace hm := hm_t c_30 hm
              refine lv_iconst (v := 0) hx hb dX13_negates_49 (by decide) ?_
              obtain rfl := Option.some.inj hm
              exact J50 _ _ _ hP hD hS (lv_sub hl [1, 3, 4] rfl)
            · replace hm := hm_f c_30 hm
              refine lv_iload_n hx hb dX13_negates_41 rfl (lv_at hl 2 rfl) ?_
              refine lv_if_eq (tgt := 49) hx hb dX13_negates_42 (by decide) (fun c_33 => ?_) (fun c_33 => ?_)
              · replace hm := hm_t c_33 hm
                refine lv_iconst (v := 0) hx hb dX13_negates_49 (by decide) ?_
                obtain rfl := Option.some.inj hm
                exact J50 _ _ _ hP hD hS (lv_sub hl [1, 3, 4] rfl)
              · replace hm := hm_f c_33 hm
                refine lv_iconst (v := 1) hx hb dX13_negates_45 (by decide) ?_
                refine lv_goto (tgt := 50) hx hb dX13_negates_46 (by decide) ?_
                obtain rfl := Option.some.inj hm
                exact J50 _ _ _ hP hD hS (lv_sub hl [1, 3, 4] rfl)
          replace hm := hreg
          refine lv_icmp_eq (tgt := 34) hx hb dX13_negates_27 (by decide) (fun c_28 => ?_) (fun c_28 => ?_)
          · replace hm := hm_t c_28 hm
            refine lv_iconst (v := 0) hx hb dX13_negates_34 (by decide) ?_
            obtain rfl := Option.some.inj hm
            exact J35 _ _ _ hP hD hS (lv_sub hl [0, 1, 2, 3, 4] rfl)
          · replace hm := hm_f c_28 hm
            refine lv_iconst (v := 1) hx hb dX13_negates_30 (by decide) ?_
            refine lv_goto (tgt := 35) hx hb dX13_negates_31 (by decide) ?_
            obtain rfl := Option.some.inj hm
            exact J35 _ _ _ hP hD hS (lv_sub hl [0, 1, 2, 3, 4] rfl)
        replace hm := hreg
        refine lv_if_ne (tgt := 19) hx hb dX13_negates_12 (by decide) (fun c_26 => ?_) (fun c_26 => ?_)
        · replace hm := hm_f c_26 hm
          refine lv_iconst (v := 0) hx hb dX13_negates_19 (by decide) ?_
          obtain rfl := Option.some.inj hm
          exact J20 _ _ _ hP hD hS (lv_sub hl [0, 1, 2, 3] rfl)
        · replace hm := hm_t c_26 hm
          refine lv_iconst (v := 1) hx hb dX13_negates_15 (by decide) ?_
          refine lv_goto (tgt := 20) hx hb dX13_negates_16 (by decide) ?_
          obtain rfl := Option.some.inj hm
          exact J20 _ _ _ hP hD hS (lv_sub hl [0, 1, 2, 3] rfl)
  obtain ⟨r_34, hL, hm⟩ := hm_b hm
  refine L4 r_34 ?_ k 1 0 f_p1 hL _ _ _ hP hD hS (lv_sub hl [0, 1, 2, 3] rfl)
  intro H locs ls hP hD hS hl
  obtain rfl := Option.some.inj hm
  exact k_vret hx hb hr hlocks hQc hP hS rfl rfl dX13_negates_57
theorem dX13_isNothing_0 : decode cX13_isNothing 0 = .ok (.iconst 0, 1) := by decide +kernel
theorem dX13_isNothing_1 : decode cX13_isNothing 1 = .ok (.istore_n 2, 1) := by decide +kernel
theorem dX13_isNothing_2 : decode cX13_isNothing 2 = .ok (.iload_n 2, 1) := by decide +kernel
theorem dX13_isNothing_3 : decode cX13_isNothing 3 = .ok (.iload_n 1, 1) := by decide +kernel
theorem dX13_isNothing_4 : decode cX13_isNothing 4 = .ok (.if_icmp .ge 17, 3) := by decide +kernel
theorem dX13_isNothing_7 : decode cX13_isNothing 7 = .ok (.aload_n 0, 1) := by decide +kernel
theorem dX13_isNothing_8 : decode cX13_isNothing 8 = .ok (.iload_n 2, 1) := by decide +kernel
theorem dX13_isNothing_9 : decode cX13_isNothing 9 = .ok (.baload, 1) := by decide +kernel
theorem dX13_isNothing_10 : decode cX13_isNothing 10 = .ok (.ifCond .eq 5, 3) := by decide +kernel
theorem dX13_isNothing_13 : decode cX13_isNothing 13 = .ok (.iconst 0, 1) := by decide +kernel
theorem dX13_isNothing_14 : decode cX13_isNothing 14 = .ok (.ireturn, 1) := by decide +kernel
theorem dX13_isNothing_15 : decode cX13_isNothing 15 = .ok (.iinc 2 1, 3) := by decide +kernel
theorem dX13_isNothing_18 : decode cX13_isNothing 18 = .ok (.goto (-16), 3) := by decide +kernel
theorem dX13_isNothing_21 : decode cX13_isNothing 21 = .ok (.iconst 1, 1) := by decide +kernel
theorem dX13_isNothing_22 : decode cX13_isNothing 22 = .ok (.ireturn, 1) := by decide +kernel
def mX13_isNothing_L2 (p2 : Int32) (n_p1 : Nat) (f_p1 : Nat → Int32) : Nat → Int32 → Option (Int32)
  | 0, _ => none
  | n_ + 1, y_6 => (if p2 ≤ y_6 then some 1 else (if y_6 < 0 ∨ n_p1 ≤ y_6.toNatClampNeg then none else (if (f_p1 y_6.toNatClampNeg) = 0 then (mX13_isNothing_L2 p2 n_p1 f_p1 n_ (y_6 + 1)) else some 0)))
def mX13_isNothing (k : Nat) (n_p1 : Nat) (f_p1 : Nat → Int32) (p2 : Int32) : Option (Int32) := (mX13_isNothing_L2 p2 n_p1 f_p1 k 0)
set_option maxHeartbeats 4000000 in
set_option maxRecDepth 100000 in
theorem kcX13_isNothing (l : Launch) (D : va_G) (cy : Nat → ClassId) (g : Nat → Nat) (a_p1 : Nat) (n_p1 : Nat) (f_p1 : Nat → Int32) (p2 : Int32) (k : Nat) (R : Int32) (hm : mX13_isNothing k n_p1 f_p1 p2 = some R) : Con l D cy g yX13_isNothing cX13_isNothing 3 (some .boolean) 0 0 0 0 [.ref a_p1, .int p2] [(a_p1, .inl (cy 2, n_p1, .inl f_p1))] [(a_p1, .inl (cy 2, n_p1, .inl f_p1))] (some (.int R)) := by
  refine Con.of (by decide +kernel) (Nat.le_of_ble_eq_true rfl) ?_
  intro p e RM s m ar below meth c A Qc ls hx hb hr hml hown hlocks hnm ht hK hP hD hS hA hR hC hQc hl
  have hown : s.vm.findClass RX13 = some m.cls := hown
  have hl : lv_has ls 3 [(0, .ref a_p1), (1, .int p2)] := hl
  rw [mX13_isNothing] at hm
  refine lv_iconst (v := 0) hx hb dX13_isNothing_0 (by decide) ?_
  refine lv_istore_n (lv' := [(2, .int 0), (0, .ref a_p1), (1, .int p2)]) hx hb dX13_isNothing_1 rfl hl (by decide) rfl (fun ls hl => ?_)
  have L2 : ∀ (n_ : Nat), ∀ (y_6 : Int32), mX13_isNothing_L2 p2 n_p1 f_p1 n_ y_6 = some R → ∀ (H : Heap) (locs : List Loc) (ls : Array Slot), va_P D classes [(a_p1, .inl (cy 2, n_p1, .inl f_p1))] H → va_D A [(a_p1, .inl (cy 2, n_p1, .inl f_p1))] → va_S A s.heap H locs → lv_has ls 3 [(2, .int y_6), (0, .ref a_p1), (1, .int p2)] → W p l e RM s m ar below meth c H locs 0 0 (MQ below Qc ar s 0 0 A) (F0 m 2 ls []) := by
    intro n_
    induction n_ with
    | zero => intro y_6 hm; rw [mX13_isNothing_L2] at hm; cases hm
    | succ n_ ih =>
      intro y_6 hm H locs ls hP hD hS hl
      rw [mX13_isNothing_L2] at hm
      refine lv_iload_n hx hb dX13_isNothing_2 rfl (lv_at hl 0 rfl) ?_
      refine lv_iload_n hx hb dX13_isNothing_3 rfl (lv_at hl 2 rfl) ?_
      refine lv_icmp_ge (tgt := 21) hx hb dX13_isNothing_4 (by decide) (fun c_7 => ?_) (fun c_7 => ?_)
      · replace hm := hm_t c_7 hm
        refine lv_iconst (v := 1) hx hb dX13_isNothing_21 (by decide) ?_
        obtain rfl := Option.some.inj hm
        exact k_zret hx hb hr hlocks hQc rfl hP hS rfl rfl dX13_isNothing_22
      · replace hm := hm_f c_7 hm
        refine lv_aload_n hx hb dX13_isNothing_7 rfl (lv_at hl 1 rfl) ?_
        refine lv_iload_n hx hb dX13_isNothing_8 rfl (lv_at hl 0 rfl) ?_
        obtain ⟨hin, hm⟩ := hm_g hm
        refine va_zald hx hb hK.1 hP 0 2 rfl rfl hin dX13_isNothing_9 ?_
        refine lv_if_eq (tgt := 15) hx hb dX13_isNothing_10 (by decide) (fun c_8 => ?_) (fun c_8 => ?_)
        · replace hm := hm_t c_8 hm
          refine lv_iinc (v := (y_6 + 1)) (lv' := [(2, .int (y_6 + 1)), (0, .ref a_p1), (1, .int p2)]) hx hb dX13_isNothing_15 hl (k := 0) rfl rfl (by decide) rfl (fun ls hl => ?_)
          refine lv_goto (tgt := 2) hx hb dX13_isNothing_18 (by decide) ?_
          exact ih (y_6 + 1) hm _ _ _ hP hD hS (lv_sub hl [0, 1, 2] rfl)
        · replace hm := hm_f c_8 hm
          refine lv_iconst (v := 0) hx hb dX13_isNothing_13 (by decide) ?_
          obtain rfl := Option.some.inj hm
          exact k_zret hx hb hr hlocks hQc rfl hP hS rfl rfl dX13_isNothing_14
  exact L2 k 0 hm _ _ _ hP hD hS (lv_sub hl [0, 1, 2] rfl)
theorem dX13_lays_0 : decode cX13_lays 0 = .ok (.lload_n 1, 1) := by decide +kernel
theorem dX13_lays_1 : decode cX13_lays 1 = .ok (.lstore_n 3, 1) := by decide +kernel
theorem dX13_lays_2 : decode cX13_lays 2 = .ok (.iconst 0, 1) := by decide +kernel
theorem dX13_lays_3 : decode cX13_lays 3 = .ok (.istore 5, 2) := by decide +kernel
theorem dX13_lays_5 : decode cX13_lays 5 = .ok (.iload 5, 2) := by decide +kernel
theorem dX13_lays_7 : decode cX13_lays 7 = .ok (.bipush 64, 2) := by decide +kernel
theorem dX13_lays_9 : decode cX13_lays 9 = .ok (.if_icmp .ge 30, 3) := by decide +kernel
theorem dX13_lays_12 : decode cX13_lays 12 = .ok (.aload_n 0, 1) := by decide +kernel
theorem dX13_lays_13 : decode cX13_lays 13 = .ok (.iload 5, 2) := by decide +kernel
theorem dX13_lays_15 : decode cX13_lays 15 = .ok (.lload_n 3, 1) := by decide +kernel
theorem dX13_lays_16 : decode cX13_lays 16 = .ok (.lconst 1, 1) := by decide +kernel
theorem dX13_lays_17 : decode cX13_lays 17 = .ok (.land, 1) := by decide +kernel
theorem dX13_lays_18 : decode cX13_lays 18 = .ok (.lconst 1, 1) := by decide +kernel
theorem dX13_lays_19 : decode cX13_lays 19 = .ok (.lcmp, 1) := by decide +kernel
theorem dX13_lays_20 : decode cX13_lays 20 = .ok (.ifCond .ne 7, 3) := by decide +kernel
theorem dX13_lays_23 : decode cX13_lays 23 = .ok (.iconst 1, 1) := by decide +kernel
theorem dX13_lays_24 : decode cX13_lays 24 = .ok (.goto 4, 3) := by decide +kernel
theorem dX13_lays_27 : decode cX13_lays 27 = .ok (.iconst 0, 1) := by decide +kernel
theorem dX13_lays_28 : decode cX13_lays 28 = .ok (.bastore, 1) := by decide +kernel
theorem dX13_lays_29 : decode cX13_lays 29 = .ok (.lload_n 3, 1) := by decide +kernel
theorem dX13_lays_30 : decode cX13_lays 30 = .ok (.iconst 1, 1) := by decide +kernel
theorem dX13_lays_31 : decode cX13_lays 31 = .ok (.lshr, 1) := by decide +kernel
theorem dX13_lays_32 : decode cX13_lays 32 = .ok (.lstore_n 3, 1) := by decide +kernel
theorem dX13_lays_33 : decode cX13_lays 33 = .ok (.iinc 5 1, 3) := by decide +kernel
theorem dX13_lays_36 : decode cX13_lays 36 = .ok (.goto (-31), 3) := by decide +kernel
theorem dX13_lays_39 : decode cX13_lays 39 = .ok (.return_, 1) := by decide +kernel
def mX13_lays_L5 (n_p1 : Nat) : Nat → Int64 → Int32 → (Nat → Int32) → Option ((Nat → Int32))
  | 0, _, _, _ => none
  | n_ + 1, y_12, y_13, y_14 => (if (64 : Int32) ≤ y_13 then some y_14 else (((if (lg_cmp (y_12 &&& 1) 1) = 0 then some 1 else some 0) : Option (Int32)).bind (fun x_17 => (if y_13 < 0 ∨ n_p1 ≤ y_13.toNatClampNeg then none else ((some ((y_12 >>> ((1 : Int32).toInt64 &&& 63))) : Option Int64).bind (fun x_18 => (mX13_lays_L5 n_p1 n_ x_18 (y_13 + 1) (upd y_14 y_13.toNatClampNeg (vp_nar .boolean x_17)))))))))
def mX13_lays (k : Nat) (n_p1 : Nat) (f_p1 : Nat → Int32) (p2 : Int64) : Option ((Nat → Int32)) := ((mX13_lays_L5 n_p1 k p2 0 f_p1).bind (fun r_19 => some r_19))
set_option maxHeartbeats 4000000 in
set_option maxRecDepth 100000 in
theorem kcX13_lays (l : Launch) (D : va_G) (cy : Nat → ClassId) (g : Nat → Nat) (a_p1 : Nat) (n_p1 : Nat) (f_p1 : Nat → Int32) (p2 : Int64) (k : Nat) (R : (Nat → Int32)) (hm : mX13_lays k n_p1 f_p1 p2 = some R) : Con l D cy g yX13_lays cX13_lays 6 none 0 0 0 0 [.ref a_p1, .long p2] [(a_p1, .inl (cy 2, n_p1, .inl f_p1))] [(a_p1, .inl (cy 2, n_p1, .inl R))] none := by
  refine Con.of (by decide +kernel) (Nat.le_of_ble_eq_true rfl) ?_
  intro p e RM s m ar below meth c A Qc ls hx hb hr hml hown hlocks hnm ht hK hP hD hS hA hR hC hQc hl
  have hown : s.vm.findClass RX13 = some m.cls := hown
  have hl : lv_has ls 6 [(0, .ref a_p1), (1, .long p2)] := hl
  rw [mX13_lays] at hm
  refine lv_lload_n hx hb dX13_lays_0 rfl (lv_at hl 1 rfl) ?_
  refine lv_lstore_n (lv' := [(3, .long p2), (0, .ref a_p1), (1, .long p2)]) hx hb dX13_lays_1 rfl hl (by decide) rfl (fun ls hl => ?_)
  refine lv_iconst (v := 0) hx hb dX13_lays_2 (by decide) ?_
  refine lv_istore (lv' := [(5, .int 0), (3, .long p2), (0, .ref a_p1), (1, .long p2)]) hx hb dX13_lays_3 hl (by decide) rfl (fun ls hl => ?_)
  have L5 : ∀ (rr : (Nat → Int32)) (kk : ∀ (H : Heap) (locs : List Loc) (ls : Array Slot), va_P D classes [(a_p1, .inl (cy 2, n_p1, .inl rr))] H → va_D A [(a_p1, .inl (cy 2, n_p1, .inl rr))] → va_S A s.heap H locs → lv_has ls 6 [] → W p l e RM s m ar below meth c H locs 0 0 (MQ below Qc ar s 0 0 A) (F0 m 39 ls [])) (n_ : Nat), ∀ (y_12 : Int64) (y_13 : Int32) (y_14 : Nat → Int32), mX13_lays_L5 n_p1 n_ y_12 y_13 y_14 = some rr → ∀ (H : Heap) (locs : List Loc) (ls : Array Slot), va_P D classes [(a_p1, .inl (cy 2, n_p1, .inl y_14))] H → va_D A [(a_p1, .inl (cy 2, n_p1, .inl y_14))] → va_S A s.heap H locs → lv_has ls 6 [(5, .int y_13), (3, .long y_12), (0, .ref a_p1)] → W p l e RM s m ar below meth c H locs 0 0 (MQ below Qc ar s 0 0 A) (F0 m 5 ls []) := by
    intro rr kk n_
    induction n_ with
    | zero => intro y_12 y_13 y_14 hm; rw [mX13_lays_L5] at hm; cases hm
    | succ n_ ih =>
      intro y_12 y_13 y_14 hm H locs ls hP hD hS hl
      rw [mX13_lays_L5] at hm
      refine lv_iload hx hb dX13_lays_5 (lv_at hl 0 rfl) ?_
      refine lv_bipush (v := 64) hx hb dX13_lays_7 (by decide) ?_
      refine lv_icmp_ge (tgt := 39) hx hb dX13_lays_9 (by decide) (fun c_15 => ?_) (fun c_15 => ?_)
      · replace hm := hm_t c_15 hm
        obtain rfl := Option.some.inj hm
        exact kk _ _ _ hP hD hS (lv_sub hl [] rfl)
      · replace hm := hm_f c_15 hm
        refine lv_aload_n hx hb dX13_lays_12 rfl (lv_at hl 2 rfl) ?_
        refine lv_iload hx hb dX13_lays_13 (lv_at hl 0 rfl) ?_
        refine lv_lload_n hx hb dX13_lays_15 rfl (lv_at hl 1 rfl) ?_
        refine lv_lconst (v := 1) hx hb dX13_lays_16 (by decide) ?_
        refine lv_land hx hb dX13_lays_17 ?_
        refine lv_lconst (v := 1) hx hb dX13_lays_18 (by decide) ?_
        refine W.lcmp hx hb dX13_lays_19 ?_
        obtain ⟨x_17, hreg, hm⟩ := hm_b hm
        have J28 : ∀ (H : Heap) (locs : List Loc) (ls : Array Slot), va_P D classes [(a_p1, .inl (cy 2, n_p1, .inl y_14))] H → va_D A [(a_p1, .inl (cy 2, n_p1, .inl y_14))] → va_S A s.heap H locs → lv_has ls 6 [(5, .int y_13), (3, .long y_12), (0, .ref a_p1)] → W p l e RM s m ar below meth c H locs 0 0 (MQ below Qc ar s 0 0 A) (F0 m 28 ls [.int x_17, .int y_13, .ref a_p1]) := by
          intro H locs ls hP hD hS hl
          obtain ⟨hin, hm⟩ := hm_g hm
          refine va_zast hx hb hK.1 hP hD hS 0 2 rfl rfl hin dX13_lays_28 (fun H locs hP hD hS => ?_)
          have hP : va_P D classes [(a_p1, .inl (cy 2, n_p1, .inl (upd y_14 y_13.toNatClampNeg (vp_nar .boolean x_17))))] H := hP
          have hD : va_D A [(a_p1, .inl (cy 2, n_p1, .inl (upd y_14 y_13.toNatClampNeg (vp_nar .boolean x_17))))] := hD
          refine lv_lload_n hx hb dX13_lays_29 rfl (lv_at hl 1 rfl) ?_
          refine lv_iconst (v := 1) hx hb dX13_lays_30 (by decide) ?_
          refine lv_lshr hx hb dX13_lays_31 rfl ?_
          obtain ⟨x_18, hx_, hm⟩ := hm_b hm
          refine k_topl (y := x_18) (Option.some.inj hx_) ?_
          refine lv_lstore_n (lv' := [(3, .long x_18), (5, .int y_13), (0, .ref a_p1)]) hx hb dX13_lays_32 rfl hl (by decide) rfl (fun ls hl => ?_)
          refine lv_iinc (v := (y_13 + 1)) (lv' := [(5, .int (y_13 + 1)), (3, .long x_18), (0, .ref a_p1)]) hx hb dX13_lays_33 hl (k := 1) rfl rfl (by decide) rfl (fun ls hl => ?_)
          refine lv_goto (tgt := 5) hx hb dX13_lays_36 (by decide) ?_
          exact ih x_18 (y_13 + 1) (upd y_14 y_13.toNatClampNeg (vp_nar .boolean x_17)) hm _ _ _ hP hD hS (lv_sub hl [0, 1, 2] rfl)
        replace hm := hreg
        refine lv_if_ne (tgt := 27) hx hb dX13_lays_20 (by decide) (fun c_16 => ?_) (fun c_16 => ?_)
        · replace hm := hm_f c_16 hm
          refine lv_iconst (v := 0) hx hb dX13_lays_27 (by decide) ?_
          obtain rfl := Option.some.inj hm
          exact J28 _ _ _ hP hD hS (lv_sub hl [0, 1, 2] rfl)
        · replace hm := hm_t c_16 hm
          refine lv_iconst (v := 1) hx hb dX13_lays_23 (by decide) ?_
          refine lv_goto (tgt := 28) hx hb dX13_lays_24 (by decide) ?_
          obtain rfl := Option.some.inj hm
          exact J28 _ _ _ hP hD hS (lv_sub hl [0, 1, 2] rfl)
  obtain ⟨r_19, hL, hm⟩ := hm_b hm
  refine L5 r_19 ?_ k p2 0 f_p1 hL _ _ _ hP hD hS (lv_sub hl [0, 1, 2] rfl)
  intro H locs ls hP hD hS hl
  obtain rfl := Option.some.inj hm
  exact k_vret hx hb hr hlocks hQc hP hS rfl rfl dX13_lays_39
theorem dX12_bits_0 : decode cX12_bits 0 = .ok (.aload_n 0, 1) := by decide +kernel
theorem dX12_bits_1 : decode cX12_bits 1 = .ok (.getfield 39, 3) := by decide +kernel
theorem dX12_bits_4 : decode cX12_bits 4 = .ok (.ifCond .eq 8, 3) := by decide +kernel
theorem dX12_bits_7 : decode cX12_bits 7 = .ok (.bipush 64, 2) := by decide +kernel
theorem dX12_bits_9 : decode cX12_bits 9 = .ok (.goto 5, 3) := by decide +kernel
theorem dX12_bits_12 : decode cX12_bits 12 = .ok (.bipush 32, 2) := by decide +kernel
theorem dX12_bits_14 : decode cX12_bits 14 = .ok (.ireturn, 1) := by decide +kernel
def mX12_bits (v_t_isWide : Int32) : Option (Int32) := (if v_t_isWide = 0 then some 32 else some 64)
set_option maxHeartbeats 4000000 in
set_option maxRecDepth 100000 in
theorem kcX12_bits (l : Launch) (D : va_G) (cy : Nat → ClassId) (g : Nat → Nat) (a_t : Nat) (a_t_cells : Nat) (a_t_page : Nat) (a_t_digits : Nat) (a_t_found : Nat) (a_t_one : Nat) (a_t_other : Nat) (a_t_sum : Nat) (a_t_rest : Nat) (rw_t : Nat → Nat) (v_t_isWide : Int32) (B_t : Nat → Nat → Int32) (f_t_page : Nat → Int32) (v_t_pageMany : Int32) (f_t_digits : Nat → Int32) (v_t_many : Int32) (v_t_isMinus : Int32) (f_t_found : Nat → Int32) (f_t_one : Nat → Int32) (f_t_other : Nat → Int32) (f_t_sum : Nat → Int32) (f_t_rest : Nat → Int32) (R : Int32) (hm : mX12_bits v_t_isWide = some R) : Con l D cy g yX12_bits cX12_bits 1 (some .int) 0 0 0 0 [.ref a_t] (([(a_t, .inr (8, [.int v_t_isWide, .ref a_t_cells, .ref a_t_page, .int v_t_pageMany, .ref a_t_digits, .int v_t_many, .int v_t_isMinus, .ref a_t_found, .ref a_t_one, .ref a_t_other, .ref a_t_sum, .ref a_t_rest])), (a_t_cells, .inl (cy 5, 8, .inr (.inr (.inr (.inr (fun j => some (rw_t j))))))), (a_t_page, .inl (cy 0, 66, .inl f_t_page)), (a_t_digits, .inl (cy 0, 64, .inl f_t_digits)), (a_t_found, .inl (cy 2, 64, .inl f_t_found)), (a_t_one, .inl (cy 2, 65, .inl f_t_one)), (a_t_other, .inl (cy 2, 65, .inl f_t_other)), (a_t_sum, .inl (cy 2, 65, .inl f_t_sum)), (a_t_rest, .inl (cy 2, 65, .inl f_t_rest))] : va_W) ++ (rowsW (cy 2) rw_t B_t ++ ([] : va_W))) (([(a_t, .inr (8, [.int v_t_isWide, .ref a_t_cells, .ref a_t_page, .int v_t_pageMany, .ref a_t_digits, .int v_t_many, .int v_t_isMinus, .ref a_t_found, .ref a_t_one, .ref a_t_other, .ref a_t_sum, .ref a_t_rest])), (a_t_cells, .inl (cy 5, 8, .inr (.inr (.inr (.inr (fun j => some (rw_t j))))))), (a_t_page, .inl (cy 0, 66, .inl f_t_page)), (a_t_digits, .inl (cy 0, 64, .inl f_t_digits)), (a_t_found, .inl (cy 2, 64, .inl f_t_found)), (a_t_one, .inl (cy 2, 65, .inl f_t_one)), (a_t_other, .inl (cy 2, 65, .inl f_t_other)), (a_t_sum, .inl (cy 2, 65, .inl f_t_sum)), (a_t_rest, .inl (cy 2, 65, .inl f_t_rest))] : va_W) ++ (rowsW (cy 2) rw_t B_t ++ ([] : va_W))) (some (.int R)) := by
  refine Con.of (by decide +kernel) (Nat.le_of_ble_eq_true rfl) ?_
  intro p e RM s m ar below meth c A Qc ls hx hb hr hml hown hlocks hnm ht hK hP hD hS hA hR hC hQc hl
  have hown : s.vm.findClass RX12 = some m.cls := hown
  have hl : lv_has ls 1 [(0, .ref a_t)] := hl
  rw [mX12_bits] at hm
  refine lv_aload_n hx hb dX12_bits_0 rfl (lv_at hl 0 rfl) ?_
  refine va_get (D := D) (cl := classes) (ci := 8) (v := .int v_t_isWide) (C := RX12) (T := TX12) (N := 12) hx hb ht in_RX12 hown hK.1 hP 0 rfl rfl 0 (by decide) (ht _ q_1243) (fun _ h9 => h9) rfl dX12_bits_1 ?_
  refine lv_if_eq (tgt := 12) hx hb dX12_bits_4 (by decide) (fun c_1 => ?_) (fun c_1 => ?_)
  · replace hm := hm_t c_1 hm
    refine lv_bipush (v := 32) hx hb dX12_bits_12 (by decide) ?_
    obtain rfl := Option.some.inj hm
    exact k_iret hx hb hr hlocks hQc hP hS rfl rfl dX12_bits_14
  · replace hm := hm_f c_1 hm
    refine lv_bipush (v := 64) hx hb dX12_bits_7 (by decide) ?_
    refine lv_goto (tgt := 14) hx hb dX12_bits_9 (by decide) ?_
    obtain rfl := Option.some.inj hm
    exact k_iret hx hb hr hlocks hQc hP hS rfl rfl dX12_bits_14
theorem dX12_told_0 : decode cX12_told 0 = .ok (.lconst 0, 1) := by decide +kernel
theorem dX12_told_1 : decode cX12_told 1 = .ok (.lstore_n 3, 1) := by decide +kernel
theorem dX12_told_2 : decode cX12_told 2 = .ok (.bipush 63, 2) := by decide +kernel
theorem dX12_told_4 : decode cX12_told 4 = .ok (.istore 5, 2) := by decide +kernel
theorem dX12_told_6 : decode cX12_told 6 = .ok (.iload 5, 2) := by decide +kernel
theorem dX12_told_8 : decode cX12_told 8 = .ok (.ifCond .lt 34, 3) := by decide +kernel
theorem dX12_told_11 : decode cX12_told 11 = .ok (.lload_n 3, 1) := by decide +kernel
theorem dX12_told_12 : decode cX12_told 12 = .ok (.ldc2_w 51, 3) := by decide +kernel
theorem dX12_told_15 : decode cX12_told 15 = .ok (.lmul, 1) := by decide +kernel
theorem dX12_told_16 : decode cX12_told 16 = .ok (.aload_n 1, 1) := by decide +kernel
theorem dX12_told_17 : decode cX12_told 17 = .ok (.iload 5, 2) := by decide +kernel
theorem dX12_told_19 : decode cX12_told 19 = .ok (.iload_n 2, 1) := by decide +kernel
theorem dX12_told_20 : decode cX12_told 20 = .ok (.iconst 1, 1) := by decide +kernel
theorem dX12_told_21 : decode cX12_told 21 = .ok (.isub, 1) := by decide +kernel
theorem dX12_told_22 : decode cX12_told 22 = .ok (.invokestatic 53, 3) := by decide +kernel
theorem dX12_told_25 : decode cX12_told 25 = .ok (.baload, 1) := by decide +kernel
theorem dX12_told_26 : decode cX12_told 26 = .ok (.ifCond .eq 7, 3) := by decide +kernel
theorem dX12_told_29 : decode cX12_told 29 = .ok (.lconst 1, 1) := by decide +kernel
theorem dX12_told_30 : decode cX12_told 30 = .ok (.goto 4, 3) := by decide +kernel
theorem dX12_told_33 : decode cX12_told 33 = .ok (.lconst 0, 1) := by decide +kernel
theorem dX12_told_34 : decode cX12_told 34 = .ok (.ladd, 1) := by decide +kernel
theorem dX12_told_35 : decode cX12_told 35 = .ok (.lstore_n 3, 1) := by decide +kernel
theorem dX12_told_36 : decode cX12_told 36 = .ok (.iinc 5 (-1), 3) := by decide +kernel
theorem dX12_told_39 : decode cX12_told 39 = .ok (.goto (-33), 3) := by decide +kernel
theorem dX12_told_42 : decode cX12_told 42 = .ok (.lload_n 3, 1) := by decide +kernel
theorem dX12_told_43 : decode cX12_told 43 = .ok (.lreturn, 1) := by decide +kernel
def mX12_told_r_L6 (p2 : Int32) (B_t : Nat → Nat → Int32) (i1 : Nat) : Nat → Int64 → Int32 → Option (Int64)
  | 0, _, _ => none
  | n_ + 1, y_13, y_14 => (if y_14 < 0 then some y_13 else ((some (if (p2 - 1) < y_14 then (p2 - 1) else y_14) : Option Int32).bind (fun x_16 => (if x_16 < 0 ∨ 64 ≤ x_16.toNatClampNeg then none else (((if ((B_t i1) x_16.toNatClampNeg) = 0 then some 0 else some 1) : Option (Int64)).bind (fun x_18 => ((some ((y_13 * 2) + x_18) : Option Int64).bind (fun x_19 => (mX12_told_r_L6 p2 B_t i1 n_ x_19 (y_14 + (-1)))))))))))
def mX12_told_r (k : Nat) (B_t : Nat → Nat → Int32) (p2 : Int32) (i1 : Nat) : Option (Int64) := ((mX12_told_r_L6 p2 B_t i1 k 0 63).bind (fun r_20 => some r_20))
set_option maxHeartbeats 4000000 in
set_option maxRecDepth 100000 in
theorem kcX12_told_r (l : Launch) (D : va_G) (cy : Nat → ClassId) (g : Nat → Nat) (a_t : Nat) (a_t_cells : Nat) (a_t_page : Nat) (a_t_digits : Nat) (a_t_found : Nat) (a_t_one : Nat) (a_t_other : Nat) (a_t_sum : Nat) (a_t_rest : Nat) (rw_t : Nat → Nat) (v_t_isWide : Int32) (B_t : Nat → Nat → Int32) (f_t_page : Nat → Int32) (v_t_pageMany : Int32) (f_t_digits : Nat → Int32) (v_t_many : Int32) (v_t_isMinus : Int32) (f_t_found : Nat → Int32) (f_t_one : Nat → Int32) (f_t_other : Nat → Int32) (f_t_sum : Nat → Int32) (f_t_rest : Nat → Int32) (p2 : Int32) (i1 : Nat) (h_i1 : i1 < 8) (k : Nat) (R : Int64) (hm : mX12_told_r k B_t p2 i1 = some R) : Con l D cy g yX12_told cX12_told 6 (some .long) 1 16 0 0 [.ref a_t, .ref (rw_t i1), .int p2] (([(a_t, .inr (8, [.int v_t_isWide, .ref a_t_cells, .ref a_t_page, .int v_t_pageMany, .ref a_t_digits, .int v_t_many, .int v_t_isMinus, .ref a_t_found, .ref a_t_one, .ref a_t_other, .ref a_t_sum, .ref a_t_rest])), (a_t_cells, .inl (cy 5, 8, .inr (.inr (.inr (.inr (fun j => some (rw_t j))))))), (a_t_page, .inl (cy 0, 66, .inl f_t_page)), (a_t_digits, .inl (cy 0, 64, .inl f_t_digits)), (a_t_found, .inl (cy 2, 64, .inl f_t_found)), (a_t_one, .inl (cy 2, 65, .inl f_t_one)), (a_t_other, .inl (cy 2, 65, .inl f_t_other)), (a_t_sum, .inl (cy 2, 65, .inl f_t_sum)), (a_t_rest, .inl (cy 2, 65, .inl f_t_rest))] : va_W) ++ (rowsW (cy 2) rw_t B_t ++ ([] : va_W))) (([(a_t, .inr (8, [.int v_t_isWide, .ref a_t_cells, .ref a_t_page, .int v_t_pageMany, .ref a_t_digits, .int v_t_many, .int v_t_isMinus, .ref a_t_found, .ref a_t_one, .ref a_t_other, .ref a_t_sum, .ref a_t_rest])), (a_t_cells, .inl (cy 5, 8, .inr (.inr (.inr (.inr (fun j => some (rw_t j))))))), (a_t_page, .inl (cy 0, 66, .inl f_t_page)), (a_t_digits, .inl (cy 0, 64, .inl f_t_digits)), (a_t_found, .inl (cy 2, 64, .inl f_t_found)), (a_t_one, .inl (cy 2, 65, .inl f_t_one)), (a_t_other, .inl (cy 2, 65, .inl f_t_other)), (a_t_sum, .inl (cy 2, 65, .inl f_t_sum)), (a_t_rest, .inl (cy 2, 65, .inl f_t_rest))] : va_W) ++ (rowsW (cy 2) rw_t B_t ++ ([] : va_W))) (some (.long R)) := by
  refine Con.of (by decide +kernel) (Nat.le_of_ble_eq_true rfl) ?_
  intro p e RM s m ar below meth c A Qc ls hx hb hr hml hown hlocks hnm ht hK hP hD hS hA hR hC hQc hl
  have hown : s.vm.findClass RX12 = some m.cls := hown
  have hl : lv_has ls 6 [(0, .ref a_t), (1, .ref (rw_t i1)), (2, .int p2)] := hl
  rw [mX12_told_r] at hm
  refine lv_lconst (v := 0) hx hb dX12_told_0 (by decide) ?_
  refine lv_lstore_n (lv' := [(3, .long 0), (0, .ref a_t), (1, .ref (rw_t i1)), (2, .int p2)]) hx hb dX12_told_1 rfl hl (by decide) rfl (fun ls hl => ?_)
  refine lv_bipush (v := 63) hx hb dX12_told_2 (by decide) ?_
  refine lv_istore (lv' := [(5, .int 63), (3, .long 0), (0, .ref a_t), (1, .ref (rw_t i1)), (2, .int p2)]) hx hb dX12_told_4 hl (by decide) rfl (fun ls hl => ?_)
  have L6 : ∀ (rr : Int64) (kk : ∀ (H : Heap) (locs : List Loc) (ls : Array Slot), va_P D classes (([(a_t, .inr (8, [.int v_t_isWide, .ref a_t_cells, .ref a_t_page, .int v_t_pageMany, .ref a_t_digits, .int v_t_many, .int v_t_isMinus, .ref a_t_found, .ref a_t_one, .ref a_t_other, .ref a_t_sum, .ref a_t_rest])), (a_t_cells, .inl (cy 5, 8, .inr (.inr (.inr (.inr (fun j => some (rw_t j))))))), (a_t_page, .inl (cy 0, 66, .inl f_t_page)), (a_t_digits, .inl (cy 0, 64, .inl f_t_digits)), (a_t_found, .inl (cy 2, 64, .inl f_t_found)), (a_t_one, .inl (cy 2, 65, .inl f_t_one)), (a_t_other, .inl (cy 2, 65, .inl f_t_other)), (a_t_sum, .inl (cy 2, 65, .inl f_t_sum)), (a_t_rest, .inl (cy 2, 65, .inl f_t_rest))] : va_W) ++ (rowsW (cy 2) rw_t B_t ++ ([] : va_W))) H → va_D A (([(a_t, .inr (8, [.int v_t_isWide, .ref a_t_cells, .ref a_t_page, .int v_t_pageMany, .ref a_t_digits, .int v_t_many, .int v_t_isMinus, .ref a_t_found, .ref a_t_one, .ref a_t_other, .ref a_t_sum, .ref a_t_rest])), (a_t_cells, .inl (cy 5, 8, .inr (.inr (.inr (.inr (fun j => some (rw_t j))))))), (a_t_page, .inl (cy 0, 66, .inl f_t_page)), (a_t_digits, .inl (cy 0, 64, .inl f_t_digits)), (a_t_found, .inl (cy 2, 64, .inl f_t_found)), (a_t_one, .inl (cy 2, 65, .inl f_t_one)), (a_t_other, .inl (cy 2, 65, .inl f_t_other)), (a_t_sum, .inl (cy 2, 65, .inl f_t_sum)), (a_t_rest, .inl (cy 2, 65, .inl f_t_rest))] : va_W) ++ (rowsW (cy 2) rw_t B_t ++ ([] : va_W))) → va_S A s.heap H locs → lv_has ls 6 [(3, .long rr)] → W p l e RM s m ar below meth c H locs 0 0 (MQ below Qc ar s 0 0 A) (F0 m 42 ls [])) (n_ : Nat), ∀ (y_13 : Int64) (y_14 : Int32), mX12_told_r_L6 p2 B_t i1 n_ y_13 y_14 = some rr → ∀ (H : Heap) (locs : List Loc) (ls : Array Slot), va_P D classes (([(a_t, .inr (8, [.int v_t_isWide, .ref a_t_cells, .ref a_t_page, .int v_t_pageMany, .ref a_t_digits, .int v_t_many, .int v_t_isMinus, .ref a_t_found, .ref a_t_one, .ref a_t_other, .ref a_t_sum, .ref a_t_rest])), (a_t_cells, .inl (cy 5, 8, .inr (.inr (.inr (.inr (fun j => some (rw_t j))))))), (a_t_page, .inl (cy 0, 66, .inl f_t_page)), (a_t_digits, .inl (cy 0, 64, .inl f_t_digits)), (a_t_found, .inl (cy 2, 64, .inl f_t_found)), (a_t_one, .inl (cy 2, 65, .inl f_t_one)), (a_t_other, .inl (cy 2, 65, .inl f_t_other)), (a_t_sum, .inl (cy 2, 65, .inl f_t_sum)), (a_t_rest, .inl (cy 2, 65, .inl f_t_rest))] : va_W) ++ (rowsW (cy 2) rw_t B_t ++ ([] : va_W))) H → va_D A (([(a_t, .inr (8, [.int v_t_isWide, .ref a_t_cells, .ref a_t_page, .int v_t_pageMany, .ref a_t_digits, .int v_t_many, .int v_t_isMinus, .ref a_t_found, .ref a_t_one, .ref a_t_other, .ref a_t_sum, .ref a_t_rest])), (a_t_cells, .inl (cy 5, 8, .inr (.inr (.inr (.inr (fun j => some (rw_t j))))))), (a_t_page, .inl (cy 0, 66, .inl f_t_page)), (a_t_digits, .inl (cy 0, 64, .inl f_t_digits)), (a_t_found, .inl (cy 2, 64, .inl f_t_found)), (a_t_one, .inl (cy 2, 65, .inl f_t_one)), (a_t_other, .inl (cy 2, 65, .inl f_t_other)), (a_t_sum, .inl (cy 2, 65, .inl f_t_sum)), (a_t_rest, .inl (cy 2, 65, .inl f_t_rest))] : va_W) ++ (rowsW (cy 2) rw_t B_t ++ ([] : va_W))) → va_S A s.heap H locs → lv_has ls 6 [(5, .int y_14), (3, .long y_13), (1, .ref (rw_t i1)), (2, .int p2)] → W p l e RM s m ar below meth c H locs 0 0 (MQ below Qc ar s 0 0 A) (F0 m 6 ls []) := by
    intro rr kk n_
    induction n_ with
    | zero => intro y_13 y_14 hm; rw [mX12_told_r_L6] at hm; cases hm
    | succ n_ ih =>
      intro y_13 y_14 hm H locs ls hP hD hS hl
      rw [mX12_told_r_L6] at hm
      refine lv_iload hx hb dX12_told_6 (lv_at hl 0 rfl) ?_
      refine lv_if_lt (tgt := 42) hx hb dX12_told_8 (by decide) (fun c_15 => ?_) (fun c_15 => ?_)
      · replace hm := hm_t c_15 hm
        obtain rfl := Option.some.inj hm
        exact kk _ _ _ hP hD hS (lv_sub hl [1] rfl)
      · replace hm := hm_f c_15 hm
        refine lv_lload_n hx hb dX12_told_11 rfl (lv_at hl 1 rfl) ?_
        refine lv_ldc2 (v := 2) hx hb hown (ht _ q_1362) dX12_told_12 ?_
        refine lv_lmul hx hb dX12_told_15 ?_
        refine lv_aload_n hx hb dX12_told_16 rfl (lv_at hl 2 rfl) ?_
        refine lv_iload hx hb dX12_told_17 (lv_at hl 0 rfl) ?_
        refine lv_iload_n hx hb dX12_told_19 rfl (lv_at hl 3 rfl) ?_
        refine lv_iconst (v := 1) hx hb dX12_told_20 (by decide) ?_
        refine lv_isub hx hb dX12_told_21 ?_
        refine va_mmin hx hb (hml.trans hl.1.symm) hown (ht _ q_1363) (ht _ q_430) (ht _ q_46) (ht _ q_431) (by rw [hR]; exact Nat.le_of_ble_eq_true rfl) (by rw [hR]; exact Nat.le_of_ble_eq_true rfl) (by rw [hR]; exact Nat.le_of_ble_eq_true rfl) (by rw [hR]; exact Nat.le_of_ble_eq_true rfl) dX12_told_22 ?_
        obtain ⟨x_16, hx_, hm⟩ := hm_b hm
        refine k_topi (y := x_16) (Option.some.inj hx_) ?_
        obtain ⟨hin, hm⟩ := hm_g hm
        refine va_zald hx hb hK.1 hP (9 + i1) 2 (row_get0 rfl h_i1) rfl hin dX12_told_25 ?_
        obtain ⟨x_18, hreg, hm⟩ := hm_b hm
        have J34 : ∀ (H : Heap) (locs : List Loc) (ls : Array Slot), va_P D classes (([(a_t, .inr (8, [.int v_t_isWide, .ref a_t_cells, .ref a_t_page, .int v_t_pageMany, .ref a_t_digits, .int v_t_many, .int v_t_isMinus, .ref a_t_found, .ref a_t_one, .ref a_t_other, .ref a_t_sum, .ref a_t_rest])), (a_t_cells, .inl (cy 5, 8, .inr (.inr (.inr (.inr (fun j => some (rw_t j))))))), (a_t_page, .inl (cy 0, 66, .inl f_t_page)), (a_t_digits, .inl (cy 0, 64, .inl f_t_digits)), (a_t_found, .inl (cy 2, 64, .inl f_t_found)), (a_t_one, .inl (cy 2, 65, .inl f_t_one)), (a_t_other, .inl (cy 2, 65, .inl f_t_other)), (a_t_sum, .inl (cy 2, 65, .inl f_t_sum)), (a_t_rest, .inl (cy 2, 65, .inl f_t_rest))] : va_W) ++ (rowsW (cy 2) rw_t B_t ++ ([] : va_W))) H → va_D A (([(a_t, .inr (8, [.int v_t_isWide, .ref a_t_cells, .ref a_t_page, .int v_t_pageMany, .ref a_t_digits, .int v_t_many, .int v_t_isMinus, .ref a_t_found, .ref a_t_one, .ref a_t_other, .ref a_t_sum, .ref a_t_rest])), (a_t_cells, .inl (cy 5, 8, .inr (.inr (.inr (.inr (fun j => some (rw_t j))))))), (a_t_page, .inl (cy 0, 66, .inl f_t_page)), (a_t_digits, .inl (cy 0, 64, .inl f_t_digits)), (a_t_found, .inl (cy 2, 64, .inl f_t_found)), (a_t_one, .inl (cy 2, 65, .inl f_t_one)), (a_t_other, .inl (cy 2, 65, .inl f_t_other)), (a_t_sum, .inl (cy 2, 65, .inl f_t_sum)), (a_t_rest, .inl (cy 2, 65, .inl f_t_rest))] : va_W) ++ (rowsW (cy 2) rw_t B_t ++ ([] : va_W))) → va_S A s.heap H locs → lv_has ls 6 [(5, .int y_14), (1, .ref (rw_t i1)), (2, .int p2)] → W p l e RM s m ar below meth c H locs 0 0 (MQ below Qc ar s 0 0 A) (F0 m 34 ls [.long x_18, .long (y_13 * 2)]) := by
          intro H locs ls hP hD hS hl
          refine lv_ladd hx hb dX12_told_34 ?_
          obtain ⟨x_19, hx_, hm⟩ := hm_b hm
          refine k_topl (y := x_19) (Option.some.inj hx_) ?_
          refine lv_lstore_n (lv' := [(3, .long x_19), (5, .int y_14), (1, .ref (rw_t i1)), (2, .int p2)]) hx hb dX12_told_35 rfl hl (by decide) rfl (fun ls hl => ?_)
          refine lv_iinc (v := (y_14 + (-1))) (lv' := [(5, .int (y_14 + (-1))), (3, .long x_19), (1, .ref (rw_t i1)), (2, .int p2)]) hx hb dX12_told_36 hl (k := 1) rfl rfl (by decide) rfl (fun ls hl => ?_)
          refine lv_goto (tgt := 6) hx hb dX12_told_39 (by decide) ?_
          exact ih x_19 (y_14 + (-1)) hm _ _ _ hP hD hS (lv_sub hl [0, 1, 2, 3] rfl)
        replace hm := hreg
        refine lv_if_eq (tgt := 33) hx hb dX12_told_26 (by decide) (fun c_17 => ?_) (fun c_17 => ?_)
        · replace hm := hm_t c_17 hm
          refine lv_lconst (v := 0) hx hb dX12_told_33 (by decide) ?_
          obtain rfl := Option.some.inj hm
          exact J34 _ _ _ hP hD hS (lv_sub hl [0, 2, 3] rfl)
        · replace hm := hm_f c_17 hm
          refine lv_lconst (v := 1) hx hb dX12_told_29 (by decide) ?_
          refine lv_goto (tgt := 34) hx hb dX12_told_30 (by decide) ?_
          obtain rfl := Option.some.inj hm
          exact J34 _ _ _ hP hD hS (lv_sub hl [0, 2, 3] rfl)
  obtain ⟨r_20, hL, hm⟩ := hm_b hm
  refine L6 r_20 ?_ k 0 63 hL _ _ _ hP hD hS (lv_sub hl [0, 1, 3, 4] rfl)
  intro H locs ls hP hD hS hl
  refine lv_lload_n hx hb dX12_told_42 rfl (lv_at hl 0 rfl) ?_
  obtain rfl := Option.some.inj hm
  exact k_lret hx hb hr hlocks hQc hP hS rfl rfl dX12_told_43
def mX12_told_f_L6 (p2 : Int32) (f_t_found : Nat → Int32) : Nat → Int64 → Int32 → Option (Int64)
  | 0, _, _ => none
  | n_ + 1, y_13, y_14 => (if y_14 < 0 then some y_13 else ((some (if (p2 - 1) < y_14 then (p2 - 1) else y_14) : Option Int32).bind (fun x_16 => (if x_16 < 0 ∨ 64 ≤ x_16.toNatClampNeg then none else (((if (f_t_found x_16.toNatClampNeg) = 0 then some 0 else some 1) : Option (Int64)).bind (fun x_18 => ((some ((y_13 * 2) + x_18) : Option Int64).bind (fun x_19 => (mX12_told_f_L6 p2 f_t_found n_ x_19 (y_14 + (-1)))))))))))
def mX12_told_f (k : Nat) (f_t_found : Nat → Int32) (p2 : Int32) : Option (Int64) := ((mX12_told_f_L6 p2 f_t_found k 0 63).bind (fun r_20 => some r_20))
set_option maxHeartbeats 4000000 in
set_option maxRecDepth 100000 in
theorem kcX12_told_f (l : Launch) (D : va_G) (cy : Nat → ClassId) (g : Nat → Nat) (a_t : Nat) (a_t_cells : Nat) (a_t_page : Nat) (a_t_digits : Nat) (a_t_found : Nat) (a_t_one : Nat) (a_t_other : Nat) (a_t_sum : Nat) (a_t_rest : Nat) (rw_t : Nat → Nat) (v_t_isWide : Int32) (B_t : Nat → Nat → Int32) (f_t_page : Nat → Int32) (v_t_pageMany : Int32) (f_t_digits : Nat → Int32) (v_t_many : Int32) (v_t_isMinus : Int32) (f_t_found : Nat → Int32) (f_t_one : Nat → Int32) (f_t_other : Nat → Int32) (f_t_sum : Nat → Int32) (f_t_rest : Nat → Int32) (p2 : Int32) (k : Nat) (R : Int64) (hm : mX12_told_f k f_t_found p2 = some R) : Con l D cy g yX12_told cX12_told 6 (some .long) 1 16 0 0 [.ref a_t, .ref a_t_found, .int p2] (([(a_t, .inr (8, [.int v_t_isWide, .ref a_t_cells, .ref a_t_page, .int v_t_pageMany, .ref a_t_digits, .int v_t_many, .int v_t_isMinus, .ref a_t_found, .ref a_t_one, .ref a_t_other, .ref a_t_sum, .ref a_t_rest])), (a_t_cells, .inl (cy 5, 8, .inr (.inr (.inr (.inr (fun j => some (rw_t j))))))), (a_t_page, .inl (cy 0, 66, .inl f_t_page)), (a_t_digits, .inl (cy 0, 64, .inl f_t_digits)), (a_t_found, .inl (cy 2, 64, .inl f_t_found)), (a_t_one, .inl (cy 2, 65, .inl f_t_one)), (a_t_other, .inl (cy 2, 65, .inl f_t_other)), (a_t_sum, .inl (cy 2, 65, .inl f_t_sum)), (a_t_rest, .inl (cy 2, 65, .inl f_t_rest))] : va_W) ++ (rowsW (cy 2) rw_t B_t ++ ([] : va_W))) (([(a_t, .inr (8, [.int v_t_isWide, .ref a_t_cells, .ref a_t_page, .int v_t_pageMany, .ref a_t_digits, .int v_t_many, .int v_t_isMinus, .ref a_t_found, .ref a_t_one, .ref a_t_other, .ref a_t_sum, .ref a_t_rest])), (a_t_cells, .inl (cy 5, 8, .inr (.inr (.inr (.inr (fun j => some (rw_t j))))))), (a_t_page, .inl (cy 0, 66, .inl f_t_page)), (a_t_digits, .inl (cy 0, 64, .inl f_t_digits)), (a_t_found, .inl (cy 2, 64, .inl f_t_found)), (a_t_one, .inl (cy 2, 65, .inl f_t_one)), (a_t_other, .inl (cy 2, 65, .inl f_t_other)), (a_t_sum, .inl (cy 2, 65, .inl f_t_sum)), (a_t_rest, .inl (cy 2, 65, .inl f_t_rest))] : va_W) ++ (rowsW (cy 2) rw_t B_t ++ ([] : va_W))) (some (.long R)) := by
  refine Con.of (by decide +kernel) (Nat.le_of_ble_eq_true rfl) ?_
  intro p e RM s m ar below meth c A Qc ls hx hb hr hml hown hlocks hnm ht hK hP hD hS hA hR hC hQc hl
  have hown : s.vm.findClass RX12 = some m.cls := hown
  have hl : lv_has ls 6 [(0, .ref a_t), (1, .ref a_t_found), (2, .int p2)] := hl
  rw [mX12_told_f] at hm
  refine lv_lconst (v := 0) hx hb dX12_told_0 (by decide) ?_
  refine lv_lstore_n (lv' := [(3, .long 0), (0, .ref a_t), (1, .ref a_t_found), (2, .int p2)]) hx hb dX12_told_1 rfl hl (by decide) rfl (fun ls hl => ?_)
  refine lv_bipush (v := 63) hx hb dX12_told_2 (by decide) ?_
  refine lv_istore (lv' := [(5, .int 63), (3, .long 0), (0, .ref a_t), (1, .ref a_t_found), (2, .int p2)]) hx hb dX12_told_4 hl (by decide) rfl (fun ls hl => ?_)
  have L6 : ∀ (rr : Int64) (kk : ∀ (H : Heap) (locs : List Loc) (ls : Array Slot), va_P D classes (([(a_t, .inr (8, [.int v_t_isWide, .ref a_t_cells, .ref a_t_page, .int v_t_pageMany, .ref a_t_digits, .int v_t_many, .int v_t_isMinus, .ref a_t_found, .ref a_t_one, .ref a_t_other, .ref a_t_sum, .ref a_t_rest])), (a_t_cells, .inl (cy 5, 8, .inr (.inr (.inr (.inr (fun j => some (rw_t j))))))), (a_t_page, .inl (cy 0, 66, .inl f_t_page)), (a_t_digits, .inl (cy 0, 64, .inl f_t_digits)), (a_t_found, .inl (cy 2, 64, .inl f_t_found)), (a_t_one, .inl (cy 2, 65, .inl f_t_one)), (a_t_other, .inl (cy 2, 65, .inl f_t_other)), (a_t_sum, .inl (cy 2, 65, .inl f_t_sum)), (a_t_rest, .inl (cy 2, 65, .inl f_t_rest))] : va_W) ++ (rowsW (cy 2) rw_t B_t ++ ([] : va_W))) H → va_D A (([(a_t, .inr (8, [.int v_t_isWide, .ref a_t_cells, .ref a_t_page, .int v_t_pageMany, .ref a_t_digits, .int v_t_many, .int v_t_isMinus, .ref a_t_found, .ref a_t_one, .ref a_t_other, .ref a_t_sum, .ref a_t_rest])), (a_t_cells, .inl (cy 5, 8, .inr (.inr (.inr (.inr (fun j => some (rw_t j))))))), (a_t_page, .inl (cy 0, 66, .inl f_t_page)), (a_t_digits, .inl (cy 0, 64, .inl f_t_digits)), (a_t_found, .inl (cy 2, 64, .inl f_t_found)), (a_t_one, .inl (cy 2, 65, .inl f_t_one)), (a_t_other, .inl (cy 2, 65, .inl f_t_other)), (a_t_sum, .inl (cy 2, 65, .inl f_t_sum)), (a_t_rest, .inl (cy 2, 65, .inl f_t_rest))] : va_W) ++ (rowsW (cy 2) rw_t B_t ++ ([] : va_W))) → va_S A s.heap H locs → lv_has ls 6 [(3, .long rr)] → W p l e RM s m ar below meth c H locs 0 0 (MQ below Qc ar s 0 0 A) (F0 m 42 ls [])) (n_ : Nat), ∀ (y_13 : Int64) (y_14 : Int32), mX12_told_f_L6 p2 f_t_found n_ y_13 y_14 = some rr → ∀ (H : Heap) (locs : List Loc) (ls : Array Slot), va_P D classes (([(a_t, .inr (8, [.int v_t_isWide, .ref a_t_cells, .ref a_t_page, .int v_t_pageMany, .ref a_t_digits, .int v_t_many, .int v_t_isMinus, .ref a_t_found, .ref a_t_one, .ref a_t_other, .ref a_t_sum, .ref a_t_rest])), (a_t_cells, .inl (cy 5, 8, .inr (.inr (.inr (.inr (fun j => some (rw_t j))))))), (a_t_page, .inl (cy 0, 66, .inl f_t_page)), (a_t_digits, .inl (cy 0, 64, .inl f_t_digits)), (a_t_found, .inl (cy 2, 64, .inl f_t_found)), (a_t_one, .inl (cy 2, 65, .inl f_t_one)), (a_t_other, .inl (cy 2, 65, .inl f_t_other)), (a_t_sum, .inl (cy 2, 65, .inl f_t_sum)), (a_t_rest, .inl (cy 2, 65, .inl f_t_rest))] : va_W) ++ (rowsW (cy 2) rw_t B_t ++ ([] : va_W))) H → va_D A (([(a_t, .inr (8, [.int v_t_isWide, .ref a_t_cells, .ref a_t_page, .int v_t_pageMany, .ref a_t_digits, .int v_t_many, .int v_t_isMinus, .ref a_t_found, .ref a_t_one, .ref a_t_other, .ref a_t_sum, .ref a_t_rest])), (a_t_cells, .inl (cy 5, 8, .inr (.inr (.inr (.inr (fun j => some (rw_t j))))))), (a_t_page, .inl (cy 0, 66, .inl f_t_page)), (a_t_digits, .inl (cy 0, 64, .inl f_t_digits)), (a_t_found, .inl (cy 2, 64, .inl f_t_found)), (a_t_one, .inl (cy 2, 65, .inl f_t_one)), (a_t_other, .inl (cy 2, 65, .inl f_t_other)), (a_t_sum, .inl (cy 2, 65, .inl f_t_sum)), (a_t_rest, .inl (cy 2, 65, .inl f_t_rest))] : va_W) ++ (rowsW (cy 2) rw_t B_t ++ ([] : va_W))) → va_S A s.heap H locs → lv_has ls 6 [(5, .int y_14), (3, .long y_13), (1, .ref a_t_found), (2, .int p2)] → W p l e RM s m ar below meth c H locs 0 0 (MQ below Qc ar s 0 0 A) (F0 m 6 ls []) := by
    intro rr kk n_
    induction n_ with
    | zero => intro y_13 y_14 hm; rw [mX12_told_f_L6] at hm; cases hm
    | succ n_ ih =>
      intro y_13 y_14 hm H locs ls hP hD hS hl
      rw [mX12_told_f_L6] at hm
      refine lv_iload hx hb dX12_told_6 (lv_at hl 0 rfl) ?_
      refine lv_if_lt (tgt := 42) hx hb dX12_told_8 (by decide) (fun c_15 => ?_) (fun c_15 => ?_)
      · replace hm := hm_t c_15 hm
        obtain rfl := Option.some.inj hm
        exact kk _ _ _ hP hD hS (lv_sub hl [1] rfl)
      · replace hm := hm_f c_15 hm
        refine lv_lload_n hx hb dX12_told_11 rfl (lv_at hl 1 rfl) ?_
        refine lv_ldc2 (v := 2) hx hb hown (ht _ q_1362) dX12_told_12 ?_
        refine lv_lmul hx hb dX12_told_15 ?_
        refine lv_aload_n hx hb dX12_told_16 rfl (lv_at hl 2 rfl) ?_
        refine lv_iload hx hb dX12_told_17 (lv_at hl 0 rfl) ?_
        refine lv_iload_n hx hb dX12_told_19 rfl (lv_at hl 3 rfl) ?_
        refine lv_iconst (v := 1) hx hb dX12_told_20 (by decide) ?_
        refine lv_isub hx hb dX12_told_21 ?_
        refine va_mmin hx hb (hml.trans hl.1.symm) hown (ht _ q_1363) (ht _ q_430) (ht _ q_46) (ht _ q_431) (by rw [hR]; exact Nat.le_of_ble_eq_true rfl) (by rw [hR]; exact Nat.le_of_ble_eq_true rfl) (by rw [hR]; exact Nat.le_of_ble_eq_true rfl) (by rw [hR]; exact Nat.le_of_ble_eq_true rfl) dX12_told_22 ?_
        obtain ⟨x_16, hx_, hm⟩ := hm_b hm
        refine k_topi (y := x_16) (Option.some.inj hx_) ?_
        obtain ⟨hin, hm⟩ := hm_g hm
        refine va_zald hx hb hK.1 hP 4 2 rfl rfl hin dX12_told_25 ?_
        obtain ⟨x_18, hreg, hm⟩ := hm_b hm
        have J34 : ∀ (H : Heap) (locs : List Loc) (ls : Array Slot), va_P D classes (([(a_t, .inr (8, [.int v_t_isWide, .ref a_t_cells, .ref a_t_page, .int v_t_pageMany, .ref a_t_digits, .int v_t_many, .int v_t_isMinus, .ref a_t_found, .ref a_t_one, .ref a_t_other, .ref a_t_sum, .ref a_t_rest])), (a_t_cells, .inl (cy 5, 8, .inr (.inr (.inr (.inr (fun j => some (rw_t j))))))), (a_t_page, .inl (cy 0, 66, .inl f_t_page)), (a_t_digits, .inl (cy 0, 64, .inl f_t_digits)), (a_t_found, .inl (cy 2, 64, .inl f_t_found)), (a_t_one, .inl (cy 2, 65, .inl f_t_one)), (a_t_other, .inl (cy 2, 65, .inl f_t_other)), (a_t_sum, .inl (cy 2, 65, .inl f_t_sum)), (a_t_rest, .inl (cy 2, 65, .inl f_t_rest))] : va_W) ++ (rowsW (cy 2) rw_t B_t ++ ([] : va_W))) H → va_D A (([(a_t, .inr (8, [.int v_t_isWide, .ref a_t_cells, .ref a_t_page, .int v_t_pageMany, .ref a_t_digits, .int v_t_many, .int v_t_isMinus, .ref a_t_found, .ref a_t_one, .ref a_t_other, .ref a_t_sum, .ref a_t_rest])), (a_t_cells, .inl (cy 5, 8, .inr (.inr (.inr (.inr (fun j => some (rw_t j))))))), (a_t_page, .inl (cy 0, 66, .inl f_t_page)), (a_t_digits, .inl (cy 0, 64, .inl f_t_digits)), (a_t_found, .inl (cy 2, 64, .inl f_t_found)), (a_t_one, .inl (cy 2, 65, .inl f_t_one)), (a_t_other, .inl (cy 2, 65, .inl f_t_other)), (a_t_sum, .inl (cy 2, 65, .inl f_t_sum)), (a_t_rest, .inl (cy 2, 65, .inl f_t_rest))] : va_W) ++ (rowsW (cy 2) rw_t B_t ++ ([] : va_W))) → va_S A s.heap H locs → lv_has ls 6 [(5, .int y_14), (1, .ref a_t_found), (2, .int p2)] → W p l e RM s m ar below meth c H locs 0 0 (MQ below Qc ar s 0 0 A) (F0 m 34 ls [.long x_18, .long (y_13 * 2)]) := by
          intro H locs ls hP hD hS hl
          refine lv_ladd hx hb dX12_told_34 ?_
          obtain ⟨x_19, hx_, hm⟩ := hm_b hm
          refine k_topl (y := x_19) (Option.some.inj hx_) ?_
          refine lv_lstore_n (lv' := [(3, .long x_19), (5, .int y_14), (1, .ref a_t_found), (2, .int p2)]) hx hb dX12_told_35 rfl hl (by decide) rfl (fun ls hl => ?_)
          refine lv_iinc (v := (y_14 + (-1))) (lv' := [(5, .int (y_14 + (-1))), (3, .long x_19), (1, .ref a_t_found), (2, .int p2)]) hx hb dX12_told_36 hl (k := 1) rfl rfl (by decide) rfl (fun ls hl => ?_)
          refine lv_goto (tgt := 6) hx hb dX12_told_39 (by decide) ?_
          exact ih x_19 (y_14 + (-1)) hm _ _ _ hP hD hS (lv_sub hl [0, 1, 2, 3] rfl)
        replace hm := hreg
        refine lv_if_eq (tgt := 33) hx hb dX12_told_26 (by decide) (fun c_17 => ?_) (fun c_17 => ?_)
        · replace hm := hm_t c_17 hm
          refine lv_lconst (v := 0) hx hb dX12_told_33 (by decide) ?_
          obtain rfl := Option.some.inj hm
          exact J34 _ _ _ hP hD hS (lv_sub hl [0, 2, 3] rfl)
        · replace hm := hm_f c_17 hm
          refine lv_lconst (v := 1) hx hb dX12_told_29 (by decide) ?_
          refine lv_goto (tgt := 34) hx hb dX12_told_30 (by decide) ?_
          obtain rfl := Option.some.inj hm
          exact J34 _ _ _ hP hD hS (lv_sub hl [0, 2, 3] rfl)
  obtain ⟨r_20, hL, hm⟩ := hm_b hm
  refine L6 r_20 ?_ k 0 63 hL _ _ _ hP hD hS (lv_sub hl [0, 1, 3, 4] rfl)
  intro H locs ls hP hD hS hl
  refine lv_lload_n hx hb dX12_told_42 rfl (lv_at hl 0 rfl) ?_
  obtain rfl := Option.some.inj hm
  exact k_lret hx hb hr hlocks hQc hP hS rfl rfl dX12_told_43
theorem dX12_number_0 : decode cX12_number 0 = .ok (.aload_n 0, 1) := by decide +kernel
theorem dX12_number_1 : decode cX12_number 1 = .ok (.aload_n 0, 1) := by decide +kernel
theorem dX12_number_2 : decode cX12_number 2 = .ok (.getfield 11, 3) := by decide +kernel
theorem dX12_number_5 : decode cX12_number 5 = .ok (.iload_n 1, 1) := by decide +kernel
theorem dX12_number_6 : decode cX12_number 6 = .ok (.aaload, 1) := by decide +kernel
theorem dX12_number_7 : decode cX12_number 7 = .ok (.aload_n 0, 1) := by decide +kernel
theorem dX12_number_8 : decode cX12_number 8 = .ok (.invokevirtual 59, 3) := by decide +kernel
theorem dX12_number_11 : decode cX12_number 11 = .ok (.invokevirtual 63, 3) := by decide +kernel
theorem dX12_number_14 : decode cX12_number 14 = .ok (.lreturn, 1) := by decide +kernel
def mX12_number (k : Nat) (v_t_isWide : Int32) (B_t : Nat → Nat → Int32) (p1 : Int32) : Option (Int64) := (if p1 < 0 ∨ 8 ≤ p1.toNatClampNeg then none else ((mX12_bits v_t_isWide).bind (fun r_2 => ((mX12_told_r k B_t r_2 p1.toNatClampNeg).bind (fun r_3 => some r_3)))))
set_option maxHeartbeats 4000000 in
set_option maxRecDepth 100000 in
theorem kcX12_number (l : Launch) (D : va_G) (cy : Nat → ClassId) (g : Nat → Nat) (a_t : Nat) (a_t_cells : Nat) (a_t_page : Nat) (a_t_digits : Nat) (a_t_found : Nat) (a_t_one : Nat) (a_t_other : Nat) (a_t_sum : Nat) (a_t_rest : Nat) (rw_t : Nat → Nat) (v_t_isWide : Int32) (B_t : Nat → Nat → Int32) (f_t_page : Nat → Int32) (v_t_pageMany : Int32) (f_t_digits : Nat → Int32) (v_t_many : Int32) (v_t_isMinus : Int32) (f_t_found : Nat → Int32) (f_t_one : Nat → Int32) (f_t_other : Nat → Int32) (f_t_sum : Nat → Int32) (f_t_rest : Nat → Int32) (p1 : Int32) (k : Nat) (R : Int64) (hm : mX12_number k v_t_isWide B_t p1 = some R) : Con l D cy g yX12_number cX12_number 2 (some .long) 2 41 0 0 [.ref a_t, .int p1] (([(a_t, .inr (8, [.int v_t_isWide, .ref a_t_cells, .ref a_t_page, .int v_t_pageMany, .ref a_t_digits, .int v_t_many, .int v_t_isMinus, .ref a_t_found, .ref a_t_one, .ref a_t_other, .ref a_t_sum, .ref a_t_rest])), (a_t_cells, .inl (cy 5, 8, .inr (.inr (.inr (.inr (fun j => some (rw_t j))))))), (a_t_page, .inl (cy 0, 66, .inl f_t_page)), (a_t_digits, .inl (cy 0, 64, .inl f_t_digits)), (a_t_found, .inl (cy 2, 64, .inl f_t_found)), (a_t_one, .inl (cy 2, 65, .inl f_t_one)), (a_t_other, .inl (cy 2, 65, .inl f_t_other)), (a_t_sum, .inl (cy 2, 65, .inl f_t_sum)), (a_t_rest, .inl (cy 2, 65, .inl f_t_rest))] : va_W) ++ (rowsW (cy 2) rw_t B_t ++ ([] : va_W))) (([(a_t, .inr (8, [.int v_t_isWide, .ref a_t_cells, .ref a_t_page, .int v_t_pageMany, .ref a_t_digits, .int v_t_many, .int v_t_isMinus, .ref a_t_found, .ref a_t_one, .ref a_t_other, .ref a_t_sum, .ref a_t_rest])), (a_t_cells, .inl (cy 5, 8, .inr (.inr (.inr (.inr (fun j => some (rw_t j))))))), (a_t_page, .inl (cy 0, 66, .inl f_t_page)), (a_t_digits, .inl (cy 0, 64, .inl f_t_digits)), (a_t_found, .inl (cy 2, 64, .inl f_t_found)), (a_t_one, .inl (cy 2, 65, .inl f_t_one)), (a_t_other, .inl (cy 2, 65, .inl f_t_other)), (a_t_sum, .inl (cy 2, 65, .inl f_t_sum)), (a_t_rest, .inl (cy 2, 65, .inl f_t_rest))] : va_W) ++ (rowsW (cy 2) rw_t B_t ++ ([] : va_W))) (some (.long R)) := by
  refine Con.of (by decide +kernel) (Nat.le_of_ble_eq_true rfl) ?_
  intro p e RM s m ar below meth c A Qc ls hx hb hr hml hown hlocks hnm ht hK hP hD hS hA hR hC hQc hl
  have hown : s.vm.findClass RX12 = some m.cls := hown
  have hl : lv_has ls 2 [(0, .ref a_t), (1, .int p1)] := hl
  rw [mX12_number] at hm
  refine lv_aload_n hx hb dX12_number_0 rfl (lv_at hl 0 rfl) ?_
  refine lv_aload_n hx hb dX12_number_1 rfl (lv_at hl 0 rfl) ?_
  refine va_get (D := D) (cl := classes) (ci := 8) (v := .ref a_t_cells) (C := RX12) (T := TX12) (N := 12) hx hb ht in_RX12 hown hK.1 hP 0 rfl rfl 1 (by decide) (ht _ q_1245) (fun _ h9 => h9) rfl dX12_number_2 ?_
  refine lv_iload_n hx hb dX12_number_5 rfl (lv_at hl 1 rfl) ?_
  obtain ⟨hin, hm⟩ := hm_g hm
  have hi_1 : p1.toNatClampNeg < 8 := Nat.not_le.mp (fun q => hin (Or.inr q))
  refine k_aldA hx hb hK.1 hP 1 5 rfl rfl hin dX12_number_6 ?_
  refine lv_aload_n hx hb dX12_number_7 rfl (lv_at hl 0 rfl) ?_
  obtain ⟨r_2, hr_2, hm⟩ := hm_b hm
  refine k_V (as := []) (rest := [.ref (rw_t p1.toNatClampNeg), .ref a_t]) (ws' := (([(a_t, .inr (8, [.int v_t_isWide, .ref a_t_cells, .ref a_t_page, .int v_t_pageMany, .ref a_t_digits, .int v_t_many, .int v_t_isMinus, .ref a_t_found, .ref a_t_one, .ref a_t_other, .ref a_t_sum, .ref a_t_rest])), (a_t_cells, .inl (cy 5, 8, .inr (.inr (.inr (.inr (fun j => some (rw_t j))))))), (a_t_page, .inl (cy 0, 66, .inl f_t_page)), (a_t_digits, .inl (cy 0, 64, .inl f_t_digits)), (a_t_found, .inl (cy 2, 64, .inl f_t_found)), (a_t_one, .inl (cy 2, 65, .inl f_t_one)), (a_t_other, .inl (cy 2, 65, .inl f_t_other)), (a_t_sum, .inl (cy 2, 65, .inl f_t_sum)), (a_t_rest, .inl (cy 2, 65, .inl f_t_rest))] : va_W) ++ (rowsW (cy 2) rw_t B_t ++ ([] : va_W)))) (st2 := [.int r_2, .ref (rw_t p1.toNatClampNeg), .ref a_t]) (i0 := 0) hx hb hml hown ht hK hP hD hS hA hC hR hl (kcX12_bits l D cy g a_t a_t_cells a_t_page a_t_digits a_t_found a_t_one a_t_other a_t_sum a_t_rest rw_t v_t_isWide B_t f_t_page v_t_pageMany f_t_digits v_t_many v_t_isMinus f_t_found f_t_one f_t_other f_t_sum f_t_rest r_2 hr_2) (isZ [0, 1, 2, 3, 4, 5, 6, 7, 8] 9 8) q_1354 q_1355 q_1356 q_55 q_1357 hyX12_bits ⟨rfl, rfl, rfl⟩ ⟨Nat.le_of_ble_eq_true rfl, Nat.le_of_ble_eq_true rfl, Nat.le_of_ble_eq_true rfl, Nat.le_of_ble_eq_true rfl⟩ rfl (zcT rfl rfl rfl) (zeT rfl rfl) rfl (Nat.le_of_ble_eq_true rfl) dX12_number_8 (zwT (cx := [(a_t, .inr (8, [.int v_t_isWide, .ref a_t_cells, .ref a_t_page, .int v_t_pageMany, .ref a_t_digits, .int v_t_many, .int v_t_isMinus, .ref a_t_found, .ref a_t_one, .ref a_t_other, .ref a_t_sum, .ref a_t_rest])), (a_t_cells, .inl (cy 5, 8, .inr (.inr (.inr (.inr (fun j => some (rw_t j))))))), (a_t_page, .inl (cy 0, 66, .inl f_t_page)), (a_t_digits, .inl (cy 0, 64, .inl f_t_digits)), (a_t_found, .inl (cy 2, 64, .inl f_t_found)), (a_t_one, .inl (cy 2, 65, .inl f_t_one)), (a_t_other, .inl (cy 2, 65, .inl f_t_other)), (a_t_sum, .inl (cy 2, 65, .inl f_t_sum)), (a_t_rest, .inl (cy 2, 65, .inl f_t_rest))]) rfl rfl rfl rfl rfl rfl) rfl (fun H locs hP hD hS => ?_)
  obtain ⟨r_3, hr_3, hm⟩ := hm_b hm
  refine k_V (as := [.ref (rw_t p1.toNatClampNeg), .int r_2]) (rest := []) (ws' := (([(a_t, .inr (8, [.int v_t_isWide, .ref a_t_cells, .ref a_t_page, .int v_t_pageMany, .ref a_t_digits, .int v_t_many, .int v_t_isMinus, .ref a_t_found, .ref a_t_one, .ref a_t_other, .ref a_t_sum, .ref a_t_rest])), (a_t_cells, .inl (cy 5, 8, .inr (.inr (.inr (.inr (fun j => some (rw_t j))))))), (a_t_page, .inl (cy 0, 66, .inl f_t_page)), (a_t_digits, .inl (cy 0, 64, .inl f_t_digits)), (a_t_found, .inl (cy 2, 64, .inl f_t_found)), (a_t_one, .inl (cy 2, 65, .inl f_t_one)), (a_t_other, .inl (cy 2, 65, .inl f_t_other)), (a_t_sum, .inl (cy 2, 65, .inl f_t_sum)), (a_t_rest, .inl (cy 2, 65, .inl f_t_rest))] : va_W) ++ (rowsW (cy 2) rw_t B_t ++ ([] : va_W)))) (st2 := [.long r_3]) (i0 := 0) hx hb hml hown ht hK hP hD hS hA hC hR hl (kcX12_told_r l D cy g a_t a_t_cells a_t_page a_t_digits a_t_found a_t_one a_t_other a_t_sum a_t_rest rw_t v_t_isWide B_t f_t_page v_t_pageMany f_t_digits v_t_many v_t_isMinus f_t_found f_t_one f_t_other f_t_sum f_t_rest r_2 p1.toNatClampNeg hi_1 k r_3 hr_3) (isZ [0, 1, 2, 3, 4, 5, 6, 7, 8] 9 8) q_1358 q_1360 q_16 q_55 q_1361 hyX12_told ⟨rfl, rfl, rfl⟩ ⟨Nat.le_of_ble_eq_true rfl, Nat.le_of_ble_eq_true rfl, Nat.le_of_ble_eq_true rfl, Nat.le_of_ble_eq_true rfl⟩ rfl (zcT rfl rfl rfl) (zeT rfl rfl) rfl (Nat.le_of_ble_eq_true rfl) dX12_number_11 (zwT (cx := [(a_t, .inr (8, [.int v_t_isWide, .ref a_t_cells, .ref a_t_page, .int v_t_pageMany, .ref a_t_digits, .int v_t_many, .int v_t_isMinus, .ref a_t_found, .ref a_t_one, .ref a_t_other, .ref a_t_sum, .ref a_t_rest])), (a_t_cells, .inl (cy 5, 8, .inr (.inr (.inr (.inr (fun j => some (rw_t j))))))), (a_t_page, .inl (cy 0, 66, .inl f_t_page)), (a_t_digits, .inl (cy 0, 64, .inl f_t_digits)), (a_t_found, .inl (cy 2, 64, .inl f_t_found)), (a_t_one, .inl (cy 2, 65, .inl f_t_one)), (a_t_other, .inl (cy 2, 65, .inl f_t_other)), (a_t_sum, .inl (cy 2, 65, .inl f_t_sum)), (a_t_rest, .inl (cy 2, 65, .inl f_t_rest))]) rfl rfl rfl rfl rfl rfl) rfl (fun H locs hP hD hS => ?_)
  obtain rfl := Option.some.inj hm
  exact k_lret hx hb hr hlocks hQc hP hS rfl rfl dX12_number_14
theorem dX12_puts_0 : decode cX12_puts 0 = .ok (.iconst 0, 1) := by decide +kernel
theorem dX12_puts_1 : decode cX12_puts 1 = .ok (.istore_n 3, 1) := by decide +kernel
theorem dX12_puts_2 : decode cX12_puts 2 = .ok (.iload_n 3, 1) := by decide +kernel
theorem dX12_puts_3 : decode cX12_puts 3 = .ok (.bipush 64, 2) := by decide +kernel
theorem dX12_puts_5 : decode cX12_puts 5 = .ok (.if_icmp .ge 29, 3) := by decide +kernel
theorem dX12_puts_8 : decode cX12_puts 8 = .ok (.aload_n 0, 1) := by decide +kernel
theorem dX12_puts_9 : decode cX12_puts 9 = .ok (.getfield 11, 3) := by decide +kernel
theorem dX12_puts_12 : decode cX12_puts 12 = .ok (.iload_n 1, 1) := by decide +kernel
theorem dX12_puts_13 : decode cX12_puts 13 = .ok (.aaload, 1) := by decide +kernel
theorem dX12_puts_14 : decode cX12_puts 14 = .ok (.iload_n 3, 1) := by decide +kernel
theorem dX12_puts_15 : decode cX12_puts 15 = .ok (.aload_n 2, 1) := by decide +kernel
theorem dX12_puts_16 : decode cX12_puts 16 = .ok (.iload_n 3, 1) := by decide +kernel
theorem dX12_puts_17 : decode cX12_puts 17 = .ok (.aload_n 0, 1) := by decide +kernel
theorem dX12_puts_18 : decode cX12_puts 18 = .ok (.invokevirtual 59, 3) := by decide +kernel
theorem dX12_puts_21 : decode cX12_puts 21 = .ok (.iconst 1, 1) := by decide +kernel
theorem dX12_puts_22 : decode cX12_puts 22 = .ok (.isub, 1) := by decide +kernel
theorem dX12_puts_23 : decode cX12_puts 23 = .ok (.invokestatic 53, 3) := by decide +kernel
theorem dX12_puts_26 : decode cX12_puts 26 = .ok (.baload, 1) := by decide +kernel
theorem dX12_puts_27 : decode cX12_puts 27 = .ok (.bastore, 1) := by decide +kernel
theorem dX12_puts_28 : decode cX12_puts 28 = .ok (.iinc 3 1, 3) := by decide +kernel
theorem dX12_puts_31 : decode cX12_puts 31 = .ok (.goto (-29), 3) := by decide +kernel
theorem dX12_puts_34 : decode cX12_puts 34 = .ok (.aload_n 0, 1) := by decide +kernel
theorem dX12_puts_35 : decode cX12_puts 35 = .ok (.iload_n 1, 1) := by decide +kernel
theorem dX12_puts_36 : decode cX12_puts 36 = .ok (.invokevirtual 67, 3) := by decide +kernel
theorem dX12_puts_39 : decode cX12_puts 39 = .ok (.lreturn, 1) := by decide +kernel
def mX12_puts_sum_L2 (p1 : Int32) (v_t_isWide : Int32) (f_t_sum : Nat → Int32) : Nat → Int32 → (Nat → Nat → Int32) → Option ((Nat → Nat → Int32))
  | 0, _, _ => none
  | n_ + 1, y_11, y_12 => (if (64 : Int32) ≤ y_11 then some y_12 else (if p1 < 0 ∨ 8 ≤ p1.toNatClampNeg then none else ((mX12_bits v_t_isWide).bind (fun r_15 => ((some (if (r_15 - 1) < y_11 then (r_15 - 1) else y_11) : Option Int32).bind (fun x_16 => (if x_16 < 0 ∨ 65 ≤ x_16.toNatClampNeg then none else (if y_11 < 0 ∨ 64 ≤ y_11.toNatClampNeg then none else (mX12_puts_sum_L2 p1 v_t_isWide f_t_sum n_ (y_11 + 1) (upR y_12 p1.toNatClampNeg (upd (y_12 p1.toNatClampNeg) y_11.toNatClampNeg (vp_nar .boolean (f_t_sum x_16.toNatClampNeg)))))))))))))
def mX12_puts_sum (k : Nat) (v_t_isWide : Int32) (B_t : Nat → Nat → Int32) (f_t_sum : Nat → Int32) (p1 : Int32) : Option (Int64 × (Nat → Nat → Int32)) := ((mX12_puts_sum_L2 p1 v_t_isWide f_t_sum k 0 B_t).bind (fun r_17 => ((mX12_number k v_t_isWide r_17 p1).bind (fun r_18 => some (r_18, r_17)))))
set_option maxHeartbeats 4000000 in
set_option maxRecDepth 100000 in
theorem kcX12_puts_sum (l : Launch) (D : va_G) (cy : Nat → ClassId) (g : Nat → Nat) (a_t : Nat) (a_t_cells : Nat) (a_t_page : Nat) (a_t_digits : Nat) (a_t_found : Nat) (a_t_one : Nat) (a_t_other : Nat) (a_t_sum : Nat) (a_t_rest : Nat) (rw_t : Nat → Nat) (v_t_isWide : Int32) (B_t : Nat → Nat → Int32) (f_t_page : Nat → Int32) (v_t_pageMany : Int32) (f_t_digits : Nat → Int32) (v_t_many : Int32) (v_t_isMinus : Int32) (f_t_found : Nat → Int32) (f_t_one : Nat → Int32) (f_t_other : Nat → Int32) (f_t_sum : Nat → Int32) (f_t_rest : Nat → Int32) (p1 : Int32) (k : Nat) (R : Int64 × (Nat → Nat → Int32)) (hm : mX12_puts_sum k v_t_isWide B_t f_t_sum p1 = some R) : Con l D cy g yX12_puts cX12_puts 4 (some .long) 3 62 0 0 [.ref a_t, .int p1, .ref a_t_sum] (([(a_t, .inr (8, [.int v_t_isWide, .ref a_t_cells, .ref a_t_page, .int v_t_pageMany, .ref a_t_digits, .int v_t_many, .int v_t_isMinus, .ref a_t_found, .ref a_t_one, .ref a_t_other, .ref a_t_sum, .ref a_t_rest])), (a_t_cells, .inl (cy 5, 8, .inr (.inr (.inr (.inr (fun j => some (rw_t j))))))), (a_t_page, .inl (cy 0, 66, .inl f_t_page)), (a_t_digits, .inl (cy 0, 64, .inl f_t_digits)), (a_t_found, .inl (cy 2, 64, .inl f_t_found)), (a_t_one, .inl (cy 2, 65, .inl f_t_one)), (a_t_other, .inl (cy 2, 65, .inl f_t_other)), (a_t_sum, .inl (cy 2, 65, .inl f_t_sum)), (a_t_rest, .inl (cy 2, 65, .inl f_t_rest))] : va_W) ++ (rowsW (cy 2) rw_t B_t ++ ([] : va_W))) (([(a_t, .inr (8, [.int v_t_isWide, .ref a_t_cells, .ref a_t_page, .int v_t_pageMany, .ref a_t_digits, .int v_t_many, .int v_t_isMinus, .ref a_t_found, .ref a_t_one, .ref a_t_other, .ref a_t_sum, .ref a_t_rest])), (a_t_cells, .inl (cy 5, 8, .inr (.inr (.inr (.inr (fun j => some (rw_t j))))))), (a_t_page, .inl (cy 0, 66, .inl f_t_page)), (a_t_digits, .inl (cy 0, 64, .inl f_t_digits)), (a_t_found, .inl (cy 2, 64, .inl f_t_found)), (a_t_one, .inl (cy 2, 65, .inl f_t_one)), (a_t_other, .inl (cy 2, 65, .inl f_t_other)), (a_t_sum, .inl (cy 2, 65, .inl f_t_sum)), (a_t_rest, .inl (cy 2, 65, .inl f_t_rest))] : va_W) ++ (rowsW (cy 2) rw_t R.2 ++ ([] : va_W))) (some (.long R.1)) := by
  refine Con.of (by decide +kernel) (Nat.le_of_ble_eq_true rfl) ?_
  intro p e RM s m ar below meth c A Qc ls hx hb hr hml hown hlocks hnm ht hK hP hD hS hA hR hC hQc hl
  have hown : s.vm.findClass RX12 = some m.cls := hown
  have hl : lv_has ls 4 [(0, .ref a_t), (1, .int p1), (2, .ref a_t_sum)] := hl
  rw [mX12_puts_sum] at hm
  refine lv_iconst (v := 0) hx hb dX12_puts_0 (by decide) ?_
  refine lv_istore_n (lv' := [(3, .int 0), (0, .ref a_t), (1, .int p1), (2, .ref a_t_sum)]) hx hb dX12_puts_1 rfl hl (by decide) rfl (fun ls hl => ?_)
  have L2 : ∀ (rr : (Nat → Nat → Int32)) (kk : ∀ (H : Heap) (locs : List Loc) (ls : Array Slot), va_P D classes (([(a_t, .inr (8, [.int v_t_isWide, .ref a_t_cells, .ref a_t_page, .int v_t_pageMany, .ref a_t_digits, .int v_t_many, .int v_t_isMinus, .ref a_t_found, .ref a_t_one, .ref a_t_other, .ref a_t_sum, .ref a_t_rest])), (a_t_cells, .inl (cy 5, 8, .inr (.inr (.inr (.inr (fun j => some (rw_t j))))))), (a_t_page, .inl (cy 0, 66, .inl f_t_page)), (a_t_digits, .inl (cy 0, 64, .inl f_t_digits)), (a_t_found, .inl (cy 2, 64, .inl f_t_found)), (a_t_one, .inl (cy 2, 65, .inl f_t_one)), (a_t_other, .inl (cy 2, 65, .inl f_t_other)), (a_t_sum, .inl (cy 2, 65, .inl f_t_sum)), (a_t_rest, .inl (cy 2, 65, .inl f_t_rest))] : va_W) ++ (rowsW (cy 2) rw_t rr ++ ([] : va_W))) H → va_D A (([(a_t, .inr (8, [.int v_t_isWide, .ref a_t_cells, .ref a_t_page, .int v_t_pageMany, .ref a_t_digits, .int v_t_many, .int v_t_isMinus, .ref a_t_found, .ref a_t_one, .ref a_t_other, .ref a_t_sum, .ref a_t_rest])), (a_t_cells, .inl (cy 5, 8, .inr (.inr (.inr (.inr (fun j => some (rw_t j))))))), (a_t_page, .inl (cy 0, 66, .inl f_t_page)), (a_t_digits, .inl (cy 0, 64, .inl f_t_digits)), (a_t_found, .inl (cy 2, 64, .inl f_t_found)), (a_t_one, .inl (cy 2, 65, .inl f_t_one)), (a_t_other, .inl (cy 2, 65, .inl f_t_other)), (a_t_sum, .inl (cy 2, 65, .inl f_t_sum)), (a_t_rest, .inl (cy 2, 65, .inl f_t_rest))] : va_W) ++ (rowsW (cy 2) rw_t rr ++ ([] : va_W))) → va_S A s.heap H locs → lv_has ls 4 [(0, .ref a_t), (1, .int p1)] → W p l e RM s m ar below meth c H locs 0 0 (MQ below Qc ar s 0 0 A) (F0 m 34 ls [])) (n_ : Nat), ∀ (y_11 : Int32) (y_12 : Nat → Nat → Int32), mX12_puts_sum_L2 p1 v_t_isWide f_t_sum n_ y_11 y_12 = some rr → ∀ (H : Heap) (locs : List Loc) (ls : Array Slot), va_P D classes (([(a_t, .inr (8, [.int v_t_isWide, .ref a_t_cells, .ref a_t_page, .int v_t_pageMany, .ref a_t_digits, .int v_t_many, .int v_t_isMinus, .ref a_t_found, .ref a_t_one, .ref a_t_other, .ref a_t_sum, .ref a_t_rest])), (a_t_cells, .inl (cy 5, 8, .inr (.inr (.inr (.inr (fun j => some (rw_t j))))))), (a_t_page, .inl (cy 0, 66, .inl f_t_page)), (a_t_digits, .inl (cy 0, 64, .inl f_t_digits)), (a_t_found, .inl (cy 2, 64, .inl f_t_found)), (a_t_one, .inl (cy 2, 65, .inl f_t_one)), (a_t_other, .inl (cy 2, 65, .inl f_t_other)), (a_t_sum, .inl (cy 2, 65, .inl f_t_sum)), (a_t_rest, .inl (cy 2, 65, .inl f_t_rest))] : va_W) ++ (rowsW (cy 2) rw_t y_12 ++ ([] : va_W))) H → va_D A (([(a_t, .inr (8, [.int v_t_isWide, .ref a_t_cells, .ref a_t_page, .int v_t_pageMany, .ref a_t_digits, .int v_t_many, .int v_t_isMinus, .ref a_t_found, .ref a_t_one, .ref a_t_other, .ref a_t_sum, .ref a_t_rest])), (a_t_cells, .inl (cy 5, 8, .inr (.inr (.inr (.inr (fun j => some (rw_t j))))))), (a_t_page, .inl (cy 0, 66, .inl f_t_page)), (a_t_digits, .inl (cy 0, 64, .inl f_t_digits)), (a_t_found, .inl (cy 2, 64, .inl f_t_found)), (a_t_one, .inl (cy 2, 65, .inl f_t_one)), (a_t_other, .inl (cy 2, 65, .inl f_t_other)), (a_t_sum, .inl (cy 2, 65, .inl f_t_sum)), (a_t_rest, .inl (cy 2, 65, .inl f_t_rest))] : va_W) ++ (rowsW (cy 2) rw_t y_12 ++ ([] : va_W))) → va_S A s.heap H locs → lv_has ls 4 [(3, .int y_11), (0, .ref a_t), (1, .int p1), (2, .ref a_t_sum)] → W p l e RM s m ar below meth c H locs 0 0 (MQ below Qc ar s 0 0 A) (F0 m 2 ls []) := by
    intro rr kk n_
    induction n_ with
    | zero => intro y_11 y_12 hm; rw [mX12_puts_sum_L2] at hm; cases hm
    | succ n_ ih =>
      intro y_11 y_12 hm H locs ls hP hD hS hl
      rw [mX12_puts_sum_L2] at hm
      refine lv_iload_n hx hb dX12_puts_2 rfl (lv_at hl 0 rfl) ?_
      refine lv_bipush (v := 64) hx hb dX12_puts_3 (by decide) ?_
      refine lv_icmp_ge (tgt := 34) hx hb dX12_puts_5 (by decide) (fun c_13 => ?_) (fun c_13 => ?_)
      · replace hm := hm_t c_13 hm
        obtain rfl := Option.some.inj hm
        exact kk _ _ _ hP hD hS (lv_sub hl [1, 2] rfl)
      · replace hm := hm_f c_13 hm
        refine lv_aload_n hx hb dX12_puts_8 rfl (lv_at hl 1 rfl) ?_
        refine va_get (D := D) (cl := classes) (ci := 8) (v := .ref a_t_cells) (C := RX12) (T := TX12) (N := 12) hx hb ht in_RX12 hown hK.1 hP 0 rfl rfl 1 (by decide) (ht _ q_1245) (fun _ h9 => h9) rfl dX12_puts_9 ?_
        refine lv_iload_n hx hb dX12_puts_12 rfl (lv_at hl 2 rfl) ?_
        obtain ⟨hin, hm⟩ := hm_g hm
        have hi_14 : p1.toNatClampNeg < 8 := Nat.not_le.mp (fun q => hin (Or.inr q))
        refine k_aldA hx hb hK.1 hP 1 5 rfl rfl hin dX12_puts_13 ?_
        refine lv_iload_n hx hb dX12_puts_14 rfl (lv_at hl 0 rfl) ?_
        refine lv_aload_n hx hb dX12_puts_15 rfl (lv_at hl 3 rfl) ?_
        refine lv_iload_n hx hb dX12_puts_16 rfl (lv_at hl 0 rfl) ?_
        refine lv_aload_n hx hb dX12_puts_17 rfl (lv_at hl 1 rfl) ?_
        obtain ⟨r_15, hr_15, hm⟩ := hm_b hm
        refine k_V (as := []) (rest := [.int y_11, .ref a_t_sum, .int y_11, .ref (rw_t p1.toNatClampNeg)]) (ws' := (([(a_t, .inr (8, [.int v_t_isWide, .ref a_t_cells, .ref a_t_page, .int v_t_pageMany, .ref a_t_digits, .int v_t_many, .int v_t_isMinus, .ref a_t_found, .ref a_t_one, .ref a_t_other, .ref a_t_sum, .ref a_t_rest])), (a_t_cells, .inl (cy 5, 8, .inr (.inr (.inr (.inr (fun j => some (rw_t j))))))), (a_t_page, .inl (cy 0, 66, .inl f_t_page)), (a_t_digits, .inl (cy 0, 64, .inl f_t_digits)), (a_t_found, .inl (cy 2, 64, .inl f_t_found)), (a_t_one, .inl (cy 2, 65, .inl f_t_one)), (a_t_other, .inl (cy 2, 65, .inl f_t_other)), (a_t_sum, .inl (cy 2, 65, .inl f_t_sum)), (a_t_rest, .inl (cy 2, 65, .inl f_t_rest))] : va_W) ++ (rowsW (cy 2) rw_t y_12 ++ ([] : va_W)))) (st2 := [.int r_15, .int y_11, .ref a_t_sum, .int y_11, .ref (rw_t p1.toNatClampNeg)]) (i0 := 0) hx hb hml hown ht hK hP hD hS hA hC hR hl (kcX12_bits l D cy g a_t a_t_cells a_t_page a_t_digits a_t_found a_t_one a_t_other a_t_sum a_t_rest rw_t v_t_isWide y_12 f_t_page v_t_pageMany f_t_digits v_t_many v_t_isMinus f_t_found f_t_one f_t_other f_t_sum f_t_rest r_15 hr_15) (isZ [0, 1, 2, 3, 4, 5, 6, 7, 8] 9 8) q_1354 q_1355 q_1356 q_55 q_1357 hyX12_bits ⟨rfl, rfl, rfl⟩ ⟨Nat.le_of_ble_eq_true rfl, Nat.le_of_ble_eq_true rfl, Nat.le_of_ble_eq_true rfl, Nat.le_of_ble_eq_true rfl⟩ rfl (zcT rfl rfl rfl) (zeT rfl rfl) rfl (Nat.le_of_ble_eq_true rfl) dX12_puts_18 (zwT (cx := [(a_t, .inr (8, [.int v_t_isWide, .ref a_t_cells, .ref a_t_page, .int v_t_pageMany, .ref a_t_digits, .int v_t_many, .int v_t_isMinus, .ref a_t_found, .ref a_t_one, .ref a_t_other, .ref a_t_sum, .ref a_t_rest])), (a_t_cells, .inl (cy 5, 8, .inr (.inr (.inr (.inr (fun j => some (rw_t j))))))), (a_t_page, .inl (cy 0, 66, .inl f_t_page)), (a_t_digits, .inl (cy 0, 64, .inl f_t_digits)), (a_t_found, .inl (cy 2, 64, .inl f_t_found)), (a_t_one, .inl (cy 2, 65, .inl f_t_one)), (a_t_other, .inl (cy 2, 65, .inl f_t_other)), (a_t_sum, .inl (cy 2, 65, .inl f_t_sum)), (a_t_rest, .inl (cy 2, 65, .inl f_t_rest))]) rfl rfl rfl rfl rfl rfl) rfl (fun H locs hP hD hS => ?_)
        refine lv_iconst (v := 1) hx hb dX12_puts_21 (by decide) ?_
        refine lv_isub hx hb dX12_puts_22 ?_
        refine va_mmin hx hb (hml.trans hl.1.symm) hown (ht _ q_1363) (ht _ q_430) (ht _ q_46) (ht _ q_431) (by rw [hR]; exact Nat.le_of_ble_eq_true rfl) (by rw [hR]; exact Nat.le_of_ble_eq_true rfl) (by rw [hR]; exact Nat.le_of_ble_eq_true rfl) (by rw [hR]; exact Nat.le_of_ble_eq_true rfl) dX12_puts_23 ?_
        obtain ⟨x_16, hx_, hm⟩ := hm_b hm
        refine k_topi (y := x_16) (Option.some.inj hx_) ?_
        obtain ⟨hin, hm⟩ := hm_g hm
        refine va_zald hx hb hK.1 hP 7 2 rfl rfl hin dX12_puts_26 ?_
        obtain ⟨hin, hm⟩ := hm_g hm
        refine va_zast hx hb hK.1 hP hD hS (9 + p1.toNatClampNeg) 2 (row_get0 rfl hi_14) rfl hin dX12_puts_27 (fun H locs hP hD hS => ?_)
        have hP : va_P D classes (([(a_t, .inr (8, [.int v_t_isWide, .ref a_t_cells, .ref a_t_page, .int v_t_pageMany, .ref a_t_digits, .int v_t_many, .int v_t_isMinus, .ref a_t_found, .ref a_t_one, .ref a_t_other, .ref a_t_sum, .ref a_t_rest])), (a_t_cells, .inl (cy 5, 8, .inr (.inr (.inr (.inr (fun j => some (rw_t j))))))), (a_t_page, .inl (cy 0, 66, .inl f_t_page)), (a_t_digits, .inl (cy 0, 64, .inl f_t_digits)), (a_t_found, .inl (cy 2, 64, .inl f_t_found)), (a_t_one, .inl (cy 2, 65, .inl f_t_one)), (a_t_other, .inl (cy 2, 65, .inl f_t_other)), (a_t_sum, .inl (cy 2, 65, .inl f_t_sum)), (a_t_rest, .inl (cy 2, 65, .inl f_t_rest))] : va_W) ++ (rowsW (cy 2) rw_t (upR y_12 p1.toNatClampNeg (upd (y_12 p1.toNatClampNeg) y_11.toNatClampNeg (vp_nar .boolean (f_t_sum x_16.toNatClampNeg)))) ++ ([] : va_W))) H := P_eq (row_set0 rfl hi_14) hP
        have hD : va_D A (([(a_t, .inr (8, [.int v_t_isWide, .ref a_t_cells, .ref a_t_page, .int v_t_pageMany, .ref a_t_digits, .int v_t_many, .int v_t_isMinus, .ref a_t_found, .ref a_t_one, .ref a_t_other, .ref a_t_sum, .ref a_t_rest])), (a_t_cells, .inl (cy 5, 8, .inr (.inr (.inr (.inr (fun j => some (rw_t j))))))), (a_t_page, .inl (cy 0, 66, .inl f_t_page)), (a_t_digits, .inl (cy 0, 64, .inl f_t_digits)), (a_t_found, .inl (cy 2, 64, .inl f_t_found)), (a_t_one, .inl (cy 2, 65, .inl f_t_one)), (a_t_other, .inl (cy 2, 65, .inl f_t_other)), (a_t_sum, .inl (cy 2, 65, .inl f_t_sum)), (a_t_rest, .inl (cy 2, 65, .inl f_t_rest))] : va_W) ++ (rowsW (cy 2) rw_t (upR y_12 p1.toNatClampNeg (upd (y_12 p1.toNatClampNeg) y_11.toNatClampNeg (vp_nar .boolean (f_t_sum x_16.toNatClampNeg)))) ++ ([] : va_W))) := D_eq (row_set0 rfl hi_14) hD
        refine lv_iinc (v := (y_11 + 1)) (lv' := [(3, .int (y_11 + 1)), (0, .ref a_t), (1, .int p1), (2, .ref a_t_sum)]) hx hb dX12_puts_28 hl (k := 0) rfl rfl (by decide) rfl (fun ls hl => ?_)
        refine lv_goto (tgt := 2) hx hb dX12_puts_31 (by decide) ?_
        exact ih (y_11 + 1) (upR y_12 p1.toNatClampNeg (upd (y_12 p1.toNatClampNeg) y_11.toNatClampNeg (vp_nar .boolean (f_t_sum x_16.toNatClampNeg)))) hm _ _ _ hP hD hS (lv_sub hl [0, 1, 2, 3] rfl)
  obtain ⟨r_17, hL, hm⟩ := hm_b hm
  refine L2 r_17 ?_ k 0 B_t hL _ _ _ hP hD hS (lv_sub hl [0, 1, 2, 3] rfl)
  intro H locs ls hP hD hS hl
  refine lv_aload_n hx hb dX12_puts_34 rfl (lv_at hl 0 rfl) ?_
  refine lv_iload_n hx hb dX12_puts_35 rfl (lv_at hl 1 rfl) ?_
  obtain ⟨r_18, hr_18, hm⟩ := hm_b hm
  refine k_V (as := [.int p1]) (rest := []) (ws' := (([(a_t, .inr (8, [.int v_t_isWide, .ref a_t_cells, .ref a_t_page, .int v_t_pageMany, .ref a_t_digits, .int v_t_many, .int v_t_isMinus, .ref a_t_found, .ref a_t_one, .ref a_t_other, .ref a_t_sum, .ref a_t_rest])), (a_t_cells, .inl (cy 5, 8, .inr (.inr (.inr (.inr (fun j => some (rw_t j))))))), (a_t_page, .inl (cy 0, 66, .inl f_t_page)), (a_t_digits, .inl (cy 0, 64, .inl f_t_digits)), (a_t_found, .inl (cy 2, 64, .inl f_t_found)), (a_t_one, .inl (cy 2, 65, .inl f_t_one)), (a_t_other, .inl (cy 2, 65, .inl f_t_other)), (a_t_sum, .inl (cy 2, 65, .inl f_t_sum)), (a_t_rest, .inl (cy 2, 65, .inl f_t_rest))] : va_W) ++ (rowsW (cy 2) rw_t r_17 ++ ([] : va_W)))) (st2 := [.long r_18]) (i0 := 0) hx hb hml hown ht hK hP hD hS hA hC hR hl (kcX12_number l D cy g a_t a_t_cells a_t_page a_t_digits a_t_found a_t_one a_t_other a_t_sum a_t_rest rw_t v_t_isWide r_17 f_t_page v_t_pageMany f_t_digits v_t_many v_t_isMinus f_t_found f_t_one f_t_other f_t_sum f_t_rest p1 k r_18 hr_18) (isZ [0, 1, 2, 3, 4, 5, 6, 7, 8] 9 8) q_1437 q_1351 q_1352 q_55 q_1353 hyX12_number ⟨rfl, rfl, rfl⟩ ⟨Nat.le_of_ble_eq_true rfl, Nat.le_of_ble_eq_true rfl, Nat.le_of_ble_eq_true rfl, Nat.le_of_ble_eq_true rfl⟩ rfl (zcT rfl rfl rfl) (zeT rfl rfl) rfl (Nat.le_of_ble_eq_true rfl) dX12_puts_36 (zwT (cx := [(a_t, .inr (8, [.int v_t_isWide, .ref a_t_cells, .ref a_t_page, .int v_t_pageMany, .ref a_t_digits, .int v_t_many, .int v_t_isMinus, .ref a_t_found, .ref a_t_one, .ref a_t_other, .ref a_t_sum, .ref a_t_rest])), (a_t_cells, .inl (cy 5, 8, .inr (.inr (.inr (.inr (fun j => some (rw_t j))))))), (a_t_page, .inl (cy 0, 66, .inl f_t_page)), (a_t_digits, .inl (cy 0, 64, .inl f_t_digits)), (a_t_found, .inl (cy 2, 64, .inl f_t_found)), (a_t_one, .inl (cy 2, 65, .inl f_t_one)), (a_t_other, .inl (cy 2, 65, .inl f_t_other)), (a_t_sum, .inl (cy 2, 65, .inl f_t_sum)), (a_t_rest, .inl (cy 2, 65, .inl f_t_rest))]) rfl rfl rfl rfl rfl rfl) rfl (fun H locs hP hD hS => ?_)
  obtain rfl := Option.some.inj hm
  exact k_lret hx hb hr hlocks hQc hP hS rfl rfl dX12_puts_39
def mX12_puts_found_L2 (p1 : Int32) (v_t_isWide : Int32) (f_t_found : Nat → Int32) : Nat → Int32 → (Nat → Nat → Int32) → Option ((Nat → Nat → Int32))
  | 0, _, _ => none
  | n_ + 1, y_11, y_12 => (if (64 : Int32) ≤ y_11 then some y_12 else (if p1 < 0 ∨ 8 ≤ p1.toNatClampNeg then none else ((mX12_bits v_t_isWide).bind (fun r_15 => ((some (if (r_15 - 1) < y_11 then (r_15 - 1) else y_11) : Option Int32).bind (fun x_16 => (if x_16 < 0 ∨ 64 ≤ x_16.toNatClampNeg then none else (if y_11 < 0 ∨ 64 ≤ y_11.toNatClampNeg then none else (mX12_puts_found_L2 p1 v_t_isWide f_t_found n_ (y_11 + 1) (upR y_12 p1.toNatClampNeg (upd (y_12 p1.toNatClampNeg) y_11.toNatClampNeg (vp_nar .boolean (f_t_found x_16.toNatClampNeg)))))))))))))
def mX12_puts_found (k : Nat) (v_t_isWide : Int32) (B_t : Nat → Nat → Int32) (f_t_found : Nat → Int32) (p1 : Int32) : Option (Int64 × (Nat → Nat → Int32)) := ((mX12_puts_found_L2 p1 v_t_isWide f_t_found k 0 B_t).bind (fun r_17 => ((mX12_number k v_t_isWide r_17 p1).bind (fun r_18 => some (r_18, r_17)))))
set_option maxHeartbeats 4000000 in
set_option maxRecDepth 100000 in
theorem kcX12_puts_found (l : Launch) (D : va_G) (cy : Nat → ClassId) (g : Nat → Nat) (a_t : Nat) (a_t_cells : Nat) (a_t_page : Nat) (a_t_digits : Nat) (a_t_found : Nat) (a_t_one : Nat) (a_t_other : Nat) (a_t_sum : Nat) (a_t_rest : Nat) (rw_t : Nat → Nat) (v_t_isWide : Int32) (B_t : Nat → Nat → Int32) (f_t_page : Nat → Int32) (v_t_pageMany : Int32) (f_t_digits : Nat → Int32) (v_t_many : Int32) (v_t_isMinus : Int32) (f_t_found : Nat → Int32) (f_t_one : Nat → Int32) (f_t_other : Nat → Int32) (f_t_sum : Nat → Int32) (f_t_rest : Nat → Int32) (p1 : Int32) (k : Nat) (R : Int64 × (Nat → Nat → Int32)) (hm : mX12_puts_found k v_t_isWide B_t f_t_found p1 = some R) : Con l D cy g yX12_puts cX12_puts 4 (some .long) 3 62 0 0 [.ref a_t, .int p1, .ref a_t_found] (([(a_t, .inr (8, [.int v_t_isWide, .ref a_t_cells, .ref a_t_page, .int v_t_pageMany, .ref a_t_digits, .int v_t_many, .int v_t_isMinus, .ref a_t_found, .ref a_t_one, .ref a_t_other, .ref a_t_sum, .ref a_t_rest])), (a_t_cells, .inl (cy 5, 8, .inr (.inr (.inr (.inr (fun j => some (rw_t j))))))), (a_t_page, .inl (cy 0, 66, .inl f_t_page)), (a_t_digits, .inl (cy 0, 64, .inl f_t_digits)), (a_t_found, .inl (cy 2, 64, .inl f_t_found)), (a_t_one, .inl (cy 2, 65, .inl f_t_one)), (a_t_other, .inl (cy 2, 65, .inl f_t_other)), (a_t_sum, .inl (cy 2, 65, .inl f_t_sum)), (a_t_rest, .inl (cy 2, 65, .inl f_t_rest))] : va_W) ++ (rowsW (cy 2) rw_t B_t ++ ([] : va_W))) (([(a_t, .inr (8, [.int v_t_isWide, .ref a_t_cells, .ref a_t_page, .int v_t_pageMany, .ref a_t_digits, .int v_t_many, .int v_t_isMinus, .ref a_t_found, .ref a_t_one, .ref a_t_other, .ref a_t_sum, .ref a_t_rest])), (a_t_cells, .inl (cy 5, 8, .inr (.inr (.inr (.inr (fun j => some (rw_t j))))))), (a_t_page, .inl (cy 0, 66, .inl f_t_page)), (a_t_digits, .inl (cy 0, 64, .inl f_t_digits)), (a_t_found, .inl (cy 2, 64, .inl f_t_found)), (a_t_one, .inl (cy 2, 65, .inl f_t_one)), (a_t_other, .inl (cy 2, 65, .inl f_t_other)), (a_t_sum, .inl (cy 2, 65, .inl f_t_sum)), (a_t_rest, .inl (cy 2, 65, .inl f_t_rest))] : va_W) ++ (rowsW (cy 2) rw_t R.2 ++ ([] : va_W))) (some (.long R.1)) := by
  refine Con.of (by decide +kernel) (Nat.le_of_ble_eq_true rfl) ?_
  intro p e RM s m ar below meth c A Qc ls hx hb hr hml hown hlocks hnm ht hK hP hD hS hA hR hC hQc hl
  have hown : s.vm.findClass RX12 = some m.cls := hown
  have hl : lv_has ls 4 [(0, .ref a_t), (1, .int p1), (2, .ref a_t_found)] := hl
  rw [mX12_puts_found] at hm
  refine lv_iconst (v := 0) hx hb dX12_puts_0 (by decide) ?_
  refine lv_istore_n (lv' := [(3, .int 0), (0, .ref a_t), (1, .int p1), (2, .ref a_t_found)]) hx hb dX12_puts_1 rfl hl (by decide) rfl (fun ls hl => ?_)
  have L2 : ∀ (rr : (Nat → Nat → Int32)) (kk : ∀ (H : Heap) (locs : List Loc) (ls : Array Slot), va_P D classes (([(a_t, .inr (8, [.int v_t_isWide, .ref a_t_cells, .ref a_t_page, .int v_t_pageMany, .ref a_t_digits, .int v_t_many, .int v_t_isMinus, .ref a_t_found, .ref a_t_one, .ref a_t_other, .ref a_t_sum, .ref a_t_rest])), (a_t_cells, .inl (cy 5, 8, .inr (.inr (.inr (.inr (fun j => some (rw_t j))))))), (a_t_page, .inl (cy 0, 66, .inl f_t_page)), (a_t_digits, .inl (cy 0, 64, .inl f_t_digits)), (a_t_found, .inl (cy 2, 64, .inl f_t_found)), (a_t_one, .inl (cy 2, 65, .inl f_t_one)), (a_t_other, .inl (cy 2, 65, .inl f_t_other)), (a_t_sum, .inl (cy 2, 65, .inl f_t_sum)), (a_t_rest, .inl (cy 2, 65, .inl f_t_rest))] : va_W) ++ (rowsW (cy 2) rw_t rr ++ ([] : va_W))) H → va_D A (([(a_t, .inr (8, [.int v_t_isWide, .ref a_t_cells, .ref a_t_page, .int v_t_pageMany, .ref a_t_digits, .int v_t_many, .int v_t_isMinus, .ref a_t_found, .ref a_t_one, .ref a_t_other, .ref a_t_sum, .ref a_t_rest])), (a_t_cells, .inl (cy 5, 8, .inr (.inr (.inr (.inr (fun j => some (rw_t j))))))), (a_t_page, .inl (cy 0, 66, .inl f_t_page)), (a_t_digits, .inl (cy 0, 64, .inl f_t_digits)), (a_t_found, .inl (cy 2, 64, .inl f_t_found)), (a_t_one, .inl (cy 2, 65, .inl f_t_one)), (a_t_other, .inl (cy 2, 65, .inl f_t_other)), (a_t_sum, .inl (cy 2, 65, .inl f_t_sum)), (a_t_rest, .inl (cy 2, 65, .inl f_t_rest))] : va_W) ++ (rowsW (cy 2) rw_t rr ++ ([] : va_W))) → va_S A s.heap H locs → lv_has ls 4 [(0, .ref a_t), (1, .int p1)] → W p l e RM s m ar below meth c H locs 0 0 (MQ below Qc ar s 0 0 A) (F0 m 34 ls [])) (n_ : Nat), ∀ (y_11 : Int32) (y_12 : Nat → Nat → Int32), mX12_puts_found_L2 p1 v_t_isWide f_t_found n_ y_11 y_12 = some rr → ∀ (H : Heap) (locs : List Loc) (ls : Array Slot), va_P D classes (([(a_t, .inr (8, [.int v_t_isWide, .ref a_t_cells, .ref a_t_page, .int v_t_pageMany, .ref a_t_digits, .int v_t_many, .int v_t_isMinus, .ref a_t_found, .ref a_t_one, .ref a_t_other, .ref a_t_sum, .ref a_t_rest])), (a_t_cells, .inl (cy 5, 8, .inr (.inr (.inr (.inr (fun j => some (rw_t j))))))), (a_t_page, .inl (cy 0, 66, .inl f_t_page)), (a_t_digits, .inl (cy 0, 64, .inl f_t_digits)), (a_t_found, .inl (cy 2, 64, .inl f_t_found)), (a_t_one, .inl (cy 2, 65, .inl f_t_one)), (a_t_other, .inl (cy 2, 65, .inl f_t_other)), (a_t_sum, .inl (cy 2, 65, .inl f_t_sum)), (a_t_rest, .inl (cy 2, 65, .inl f_t_rest))] : va_W) ++ (rowsW (cy 2) rw_t y_12 ++ ([] : va_W))) H → va_D A (([(a_t, .inr (8, [.int v_t_isWide, .ref a_t_cells, .ref a_t_page, .int v_t_pageMany, .ref a_t_digits, .int v_t_many, .int v_t_isMinus, .ref a_t_found, .ref a_t_one, .ref a_t_other, .ref a_t_sum, .ref a_t_rest])), (a_t_cells, .inl (cy 5, 8, .inr (.inr (.inr (.inr (fun j => some (rw_t j))))))), (a_t_page, .inl (cy 0, 66, .inl f_t_page)), (a_t_digits, .inl (cy 0, 64, .inl f_t_digits)), (a_t_found, .inl (cy 2, 64, .inl f_t_found)), (a_t_one, .inl (cy 2, 65, .inl f_t_one)), (a_t_other, .inl (cy 2, 65, .inl f_t_other)), (a_t_sum, .inl (cy 2, 65, .inl f_t_sum)), (a_t_rest, .inl (cy 2, 65, .inl f_t_rest))] : va_W) ++ (rowsW (cy 2) rw_t y_12 ++ ([] : va_W))) → va_S A s.heap H locs → lv_has ls 4 [(3, .int y_11), (0, .ref a_t), (1, .int p1), (2, .ref a_t_found)] → W p l e RM s m ar below meth c H locs 0 0 (MQ below Qc ar s 0 0 A) (F0 m 2 ls []) := by
    intro rr kk n_
    induction n_ with
    | zero => intro y_11 y_12 hm; rw [mX12_puts_found_L2] at hm; cases hm
    | succ n_ ih =>
      intro y_11 y_12 hm H locs ls hP hD hS hl
      rw [mX12_puts_found_L2] at hm
      refine lv_iload_n hx hb dX12_puts_2 rfl (lv_at hl 0 rfl) ?_
      refine lv_bipush (v := 64) hx hb dX12_puts_3 (by decide) ?_
      refine lv_icmp_ge (tgt := 34) hx hb dX12_puts_5 (by decide) (fun c_13 => ?_) (fun c_13 => ?_)
      · replace hm := hm_t c_13 hm
        obtain rfl := Option.some.inj hm
        exact kk _ _ _ hP hD hS (lv_sub hl [1, 2] rfl)
      · replace hm := hm_f c_13 hm
        refine lv_aload_n hx hb dX12_puts_8 rfl (lv_at hl 1 rfl) ?_
        refine va_get (D := D) (cl := classes) (ci := 8) (v := .ref a_t_cells) (C := RX12) (T := TX12) (N := 12) hx hb ht in_RX12 hown hK.1 hP 0 rfl rfl 1 (by decide) (ht _ q_1245) (fun _ h9 => h9) rfl dX12_puts_9 ?_
        refine lv_iload_n hx hb dX12_puts_12 rfl (lv_at hl 2 rfl) ?_
        obtain ⟨hin, hm⟩ := hm_g hm
        have hi_14 : p1.toNatClampNeg < 8 := Nat.not_le.mp (fun q => hin (Or.inr q))
        refine k_aldA hx hb hK.1 hP 1 5 rfl rfl hin dX12_puts_13 ?_
        refine lv_iload_n hx hb dX12_puts_14 rfl (lv_at hl 0 rfl) ?_
        refine lv_aload_n hx hb dX12_puts_15 rfl (lv_at hl 3 rfl) ?_
        refine lv_iload_n hx hb dX12_puts_16 rfl (lv_at hl 0 rfl) ?_
        refine lv_aload_n hx hb dX12_puts_17 rfl (lv_at hl 1 rfl) ?_
        obtain ⟨r_15, hr_15, hm⟩ := hm_b hm
        refine k_V (as := []) (rest := [.int y_11, .ref a_t_found, .int y_11, .ref (rw_t p1.toNatClampNeg)]) (ws' := (([(a_t, .inr (8, [.int v_t_isWide, .ref a_t_cells, .ref a_t_page, .int v_t_pageMany, .ref a_t_digits, .int v_t_many, .int v_t_isMinus, .ref a_t_found, .ref a_t_one, .ref a_t_other, .ref a_t_sum, .ref a_t_rest])), (a_t_cells, .inl (cy 5, 8, .inr (.inr (.inr (.inr (fun j => some (rw_t j))))))), (a_t_page, .inl (cy 0, 66, .inl f_t_page)), (a_t_digits, .inl (cy 0, 64, .inl f_t_digits)), (a_t_found, .inl (cy 2, 64, .inl f_t_found)), (a_t_one, .inl (cy 2, 65, .inl f_t_one)), (a_t_other, .inl (cy 2, 65, .inl f_t_other)), (a_t_sum, .inl (cy 2, 65, .inl f_t_sum)), (a_t_rest, .inl (cy 2, 65, .inl f_t_rest))] : va_W) ++ (rowsW (cy 2) rw_t y_12 ++ ([] : va_W)))) (st2 := [.int r_15, .int y_11, .ref a_t_found, .int y_11, .ref (rw_t p1.toNatClampNeg)]) (i0 := 0) hx hb hml hown ht hK hP hD hS hA hC hR hl (kcX12_bits l D cy g a_t a_t_cells a_t_page a_t_digits a_t_found a_t_one a_t_other a_t_sum a_t_rest rw_t v_t_isWide y_12 f_t_page v_t_pageMany f_t_digits v_t_many v_t_isMinus f_t_found f_t_one f_t_other f_t_sum f_t_rest r_15 hr_15) (isZ [0, 1, 2, 3, 4, 5, 6, 7, 8] 9 8) q_1354 q_1355 q_1356 q_55 q_1357 hyX12_bits ⟨rfl, rfl, rfl⟩ ⟨Nat.le_of_ble_eq_true rfl, Nat.le_of_ble_eq_true rfl, Nat.le_of_ble_eq_true rfl, Nat.le_of_ble_eq_true rfl⟩ rfl (zcT rfl rfl rfl) (zeT rfl rfl) rfl (Nat.le_of_ble_eq_true rfl) dX12_puts_18 (zwT (cx := [(a_t, .inr (8, [.int v_t_isWide, .ref a_t_cells, .ref a_t_page, .int v_t_pageMany, .ref a_t_digits, .int v_t_many, .int v_t_isMinus, .ref a_t_found, .ref a_t_one, .ref a_t_other, .ref a_t_sum, .ref a_t_rest])), (a_t_cells, .inl (cy 5, 8, .inr (.inr (.inr (.inr (fun j => some (rw_t j))))))), (a_t_page, .inl (cy 0, 66, .inl f_t_page)), (a_t_digits, .inl (cy 0, 64, .inl f_t_digits)), (a_t_found, .inl (cy 2, 64, .inl f_t_found)), (a_t_one, .inl (cy 2, 65, .inl f_t_one)), (a_t_other, .inl (cy 2, 65, .inl f_t_other)), (a_t_sum, .inl (cy 2, 65, .inl f_t_sum)), (a_t_rest, .inl (cy 2, 65, .inl f_t_rest))]) rfl rfl rfl rfl rfl rfl) rfl (fun H locs hP hD hS => ?_)
        refine lv_iconst (v := 1) hx hb dX12_puts_21 (by decide) ?_
        refine lv_isub hx hb dX12_puts_22 ?_
        refine va_mmin hx hb (hml.trans hl.1.symm) hown (ht _ q_1363) (ht _ q_430) (ht _ q_46) (ht _ q_431) (by rw [hR]; exact Nat.le_of_ble_eq_true rfl) (by rw [hR]; exact Nat.le_of_ble_eq_true rfl) (by rw [hR]; exact Nat.le_of_ble_eq_true rfl) (by rw [hR]; exact Nat.le_of_ble_eq_true rfl) dX12_puts_23 ?_
        obtain ⟨x_16, hx_, hm⟩ := hm_b hm
        refine k_topi (y := x_16) (Option.some.inj hx_) ?_
        obtain ⟨hin, hm⟩ := hm_g hm
        refine va_zald hx hb hK.1 hP 4 2 rfl rfl hin dX12_puts_26 ?_
        obtain ⟨hin, hm⟩ := hm_g hm
        refine va_zast hx hb hK.1 hP hD hS (9 + p1.toNatClampNeg) 2 (row_get0 rfl hi_14) rfl hin dX12_puts_27 (fun H locs hP hD hS => ?_)
        have hP : va_P D classes (([(a_t, .inr (8, [.int v_t_isWide, .ref a_t_cells, .ref a_t_page, .int v_t_pageMany, .ref a_t_digits, .int v_t_many, .int v_t_isMinus, .ref a_t_found, .ref a_t_one, .ref a_t_other, .ref a_t_sum, .ref a_t_rest])), (a_t_cells, .inl (cy 5, 8, .inr (.inr (.inr (.inr (fun j => some (rw_t j))))))), (a_t_page, .inl (cy 0, 66, .inl f_t_page)), (a_t_digits, .inl (cy 0, 64, .inl f_t_digits)), (a_t_found, .inl (cy 2, 64, .inl f_t_found)), (a_t_one, .inl (cy 2, 65, .inl f_t_one)), (a_t_other, .inl (cy 2, 65, .inl f_t_other)), (a_t_sum, .inl (cy 2, 65, .inl f_t_sum)), (a_t_rest, .inl (cy 2, 65, .inl f_t_rest))] : va_W) ++ (rowsW (cy 2) rw_t (upR y_12 p1.toNatClampNeg (upd (y_12 p1.toNatClampNeg) y_11.toNatClampNeg (vp_nar .boolean (f_t_found x_16.toNatClampNeg)))) ++ ([] : va_W))) H := P_eq (row_set0 rfl hi_14) hP
        have hD : va_D A (([(a_t, .inr (8, [.int v_t_isWide, .ref a_t_cells, .ref a_t_page, .int v_t_pageMany, .ref a_t_digits, .int v_t_many, .int v_t_isMinus, .ref a_t_found, .ref a_t_one, .ref a_t_other, .ref a_t_sum, .ref a_t_rest])), (a_t_cells, .inl (cy 5, 8, .inr (.inr (.inr (.inr (fun j => some (rw_t j))))))), (a_t_page, .inl (cy 0, 66, .inl f_t_page)), (a_t_digits, .inl (cy 0, 64, .inl f_t_digits)), (a_t_found, .inl (cy 2, 64, .inl f_t_found)), (a_t_one, .inl (cy 2, 65, .inl f_t_one)), (a_t_other, .inl (cy 2, 65, .inl f_t_other)), (a_t_sum, .inl (cy 2, 65, .inl f_t_sum)), (a_t_rest, .inl (cy 2, 65, .inl f_t_rest))] : va_W) ++ (rowsW (cy 2) rw_t (upR y_12 p1.toNatClampNeg (upd (y_12 p1.toNatClampNeg) y_11.toNatClampNeg (vp_nar .boolean (f_t_found x_16.toNatClampNeg)))) ++ ([] : va_W))) := D_eq (row_set0 rfl hi_14) hD
        refine lv_iinc (v := (y_11 + 1)) (lv' := [(3, .int (y_11 + 1)), (0, .ref a_t), (1, .int p1), (2, .ref a_t_found)]) hx hb dX12_puts_28 hl (k := 0) rfl rfl (by decide) rfl (fun ls hl => ?_)
        refine lv_goto (tgt := 2) hx hb dX12_puts_31 (by decide) ?_
        exact ih (y_11 + 1) (upR y_12 p1.toNatClampNeg (upd (y_12 p1.toNatClampNeg) y_11.toNatClampNeg (vp_nar .boolean (f_t_found x_16.toNatClampNeg)))) hm _ _ _ hP hD hS (lv_sub hl [0, 1, 2, 3] rfl)
  obtain ⟨r_17, hL, hm⟩ := hm_b hm
  refine L2 r_17 ?_ k 0 B_t hL _ _ _ hP hD hS (lv_sub hl [0, 1, 2, 3] rfl)
  intro H locs ls hP hD hS hl
  refine lv_aload_n hx hb dX12_puts_34 rfl (lv_at hl 0 rfl) ?_
  refine lv_iload_n hx hb dX12_puts_35 rfl (lv_at hl 1 rfl) ?_
  obtain ⟨r_18, hr_18, hm⟩ := hm_b hm
  refine k_V (as := [.int p1]) (rest := []) (ws' := (([(a_t, .inr (8, [.int v_t_isWide, .ref a_t_cells, .ref a_t_page, .int v_t_pageMany, .ref a_t_digits, .int v_t_many, .int v_t_isMinus, .ref a_t_found, .ref a_t_one, .ref a_t_other, .ref a_t_sum, .ref a_t_rest])), (a_t_cells, .inl (cy 5, 8, .inr (.inr (.inr (.inr (fun j => some (rw_t j))))))), (a_t_page, .inl (cy 0, 66, .inl f_t_page)), (a_t_digits, .inl (cy 0, 64, .inl f_t_digits)), (a_t_found, .inl (cy 2, 64, .inl f_t_found)), (a_t_one, .inl (cy 2, 65, .inl f_t_one)), (a_t_other, .inl (cy 2, 65, .inl f_t_other)), (a_t_sum, .inl (cy 2, 65, .inl f_t_sum)), (a_t_rest, .inl (cy 2, 65, .inl f_t_rest))] : va_W) ++ (rowsW (cy 2) rw_t r_17 ++ ([] : va_W)))) (st2 := [.long r_18]) (i0 := 0) hx hb hml hown ht hK hP hD hS hA hC hR hl (kcX12_number l D cy g a_t a_t_cells a_t_page a_t_digits a_t_found a_t_one a_t_other a_t_sum a_t_rest rw_t v_t_isWide r_17 f_t_page v_t_pageMany f_t_digits v_t_many v_t_isMinus f_t_found f_t_one f_t_other f_t_sum f_t_rest p1 k r_18 hr_18) (isZ [0, 1, 2, 3, 4, 5, 6, 7, 8] 9 8) q_1437 q_1351 q_1352 q_55 q_1353 hyX12_number ⟨rfl, rfl, rfl⟩ ⟨Nat.le_of_ble_eq_true rfl, Nat.le_of_ble_eq_true rfl, Nat.le_of_ble_eq_true rfl, Nat.le_of_ble_eq_true rfl⟩ rfl (zcT rfl rfl rfl) (zeT rfl rfl) rfl (Nat.le_of_ble_eq_true rfl) dX12_puts_36 (zwT (cx := [(a_t, .inr (8, [.int v_t_isWide, .ref a_t_cells, .ref a_t_page, .int v_t_pageMany, .ref a_t_digits, .int v_t_many, .int v_t_isMinus, .ref a_t_found, .ref a_t_one, .ref a_t_other, .ref a_t_sum, .ref a_t_rest])), (a_t_cells, .inl (cy 5, 8, .inr (.inr (.inr (.inr (fun j => some (rw_t j))))))), (a_t_page, .inl (cy 0, 66, .inl f_t_page)), (a_t_digits, .inl (cy 0, 64, .inl f_t_digits)), (a_t_found, .inl (cy 2, 64, .inl f_t_found)), (a_t_one, .inl (cy 2, 65, .inl f_t_one)), (a_t_other, .inl (cy 2, 65, .inl f_t_other)), (a_t_sum, .inl (cy 2, 65, .inl f_t_sum)), (a_t_rest, .inl (cy 2, 65, .inl f_t_rest))]) rfl rfl rfl rfl rfl rfl) rfl (fun H locs hP hD hS => ?_)
  obtain rfl := Option.some.inj hm
  exact k_lret hx hb hr hlocks hQc hP hS rfl rfl dX12_puts_39
def mX12_puts_rest_L2 (p1 : Int32) (v_t_isWide : Int32) (f_t_rest : Nat → Int32) : Nat → Int32 → (Nat → Nat → Int32) → Option ((Nat → Nat → Int32))
  | 0, _, _ => none
  | n_ + 1, y_11, y_12 => (if (64 : Int32) ≤ y_11 then some y_12 else (if p1 < 0 ∨ 8 ≤ p1.toNatClampNeg then none else ((mX12_bits v_t_isWide).bind (fun r_15 => ((some (if (r_15 - 1) < y_11 then (r_15 - 1) else y_11) : Option Int32).bind (fun x_16 => (if x_16 < 0 ∨ 65 ≤ x_16.toNatClampNeg then none else (if y_11 < 0 ∨ 64 ≤ y_11.toNatClampNeg then none else (mX12_puts_rest_L2 p1 v_t_isWide f_t_rest n_ (y_11 + 1) (upR y_12 p1.toNatClampNeg (upd (y_12 p1.toNatClampNeg) y_11.toNatClampNeg (vp_nar .boolean (f_t_rest x_16.toNatClampNeg)))))))))))))
def mX12_puts_rest (k : Nat) (v_t_isWide : Int32) (B_t : Nat → Nat → Int32) (f_t_rest : Nat → Int32) (p1 : Int32) : Option (Int64 × (Nat → Nat → Int32)) := ((mX12_puts_rest_L2 p1 v_t_isWide f_t_rest k 0 B_t).bind (fun r_17 => ((mX12_number k v_t_isWide r_17 p1).bind (fun r_18 => some (r_18, r_17)))))
set_option maxHeartbeats 4000000 in
set_option maxRecDepth 100000 in
theorem kcX12_puts_rest (l : Launch) (D : va_G) (cy : Nat → ClassId) (g : Nat → Nat) (a_t : Nat) (a_t_cells : Nat) (a_t_page : Nat) (a_t_digits : Nat) (a_t_found : Nat) (a_t_one : Nat) (a_t_other : Nat) (a_t_sum : Nat) (a_t_rest : Nat) (rw_t : Nat → Nat) (v_t_isWide : Int32) (B_t : Nat → Nat → Int32) (f_t_page : Nat → Int32) (v_t_pageMany : Int32) (f_t_digits : Nat → Int32) (v_t_many : Int32) (v_t_isMinus : Int32) (f_t_found : Nat → Int32) (f_t_one : Nat → Int32) (f_t_other : Nat → Int32) (f_t_sum : Nat → Int32) (f_t_rest : Nat → Int32) (p1 : Int32) (k : Nat) (R : Int64 × (Nat → Nat → Int32)) (hm : mX12_puts_rest k v_t_isWide B_t f_t_rest p1 = some R) : Con l D cy g yX12_puts cX12_puts 4 (some .long) 3 62 0 0 [.ref a_t, .int p1, .ref a_t_rest] (([(a_t, .inr (8, [.int v_t_isWide, .ref a_t_cells, .ref a_t_page, .int v_t_pageMany, .ref a_t_digits, .int v_t_many, .int v_t_isMinus, .ref a_t_found, .ref a_t_one, .ref a_t_other, .ref a_t_sum, .ref a_t_rest])), (a_t_cells, .inl (cy 5, 8, .inr (.inr (.inr (.inr (fun j => some (rw_t j))))))), (a_t_page, .inl (cy 0, 66, .inl f_t_page)), (a_t_digits, .inl (cy 0, 64, .inl f_t_digits)), (a_t_found, .inl (cy 2, 64, .inl f_t_found)), (a_t_one, .inl (cy 2, 65, .inl f_t_one)), (a_t_other, .inl (cy 2, 65, .inl f_t_other)), (a_t_sum, .inl (cy 2, 65, .inl f_t_sum)), (a_t_rest, .inl (cy 2, 65, .inl f_t_rest))] : va_W) ++ (rowsW (cy 2) rw_t B_t ++ ([] : va_W))) (([(a_t, .inr (8, [.int v_t_isWide, .ref a_t_cells, .ref a_t_page, .int v_t_pageMany, .ref a_t_digits, .int v_t_many, .int v_t_isMinus, .ref a_t_found, .ref a_t_one, .ref a_t_other, .ref a_t_sum, .ref a_t_rest])), (a_t_cells, .inl (cy 5, 8, .inr (.inr (.inr (.inr (fun j => some (rw_t j))))))), (a_t_page, .inl (cy 0, 66, .inl f_t_page)), (a_t_digits, .inl (cy 0, 64, .inl f_t_digits)), (a_t_found, .inl (cy 2, 64, .inl f_t_found)), (a_t_one, .inl (cy 2, 65, .inl f_t_one)), (a_t_other, .inl (cy 2, 65, .inl f_t_other)), (a_t_sum, .inl (cy 2, 65, .inl f_t_sum)), (a_t_rest, .inl (cy 2, 65, .inl f_t_rest))] : va_W) ++ (rowsW (cy 2) rw_t R.2 ++ ([] : va_W))) (some (.long R.1)) := by
  refine Con.of (by decide +kernel) (Nat.le_of_ble_eq_true rfl) ?_
  intro p e RM s m ar below meth c A Qc ls hx hb hr hml hown hlocks hnm ht hK hP hD hS hA hR hC hQc hl
  have hown : s.vm.findClass RX12 = some m.cls := hown
  have hl : lv_has ls 4 [(0, .ref a_t), (1, .int p1), (2, .ref a_t_rest)] := hl
  rw [mX12_puts_rest] at hm
  refine lv_iconst (v := 0) hx hb dX12_puts_0 (by decide) ?_
  refine lv_istore_n (lv' := [(3, .int 0), (0, .ref a_t), (1, .int p1), (2, .ref a_t_rest)]) hx hb dX12_puts_1 rfl hl (by decide) rfl (fun ls hl => ?_)
  have L2 : ∀ (rr : (Nat → Nat → Int32)) (kk : ∀ (H : Heap) (locs : List Loc) (ls : Array Slot), va_P D classes (([(a_t, .inr (8, [.int v_t_isWide, .ref a_t_cells, .ref a_t_page, .int v_t_pageMany, .ref a_t_digits, .int v_t_many, .int v_t_isMinus, .ref a_t_found, .ref a_t_one, .ref a_t_other, .ref a_t_sum, .ref a_t_rest])), (a_t_cells, .inl (cy 5, 8, .inr (.inr (.inr (.inr (fun j => some (rw_t j))))))), (a_t_page, .inl (cy 0, 66, .inl f_t_page)), (a_t_digits, .inl (cy 0, 64, .inl f_t_digits)), (a_t_found, .inl (cy 2, 64, .inl f_t_found)), (a_t_one, .inl (cy 2, 65, .inl f_t_one)), (a_t_other, .inl (cy 2, 65, .inl f_t_other)), (a_t_sum, .inl (cy 2, 65, .inl f_t_sum)), (a_t_rest, .inl (cy 2, 65, .inl f_t_rest))] : va_W) ++ (rowsW (cy 2) rw_t rr ++ ([] : va_W))) H → va_D A (([(a_t, .inr (8, [.int v_t_isWide, .ref a_t_cells, .ref a_t_page, .int v_t_pageMany, .ref a_t_digits, .int v_t_many, .int v_t_isMinus, .ref a_t_found, .ref a_t_one, .ref a_t_other, .ref a_t_sum, .ref a_t_rest])), (a_t_cells, .inl (cy 5, 8, .inr (.inr (.inr (.inr (fun j => some (rw_t j))))))), (a_t_page, .inl (cy 0, 66, .inl f_t_page)), (a_t_digits, .inl (cy 0, 64, .inl f_t_digits)), (a_t_found, .inl (cy 2, 64, .inl f_t_found)), (a_t_one, .inl (cy 2, 65, .inl f_t_one)), (a_t_other, .inl (cy 2, 65, .inl f_t_other)), (a_t_sum, .inl (cy 2, 65, .inl f_t_sum)), (a_t_rest, .inl (cy 2, 65, .inl f_t_rest))] : va_W) ++ (rowsW (cy 2) rw_t rr ++ ([] : va_W))) → va_S A s.heap H locs → lv_has ls 4 [(0, .ref a_t), (1, .int p1)] → W p l e RM s m ar below meth c H locs 0 0 (MQ below Qc ar s 0 0 A) (F0 m 34 ls [])) (n_ : Nat), ∀ (y_11 : Int32) (y_12 : Nat → Nat → Int32), mX12_puts_rest_L2 p1 v_t_isWide f_t_rest n_ y_11 y_12 = some rr → ∀ (H : Heap) (locs : List Loc) (ls : Array Slot), va_P D classes (([(a_t, .inr (8, [.int v_t_isWide, .ref a_t_cells, .ref a_t_page, .int v_t_pageMany, .ref a_t_digits, .int v_t_many, .int v_t_isMinus, .ref a_t_found, .ref a_t_one, .ref a_t_other, .ref a_t_sum, .ref a_t_rest])), (a_t_cells, .inl (cy 5, 8, .inr (.inr (.inr (.inr (fun j => some (rw_t j))))))), (a_t_page, .inl (cy 0, 66, .inl f_t_page)), (a_t_digits, .inl (cy 0, 64, .inl f_t_digits)), (a_t_found, .inl (cy 2, 64, .inl f_t_found)), (a_t_one, .inl (cy 2, 65, .inl f_t_one)), (a_t_other, .inl (cy 2, 65, .inl f_t_other)), (a_t_sum, .inl (cy 2, 65, .inl f_t_sum)), (a_t_rest, .inl (cy 2, 65, .inl f_t_rest))] : va_W) ++ (rowsW (cy 2) rw_t y_12 ++ ([] : va_W))) H → va_D A (([(a_t, .inr (8, [.int v_t_isWide, .ref a_t_cells, .ref a_t_page, .int v_t_pageMany, .ref a_t_digits, .int v_t_many, .int v_t_isMinus, .ref a_t_found, .ref a_t_one, .ref a_t_other, .ref a_t_sum, .ref a_t_rest])), (a_t_cells, .inl (cy 5, 8, .inr (.inr (.inr (.inr (fun j => some (rw_t j))))))), (a_t_page, .inl (cy 0, 66, .inl f_t_page)), (a_t_digits, .inl (cy 0, 64, .inl f_t_digits)), (a_t_found, .inl (cy 2, 64, .inl f_t_found)), (a_t_one, .inl (cy 2, 65, .inl f_t_one)), (a_t_other, .inl (cy 2, 65, .inl f_t_other)), (a_t_sum, .inl (cy 2, 65, .inl f_t_sum)), (a_t_rest, .inl (cy 2, 65, .inl f_t_rest))] : va_W) ++ (rowsW (cy 2) rw_t y_12 ++ ([] : va_W))) → va_S A s.heap H locs → lv_has ls 4 [(3, .int y_11), (0, .ref a_t), (1, .int p1), (2, .ref a_t_rest)] → W p l e RM s m ar below meth c H locs 0 0 (MQ below Qc ar s 0 0 A) (F0 m 2 ls []) := by
    intro rr kk n_
    induction n_ with
    | zero => intro y_11 y_12 hm; rw [mX12_puts_rest_L2] at hm; cases hm
    | succ n_ ih =>
      intro y_11 y_12 hm H locs ls hP hD hS hl
      rw [mX12_puts_rest_L2] at hm
      refine lv_iload_n hx hb dX12_puts_2 rfl (lv_at hl 0 rfl) ?_
      refine lv_bipush (v := 64) hx hb dX12_puts_3 (by decide) ?_
      refine lv_icmp_ge (tgt := 34) hx hb dX12_puts_5 (by decide) (fun c_13 => ?_) (fun c_13 => ?_)
      · replace hm := hm_t c_13 hm
        obtain rfl := Option.some.inj hm
        exact kk _ _ _ hP hD hS (lv_sub hl [1, 2] rfl)
      · replace hm := hm_f c_13 hm
        refine lv_aload_n hx hb dX12_puts_8 rfl (lv_at hl 1 rfl) ?_
        refine va_get (D := D) (cl := classes) (ci := 8) (v := .ref a_t_cells) (C := RX12) (T := TX12) (N := 12) hx hb ht in_RX12 hown hK.1 hP 0 rfl rfl 1 (by decide) (ht _ q_1245) (fun _ h9 => h9) rfl dX12_puts_9 ?_
        refine lv_iload_n hx hb dX12_puts_12 rfl (lv_at hl 2 rfl) ?_
        obtain ⟨hin, hm⟩ := hm_g hm
        have hi_14 : p1.toNatClampNeg < 8 := Nat.not_le.mp (fun q => hin (Or.inr q))
        refine k_aldA hx hb hK.1 hP 1 5 rfl rfl hin dX12_puts_13 ?_
        refine lv_iload_n hx hb dX12_puts_14 rfl (lv_at hl 0 rfl) ?_
        refine lv_aload_n hx hb dX12_puts_15 rfl (lv_at hl 3 rfl) ?_
        refine lv_iload_n hx hb dX12_puts_16 rfl (lv_at hl 0 rfl) ?_
        refine lv_aload_n hx hb dX12_puts_17 rfl (lv_at hl 1 rfl) ?_
        obtain ⟨r_15, hr_15, hm⟩ := hm_b hm
        refine k_V (as := []) (rest := [.int y_11, .ref a_t_rest, .int y_11, .ref (rw_t p1.toNatClampNeg)]) (ws' := (([(a_t, .inr (8, [.int v_t_isWide, .ref a_t_cells, .ref a_t_page, .int v_t_pageMany, .ref a_t_digits, .int v_t_many, .int v_t_isMinus, .ref a_t_found, .ref a_t_one, .ref a_t_other, .ref a_t_sum, .ref a_t_rest])), (a_t_cells, .inl (cy 5, 8, .inr (.inr (.inr (.inr (fun j => some (rw_t j))))))), (a_t_page, .inl (cy 0, 66, .inl f_t_page)), (a_t_digits, .inl (cy 0, 64, .inl f_t_digits)), (a_t_found, .inl (cy 2, 64, .inl f_t_found)), (a_t_one, .inl (cy 2, 65, .inl f_t_one)), (a_t_other, .inl (cy 2, 65, .inl f_t_other)), (a_t_sum, .inl (cy 2, 65, .inl f_t_sum)), (a_t_rest, .inl (cy 2, 65, .inl f_t_rest))] : va_W) ++ (rowsW (cy 2) rw_t y_12 ++ ([] : va_W)))) (st2 := [.int r_15, .int y_11, .ref a_t_rest, .int y_11, .ref (rw_t p1.toNatClampNeg)]) (i0 := 0) hx hb hml hown ht hK hP hD hS hA hC hR hl (kcX12_bits l D cy g a_t a_t_cells a_t_page a_t_digits a_t_found a_t_one a_t_other a_t_sum a_t_rest rw_t v_t_isWide y_12 f_t_page v_t_pageMany f_t_digits v_t_many v_t_isMinus f_t_found f_t_one f_t_other f_t_sum f_t_rest r_15 hr_15) (isZ [0, 1, 2, 3, 4, 5, 6, 7, 8] 9 8) q_1354 q_1355 q_1356 q_55 q_1357 hyX12_bits ⟨rfl, rfl, rfl⟩ ⟨Nat.le_of_ble_eq_true rfl, Nat.le_of_ble_eq_true rfl, Nat.le_of_ble_eq_true rfl, Nat.le_of_ble_eq_true rfl⟩ rfl (zcT rfl rfl rfl) (zeT rfl rfl) rfl (Nat.le_of_ble_eq_true rfl) dX12_puts_18 (zwT (cx := [(a_t, .inr (8, [.int v_t_isWide, .ref a_t_cells, .ref a_t_page, .int v_t_pageMany, .ref a_t_digits, .int v_t_many, .int v_t_isMinus, .ref a_t_found, .ref a_t_one, .ref a_t_other, .ref a_t_sum, .ref a_t_rest])), (a_t_cells, .inl (cy 5, 8, .inr (.inr (.inr (.inr (fun j => some (rw_t j))))))), (a_t_page, .inl (cy 0, 66, .inl f_t_page)), (a_t_digits, .inl (cy 0, 64, .inl f_t_digits)), (a_t_found, .inl (cy 2, 64, .inl f_t_found)), (a_t_one, .inl (cy 2, 65, .inl f_t_one)), (a_t_other, .inl (cy 2, 65, .inl f_t_other)), (a_t_sum, .inl (cy 2, 65, .inl f_t_sum)), (a_t_rest, .inl (cy 2, 65, .inl f_t_rest))]) rfl rfl rfl rfl rfl rfl) rfl (fun H locs hP hD hS => ?_)
        refine lv_iconst (v := 1) hx hb dX12_puts_21 (by decide) ?_
        refine lv_isub hx hb dX12_puts_22 ?_
        refine va_mmin hx hb (hml.trans hl.1.symm) hown (ht _ q_1363) (ht _ q_430) (ht _ q_46) (ht _ q_431) (by rw [hR]; exact Nat.le_of_ble_eq_true rfl) (by rw [hR]; exact Nat.le_of_ble_eq_true rfl) (by rw [hR]; exact Nat.le_of_ble_eq_true rfl) (by rw [hR]; exact Nat.le_of_ble_eq_true rfl) dX12_puts_23 ?_
        obtain ⟨x_16, hx_, hm⟩ := hm_b hm
        refine k_topi (y := x_16) (Option.some.inj hx_) ?_
        obtain ⟨hin, hm⟩ := hm_g hm
        refine va_zald hx hb hK.1 hP 8 2 rfl rfl hin dX12_puts_26 ?_
        obtain ⟨hin, hm⟩ := hm_g hm
        refine va_zast hx hb hK.1 hP hD hS (9 + p1.toNatClampNeg) 2 (row_get0 rfl hi_14) rfl hin dX12_puts_27 (fun H locs hP hD hS => ?_)
        have hP : va_P D classes (([(a_t, .inr (8, [.int v_t_isWide, .ref a_t_cells, .ref a_t_page, .int v_t_pageMany, .ref a_t_digits, .int v_t_many, .int v_t_isMinus, .ref a_t_found, .ref a_t_one, .ref a_t_other, .ref a_t_sum, .ref a_t_rest])), (a_t_cells, .inl (cy 5, 8, .inr (.inr (.inr (.inr (fun j => some (rw_t j))))))), (a_t_page, .inl (cy 0, 66, .inl f_t_page)), (a_t_digits, .inl (cy 0, 64, .inl f_t_digits)), (a_t_found, .inl (cy 2, 64, .inl f_t_found)), (a_t_one, .inl (cy 2, 65, .inl f_t_one)), (a_t_other, .inl (cy 2, 65, .inl f_t_other)), (a_t_sum, .inl (cy 2, 65, .inl f_t_sum)), (a_t_rest, .inl (cy 2, 65, .inl f_t_rest))] : va_W) ++ (rowsW (cy 2) rw_t (upR y_12 p1.toNatClampNeg (upd (y_12 p1.toNatClampNeg) y_11.toNatClampNeg (vp_nar .boolean (f_t_rest x_16.toNatClampNeg)))) ++ ([] : va_W))) H := P_eq (row_set0 rfl hi_14) hP
        have hD : va_D A (([(a_t, .inr (8, [.int v_t_isWide, .ref a_t_cells, .ref a_t_page, .int v_t_pageMany, .ref a_t_digits, .int v_t_many, .int v_t_isMinus, .ref a_t_found, .ref a_t_one, .ref a_t_other, .ref a_t_sum, .ref a_t_rest])), (a_t_cells, .inl (cy 5, 8, .inr (.inr (.inr (.inr (fun j => some (rw_t j))))))), (a_t_page, .inl (cy 0, 66, .inl f_t_page)), (a_t_digits, .inl (cy 0, 64, .inl f_t_digits)), (a_t_found, .inl (cy 2, 64, .inl f_t_found)), (a_t_one, .inl (cy 2, 65, .inl f_t_one)), (a_t_other, .inl (cy 2, 65, .inl f_t_other)), (a_t_sum, .inl (cy 2, 65, .inl f_t_sum)), (a_t_rest, .inl (cy 2, 65, .inl f_t_rest))] : va_W) ++ (rowsW (cy 2) rw_t (upR y_12 p1.toNatClampNeg (upd (y_12 p1.toNatClampNeg) y_11.toNatClampNeg (vp_nar .boolean (f_t_rest x_16.toNatClampNeg)))) ++ ([] : va_W))) := D_eq (row_set0 rfl hi_14) hD
        refine lv_iinc (v := (y_11 + 1)) (lv' := [(3, .int (y_11 + 1)), (0, .ref a_t), (1, .int p1), (2, .ref a_t_rest)]) hx hb dX12_puts_28 hl (k := 0) rfl rfl (by decide) rfl (fun ls hl => ?_)
        refine lv_goto (tgt := 2) hx hb dX12_puts_31 (by decide) ?_
        exact ih (y_11 + 1) (upR y_12 p1.toNatClampNeg (upd (y_12 p1.toNatClampNeg) y_11.toNatClampNeg (vp_nar .boolean (f_t_rest x_16.toNatClampNeg)))) hm _ _ _ hP hD hS (lv_sub hl [0, 1, 2, 3] rfl)
  obtain ⟨r_17, hL, hm⟩ := hm_b hm
  refine L2 r_17 ?_ k 0 B_t hL _ _ _ hP hD hS (lv_sub hl [0, 1, 2, 3] rfl)
  intro H locs ls hP hD hS hl
  refine lv_aload_n hx hb dX12_puts_34 rfl (lv_at hl 0 rfl) ?_
  refine lv_iload_n hx hb dX12_puts_35 rfl (lv_at hl 1 rfl) ?_
  obtain ⟨r_18, hr_18, hm⟩ := hm_b hm
  refine k_V (as := [.int p1]) (rest := []) (ws' := (([(a_t, .inr (8, [.int v_t_isWide, .ref a_t_cells, .ref a_t_page, .int v_t_pageMany, .ref a_t_digits, .int v_t_many, .int v_t_isMinus, .ref a_t_found, .ref a_t_one, .ref a_t_other, .ref a_t_sum, .ref a_t_rest])), (a_t_cells, .inl (cy 5, 8, .inr (.inr (.inr (.inr (fun j => some (rw_t j))))))), (a_t_page, .inl (cy 0, 66, .inl f_t_page)), (a_t_digits, .inl (cy 0, 64, .inl f_t_digits)), (a_t_found, .inl (cy 2, 64, .inl f_t_found)), (a_t_one, .inl (cy 2, 65, .inl f_t_one)), (a_t_other, .inl (cy 2, 65, .inl f_t_other)), (a_t_sum, .inl (cy 2, 65, .inl f_t_sum)), (a_t_rest, .inl (cy 2, 65, .inl f_t_rest))] : va_W) ++ (rowsW (cy 2) rw_t r_17 ++ ([] : va_W)))) (st2 := [.long r_18]) (i0 := 0) hx hb hml hown ht hK hP hD hS hA hC hR hl (kcX12_number l D cy g a_t a_t_cells a_t_page a_t_digits a_t_found a_t_one a_t_other a_t_sum a_t_rest rw_t v_t_isWide r_17 f_t_page v_t_pageMany f_t_digits v_t_many v_t_isMinus f_t_found f_t_one f_t_other f_t_sum f_t_rest p1 k r_18 hr_18) (isZ [0, 1, 2, 3, 4, 5, 6, 7, 8] 9 8) q_1437 q_1351 q_1352 q_55 q_1353 hyX12_number ⟨rfl, rfl, rfl⟩ ⟨Nat.le_of_ble_eq_true rfl, Nat.le_of_ble_eq_true rfl, Nat.le_of_ble_eq_true rfl, Nat.le_of_ble_eq_true rfl⟩ rfl (zcT rfl rfl rfl) (zeT rfl rfl) rfl (Nat.le_of_ble_eq_true rfl) dX12_puts_36 (zwT (cx := [(a_t, .inr (8, [.int v_t_isWide, .ref a_t_cells, .ref a_t_page, .int v_t_pageMany, .ref a_t_digits, .int v_t_many, .int v_t_isMinus, .ref a_t_found, .ref a_t_one, .ref a_t_other, .ref a_t_sum, .ref a_t_rest])), (a_t_cells, .inl (cy 5, 8, .inr (.inr (.inr (.inr (fun j => some (rw_t j))))))), (a_t_page, .inl (cy 0, 66, .inl f_t_page)), (a_t_digits, .inl (cy 0, 64, .inl f_t_digits)), (a_t_found, .inl (cy 2, 64, .inl f_t_found)), (a_t_one, .inl (cy 2, 65, .inl f_t_one)), (a_t_other, .inl (cy 2, 65, .inl f_t_other)), (a_t_sum, .inl (cy 2, 65, .inl f_t_sum)), (a_t_rest, .inl (cy 2, 65, .inl f_t_rest))]) rfl rfl rfl rfl rfl rfl) rfl (fun H locs hP hD hS => ?_)
  obtain rfl := Option.some.inj hm
  exact k_lret hx hb hr hlocks hQc hP hS rfl rfl dX12_puts_39
theorem dX12_putsNumber_0 : decode cX12_putsNumber 0 = .ok (.aload_n 0, 1) := by decide +kernel
theorem dX12_putsNumber_1 : decode cX12_putsNumber 1 = .ok (.getfield 33, 3) := by decide +kernel
theorem dX12_putsNumber_4 : decode cX12_putsNumber 4 = .ok (.lload_n 2, 1) := by decide +kernel
theorem dX12_putsNumber_5 : decode cX12_putsNumber 5 = .ok (.invokestatic 71, 3) := by decide +kernel
theorem dX12_putsNumber_8 : decode cX12_putsNumber 8 = .ok (.aload_n 0, 1) := by decide +kernel
theorem dX12_putsNumber_9 : decode cX12_putsNumber 9 = .ok (.iload_n 1, 1) := by decide +kernel
theorem dX12_putsNumber_10 : decode cX12_putsNumber 10 = .ok (.aload_n 0, 1) := by decide +kernel
theorem dX12_putsNumber_11 : decode cX12_putsNumber 11 = .ok (.getfield 33, 3) := by decide +kernel
theorem dX12_putsNumber_14 : decode cX12_putsNumber 14 = .ok (.invokevirtual 75, 3) := by decide +kernel
theorem dX12_putsNumber_17 : decode cX12_putsNumber 17 = .ok (.lstore 4, 2) := by decide +kernel
theorem dX12_putsNumber_19 : decode cX12_putsNumber 19 = .ok (.return_, 1) := by decide +kernel
def mX12_putsNumber (k : Nat) (v_t_isWide : Int32) (B_t : Nat → Nat → Int32) (f_t_sum : Nat → Int32) (p1 : Int32) (p2 : Int64) : Option ((Nat → Nat → Int32) × (Nat → Int32)) := ((mX13_lays k 65 f_t_sum p2).bind (fun r_1 => ((mX12_puts_sum k v_t_isWide B_t r_1 p1).bind (fun r_2 => some (r_2.2, r_1)))))
set_option maxHeartbeats 4000000 in
set_option maxRecDepth 100000 in
theorem kcX12_putsNumber (l : Launch) (D : va_G) (cy : Nat → ClassId) (g : Nat → Nat) (a_t : Nat) (a_t_cells : Nat) (a_t_page : Nat) (a_t_digits : Nat) (a_t_found : Nat) (a_t_one : Nat) (a_t_other : Nat) (a_t_sum : Nat) (a_t_rest : Nat) (rw_t : Nat → Nat) (v_t_isWide : Int32) (B_t : Nat → Nat → Int32) (f_t_page : Nat → Int32) (v_t_pageMany : Int32) (f_t_digits : Nat → Int32) (v_t_many : Int32) (v_t_isMinus : Int32) (f_t_found : Nat → Int32) (f_t_one : Nat → Int32) (f_t_other : Nat → Int32) (f_t_sum : Nat → Int32) (f_t_rest : Nat → Int32) (p1 : Int32) (p2 : Int64) (k : Nat) (R : (Nat → Nat → Int32) × (Nat → Int32)) (hm : mX12_putsNumber k v_t_isWide B_t f_t_sum p1 p2 = some R) : Con l D cy g yX12_putsNumber cX12_putsNumber 6 none 4 85 0 0 [.ref a_t, .int p1, .long p2] (([(a_t, .inr (8, [.int v_t_isWide, .ref a_t_cells, .ref a_t_page, .int v_t_pageMany, .ref a_t_digits, .int v_t_many, .int v_t_isMinus, .ref a_t_found, .ref a_t_one, .ref a_t_other, .ref a_t_sum, .ref a_t_rest])), (a_t_cells, .inl (cy 5, 8, .inr (.inr (.inr (.inr (fun j => some (rw_t j))))))), (a_t_page, .inl (cy 0, 66, .inl f_t_page)), (a_t_digits, .inl (cy 0, 64, .inl f_t_digits)), (a_t_found, .inl (cy 2, 64, .inl f_t_found)), (a_t_one, .inl (cy 2, 65, .inl f_t_one)), (a_t_other, .inl (cy 2, 65, .inl f_t_other)), (a_t_sum, .inl (cy 2, 65, .inl f_t_sum)), (a_t_rest, .inl (cy 2, 65, .inl f_t_rest))] : va_W) ++ (rowsW (cy 2) rw_t B_t ++ ([] : va_W))) (([(a_t, .inr (8, [.int v_t_isWide, .ref a_t_cells, .ref a_t_page, .int v_t_pageMany, .ref a_t_digits, .int v_t_many, .int v_t_isMinus, .ref a_t_found, .ref a_t_one, .ref a_t_other, .ref a_t_sum, .ref a_t_rest])), (a_t_cells, .inl (cy 5, 8, .inr (.inr (.inr (.inr (fun j => some (rw_t j))))))), (a_t_page, .inl (cy 0, 66, .inl f_t_page)), (a_t_digits, .inl (cy 0, 64, .inl f_t_digits)), (a_t_found, .inl (cy 2, 64, .inl f_t_found)), (a_t_one, .inl (cy 2, 65, .inl f_t_one)), (a_t_other, .inl (cy 2, 65, .inl f_t_other)), (a_t_sum, .inl (cy 2, 65, .inl R.2)), (a_t_rest, .inl (cy 2, 65, .inl f_t_rest))] : va_W) ++ (rowsW (cy 2) rw_t R.1 ++ ([] : va_W))) none := by
  refine Con.of (by decide +kernel) (Nat.le_of_ble_eq_true rfl) ?_
  intro p e RM s m ar below meth c A Qc ls hx hb hr hml hown hlocks hnm ht hK hP hD hS hA hR hC hQc hl
  have hown : s.vm.findClass RX12 = some m.cls := hown
  have hl : lv_has ls 6 [(0, .ref a_t), (1, .int p1), (2, .long p2)] := hl
  rw [mX12_putsNumber] at hm
  refine lv_aload_n hx hb dX12_putsNumber_0 rfl (lv_at hl 0 rfl) ?_
  refine va_get (D := D) (cl := classes) (ci := 8) (v := .ref a_t_sum) (C := RX12) (T := TX12) (N := 12) hx hb ht in_RX12 hown hK.1 hP 0 rfl rfl 10 (by decide) (ht _ q_1260) (fun _ h9 => h9) rfl dX12_putsNumber_1 ?_
  refine lv_lload_n hx hb dX12_putsNumber_4 rfl (lv_at hl 2 rfl) ?_
  obtain ⟨r_1, hr_1, hm⟩ := hm_b hm
  refine k_SN (as := [.ref a_t_sum, .long p2]) (rest := []) (ws' := (([(a_t, .inr (8, [.int v_t_isWide, .ref a_t_cells, .ref a_t_page, .int v_t_pageMany, .ref a_t_digits, .int v_t_many, .int v_t_isMinus, .ref a_t_found, .ref a_t_one, .ref a_t_other, .ref a_t_sum, .ref a_t_rest])), (a_t_cells, .inl (cy 5, 8, .inr (.inr (.inr (.inr (fun j => some (rw_t j))))))), (a_t_page, .inl (cy 0, 66, .inl f_t_page)), (a_t_digits, .inl (cy 0, 64, .inl f_t_digits)), (a_t_found, .inl (cy 2, 64, .inl f_t_found)), (a_t_one, .inl (cy 2, 65, .inl f_t_one)), (a_t_other, .inl (cy 2, 65, .inl f_t_other)), (a_t_sum, .inl (cy 2, 65, .inl r_1)), (a_t_rest, .inl (cy 2, 65, .inl f_t_rest))] : va_W) ++ (rowsW (cy 2) rw_t B_t ++ ([] : va_W)))) (st2 := []) hx hb hml hown ht hK hP hD hS hA hC hR hl (kcX13_lays l D cy g a_t_sum 65 f_t_sum p2 k r_1 hr_1) [7] qn_1963 q_1365 q_54 q_1366 hyX13_lays ⟨Nat.le_of_ble_eq_true rfl, Nat.le_of_ble_eq_true rfl, Nat.le_of_ble_eq_true rfl, Nat.le_of_ble_eq_true rfl⟩ rfl (zq rfl) rfl rfl (Nat.le_of_ble_eq_true rfl) dX12_putsNumber_5 (zqw (cx := [(a_t_sum, .inl (cy 2, 65, .inl f_t_sum))]) rfl rfl) rfl (fun H locs hP hD hS => ?_)
  refine lv_aload_n hx hb dX12_putsNumber_8 rfl (lv_at hl 0 rfl) ?_
  refine lv_iload_n hx hb dX12_putsNumber_9 rfl (lv_at hl 1 rfl) ?_
  refine lv_aload_n hx hb dX12_putsNumber_10 rfl (lv_at hl 0 rfl) ?_
  refine va_get (D := D) (cl := classes) (ci := 8) (v := .ref a_t_sum) (C := RX12) (T := TX12) (N := 12) hx hb ht in_RX12 hown hK.1 hP 0 rfl rfl 10 (by decide) (ht _ q_1260) (fun _ h9 => h9) rfl dX12_putsNumber_11 ?_
  obtain ⟨r_2, hr_2, hm⟩ := hm_b hm
  refine k_V (as := [.int p1, .ref a_t_sum]) (rest := []) (ws' := (([(a_t, .inr (8, [.int v_t_isWide, .ref a_t_cells, .ref a_t_page, .int v_t_pageMany, .ref a_t_digits, .int v_t_many, .int v_t_isMinus, .ref a_t_found, .ref a_t_one, .ref a_t_other, .ref a_t_sum, .ref a_t_rest])), (a_t_cells, .inl (cy 5, 8, .inr (.inr (.inr (.inr (fun j => some (rw_t j))))))), (a_t_page, .inl (cy 0, 66, .inl f_t_page)), (a_t_digits, .inl (cy 0, 64, .inl f_t_digits)), (a_t_found, .inl (cy 2, 64, .inl f_t_found)), (a_t_one, .inl (cy 2, 65, .inl f_t_one)), (a_t_other, .inl (cy 2, 65, .inl f_t_other)), (a_t_sum, .inl (cy 2, 65, .inl r_1)), (a_t_rest, .inl (cy 2, 65, .inl f_t_rest))] : va_W) ++ (rowsW (cy 2) rw_t r_2.2 ++ ([] : va_W)))) (st2 := [.long r_2.1]) (i0 := 0) hx hb hml hown ht hK hP hD hS hA hC hR hl (kcX12_puts_sum l D cy g a_t a_t_cells a_t_page a_t_digits a_t_found a_t_one a_t_other a_t_sum a_t_rest rw_t v_t_isWide B_t f_t_page v_t_pageMany f_t_digits v_t_many v_t_isMinus f_t_found f_t_one f_t_other r_1 f_t_rest p1 k r_2 hr_2) (isZ [0, 1, 2, 3, 4, 5, 6, 7, 8] 9 8) q_1433 q_1435 q_18 q_55 q_1436 hyX12_puts ⟨rfl, rfl, rfl⟩ ⟨Nat.le_of_ble_eq_true rfl, Nat.le_of_ble_eq_true rfl, Nat.le_of_ble_eq_true rfl, Nat.le_of_ble_eq_true rfl⟩ rfl (zcT rfl rfl rfl) (zeT rfl rfl) rfl (Nat.le_of_ble_eq_true rfl) dX12_putsNumber_14 (zwT (cx := [(a_t, .inr (8, [.int v_t_isWide, .ref a_t_cells, .ref a_t_page, .int v_t_pageMany, .ref a_t_digits, .int v_t_many, .int v_t_isMinus, .ref a_t_found, .ref a_t_one, .ref a_t_other, .ref a_t_sum, .ref a_t_rest])), (a_t_cells, .inl (cy 5, 8, .inr (.inr (.inr (.inr (fun j => some (rw_t j))))))), (a_t_page, .inl (cy 0, 66, .inl f_t_page)), (a_t_digits, .inl (cy 0, 64, .inl f_t_digits)), (a_t_found, .inl (cy 2, 64, .inl f_t_found)), (a_t_one, .inl (cy 2, 65, .inl f_t_one)), (a_t_other, .inl (cy 2, 65, .inl f_t_other)), (a_t_sum, .inl (cy 2, 65, .inl r_1)), (a_t_rest, .inl (cy 2, 65, .inl f_t_rest))]) rfl rfl rfl rfl rfl rfl) rfl (fun H locs hP hD hS => ?_)
  refine lv_lstore (lv' := [(4, .long r_2.1), (0, .ref a_t), (1, .int p1), (2, .long p2)]) hx hb dX12_putsNumber_17 hl (by decide) rfl (fun ls hl => ?_)
  obtain rfl := Option.some.inj hm
  exact k_vret hx hb hr hlocks hQc hP hS rfl rfl dX12_putsNumber_19
theorem dX12_sizes_0 : decode cX12_sizes 0 = .ok (.aload_n 3, 1) := by decide +kernel
theorem dX12_sizes_1 : decode cX12_sizes 1 = .ok (.invokestatic 79, 3) := by decide +kernel
theorem dX12_sizes_4 : decode cX12_sizes 4 = .ok (.aload_n 0, 1) := by decide +kernel
theorem dX12_sizes_5 : decode cX12_sizes 5 = .ok (.getfield 11, 3) := by decide +kernel
theorem dX12_sizes_8 : decode cX12_sizes 8 = .ok (.iload_n 1, 1) := by decide +kernel
theorem dX12_sizes_9 : decode cX12_sizes 9 = .ok (.aaload, 1) := by decide +kernel
theorem dX12_sizes_10 : decode cX12_sizes 10 = .ok (.aload_n 3, 1) := by decide +kernel
theorem dX12_sizes_11 : decode cX12_sizes 11 = .ok (.aload_n 0, 1) := by decide +kernel
theorem dX12_sizes_12 : decode cX12_sizes 12 = .ok (.invokevirtual 59, 3) := by decide +kernel
theorem dX12_sizes_15 : decode cX12_sizes 15 = .ok (.invokestatic 43, 3) := by decide +kernel
theorem dX12_sizes_18 : decode cX12_sizes 18 = .ok (.iload_n 2, 1) := by decide +kernel
theorem dX12_sizes_19 : decode cX12_sizes 19 = .ok (.ifCond .ne 18, 3) := by decide +kernel
theorem dX12_sizes_22 : decode cX12_sizes 22 = .ok (.aload_n 3, 1) := by decide +kernel
theorem dX12_sizes_23 : decode cX12_sizes 23 = .ok (.aload_n 0, 1) := by decide +kernel
theorem dX12_sizes_24 : decode cX12_sizes 24 = .ok (.invokevirtual 59, 3) := by decide +kernel
theorem dX12_sizes_27 : decode cX12_sizes 27 = .ok (.iconst 1, 1) := by decide +kernel
theorem dX12_sizes_28 : decode cX12_sizes 28 = .ok (.isub, 1) := by decide +kernel
theorem dX12_sizes_29 : decode cX12_sizes 29 = .ok (.baload, 1) := by decide +kernel
theorem dX12_sizes_30 : decode cX12_sizes 30 = .ok (.ifCond .eq 7, 3) := by decide +kernel
theorem dX12_sizes_33 : decode cX12_sizes 33 = .ok (.iconst 1, 1) := by decide +kernel
theorem dX12_sizes_34 : decode cX12_sizes 34 = .ok (.goto 4, 3) := by decide +kernel
theorem dX12_sizes_37 : decode cX12_sizes 37 = .ok (.iconst 0, 1) := by decide +kernel
theorem dX12_sizes_38 : decode cX12_sizes 38 = .ok (.istore 4, 2) := by decide +kernel
theorem dX12_sizes_40 : decode cX12_sizes 40 = .ok (.iload 4, 2) := by decide +kernel
theorem dX12_sizes_42 : decode cX12_sizes 42 = .ok (.ifCond .eq 11, 3) := by decide +kernel
theorem dX12_sizes_45 : decode cX12_sizes 45 = .ok (.aload_n 3, 1) := by decide +kernel
theorem dX12_sizes_46 : decode cX12_sizes 46 = .ok (.aload_n 0, 1) := by decide +kernel
theorem dX12_sizes_47 : decode cX12_sizes 47 = .ok (.invokevirtual 59, 3) := by decide +kernel
theorem dX12_sizes_50 : decode cX12_sizes 50 = .ok (.invokestatic 83, 3) := by decide +kernel
theorem dX12_sizes_53 : decode cX12_sizes 53 = .ok (.iload 4, 2) := by decide +kernel
theorem dX12_sizes_55 : decode cX12_sizes 55 = .ok (.ireturn, 1) := by decide +kernel
def mX12_sizes_one (k : Nat) (v_t_isWide : Int32) (B_t : Nat → Nat → Int32) (f_t_one : Nat → Int32) (p1 : Int32) (p2 : Int32) : Option (Int32 × (Nat → Int32)) := ((mX13_clear k 65 f_t_one).bind (fun r_1 => (if p1 < 0 ∨ 8 ≤ p1.toNatClampNeg then none else ((mX12_bits v_t_isWide).bind (fun r_3 => ((mX13_copy k 64 65 (B_t p1.toNatClampNeg) r_1 r_3).bind (fun r_4 => (((if p2 = 0 then ((mX12_bits v_t_isWide).bind (fun r_12 => (if (r_12 - 1) < 0 ∨ 65 ≤ (r_12 - 1).toNatClampNeg then none else (if (r_4 (r_12 - 1).toNatClampNeg) = 0 then some 0 else some 1)))) else some 0) : Option (Int32)).bind (fun x_8 => (if x_8 = 0 then (if ¬ (x_8 = 0 ∨ x_8 = 1) then none else some (x_8, r_4)) else ((mX12_bits v_t_isWide).bind (fun r_10 => ((mX13_negates k 65 r_4 r_10).bind (fun r_11 => (if ¬ (x_8 = 0 ∨ x_8 = 1) then none else some (x_8, r_11))))))))))))))))
set_option maxHeartbeats 4000000 in
set_option maxRecDepth 100000 in
theorem kcX12_sizes_one (l : Launch) (D : va_G) (cy : Nat → ClassId) (g : Nat → Nat) (a_t : Nat) (a_t_cells : Nat) (a_t_page : Nat) (a_t_digits : Nat) (a_t_found : Nat) (a_t_one : Nat) (a_t_other : Nat) (a_t_sum : Nat) (a_t_rest : Nat) (rw_t : Nat → Nat) (v_t_isWide : Int32) (B_t : Nat → Nat → Int32) (f_t_page : Nat → Int32) (v_t_pageMany : Int32) (f_t_digits : Nat → Int32) (v_t_many : Int32) (v_t_isMinus : Int32) (f_t_found : Nat → Int32) (f_t_one : Nat → Int32) (f_t_other : Nat → Int32) (f_t_sum : Nat → Int32) (f_t_rest : Nat → Int32) (p1 : Int32) (p2 : Int32) (k : Nat) (R : Int32 × (Nat → Int32)) (hm : mX12_sizes_one k v_t_isWide B_t f_t_one p1 p2 = some R) : Con l D cy g yX12_sizes cX12_sizes 5 (some .boolean) 1 24 0 0 [.ref a_t, .int p1, .int p2, .ref a_t_one] (([(a_t, .inr (8, [.int v_t_isWide, .ref a_t_cells, .ref a_t_page, .int v_t_pageMany, .ref a_t_digits, .int v_t_many, .int v_t_isMinus, .ref a_t_found, .ref a_t_one, .ref a_t_other, .ref a_t_sum, .ref a_t_rest])), (a_t_cells, .inl (cy 5, 8, .inr (.inr (.inr (.inr (fun j => some (rw_t j))))))), (a_t_page, .inl (cy 0, 66, .inl f_t_page)), (a_t_digits, .inl (cy 0, 64, .inl f_t_digits)), (a_t_found, .inl (cy 2, 64, .inl f_t_found)), (a_t_one, .inl (cy 2, 65, .inl f_t_one)), (a_t_other, .inl (cy 2, 65, .inl f_t_other)), (a_t_sum, .inl (cy 2, 65, .inl f_t_sum)), (a_t_rest, .inl (cy 2, 65, .inl f_t_rest))] : va_W) ++ (rowsW (cy 2) rw_t B_t ++ ([] : va_W))) (([(a_t, .inr (8, [.int v_t_isWide, .ref a_t_cells, .ref a_t_page, .int v_t_pageMany, .ref a_t_digits, .int v_t_many, .int v_t_isMinus, .ref a_t_found, .ref a_t_one, .ref a_t_other, .ref a_t_sum, .ref a_t_rest])), (a_t_cells, .inl (cy 5, 8, .inr (.inr (.inr (.inr (fun j => some (rw_t j))))))), (a_t_page, .inl (cy 0, 66, .inl f_t_page)), (a_t_digits, .inl (cy 0, 64, .inl f_t_digits)), (a_t_found, .inl (cy 2, 64, .inl f_t_found)), (a_t_one, .inl (cy 2, 65, .inl R.2)), (a_t_other, .inl (cy 2, 65, .inl f_t_other)), (a_t_sum, .inl (cy 2, 65, .inl f_t_sum)), (a_t_rest, .inl (cy 2, 65, .inl f_t_rest))] : va_W) ++ (rowsW (cy 2) rw_t B_t ++ ([] : va_W))) (some (.int R.1)) := by
  refine Con.of (by decide +kernel) (Nat.le_of_ble_eq_true rfl) ?_
  intro p e RM s m ar below meth c A Qc ls hx hb hr hml hown hlocks hnm ht hK hP hD hS hA hR hC hQc hl
  have hown : s.vm.findClass RX12 = some m.cls := hown
  have hl : lv_has ls 5 [(0, .ref a_t), (1, .int p1), (2, .int p2), (3, .ref a_t_one)] := hl
  rw [mX12_sizes_one] at hm
  refine lv_aload_n hx hb dX12_sizes_0 rfl (lv_at hl 3 rfl) ?_
  obtain ⟨r_1, hr_1, hm⟩ := hm_b hm
  refine k_SN (as := [.ref a_t_one]) (rest := []) (ws' := (([(a_t, .inr (8, [.int v_t_isWide, .ref a_t_cells, .ref a_t_page, .int v_t_pageMany, .ref a_t_digits, .int v_t_many, .int v_t_isMinus, .ref a_t_found, .ref a_t_one, .ref a_t_other, .ref a_t_sum, .ref a_t_rest])), (a_t_cells, .inl (cy 5, 8, .inr (.inr (.inr (.inr (fun j => some (rw_t j))))))), (a_t_page, .inl (cy 0, 66, .inl f_t_page)), (a_t_digits, .inl (cy 0, 64, .inl f_t_digits)), (a_t_found, .inl (cy 2, 64, .inl f_t_found)), (a_t_one, .inl (cy 2, 65, .inl r_1)), (a_t_other, .inl (cy 2, 65, .inl f_t_other)), (a_t_sum, .inl (cy 2, 65, .inl f_t_sum)), (a_t_rest, .inl (cy 2, 65, .inl f_t_rest))] : va_W) ++ (rowsW (cy 2) rw_t B_t ++ ([] : va_W)))) (st2 := []) hx hb hml hown ht hK hP hD hS hA hC hR hl (kcX13_clear l D cy g a_t_one 65 f_t_one k r_1 hr_1) [5] qn_1379 q_1422 q_54 q_1423 hyX13_clear ⟨Nat.le_of_ble_eq_true rfl, Nat.le_of_ble_eq_true rfl, Nat.le_of_ble_eq_true rfl, Nat.le_of_ble_eq_true rfl⟩ rfl (zq rfl) rfl rfl (Nat.le_of_ble_eq_true rfl) dX12_sizes_1 (zqw (cx := [(a_t_one, .inl (cy 2, 65, .inl f_t_one))]) rfl rfl) rfl (fun H locs hP hD hS => ?_)
  refine lv_aload_n hx hb dX12_sizes_4 rfl (lv_at hl 0 rfl) ?_
  refine va_get (D := D) (cl := classes) (ci := 8) (v := .ref a_t_cells) (C := RX12) (T := TX12) (N := 12) hx hb ht in_RX12 hown hK.1 hP 0 rfl rfl 1 (by decide) (ht _ q_1245) (fun _ h9 => h9) rfl dX12_sizes_5 ?_
  refine lv_iload_n hx hb dX12_sizes_8 rfl (lv_at hl 1 rfl) ?_
  obtain ⟨hin, hm⟩ := hm_g hm
  have hi_2 : p1.toNatClampNeg < 8 := Nat.not_le.mp (fun q => hin (Or.inr q))
  refine k_aldA hx hb hK.1 hP 1 5 rfl rfl hin dX12_sizes_9 ?_
  refine lv_aload_n hx hb dX12_sizes_10 rfl (lv_at hl 3 rfl) ?_
  refine lv_aload_n hx hb dX12_sizes_11 rfl (lv_at hl 0 rfl) ?_
  obtain ⟨r_3, hr_3, hm⟩ := hm_b hm
  refine k_V (as := []) (rest := [.ref a_t_one, .ref (rw_t p1.toNatClampNeg)]) (ws' := (([(a_t, .inr (8, [.int v_t_isWide, .ref a_t_cells, .ref a_t_page, .int v_t_pageMany, .ref a_t_digits, .int v_t_many, .int v_t_isMinus, .ref a_t_found, .ref a_t_one, .ref a_t_other, .ref a_t_sum, .ref a_t_rest])), (a_t_cells, .inl (cy 5, 8, .inr (.inr (.inr (.inr (fun j => some (rw_t j))))))), (a_t_page, .inl (cy 0, 66, .inl f_t_page)), (a_t_digits, .inl (cy 0, 64, .inl f_t_digits)), (a_t_found, .inl (cy 2, 64, .inl f_t_found)), (a_t_one, .inl (cy 2, 65, .inl r_1)), (a_t_other, .inl (cy 2, 65, .inl f_t_other)), (a_t_sum, .inl (cy 2, 65, .inl f_t_sum)), (a_t_rest, .inl (cy 2, 65, .inl f_t_rest))] : va_W) ++ (rowsW (cy 2) rw_t B_t ++ ([] : va_W)))) (st2 := [.int r_3, .ref a_t_one, .ref (rw_t p1.toNatClampNeg)]) (i0 := 0) hx hb hml hown ht hK hP hD hS hA hC hR hl (kcX12_bits l D cy g a_t a_t_cells a_t_page a_t_digits a_t_found a_t_one a_t_other a_t_sum a_t_rest rw_t v_t_isWide B_t f_t_page v_t_pageMany f_t_digits v_t_many v_t_isMinus f_t_found r_1 f_t_other f_t_sum f_t_rest r_3 hr_3) (isZ [0, 1, 2, 3, 4, 5, 6, 7, 8] 9 8) q_1354 q_1355 q_1356 q_55 q_1357 hyX12_bits ⟨rfl, rfl, rfl⟩ ⟨Nat.le_of_ble_eq_true rfl, Nat.le_of_ble_eq_true rfl, Nat.le_of_ble_eq_true rfl, Nat.le_of_ble_eq_true rfl⟩ rfl (zcT rfl rfl rfl) (zeT rfl rfl) rfl (Nat.le_of_ble_eq_true rfl) dX12_sizes_12 (zwT (cx := [(a_t, .inr (8, [.int v_t_isWide, .ref a_t_cells, .ref a_t_page, .int v_t_pageMany, .ref a_t_digits, .int v_t_many, .int v_t_isMinus, .ref a_t_found, .ref a_t_one, .ref a_t_other, .ref a_t_sum, .ref a_t_rest])), (a_t_cells, .inl (cy 5, 8, .inr (.inr (.inr (.inr (fun j => some (rw_t j))))))), (a_t_page, .inl (cy 0, 66, .inl f_t_page)), (a_t_digits, .inl (cy 0, 64, .inl f_t_digits)), (a_t_found, .inl (cy 2, 64, .inl f_t_found)), (a_t_one, .inl (cy 2, 65, .inl r_1)), (a_t_other, .inl (cy 2, 65, .inl f_t_other)), (a_t_sum, .inl (cy 2, 65, .inl f_t_sum)), (a_t_rest, .inl (cy 2, 65, .inl f_t_rest))]) rfl rfl rfl rfl rfl rfl) rfl (fun H locs hP hD hS => ?_)
  obtain ⟨r_4, hr_4, hm⟩ := hm_b hm
  refine k_SN (as := [.ref (rw_t p1.toNatClampNeg), .ref a_t_one, .int r_3]) (rest := []) (ws' := (([(a_t, .inr (8, [.int v_t_isWide, .ref a_t_cells, .ref a_t_page, .int v_t_pageMany, .ref a_t_digits, .int v_t_many, .int v_t_isMinus, .ref a_t_found, .ref a_t_one, .ref a_t_other, .ref a_t_sum, .ref a_t_rest])), (a_t_cells, .inl (cy 5, 8, .inr (.inr (.inr (.inr (fun j => some (rw_t j))))))), (a_t_page, .inl (cy 0, 66, .inl f_t_page)), (a_t_digits, .inl (cy 0, 64, .inl f_t_digits)), (a_t_found, .inl (cy 2, 64, .inl f_t_found)), (a_t_one, .inl (cy 2, 65, .inl r_4)), (a_t_other, .inl (cy 2, 65, .inl f_t_other)), (a_t_sum, .inl (cy 2, 65, .inl f_t_sum)), (a_t_rest, .inl (cy 2, 65, .inl f_t_rest))] : va_W) ++ (rowsW (cy 2) rw_t B_t ++ ([] : va_W)))) (st2 := []) hx hb hml hown ht hK hP hD hS hA hC hR hl (kcX13_copy l D cy g (rw_t p1.toNatClampNeg) a_t_one 64 65 (B_t p1.toNatClampNeg) r_1 r_3 k r_4 hr_4) [9 + p1.toNatClampNeg, 5] qn_1412 q_1455 q_54 q_1456 hyX13_copy ⟨Nat.le_of_ble_eq_true rfl, Nat.le_of_ble_eq_true rfl, Nat.le_of_ble_eq_true rfl, Nat.le_of_ble_eq_true rfl⟩ (nd2 (by omega)) (cs_cons (row_get0 rfl hi_2) (cs_cons rfl cs_nil)) rfl rfl (Nat.le_of_ble_eq_true rfl) dX12_sizes_15 (ps_cons (set_same (row_get0 rfl hi_2)) (ps_cons (show ((([(a_t, .inr (8, [.int v_t_isWide, .ref a_t_cells, .ref a_t_page, .int v_t_pageMany, .ref a_t_digits, .int v_t_many, .int v_t_isMinus, .ref a_t_found, .ref a_t_one, .ref a_t_other, .ref a_t_sum, .ref a_t_rest])), (a_t_cells, .inl (cy 5, 8, .inr (.inr (.inr (.inr (fun j => some (rw_t j))))))), (a_t_page, .inl (cy 0, 66, .inl f_t_page)), (a_t_digits, .inl (cy 0, 64, .inl f_t_digits)), (a_t_found, .inl (cy 2, 64, .inl f_t_found)), (a_t_one, .inl (cy 2, 65, .inl r_1)), (a_t_other, .inl (cy 2, 65, .inl f_t_other)), (a_t_sum, .inl (cy 2, 65, .inl f_t_sum)), (a_t_rest, .inl (cy 2, 65, .inl f_t_rest))] : va_W) ++ (rowsW (cy 2) rw_t B_t ++ ([] : va_W)))).set 5 (a_t_one, .inl (cy 2, 65, .inl r_4)) = (([(a_t, .inr (8, [.int v_t_isWide, .ref a_t_cells, .ref a_t_page, .int v_t_pageMany, .ref a_t_digits, .int v_t_many, .int v_t_isMinus, .ref a_t_found, .ref a_t_one, .ref a_t_other, .ref a_t_sum, .ref a_t_rest])), (a_t_cells, .inl (cy 5, 8, .inr (.inr (.inr (.inr (fun j => some (rw_t j))))))), (a_t_page, .inl (cy 0, 66, .inl f_t_page)), (a_t_digits, .inl (cy 0, 64, .inl f_t_digits)), (a_t_found, .inl (cy 2, 64, .inl f_t_found)), (a_t_one, .inl (cy 2, 65, .inl r_4)), (a_t_other, .inl (cy 2, 65, .inl f_t_other)), (a_t_sum, .inl (cy 2, 65, .inl f_t_sum)), (a_t_rest, .inl (cy 2, 65, .inl f_t_rest))] : va_W) ++ (rowsW (cy 2) rw_t B_t ++ ([] : va_W))) from rfl) ps_nil)) rfl (fun H locs hP hD hS => ?_)
  refine lv_iload_n hx hb dX12_sizes_18 rfl (lv_at hl 2 rfl) ?_
  obtain ⟨x_8, hreg, hm⟩ := hm_b hm
  have J38 : ∀ (H : Heap) (locs : List Loc) (ls : Array Slot), va_P D classes (([(a_t, .inr (8, [.int v_t_isWide, .ref a_t_cells, .ref a_t_page, .int v_t_pageMany, .ref a_t_digits, .int v_t_many, .int v_t_isMinus, .ref a_t_found, .ref a_t_one, .ref a_t_other, .ref a_t_sum, .ref a_t_rest])), (a_t_cells, .inl (cy 5, 8, .inr (.inr (.inr (.inr (fun j => some (rw_t j))))))), (a_t_page, .inl (cy 0, 66, .inl f_t_page)), (a_t_digits, .inl (cy 0, 64, .inl f_t_digits)), (a_t_found, .inl (cy 2, 64, .inl f_t_found)), (a_t_one, .inl (cy 2, 65, .inl r_4)), (a_t_other, .inl (cy 2, 65, .inl f_t_other)), (a_t_sum, .inl (cy 2, 65, .inl f_t_sum)), (a_t_rest, .inl (cy 2, 65, .inl f_t_rest))] : va_W) ++ (rowsW (cy 2) rw_t B_t ++ ([] : va_W))) H → va_D A (([(a_t, .inr (8, [.int v_t_isWide, .ref a_t_cells, .ref a_t_page, .int v_t_pageMany, .ref a_t_digits, .int v_t_many, .int v_t_isMinus, .ref a_t_found, .ref a_t_one, .ref a_t_other, .ref a_t_sum, .ref a_t_rest])), (a_t_cells, .inl (cy 5, 8, .inr (.inr (.inr (.inr (fun j => some (rw_t j))))))), (a_t_page, .inl (cy 0, 66, .inl f_t_page)), (a_t_digits, .inl (cy 0, 64, .inl f_t_digits)), (a_t_found, .inl (cy 2, 64, .inl f_t_found)), (a_t_one, .inl (cy 2, 65, .inl r_4)), (a_t_other, .inl (cy 2, 65, .inl f_t_other)), (a_t_sum, .inl (cy 2, 65, .inl f_t_sum)), (a_t_rest, .inl (cy 2, 65, .inl f_t_rest))] : va_W) ++ (rowsW (cy 2) rw_t B_t ++ ([] : va_W))) → va_S A s.heap H locs → lv_has ls 5 [(0, .ref a_t), (3, .ref a_t_one)] → W p l e RM s m ar below meth c H locs 0 0 (MQ below Qc ar s 0 0 A) (F0 m 38 ls [.int x_8]) := by
    intro H locs ls hP hD hS hl
    refine lv_istore (lv' := [(4, .int x_8), (0, .ref a_t), (3, .ref a_t_one)]) hx hb dX12_sizes_38 hl (by decide) rfl (fun ls hl => ?_)
    refine lv_iload hx hb dX12_sizes_40 (lv_at hl 0 rfl) ?_
    refine lv_if_eq (tgt := 53) hx hb dX12_sizes_42 (by decide) (fun c_9 => ?_) (fun c_9 => ?_)
    · replace hm := hm_t c_9 hm
      refine lv_iload hx hb dX12_sizes_53 (lv_at hl 0 rfl) ?_
      obtain ⟨hbz, hm⟩ := hm_g hm
      obtain rfl := Option.some.inj hm
      exact k_zret hx hb hr hlocks hQc (k_narz hbz) hP hS rfl rfl dX12_sizes_55
    · replace hm := hm_f c_9 hm
      refine lv_aload_n hx hb dX12_sizes_45 rfl (lv_at hl 2 rfl) ?_
      refine lv_aload_n hx hb dX12_sizes_46 rfl (lv_at hl 1 rfl) ?_
      obtain ⟨r_10, hr_10, hm⟩ := hm_b hm
      refine k_V (as := []) (rest := [.ref a_t_one]) (ws' := (([(a_t, .inr (8, [.int v_t_isWide, .ref a_t_cells, .ref a_t_page, .int v_t_pageMany, .ref a_t_digits, .int v_t_many, .int v_t_isMinus, .ref a_t_found, .ref a_t_one, .ref a_t_other, .ref a_t_sum, .ref a_t_rest])), (a_t_cells, .inl (cy 5, 8, .inr (.inr (.inr (.inr (fun j => some (rw_t j))))))), (a_t_page, .inl (cy 0, 66, .inl f_t_page)), (a_t_digits, .inl (cy 0, 64, .inl f_t_digits)), (a_t_found, .inl (cy 2, 64, .inl f_t_found)), (a_t_one, .inl (cy 2, 65, .inl r_4)), (a_t_other, .inl (cy 2, 65, .inl f_t_other)), (a_t_sum, .inl (cy 2, 65, .inl f_t_sum)), (a_t_rest, .inl (cy 2, 65, .inl f_t_rest))] : va_W) ++ (rowsW (cy 2) rw_t B_t ++ ([] : va_W)))) (st2 := [.int r_10, .ref a_t_one]) (i0 := 0) hx hb hml hown ht hK hP hD hS hA hC hR hl (kcX12_bits l D cy g a_t a_t_cells a_t_page a_t_digits a_t_found a_t_one a_t_other a_t_sum a_t_rest rw_t v_t_isWide B_t f_t_page v_t_pageMany f_t_digits v_t_many v_t_isMinus f_t_found r_4 f_t_other f_t_sum f_t_rest r_10 hr_10) (isZ [0, 1, 2, 3, 4, 5, 6, 7, 8] 9 8) q_1354 q_1355 q_1356 q_55 q_1357 hyX12_bits ⟨rfl, rfl, rfl⟩ ⟨Nat.le_of_ble_eq_true rfl, Nat.le_of_ble_eq_true rfl, Nat.le_of_ble_eq_true rfl, Nat.le_of_ble_eq_true rfl⟩ rfl (zcT rfl rfl rfl) (zeT rfl rfl) rfl (Nat.le_of_ble_eq_true rfl) dX12_sizes_47 (zwT (cx := [(a_t, .inr (8, [.int v_t_isWide, .ref a_t_cells, .ref a_t_page, .int v_t_pageMany, .ref a_t_digits, .int v_t_many, .int v_t_isMinus, .ref a_t_found, .ref a_t_one, .ref a_t_other, .ref a_t_sum, .ref a_t_rest])), (a_t_cells, .inl (cy 5, 8, .inr (.inr (.inr (.inr (fun j => some (rw_t j))))))), (a_t_page, .inl (cy 0, 66, .inl f_t_page)), (a_t_digits, .inl (cy 0, 64, .inl f_t_digits)), (a_t_found, .inl (cy 2, 64, .inl f_t_found)), (a_t_one, .inl (cy 2, 65, .inl r_4)), (a_t_other, .inl (cy 2, 65, .inl f_t_other)), (a_t_sum, .inl (cy 2, 65, .inl f_t_sum)), (a_t_rest, .inl (cy 2, 65, .inl f_t_rest))]) rfl rfl rfl rfl rfl rfl) rfl (fun H locs hP hD hS => ?_)
      obtain ⟨r_11, hr_11, hm⟩ := hm_b hm
      refine k_SN (as := [.ref a_t_one, .int r_10]) (rest := []) (ws' := (([(a_t, .inr (8, [.int v_t_isWide, .ref a_t_cells, .ref a_t_page, .int v_t_pageMany, .ref a_t_digits, .int v_t_many, .int v_t_isMinus, .ref a_t_found, .ref a_t_one, .ref a_t_other, .ref a_t_sum, .ref a_t_rest])), (a_t_cells, .inl (cy 5, 8, .inr (.inr (.inr (.inr (fun j => some (rw_t j))))))), (a_t_page, .inl (cy 0, 66, .inl f_t_page)), (a_t_digits, .inl (cy 0, 64, .inl f_t_digits)), (a_t_found, .inl (cy 2, 64, .inl f_t_found)), (a_t_one, .inl (cy 2, 65, .inl r_11)), (a_t_other, .inl (cy 2, 65, .inl f_t_other)), (a_t_sum, .inl (cy 2, 65, .inl f_t_sum)), (a_t_rest, .inl (cy 2, 65, .inl f_t_rest))] : va_W) ++ (rowsW (cy 2) rw_t B_t ++ ([] : va_W)))) (st2 := []) hx hb hml hown ht hK hP hD hS hA hC hR hl (kcX13_negates l D cy g a_t_one 65 r_4 r_10 k r_11 hr_11) [5] qn_1388 q_1431 q_54 q_1432 hyX13_negates ⟨Nat.le_of_ble_eq_true rfl, Nat.le_of_ble_eq_true rfl, Nat.le_of_ble_eq_true rfl, Nat.le_of_ble_eq_true rfl⟩ rfl (zq rfl) rfl rfl (Nat.le_of_ble_eq_true rfl) dX12_sizes_50 (zqw (cx := [(a_t_one, .inl (cy 2, 65, .inl r_4))]) rfl rfl) rfl (fun H locs hP hD hS => ?_)
      refine lv_iload hx hb dX12_sizes_53 (lv_at hl 0 rfl) ?_
      obtain ⟨hbz, hm⟩ := hm_g hm
      obtain rfl := Option.some.inj hm
      exact k_zret hx hb hr hlocks hQc (k_narz hbz) hP hS rfl rfl dX12_sizes_55
  replace hm := hreg
  refine lv_if_ne (tgt := 37) hx hb dX12_sizes_19 (by decide) (fun c_5 => ?_) (fun c_5 => ?_)
  · replace hm := hm_f c_5 hm
    refine lv_iconst (v := 0) hx hb dX12_sizes_37 (by decide) ?_
    obtain rfl := Option.some.inj hm
    exact J38 _ _ _ hP hD hS (lv_sub hl [0, 3] rfl)
  · replace hm := hm_t c_5 hm
    refine lv_aload_n hx hb dX12_sizes_22 rfl (lv_at hl 3 rfl) ?_
    refine lv_aload_n hx hb dX12_sizes_23 rfl (lv_at hl 0 rfl) ?_
    obtain ⟨r_12, hr_12, hm⟩ := hm_b hm
    refine k_V (as := []) (rest := [.ref a_t_one]) (ws' := (([(a_t, .inr (8, [.int v_t_isWide, .ref a_t_cells, .ref a_t_page, .int v_t_pageMany, .ref a_t_digits, .int v_t_many, .int v_t_isMinus, .ref a_t_found, .ref a_t_one, .ref a_t_other, .ref a_t_sum, .ref a_t_rest])), (a_t_cells, .inl (cy 5, 8, .inr (.inr (.inr (.inr (fun j => some (rw_t j))))))), (a_t_page, .inl (cy 0, 66, .inl f_t_page)), (a_t_digits, .inl (cy 0, 64, .inl f_t_digits)), (a_t_found, .inl (cy 2, 64, .inl f_t_found)), (a_t_one, .inl (cy 2, 65, .inl r_4)), (a_t_other, .inl (cy 2, 65, .inl f_t_other)), (a_t_sum, .inl (cy 2, 65, .inl f_t_sum)), (a_t_rest, .inl (cy 2, 65, .inl f_t_rest))] : va_W) ++ (rowsW (cy 2) rw_t B_t ++ ([] : va_W)))) (st2 := [.int r_12, .ref a_t_one]) (i0 := 0) hx hb hml hown ht hK hP hD hS hA hC hR hl (kcX12_bits l D cy g a_t a_t_cells a_t_page a_t_digits a_t_found a_t_one a_t_other a_t_sum a_t_rest rw_t v_t_isWide B_t f_t_page v_t_pageMany f_t_digits v_t_many v_t_isMinus f_t_found r_4 f_t_other f_t_sum f_t_rest r_12 hr_12) (isZ [0, 1, 2, 3, 4, 5, 6, 7, 8] 9 8) q_1354 q_1355 q_1356 q_55 q_1357 hyX12_bits ⟨rfl, rfl, rfl⟩ ⟨Nat.le_of_ble_eq_true rfl, Nat.le_of_ble_eq_true rfl, Nat.le_of_ble_eq_true rfl, Nat.le_of_ble_eq_true rfl⟩ rfl (zcT rfl rfl rfl) (zeT rfl rfl) rfl (Nat.le_of_ble_eq_true rfl) dX12_sizes_24 (zwT (cx := [(a_t, .inr (8, [.int v_t_isWide, .ref a_t_cells, .ref a_t_page, .int v_t_pageMany, .ref a_t_digits, .int v_t_many, .int v_t_isMinus, .ref a_t_found, .ref a_t_one, .ref a_t_other, .ref a_t_sum, .ref a_t_rest])), (a_t_cells, .inl (cy 5, 8, .inr (.inr (.inr (.inr (fun j => some (rw_t j))))))), (a_t_page, .inl (cy 0, 66, .inl f_t_page)), (a_t_digits, .inl (cy 0, 64, .inl f_t_digits)), (a_t_found, .inl (cy 2, 64, .inl f_t_found)), (a_t_one, .inl (cy 2, 65, .inl r_4)), (a_t_other, .inl (cy 2, 65, .inl f_t_other)), (a_t_sum, .inl (cy 2, 65, .inl f_t_sum)), (a_t_rest, .inl (cy 2, 65, .inl f_t_rest))]) rfl rfl rfl rfl rfl rfl) rfl (fun H locs hP hD hS => ?_)
    refine lv_iconst (v := 1) hx hb dX12_sizes_27 (by decide) ?_
    refine lv_isub hx hb dX12_sizes_28 ?_
    obtain ⟨hin, hm⟩ := hm_g hm
    refine va_zald hx hb hK.1 hP 5 2 rfl rfl hin dX12_sizes_29 ?_
    refine lv_if_eq (tgt := 37) hx hb dX12_sizes_30 (by decide) (fun c_13 => ?_) (fun c_13 => ?_)
    · replace hm := hm_t c_13 hm
      refine lv_iconst (v := 0) hx hb dX12_sizes_37 (by decide) ?_
      obtain rfl := Option.some.inj hm
      exact J38 _ _ _ hP hD hS (lv_sub hl [0, 3] rfl)
    · replace hm := hm_f c_13 hm
      refine lv_iconst (v := 1) hx hb dX12_sizes_33 (by decide) ?_
      refine lv_goto (tgt := 38) hx hb dX12_sizes_34 (by decide) ?_
      obtain rfl := Option.some.inj hm
      exact J38 _ _ _ hP hD hS (lv_sub hl [0, 3] rfl)
def mX12_sizes_other (k : Nat) (v_t_isWide : Int32) (B_t : Nat → Nat → Int32) (f_t_other : Nat → Int32) (p1 : Int32) (p2 : Int32) : Option (Int32 × (Nat → Int32)) := ((mX13_clear k 65 f_t_other).bind (fun r_1 => (if p1 < 0 ∨ 8 ≤ p1.toNatClampNeg then none else ((mX12_bits v_t_isWide).bind (fun r_3 => ((mX13_copy k 64 65 (B_t p1.toNatClampNeg) r_1 r_3).bind (fun r_4 => (((if p2 = 0 then ((mX12_bits v_t_isWide).bind (fun r_12 => (if (r_12 - 1) < 0 ∨ 65 ≤ (r_12 - 1).toNatClampNeg then none else (if (r_4 (r_12 - 1).toNatClampNeg) = 0 then some 0 else some 1)))) else some 0) : Option (Int32)).bind (fun x_8 => (if x_8 = 0 then (if ¬ (x_8 = 0 ∨ x_8 = 1) then none else some (x_8, r_4)) else ((mX12_bits v_t_isWide).bind (fun r_10 => ((mX13_negates k 65 r_4 r_10).bind (fun r_11 => (if ¬ (x_8 = 0 ∨ x_8 = 1) then none else some (x_8, r_11))))))))))))))))
set_option maxHeartbeats 4000000 in
set_option maxRecDepth 100000 in
theorem kcX12_sizes_other (l : Launch) (D : va_G) (cy : Nat → ClassId) (g : Nat → Nat) (a_t : Nat) (a_t_cells : Nat) (a_t_page : Nat) (a_t_digits : Nat) (a_t_found : Nat) (a_t_one : Nat) (a_t_other : Nat) (a_t_sum : Nat) (a_t_rest : Nat) (rw_t : Nat → Nat) (v_t_isWide : Int32) (B_t : Nat → Nat → Int32) (f_t_page : Nat → Int32) (v_t_pageMany : Int32) (f_t_digits : Nat → Int32) (v_t_many : Int32) (v_t_isMinus : Int32) (f_t_found : Nat → Int32) (f_t_one : Nat → Int32) (f_t_other : Nat → Int32) (f_t_sum : Nat → Int32) (f_t_rest : Nat → Int32) (p1 : Int32) (p2 : Int32) (k : Nat) (R : Int32 × (Nat → Int32)) (hm : mX12_sizes_other k v_t_isWide B_t f_t_other p1 p2 = some R) : Con l D cy g yX12_sizes cX12_sizes 5 (some .boolean) 1 24 0 0 [.ref a_t, .int p1, .int p2, .ref a_t_other] (([(a_t, .inr (8, [.int v_t_isWide, .ref a_t_cells, .ref a_t_page, .int v_t_pageMany, .ref a_t_digits, .int v_t_many, .int v_t_isMinus, .ref a_t_found, .ref a_t_one, .ref a_t_other, .ref a_t_sum, .ref a_t_rest])), (a_t_cells, .inl (cy 5, 8, .inr (.inr (.inr (.inr (fun j => some (rw_t j))))))), (a_t_page, .inl (cy 0, 66, .inl f_t_page)), (a_t_digits, .inl (cy 0, 64, .inl f_t_digits)), (a_t_found, .inl (cy 2, 64, .inl f_t_found)), (a_t_one, .inl (cy 2, 65, .inl f_t_one)), (a_t_other, .inl (cy 2, 65, .inl f_t_other)), (a_t_sum, .inl (cy 2, 65, .inl f_t_sum)), (a_t_rest, .inl (cy 2, 65, .inl f_t_rest))] : va_W) ++ (rowsW (cy 2) rw_t B_t ++ ([] : va_W))) (([(a_t, .inr (8, [.int v_t_isWide, .ref a_t_cells, .ref a_t_page, .int v_t_pageMany, .ref a_t_digits, .int v_t_many, .int v_t_isMinus, .ref a_t_found, .ref a_t_one, .ref a_t_other, .ref a_t_sum, .ref a_t_rest])), (a_t_cells, .inl (cy 5, 8, .inr (.inr (.inr (.inr (fun j => some (rw_t j))))))), (a_t_page, .inl (cy 0, 66, .inl f_t_page)), (a_t_digits, .inl (cy 0, 64, .inl f_t_digits)), (a_t_found, .inl (cy 2, 64, .inl f_t_found)), (a_t_one, .inl (cy 2, 65, .inl f_t_one)), (a_t_other, .inl (cy 2, 65, .inl R.2)), (a_t_sum, .inl (cy 2, 65, .inl f_t_sum)), (a_t_rest, .inl (cy 2, 65, .inl f_t_rest))] : va_W) ++ (rowsW (cy 2) rw_t B_t ++ ([] : va_W))) (some (.int R.1)) := by
  refine Con.of (by decide +kernel) (Nat.le_of_ble_eq_true rfl) ?_
  intro p e RM s m ar below meth c A Qc ls hx hb hr hml hown hlocks hnm ht hK hP hD hS hA hR hC hQc hl
  have hown : s.vm.findClass RX12 = some m.cls := hown
  have hl : lv_has ls 5 [(0, .ref a_t), (1, .int p1), (2, .int p2), (3, .ref a_t_other)] := hl
  rw [mX12_sizes_other] at hm
  refine lv_aload_n hx hb dX12_sizes_0 rfl (lv_at hl 3 rfl) ?_
  obtain ⟨r_1, hr_1, hm⟩ := hm_b hm
  refine k_SN (as := [.ref a_t_other]) (rest := []) (ws' := (([(a_t, .inr (8, [.int v_t_isWide, .ref a_t_cells, .ref a_t_page, .int v_t_pageMany, .ref a_t_digits, .int v_t_many, .int v_t_isMinus, .ref a_t_found, .ref a_t_one, .ref a_t_other, .ref a_t_sum, .ref a_t_rest])), (a_t_cells, .inl (cy 5, 8, .inr (.inr (.inr (.inr (fun j => some (rw_t j))))))), (a_t_page, .inl (cy 0, 66, .inl f_t_page)), (a_t_digits, .inl (cy 0, 64, .inl f_t_digits)), (a_t_found, .inl (cy 2, 64, .inl f_t_found)), (a_t_one, .inl (cy 2, 65, .inl f_t_one)), (a_t_other, .inl (cy 2, 65, .inl r_1)), (a_t_sum, .inl (cy 2, 65, .inl f_t_sum)), (a_t_rest, .inl (cy 2, 65, .inl f_t_rest))] : va_W) ++ (rowsW (cy 2) rw_t B_t ++ ([] : va_W)))) (st2 := []) hx hb hml hown ht hK hP hD hS hA hC hR hl (kcX13_clear l D cy g a_t_other 65 f_t_other k r_1 hr_1) [6] qn_1379 q_1422 q_54 q_1423 hyX13_clear ⟨Nat.le_of_ble_eq_true rfl, Nat.le_of_ble_eq_true rfl, Nat.le_of_ble_eq_true rfl, Nat.le_of_ble_eq_true rfl⟩ rfl (zq rfl) rfl rfl (Nat.le_of_ble_eq_true rfl) dX12_sizes_1 (zqw (cx := [(a_t_other, .inl (cy 2, 65, .inl f_t_other))]) rfl rfl) rfl (fun H locs hP hD hS => ?_)
  refine lv_aload_n hx hb dX12_sizes_4 rfl (lv_at hl 0 rfl) ?_
  refine va_get (D := D) (cl := classes) (ci := 8) (v := .ref a_t_cells) (C := RX12) (T := TX12) (N := 12) hx hb ht in_RX12 hown hK.1 hP 0 rfl rfl 1 (by decide) (ht _ q_1245) (fun _ h9 => h9) rfl dX12_sizes_5 ?_
  refine lv_iload_n hx hb dX12_sizes_8 rfl (lv_at hl 1 rfl) ?_
  obtain ⟨hin, hm⟩ := hm_g hm
  have hi_2 : p1.toNatClampNeg < 8 := Nat.not_le.mp (fun q => hin (Or.inr q))
  refine k_aldA hx hb hK.1 hP 1 5 rfl rfl hin dX12_sizes_9 ?_
  refine lv_aload_n hx hb dX12_sizes_10 rfl (lv_at hl 3 rfl) ?_
  refine lv_aload_n hx hb dX12_sizes_11 rfl (lv_at hl 0 rfl) ?_
  obtain ⟨r_3, hr_3, hm⟩ := hm_b hm
  refine k_V (as := []) (rest := [.ref a_t_other, .ref (rw_t p1.toNatClampNeg)]) (ws' := (([(a_t, .inr (8, [.int v_t_isWide, .ref a_t_cells, .ref a_t_page, .int v_t_pageMany, .ref a_t_digits, .int v_t_many, .int v_t_isMinus, .ref a_t_found, .ref a_t_one, .ref a_t_other, .ref a_t_sum, .ref a_t_rest])), (a_t_cells, .inl (cy 5, 8, .inr (.inr (.inr (.inr (fun j => some (rw_t j))))))), (a_t_page, .inl (cy 0, 66, .inl f_t_page)), (a_t_digits, .inl (cy 0, 64, .inl f_t_digits)), (a_t_found, .inl (cy 2, 64, .inl f_t_found)), (a_t_one, .inl (cy 2, 65, .inl f_t_one)), (a_t_other, .inl (cy 2, 65, .inl r_1)), (a_t_sum, .inl (cy 2, 65, .inl f_t_sum)), (a_t_rest, .inl (cy 2, 65, .inl f_t_rest))] : va_W) ++ (rowsW (cy 2) rw_t B_t ++ ([] : va_W)))) (st2 := [.int r_3, .ref a_t_other, .ref (rw_t p1.toNatClampNeg)]) (i0 := 0) hx hb hml hown ht hK hP hD hS hA hC hR hl (kcX12_bits l D cy g a_t a_t_cells a_t_page a_t_digits a_t_found a_t_one a_t_other a_t_sum a_t_rest rw_t v_t_isWide B_t f_t_page v_t_pageMany f_t_digits v_t_many v_t_isMinus f_t_found f_t_one r_1 f_t_sum f_t_rest r_3 hr_3) (isZ [0, 1, 2, 3, 4, 5, 6, 7, 8] 9 8) q_1354 q_1355 q_1356 q_55 q_1357 hyX12_bits ⟨rfl, rfl, rfl⟩ ⟨Nat.le_of_ble_eq_true rfl, Nat.le_of_ble_eq_true rfl, Nat.le_of_ble_eq_true rfl, Nat.le_of_ble_eq_true rfl⟩ rfl (zcT rfl rfl rfl) (zeT rfl rfl) rfl (Nat.le_of_ble_eq_true rfl) dX12_sizes_12 (zwT (cx := [(a_t, .inr (8, [.int v_t_isWide, .ref a_t_cells, .ref a_t_page, .int v_t_pageMany, .ref a_t_digits, .int v_t_many, .int v_t_isMinus, .ref a_t_found, .ref a_t_one, .ref a_t_other, .ref a_t_sum, .ref a_t_rest])), (a_t_cells, .inl (cy 5, 8, .inr (.inr (.inr (.inr (fun j => some (rw_t j))))))), (a_t_page, .inl (cy 0, 66, .inl f_t_page)), (a_t_digits, .inl (cy 0, 64, .inl f_t_digits)), (a_t_found, .inl (cy 2, 64, .inl f_t_found)), (a_t_one, .inl (cy 2, 65, .inl f_t_one)), (a_t_other, .inl (cy 2, 65, .inl r_1)), (a_t_sum, .inl (cy 2, 65, .inl f_t_sum)), (a_t_rest, .inl (cy 2, 65, .inl f_t_rest))]) rfl rfl rfl rfl rfl rfl) rfl (fun H locs hP hD hS => ?_)
  obtain ⟨r_4, hr_4, hm⟩ := hm_b hm
  refine k_SN (as := [.ref (rw_t p1.toNatClampNeg), .ref a_t_other, .int r_3]) (rest := []) (ws' := (([(a_t, .inr (8, [.int v_t_isWide, .ref a_t_cells, .ref a_t_page, .int v_t_pageMany, .ref a_t_digits, .int v_t_many, .int v_t_isMinus, .ref a_t_found, .ref a_t_one, .ref a_t_other, .ref a_t_sum, .ref a_t_rest])), (a_t_cells, .inl (cy 5, 8, .inr (.inr (.inr (.inr (fun j => some (rw_t j))))))), (a_t_page, .inl (cy 0, 66, .inl f_t_page)), (a_t_digits, .inl (cy 0, 64, .inl f_t_digits)), (a_t_found, .inl (cy 2, 64, .inl f_t_found)), (a_t_one, .inl (cy 2, 65, .inl f_t_one)), (a_t_other, .inl (cy 2, 65, .inl r_4)), (a_t_sum, .inl (cy 2, 65, .inl f_t_sum)), (a_t_rest, .inl (cy 2, 65, .inl f_t_rest))] : va_W) ++ (rowsW (cy 2) rw_t B_t ++ ([] : va_W)))) (st2 := []) hx hb hml hown ht hK hP hD hS hA hC hR hl (kcX13_copy l D cy g (rw_t p1.toNatClampNeg) a_t_other 64 65 (B_t p1.toNatClampNeg) r_1 r_3 k r_4 hr_4) [9 + p1.toNatClampNeg, 6] qn_1412 q_1455 q_54 q_1456 hyX13_copy ⟨Nat.le_of_ble_eq_true rfl, Nat.le_of_ble_eq_true rfl, Nat.le_of_ble_eq_true rfl, Nat.le_of_ble_eq_true rfl⟩ (nd2 (by omega)) (cs_cons (row_get0 rfl hi_2) (cs_cons rfl cs_nil)) rfl rfl (Nat.le_of_ble_eq_true rfl) dX12_sizes_15 (ps_cons (set_same (row_get0 rfl hi_2)) (ps_cons (show ((([(a_t, .inr (8, [.int v_t_isWide, .ref a_t_cells, .ref a_t_page, .int v_t_pageMany, .ref a_t_digits, .int v_t_many, .int v_t_isMinus, .ref a_t_found, .ref a_t_one, .ref a_t_other, .ref a_t_sum, .ref a_t_rest])), (a_t_cells, .inl (cy 5, 8, .inr (.inr (.inr (.inr (fun j => some (rw_t j))))))), (a_t_page, .inl (cy 0, 66, .inl f_t_page)), (a_t_digits, .inl (cy 0, 64, .inl f_t_digits)), (a_t_found, .inl (cy 2, 64, .inl f_t_found)), (a_t_one, .inl (cy 2, 65, .inl f_t_one)), (a_t_other, .inl (cy 2, 65, .inl r_1)), (a_t_sum, .inl (cy 2, 65, .inl f_t_sum)), (a_t_rest, .inl (cy 2, 65, .inl f_t_rest))] : va_W) ++ (rowsW (cy 2) rw_t B_t ++ ([] : va_W)))).set 6 (a_t_other, .inl (cy 2, 65, .inl r_4)) = (([(a_t, .inr (8, [.int v_t_isWide, .ref a_t_cells, .ref a_t_page, .int v_t_pageMany, .ref a_t_digits, .int v_t_many, .int v_t_isMinus, .ref a_t_found, .ref a_t_one, .ref a_t_other, .ref a_t_sum, .ref a_t_rest])), (a_t_cells, .inl (cy 5, 8, .inr (.inr (.inr (.inr (fun j => some (rw_t j))))))), (a_t_page, .inl (cy 0, 66, .inl f_t_page)), (a_t_digits, .inl (cy 0, 64, .inl f_t_digits)), (a_t_found, .inl (cy 2, 64, .inl f_t_found)), (a_t_one, .inl (cy 2, 65, .inl f_t_one)), (a_t_other, .inl (cy 2, 65, .inl r_4)), (a_t_sum, .inl (cy 2, 65, .inl f_t_sum)), (a_t_rest, .inl (cy 2, 65, .inl f_t_rest))] : va_W) ++ (rowsW (cy 2) rw_t B_t ++ ([] : va_W))) from rfl) ps_nil)) rfl (fun H locs hP hD hS => ?_)
  refine lv_iload_n hx hb dX12_sizes_18 rfl (lv_at hl 2 rfl) ?_
  obtain ⟨x_8, hreg, hm⟩ := hm_b hm
  have J38 : ∀ (H : Heap) (locs : List Loc) (ls : Array Slot), va_P D classes (([(a_t, .inr (8, [.int v_t_isWide, .ref a_t_cells, .ref a_t_page, .int v_t_pageMany, .ref a_t_digits, .int v_t_many, .int v_t_isMinus, .ref a_t_found, .ref a_t_one, .ref a_t_other, .ref a_t_sum, .ref a_t_rest])), (a_t_cells, .inl (cy 5, 8, .inr (.inr (.inr (.inr (fun j => some (rw_t j))))))), (a_t_page, .inl (cy 0, 66, .inl f_t_page)), (a_t_digits, .inl (cy 0, 64, .inl f_t_digits)), (a_t_found, .inl (cy 2, 64, .inl f_t_found)), (a_t_one, .inl (cy 2, 65, .inl f_t_one)), (a_t_other, .inl (cy 2, 65, .inl r_4)), (a_t_sum, .inl (cy 2, 65, .inl f_t_sum)), (a_t_rest, .inl (cy 2, 65, .inl f_t_rest))] : va_W) ++ (rowsW (cy 2) rw_t B_t ++ ([] : va_W))) H → va_D A (([(a_t, .inr (8, [.int v_t_isWide, .ref a_t_cells, .ref a_t_page, .int v_t_pageMany, .ref a_t_digits, .int v_t_many, .int v_t_isMinus, .ref a_t_found, .ref a_t_one, .ref a_t_other, .ref a_t_sum, .ref a_t_rest])), (a_t_cells, .inl (cy 5, 8, .inr (.inr (.inr (.inr (fun j => some (rw_t j))))))), (a_t_page, .inl (cy 0, 66, .inl f_t_page)), (a_t_digits, .inl (cy 0, 64, .inl f_t_digits)), (a_t_found, .inl (cy 2, 64, .inl f_t_found)), (a_t_one, .inl (cy 2, 65, .inl f_t_one)), (a_t_other, .inl (cy 2, 65, .inl r_4)), (a_t_sum, .inl (cy 2, 65, .inl f_t_sum)), (a_t_rest, .inl (cy 2, 65, .inl f_t_rest))] : va_W) ++ (rowsW (cy 2) rw_t B_t ++ ([] : va_W))) → va_S A s.heap H locs → lv_has ls 5 [(0, .ref a_t), (3, .ref a_t_other)] → W p l e RM s m ar below meth c H locs 0 0 (MQ below Qc ar s 0 0 A) (F0 m 38 ls [.int x_8]) := by
    intro H locs ls hP hD hS hl
    refine lv_istore (lv' := [(4, .int x_8), (0, .ref a_t), (3, .ref a_t_other)]) hx hb dX12_sizes_38 hl (by decide) rfl (fun ls hl => ?_)
    refine lv_iload hx hb dX12_sizes_40 (lv_at hl 0 rfl) ?_
    refine lv_if_eq (tgt := 53) hx hb dX12_sizes_42 (by decide) (fun c_9 => ?_) (fun c_9 => ?_)
    · replace hm := hm_t c_9 hm
      refine lv_iload hx hb dX12_sizes_53 (lv_at hl 0 rfl) ?_
      obtain ⟨hbz, hm⟩ := hm_g hm
      obtain rfl := Option.some.inj hm
      exact k_zret hx hb hr hlocks hQc (k_narz hbz) hP hS rfl rfl dX12_sizes_55
    · replace hm := hm_f c_9 hm
      refine lv_aload_n hx hb dX12_sizes_45 rfl (lv_at hl 2 rfl) ?_
      refine lv_aload_n hx hb dX12_sizes_46 rfl (lv_at hl 1 rfl) ?_
      obtain ⟨r_10, hr_10, hm⟩ := hm_b hm
      refine k_V (as := []) (rest := [.ref a_t_other]) (ws' := (([(a_t, .inr (8, [.int v_t_isWide, .ref a_t_cells, .ref a_t_page, .int v_t_pageMany, .ref a_t_digits, .int v_t_many, .int v_t_isMinus, .ref a_t_found, .ref a_t_one, .ref a_t_other, .ref a_t_sum, .ref a_t_rest])), (a_t_cells, .inl (cy 5, 8, .inr (.inr (.inr (.inr (fun j => some (rw_t j))))))), (a_t_page, .inl (cy 0, 66, .inl f_t_page)), (a_t_digits, .inl (cy 0, 64, .inl f_t_digits)), (a_t_found, .inl (cy 2, 64, .inl f_t_found)), (a_t_one, .inl (cy 2, 65, .inl f_t_one)), (a_t_other, .inl (cy 2, 65, .inl r_4)), (a_t_sum, .inl (cy 2, 65, .inl f_t_sum)), (a_t_rest, .inl (cy 2, 65, .inl f_t_rest))] : va_W) ++ (rowsW (cy 2) rw_t B_t ++ ([] : va_W)))) (st2 := [.int r_10, .ref a_t_other]) (i0 := 0) hx hb hml hown ht hK hP hD hS hA hC hR hl (kcX12_bits l D cy g a_t a_t_cells a_t_page a_t_digits a_t_found a_t_one a_t_other a_t_sum a_t_rest rw_t v_t_isWide B_t f_t_page v_t_pageMany f_t_digits v_t_many v_t_isMinus f_t_found f_t_one r_4 f_t_sum f_t_rest r_10 hr_10) (isZ [0, 1, 2, 3, 4, 5, 6, 7, 8] 9 8) q_1354 q_1355 q_1356 q_55 q_1357 hyX12_bits ⟨rfl, rfl, rfl⟩ ⟨Nat.le_of_ble_eq_true rfl, Nat.le_of_ble_eq_true rfl, Nat.le_of_ble_eq_true rfl, Nat.le_of_ble_eq_true rfl⟩ rfl (zcT rfl rfl rfl) (zeT rfl rfl) rfl (Nat.le_of_ble_eq_true rfl) dX12_sizes_47 (zwT (cx := [(a_t, .inr (8, [.int v_t_isWide, .ref a_t_cells, .ref a_t_page, .int v_t_pageMany, .ref a_t_digits, .int v_t_many, .int v_t_isMinus, .ref a_t_found, .ref a_t_one, .ref a_t_other, .ref a_t_sum, .ref a_t_rest])), (a_t_cells, .inl (cy 5, 8, .inr (.inr (.inr (.inr (fun j => some (rw_t j))))))), (a_t_page, .inl (cy 0, 66, .inl f_t_page)), (a_t_digits, .inl (cy 0, 64, .inl f_t_digits)), (a_t_found, .inl (cy 2, 64, .inl f_t_found)), (a_t_one, .inl (cy 2, 65, .inl f_t_one)), (a_t_other, .inl (cy 2, 65, .inl r_4)), (a_t_sum, .inl (cy 2, 65, .inl f_t_sum)), (a_t_rest, .inl (cy 2, 65, .inl f_t_rest))]) rfl rfl rfl rfl rfl rfl) rfl (fun H locs hP hD hS => ?_)
      obtain ⟨r_11, hr_11, hm⟩ := hm_b hm
      refine k_SN (as := [.ref a_t_other, .int r_10]) (rest := []) (ws' := (([(a_t, .inr (8, [.int v_t_isWide, .ref a_t_cells, .ref a_t_page, .int v_t_pageMany, .ref a_t_digits, .int v_t_many, .int v_t_isMinus, .ref a_t_found, .ref a_t_one, .ref a_t_other, .ref a_t_sum, .ref a_t_rest])), (a_t_cells, .inl (cy 5, 8, .inr (.inr (.inr (.inr (fun j => some (rw_t j))))))), (a_t_page, .inl (cy 0, 66, .inl f_t_page)), (a_t_digits, .inl (cy 0, 64, .inl f_t_digits)), (a_t_found, .inl (cy 2, 64, .inl f_t_found)), (a_t_one, .inl (cy 2, 65, .inl f_t_one)), (a_t_other, .inl (cy 2, 65, .inl r_11)), (a_t_sum, .inl (cy 2, 65, .inl f_t_sum)), (a_t_rest, .inl (cy 2, 65, .inl f_t_rest))] : va_W) ++ (rowsW (cy 2) rw_t B_t ++ ([] : va_W)))) (st2 := []) hx hb hml hown ht hK hP hD hS hA hC hR hl (kcX13_negates l D cy g a_t_other 65 r_4 r_10 k r_11 hr_11) [6] qn_1388 q_1431 q_54 q_1432 hyX13_negates ⟨Nat.le_of_ble_eq_true rfl, Nat.le_of_ble_eq_true rfl, Nat.le_of_ble_eq_true rfl, Nat.le_of_ble_eq_true rfl⟩ rfl (zq rfl) rfl rfl (Nat.le_of_ble_eq_true rfl) dX12_sizes_50 (zqw (cx := [(a_t_other, .inl (cy 2, 65, .inl r_4))]) rfl rfl) rfl (fun H locs hP hD hS => ?_)
      refine lv_iload hx hb dX12_sizes_53 (lv_at hl 0 rfl) ?_
      obtain ⟨hbz, hm⟩ := hm_g hm
      obtain rfl := Option.some.inj hm
      exact k_zret hx hb hr hlocks hQc (k_narz hbz) hP hS rfl rfl dX12_sizes_55
  replace hm := hreg
  refine lv_if_ne (tgt := 37) hx hb dX12_sizes_19 (by decide) (fun c_5 => ?_) (fun c_5 => ?_)
  · replace hm := hm_f c_5 hm
    refine lv_iconst (v := 0) hx hb dX12_sizes_37 (by decide) ?_
    obtain rfl := Option.some.inj hm
    exact J38 _ _ _ hP hD hS (lv_sub hl [0, 3] rfl)
  · replace hm := hm_t c_5 hm
    refine lv_aload_n hx hb dX12_sizes_22 rfl (lv_at hl 3 rfl) ?_
    refine lv_aload_n hx hb dX12_sizes_23 rfl (lv_at hl 0 rfl) ?_
    obtain ⟨r_12, hr_12, hm⟩ := hm_b hm
    refine k_V (as := []) (rest := [.ref a_t_other]) (ws' := (([(a_t, .inr (8, [.int v_t_isWide, .ref a_t_cells, .ref a_t_page, .int v_t_pageMany, .ref a_t_digits, .int v_t_many, .int v_t_isMinus, .ref a_t_found, .ref a_t_one, .ref a_t_other, .ref a_t_sum, .ref a_t_rest])), (a_t_cells, .inl (cy 5, 8, .inr (.inr (.inr (.inr (fun j => some (rw_t j))))))), (a_t_page, .inl (cy 0, 66, .inl f_t_page)), (a_t_digits, .inl (cy 0, 64, .inl f_t_digits)), (a_t_found, .inl (cy 2, 64, .inl f_t_found)), (a_t_one, .inl (cy 2, 65, .inl f_t_one)), (a_t_other, .inl (cy 2, 65, .inl r_4)), (a_t_sum, .inl (cy 2, 65, .inl f_t_sum)), (a_t_rest, .inl (cy 2, 65, .inl f_t_rest))] : va_W) ++ (rowsW (cy 2) rw_t B_t ++ ([] : va_W)))) (st2 := [.int r_12, .ref a_t_other]) (i0 := 0) hx hb hml hown ht hK hP hD hS hA hC hR hl (kcX12_bits l D cy g a_t a_t_cells a_t_page a_t_digits a_t_found a_t_one a_t_other a_t_sum a_t_rest rw_t v_t_isWide B_t f_t_page v_t_pageMany f_t_digits v_t_many v_t_isMinus f_t_found f_t_one r_4 f_t_sum f_t_rest r_12 hr_12) (isZ [0, 1, 2, 3, 4, 5, 6, 7, 8] 9 8) q_1354 q_1355 q_1356 q_55 q_1357 hyX12_bits ⟨rfl, rfl, rfl⟩ ⟨Nat.le_of_ble_eq_true rfl, Nat.le_of_ble_eq_true rfl, Nat.le_of_ble_eq_true rfl, Nat.le_of_ble_eq_true rfl⟩ rfl (zcT rfl rfl rfl) (zeT rfl rfl) rfl (Nat.le_of_ble_eq_true rfl) dX12_sizes_24 (zwT (cx := [(a_t, .inr (8, [.int v_t_isWide, .ref a_t_cells, .ref a_t_page, .int v_t_pageMany, .ref a_t_digits, .int v_t_many, .int v_t_isMinus, .ref a_t_found, .ref a_t_one, .ref a_t_other, .ref a_t_sum, .ref a_t_rest])), (a_t_cells, .inl (cy 5, 8, .inr (.inr (.inr (.inr (fun j => some (rw_t j))))))), (a_t_page, .inl (cy 0, 66, .inl f_t_page)), (a_t_digits, .inl (cy 0, 64, .inl f_t_digits)), (a_t_found, .inl (cy 2, 64, .inl f_t_found)), (a_t_one, .inl (cy 2, 65, .inl f_t_one)), (a_t_other, .inl (cy 2, 65, .inl r_4)), (a_t_sum, .inl (cy 2, 65, .inl f_t_sum)), (a_t_rest, .inl (cy 2, 65, .inl f_t_rest))]) rfl rfl rfl rfl rfl rfl) rfl (fun H locs hP hD hS => ?_)
    refine lv_iconst (v := 1) hx hb dX12_sizes_27 (by decide) ?_
    refine lv_isub hx hb dX12_sizes_28 ?_
    obtain ⟨hin, hm⟩ := hm_g hm
    refine va_zald hx hb hK.1 hP 6 2 rfl rfl hin dX12_sizes_29 ?_
    refine lv_if_eq (tgt := 37) hx hb dX12_sizes_30 (by decide) (fun c_13 => ?_) (fun c_13 => ?_)
    · replace hm := hm_t c_13 hm
      refine lv_iconst (v := 0) hx hb dX12_sizes_37 (by decide) ?_
      obtain rfl := Option.some.inj hm
      exact J38 _ _ _ hP hD hS (lv_sub hl [0, 3] rfl)
    · replace hm := hm_f c_13 hm
      refine lv_iconst (v := 1) hx hb dX12_sizes_33 (by decide) ?_
      refine lv_goto (tgt := 38) hx hb dX12_sizes_34 (by decide) ?_
      obtain rfl := Option.some.inj hm
      exact J38 _ _ _ hP hD hS (lv_sub hl [0, 3] rfl)
theorem dX12_digits_0 : decode cX12_digits 0 = .ok (.iload_n 2, 1) := by decide +kernel
theorem dX12_digits_1 : decode cX12_digits 1 = .ok (.iconst 2, 1) := by decide +kernel
theorem dX12_digits_2 : decode cX12_digits 2 = .ok (.bipush 36, 2) := by decide +kernel
theorem dX12_digits_4 : decode cX12_digits 4 = .ok (.invokestatic 87, 3) := by decide +kernel
theorem dX12_digits_7 : decode cX12_digits 7 = .ok (.ifCond .eq 7, 3) := by decide +kernel
theorem dX12_digits_10 : decode cX12_digits 10 = .ok (.iload_n 2, 1) := by decide +kernel
theorem dX12_digits_11 : decode cX12_digits 11 = .ok (.goto 5, 3) := by decide +kernel
theorem dX12_digits_14 : decode cX12_digits 14 = .ok (.bipush 10, 2) := by decide +kernel
theorem dX12_digits_16 : decode cX12_digits 16 = .ok (.istore 4, 2) := by decide +kernel
theorem dX12_digits_18 : decode cX12_digits 18 = .ok (.aload_n 0, 1) := by decide +kernel
theorem dX12_digits_19 : decode cX12_digits 19 = .ok (.aload_n 0, 1) := by decide +kernel
theorem dX12_digits_20 : decode cX12_digits 20 = .ok (.iload_n 1, 1) := by decide +kernel
theorem dX12_digits_21 : decode cX12_digits 21 = .ok (.iload_n 3, 1) := by decide +kernel
theorem dX12_digits_22 : decode cX12_digits 22 = .ok (.aload_n 0, 1) := by decide +kernel
theorem dX12_digits_23 : decode cX12_digits 23 = .ok (.getfield 27, 3) := by decide +kernel
theorem dX12_digits_26 : decode cX12_digits 26 = .ok (.invokevirtual 91, 3) := by decide +kernel
theorem dX12_digits_29 : decode cX12_digits 29 = .ok (.putfield 95, 3) := by decide +kernel
theorem dX12_digits_32 : decode cX12_digits 32 = .ok (.aload_n 0, 1) := by decide +kernel
theorem dX12_digits_33 : decode cX12_digits 33 = .ok (.iconst 0, 1) := by decide +kernel
theorem dX12_digits_34 : decode cX12_digits 34 = .ok (.putfield 98, 3) := by decide +kernel
theorem dX12_digits_37 : decode cX12_digits 37 = .ok (.iconst 1, 1) := by decide +kernel
theorem dX12_digits_38 : decode cX12_digits 38 = .ok (.istore 5, 2) := by decide +kernel
theorem dX12_digits_40 : decode cX12_digits 40 = .ok (.iload 5, 2) := by decide +kernel
theorem dX12_digits_42 : decode cX12_digits 42 = .ok (.ifCond .eq 132, 3) := by decide +kernel
theorem dX12_digits_45 : decode cX12_digits 45 = .ok (.iconst 0, 1) := by decide +kernel
theorem dX12_digits_46 : decode cX12_digits 46 = .ok (.istore 6, 2) := by decide +kernel
theorem dX12_digits_48 : decode cX12_digits 48 = .ok (.aload_n 0, 1) := by decide +kernel
theorem dX12_digits_49 : decode cX12_digits 49 = .ok (.invokevirtual 59, 3) := by decide +kernel
theorem dX12_digits_52 : decode cX12_digits 52 = .ok (.iconst 1, 1) := by decide +kernel
theorem dX12_digits_53 : decode cX12_digits 53 = .ok (.isub, 1) := by decide +kernel
theorem dX12_digits_54 : decode cX12_digits 54 = .ok (.istore 7, 2) := by decide +kernel
theorem dX12_digits_56 : decode cX12_digits 56 = .ok (.iload 7, 2) := by decide +kernel
theorem dX12_digits_58 : decode cX12_digits 58 = .ok (.ifCond .lt 71, 3) := by decide +kernel
theorem dX12_digits_61 : decode cX12_digits 61 = .ok (.iconst 2, 1) := by decide +kernel
theorem dX12_digits_62 : decode cX12_digits 62 = .ok (.iload 6, 2) := by decide +kernel
theorem dX12_digits_64 : decode cX12_digits 64 = .ok (.imul, 1) := by decide +kernel
theorem dX12_digits_65 : decode cX12_digits 65 = .ok (.aload_n 0, 1) := by decide +kernel
theorem dX12_digits_66 : decode cX12_digits 66 = .ok (.getfield 27, 3) := by decide +kernel
theorem dX12_digits_69 : decode cX12_digits 69 = .ok (.iload 7, 2) := by decide +kernel
theorem dX12_digits_71 : decode cX12_digits 71 = .ok (.baload, 1) := by decide +kernel
theorem dX12_digits_72 : decode cX12_digits 72 = .ok (.ifCond .eq 7, 3) := by decide +kernel
theorem dX12_digits_75 : decode cX12_digits 75 = .ok (.iconst 1, 1) := by decide +kernel
theorem dX12_digits_76 : decode cX12_digits 76 = .ok (.goto 4, 3) := by decide +kernel
theorem dX12_digits_79 : decode cX12_digits 79 = .ok (.iconst 0, 1) := by decide +kernel
theorem dX12_digits_80 : decode cX12_digits 80 = .ok (.iadd, 1) := by decide +kernel
theorem dX12_digits_81 : decode cX12_digits 81 = .ok (.istore 6, 2) := by decide +kernel
theorem dX12_digits_83 : decode cX12_digits 83 = .ok (.aload_n 0, 1) := by decide +kernel
theorem dX12_digits_84 : decode cX12_digits 84 = .ok (.getfield 27, 3) := by decide +kernel
theorem dX12_digits_87 : decode cX12_digits 87 = .ok (.iload 7, 2) := by decide +kernel
theorem dX12_digits_89 : decode cX12_digits 89 = .ok (.iload 6, 2) := by decide +kernel
theorem dX12_digits_91 : decode cX12_digits 91 = .ok (.iload 4, 2) := by decide +kernel
theorem dX12_digits_93 : decode cX12_digits 93 = .ok (.if_icmp .lt 7, 3) := by decide +kernel
theorem dX12_digits_96 : decode cX12_digits 96 = .ok (.iconst 1, 1) := by decide +kernel
theorem dX12_digits_97 : decode cX12_digits 97 = .ok (.goto 4, 3) := by decide +kernel
theorem dX12_digits_100 : decode cX12_digits 100 = .ok (.iconst 0, 1) := by decide +kernel
theorem dX12_digits_101 : decode cX12_digits 101 = .ok (.bastore, 1) := by decide +kernel
theorem dX12_digits_102 : decode cX12_digits 102 = .ok (.iload 6, 2) := by decide +kernel
theorem dX12_digits_104 : decode cX12_digits 104 = .ok (.aload_n 0, 1) := by decide +kernel
theorem dX12_digits_105 : decode cX12_digits 105 = .ok (.getfield 27, 3) := by decide +kernel
theorem dX12_digits_108 : decode cX12_digits 108 = .ok (.iload 7, 2) := by decide +kernel
theorem dX12_digits_110 : decode cX12_digits 110 = .ok (.baload, 1) := by decide +kernel
theorem dX12_digits_111 : decode cX12_digits 111 = .ok (.ifCond .eq 8, 3) := by decide +kernel
theorem dX12_digits_114 : decode cX12_digits 114 = .ok (.iload 4, 2) := by decide +kernel
theorem dX12_digits_116 : decode cX12_digits 116 = .ok (.goto 4, 3) := by decide +kernel
theorem dX12_digits_119 : decode cX12_digits 119 = .ok (.iconst 0, 1) := by decide +kernel
theorem dX12_digits_120 : decode cX12_digits 120 = .ok (.isub, 1) := by decide +kernel
theorem dX12_digits_121 : decode cX12_digits 121 = .ok (.istore 6, 2) := by decide +kernel
theorem dX12_digits_123 : decode cX12_digits 123 = .ok (.iinc 7 (-1), 3) := by decide +kernel
theorem dX12_digits_126 : decode cX12_digits 126 = .ok (.goto (-70), 3) := by decide +kernel
theorem dX12_digits_129 : decode cX12_digits 129 = .ok (.aload_n 0, 1) := by decide +kernel
theorem dX12_digits_130 : decode cX12_digits 130 = .ok (.getfield 20, 3) := by decide +kernel
theorem dX12_digits_133 : decode cX12_digits 133 = .ok (.aload_n 0, 1) := by decide +kernel
theorem dX12_digits_134 : decode cX12_digits 134 = .ok (.getfield 98, 3) := by decide +kernel
theorem dX12_digits_137 : decode cX12_digits 137 = .ok (.iload 6, 2) := by decide +kernel
theorem dX12_digits_139 : decode cX12_digits 139 = .ok (.iastore, 1) := by decide +kernel
theorem dX12_digits_140 : decode cX12_digits 140 = .ok (.aload_n 0, 1) := by decide +kernel
theorem dX12_digits_141 : decode cX12_digits 141 = .ok (.dup, 1) := by decide +kernel
theorem dX12_digits_142 : decode cX12_digits 142 = .ok (.getfield 98, 3) := by decide +kernel
theorem dX12_digits_145 : decode cX12_digits 145 = .ok (.iconst 1, 1) := by decide +kernel
theorem dX12_digits_146 : decode cX12_digits 146 = .ok (.iadd, 1) := by decide +kernel
theorem dX12_digits_147 : decode cX12_digits 147 = .ok (.putfield 98, 3) := by decide +kernel
theorem dX12_digits_150 : decode cX12_digits 150 = .ok (.aload_n 0, 1) := by decide +kernel
theorem dX12_digits_151 : decode cX12_digits 151 = .ok (.getfield 27, 3) := by decide +kernel
theorem dX12_digits_154 : decode cX12_digits 154 = .ok (.aload_n 0, 1) := by decide +kernel
theorem dX12_digits_155 : decode cX12_digits 155 = .ok (.invokevirtual 59, 3) := by decide +kernel
theorem dX12_digits_158 : decode cX12_digits 158 = .ok (.invokestatic 101, 3) := by decide +kernel
theorem dX12_digits_161 : decode cX12_digits 161 = .ok (.ifCond .ne 7, 3) := by decide +kernel
theorem dX12_digits_164 : decode cX12_digits 164 = .ok (.iconst 1, 1) := by decide +kernel
theorem dX12_digits_165 : decode cX12_digits 165 = .ok (.goto 4, 3) := by decide +kernel
theorem dX12_digits_168 : decode cX12_digits 168 = .ok (.iconst 0, 1) := by decide +kernel
theorem dX12_digits_169 : decode cX12_digits 169 = .ok (.istore 5, 2) := by decide +kernel
theorem dX12_digits_171 : decode cX12_digits 171 = .ok (.goto (-131), 3) := by decide +kernel
theorem dX12_digits_174 : decode cX12_digits 174 = .ok (.return_, 1) := by decide +kernel
def mX12_digits_L56 (x_3 : Int32) : Nat → Int32 → Int32 → (Nat → Int32) → Option (Int32 × (Nat → Int32))
  | 0, _, _, _ => none
  | n_ + 1, y_109, y_110, y_111 => (if y_110 < 0 then some (y_109, y_111) else (if y_110 < 0 ∨ 65 ≤ y_110.toNatClampNeg then none else (((if (y_111 y_110.toNatClampNeg) = 0 then some 0 else some 1) : Option (Int32)).bind (fun x_114 => ((some ((2 * y_109) + x_114) : Option Int32).bind (fun x_115 => (((if x_115 < x_3 then some 0 else some 1) : Option (Int32)).bind (fun x_117 => (if y_110 < 0 ∨ 65 ≤ y_110.toNatClampNeg then none else (if y_110 < 0 ∨ 65 ≤ y_110.toNatClampNeg then none else (((if ((upd y_111 y_110.toNatClampNeg (vp_nar .boolean x_117)) y_110.toNatClampNeg) = 0 then some 0 else some x_3) : Option (Int32)).bind (fun x_119 => ((some (x_115 - x_119) : Option Int32).bind (fun x_120 => (mX12_digits_L56 x_3 n_ x_120 (y_110 + (-1)) (upd y_111 y_110.toNatClampNeg (vp_nar .boolean x_117)))))))))))))))))
def mX12_digits_L40 (v_t_isWide : Int32) (x_3 : Int32) (k : Nat) : Nat → Int32 → Int32 → (Nat → Int32) → (Nat → Int32) → Option (Int32 × (Nat → Int32) × (Nat → Int32))
  | 0, _, _, _, _ => none
  | n_ + 1, y_83, y_84, y_85, y_86 => (if y_83 = 0 then some (y_84, y_85, y_86) else ((mX12_bits v_t_isWide).bind (fun r_88 => ((mX12_digits_L56 x_3 k 0 (r_88 - 1) y_86).bind (fun r_121 => (if y_84 < 0 ∨ 64 ≤ y_84.toNatClampNeg then none else ((mX12_bits v_t_isWide).bind (fun r_122 => ((mX13_isNothing k 65 r_121.2 r_122).bind (fun r_123 => (((if r_123 = 0 then some 1 else some 0) : Option (Int32)).bind (fun x_125 => (mX12_digits_L40 v_t_isWide x_3 k n_ x_125 (y_84 + 1) (upd y_85 y_84.toNatClampNeg r_121.1) r_121.2)))))))))))))
def mX12_digits (k : Nat) (v_t_isWide : Int32) (B_t : Nat → Nat → Int32) (f_t_digits : Nat → Int32) (f_t_one : Nat → Int32) (p1 : Int32) (p2 : Int32) (p3 : Int32) : Option ((Nat → Int32) × Int32 × Int32 × (Nat → Int32)) := ((mX13_in p2 2 36).bind (fun r_1 => (((if r_1 = 0 then some 10 else some p2) : Option (Int32)).bind (fun x_3 => ((mX12_sizes_one k v_t_isWide B_t f_t_one p1 p3).bind (fun r_4 => (if ¬ (r_4.1 = 0 ∨ r_4.1 = 1) then none else ((mX12_digits_L40 v_t_isWide x_3 k k 1 0 f_t_digits r_4.2).bind (fun r_126 => some (r_126.2.1, r_126.1, r_4.1, r_126.2.2))))))))))
set_option maxHeartbeats 4000000 in
set_option maxRecDepth 100000 in
theorem kcX12_digits (l : Launch) (D : va_G) (cy : Nat → ClassId) (g : Nat → Nat) (a_t : Nat) (a_t_cells : Nat) (a_t_page : Nat) (a_t_digits : Nat) (a_t_found : Nat) (a_t_one : Nat) (a_t_other : Nat) (a_t_sum : Nat) (a_t_rest : Nat) (rw_t : Nat → Nat) (v_t_isWide : Int32) (B_t : Nat → Nat → Int32) (f_t_page : Nat → Int32) (v_t_pageMany : Int32) (f_t_digits : Nat → Int32) (v_t_many : Int32) (v_t_isMinus : Int32) (f_t_found : Nat → Int32) (f_t_one : Nat → Int32) (f_t_other : Nat → Int32) (f_t_sum : Nat → Int32) (f_t_rest : Nat → Int32) (p1 : Int32) (p2 : Int32) (p3 : Int32) (k : Nat) (R : (Nat → Int32) × Int32 × Int32 × (Nat → Int32)) (hm : mX12_digits k v_t_isWide B_t f_t_digits f_t_one p1 p2 p3 = some R) : Con l D cy g yX12_digits cX12_digits 8 none 2 48 0 0 [.ref a_t, .int p1, .int p2, .int p3] (([(a_t, .inr (8, [.int v_t_isWide, .ref a_t_cells, .ref a_t_page, .int v_t_pageMany, .ref a_t_digits, .int v_t_many, .int v_t_isMinus, .ref a_t_found, .ref a_t_one, .ref a_t_other, .ref a_t_sum, .ref a_t_rest])), (a_t_cells, .inl (cy 5, 8, .inr (.inr (.inr (.inr (fun j => some (rw_t j))))))), (a_t_page, .inl (cy 0, 66, .inl f_t_page)), (a_t_digits, .inl (cy 0, 64, .inl f_t_digits)), (a_t_found, .inl (cy 2, 64, .inl f_t_found)), (a_t_one, .inl (cy 2, 65, .inl f_t_one)), (a_t_other, .inl (cy 2, 65, .inl f_t_other)), (a_t_sum, .inl (cy 2, 65, .inl f_t_sum)), (a_t_rest, .inl (cy 2, 65, .inl f_t_rest))] : va_W) ++ (rowsW (cy 2) rw_t B_t ++ ([] : va_W))) (([(a_t, .inr (8, [.int v_t_isWide, .ref a_t_cells, .ref a_t_page, .int v_t_pageMany, .ref a_t_digits, .int R.2.1, .int R.2.2.1, .ref a_t_found, .ref a_t_one, .ref a_t_other, .ref a_t_sum, .ref a_t_rest])), (a_t_cells, .inl (cy 5, 8, .inr (.inr (.inr (.inr (fun j => some (rw_t j))))))), (a_t_page, .inl (cy 0, 66, .inl f_t_page)), (a_t_digits, .inl (cy 0, 64, .inl R.1)), (a_t_found, .inl (cy 2, 64, .inl f_t_found)), (a_t_one, .inl (cy 2, 65, .inl R.2.2.2)), (a_t_other, .inl (cy 2, 65, .inl f_t_other)), (a_t_sum, .inl (cy 2, 65, .inl f_t_sum)), (a_t_rest, .inl (cy 2, 65, .inl f_t_rest))] : va_W) ++ (rowsW (cy 2) rw_t B_t ++ ([] : va_W))) none := by
  refine Con.of (by decide +kernel) (Nat.le_of_ble_eq_true rfl) ?_
  intro p e RM s m ar below meth c A Qc ls hx hb hr hml hown hlocks hnm ht hK hP hD hS hA hR hC hQc hl
  have hown : s.vm.findClass RX12 = some m.cls := hown
  have hl : lv_has ls 8 [(0, .ref a_t), (1, .int p1), (2, .int p2), (3, .int p3)] := hl
  rw [mX12_digits] at hm
  refine lv_iload_n hx hb dX12_digits_0 rfl (lv_at hl 2 rfl) ?_
  refine lv_iconst (v := 2) hx hb dX12_digits_1 (by decide) ?_
  refine lv_bipush (v := 36) hx hb dX12_digits_2 (by decide) ?_
  obtain ⟨r_1, hr_1, hm⟩ := hm_b hm
  refine k_SN (as := [.int p2, .int 2, .int 36]) (rest := []) (ws' := (([(a_t, .inr (8, [.int v_t_isWide, .ref a_t_cells, .ref a_t_page, .int v_t_pageMany, .ref a_t_digits, .int v_t_many, .int v_t_isMinus, .ref a_t_found, .ref a_t_one, .ref a_t_other, .ref a_t_sum, .ref a_t_rest])), (a_t_cells, .inl (cy 5, 8, .inr (.inr (.inr (.inr (fun j => some (rw_t j))))))), (a_t_page, .inl (cy 0, 66, .inl f_t_page)), (a_t_digits, .inl (cy 0, 64, .inl f_t_digits)), (a_t_found, .inl (cy 2, 64, .inl f_t_found)), (a_t_one, .inl (cy 2, 65, .inl f_t_one)), (a_t_other, .inl (cy 2, 65, .inl f_t_other)), (a_t_sum, .inl (cy 2, 65, .inl f_t_sum)), (a_t_rest, .inl (cy 2, 65, .inl f_t_rest))] : va_W) ++ (rowsW (cy 2) rw_t B_t ++ ([] : va_W)))) (st2 := [.int r_1]) hx hb hml hown ht hK hP hD hS hA hC hR hl (kcX13_in l D cy g p2 2 36 r_1 hr_1) [] qn_1378 q_1344 q_54 q_1345 hyX13_in ⟨Nat.le_of_ble_eq_true rfl, Nat.le_of_ble_eq_true rfl, Nat.le_of_ble_eq_true rfl, Nat.le_of_ble_eq_true rfl⟩ rfl (zq rfl) rfl rfl (Nat.le_of_ble_eq_true rfl) dX12_digits_4 (zqw (cx := []) rfl rfl) rfl (fun H locs hP hD hS => ?_)
  obtain ⟨x_3, hreg, hm⟩ := hm_b hm
  have J16 : ∀ (H : Heap) (locs : List Loc) (ls : Array Slot), va_P D classes (([(a_t, .inr (8, [.int v_t_isWide, .ref a_t_cells, .ref a_t_page, .int v_t_pageMany, .ref a_t_digits, .int v_t_many, .int v_t_isMinus, .ref a_t_found, .ref a_t_one, .ref a_t_other, .ref a_t_sum, .ref a_t_rest])), (a_t_cells, .inl (cy 5, 8, .inr (.inr (.inr (.inr (fun j => some (rw_t j))))))), (a_t_page, .inl (cy 0, 66, .inl f_t_page)), (a_t_digits, .inl (cy 0, 64, .inl f_t_digits)), (a_t_found, .inl (cy 2, 64, .inl f_t_found)), (a_t_one, .inl (cy 2, 65, .inl f_t_one)), (a_t_other, .inl (cy 2, 65, .inl f_t_other)), (a_t_sum, .inl (cy 2, 65, .inl f_t_sum)), (a_t_rest, .inl (cy 2, 65, .inl f_t_rest))] : va_W) ++ (rowsW (cy 2) rw_t B_t ++ ([] : va_W))) H → va_D A (([(a_t, .inr (8, [.int v_t_isWide, .ref a_t_cells, .ref a_t_page, .int v_t_pageMany, .ref a_t_digits, .int v_t_many, .int v_t_isMinus, .ref a_t_found, .ref a_t_one, .ref a_t_other, .ref a_t_sum, .ref a_t_rest])), (a_t_cells, .inl (cy 5, 8, .inr (.inr (.inr (.inr (fun j => some (rw_t j))))))), (a_t_page, .inl (cy 0, 66, .inl f_t_page)), (a_t_digits, .inl (cy 0, 64, .inl f_t_digits)), (a_t_found, .inl (cy 2, 64, .inl f_t_found)), (a_t_one, .inl (cy 2, 65, .inl f_t_one)), (a_t_other, .inl (cy 2, 65, .inl f_t_other)), (a_t_sum, .inl (cy 2, 65, .inl f_t_sum)), (a_t_rest, .inl (cy 2, 65, .inl f_t_rest))] : va_W) ++ (rowsW (cy 2) rw_t B_t ++ ([] : va_W))) → va_S A s.heap H locs → lv_has ls 8 [(0, .ref a_t), (1, .int p1), (3, .int p3)] → W p l e RM s m ar below meth c H locs 0 0 (MQ below Qc ar s 0 0 A) (F0 m 16 ls [.int x_3]) := by
    intro H locs ls hP hD hS hl
    refine lv_istore (lv' := [(4, .int x_3), (0, .ref a_t), (1, .int p1), (3, .int p3)]) hx hb dX12_digits_16 hl (by decide) rfl (fun ls hl => ?_)
    refine lv_aload_n hx hb dX12_digits_18 rfl (lv_at hl 1 rfl) ?_
    refine lv_aload_n hx hb dX12_digits_19 rfl (lv_at hl 1 rfl) ?_
    refine lv_iload_n hx hb dX12_digits_20 rfl (lv_at hl 2 rfl) ?_
    refine lv_iload_n hx hb dX12_digits_21 rfl (lv_at hl 3 rfl) ?_
    refine lv_aload_n hx hb dX12_digits_22 rfl (lv_at hl 1 rfl) ?_
    refine va_get (D := D) (cl := classes) (ci := 8) (v := .ref a_t_one) (C := RX12) (T := TX12) (N := 12) hx hb ht in_RX12 hown hK.1 hP 0 rfl rfl 8 (by decide) (ht _ q_1258) (fun _ h9 => h9) rfl dX12_digits_23 ?_
    obtain ⟨r_4, hr_4, hm⟩ := hm_b hm
    refine k_V (as := [.int p1, .int p3, .ref a_t_one]) (rest := [.ref a_t]) (ws' := (([(a_t, .inr (8, [.int v_t_isWide, .ref a_t_cells, .ref a_t_page, .int v_t_pageMany, .ref a_t_digits, .int v_t_many, .int v_t_isMinus, .ref a_t_found, .ref a_t_one, .ref a_t_other, .ref a_t_sum, .ref a_t_rest])), (a_t_cells, .inl (cy 5, 8, .inr (.inr (.inr (.inr (fun j => some (rw_t j))))))), (a_t_page, .inl (cy 0, 66, .inl f_t_page)), (a_t_digits, .inl (cy 0, 64, .inl f_t_digits)), (a_t_found, .inl (cy 2, 64, .inl f_t_found)), (a_t_one, .inl (cy 2, 65, .inl r_4.2)), (a_t_other, .inl (cy 2, 65, .inl f_t_other)), (a_t_sum, .inl (cy 2, 65, .inl f_t_sum)), (a_t_rest, .inl (cy 2, 65, .inl f_t_rest))] : va_W) ++ (rowsW (cy 2) rw_t B_t ++ ([] : va_W)))) (st2 := [.int r_4.1, .ref a_t]) (i0 := 0) hx hb hml hown ht hK hP hD hS hA hC hR hl (kcX12_sizes_one l D cy g a_t a_t_cells a_t_page a_t_digits a_t_found a_t_one a_t_other a_t_sum a_t_rest rw_t v_t_isWide B_t f_t_page v_t_pageMany f_t_digits v_t_many v_t_isMinus f_t_found f_t_one f_t_other f_t_sum f_t_rest p1 p3 k r_4 hr_4) (isZ [0, 1, 2, 3, 4, 5, 6, 7, 8] 9 8) q_1450 q_1452 q_19 q_55 q_1453 hyX12_sizes ⟨rfl, rfl, rfl⟩ ⟨Nat.le_of_ble_eq_true rfl, Nat.le_of_ble_eq_true rfl, Nat.le_of_ble_eq_true rfl, Nat.le_of_ble_eq_true rfl⟩ rfl (zcT rfl rfl rfl) (zeT rfl rfl) rfl (Nat.le_of_ble_eq_true rfl) dX12_digits_26 (zwT (cx := [(a_t, .inr (8, [.int v_t_isWide, .ref a_t_cells, .ref a_t_page, .int v_t_pageMany, .ref a_t_digits, .int v_t_many, .int v_t_isMinus, .ref a_t_found, .ref a_t_one, .ref a_t_other, .ref a_t_sum, .ref a_t_rest])), (a_t_cells, .inl (cy 5, 8, .inr (.inr (.inr (.inr (fun j => some (rw_t j))))))), (a_t_page, .inl (cy 0, 66, .inl f_t_page)), (a_t_digits, .inl (cy 0, 64, .inl f_t_digits)), (a_t_found, .inl (cy 2, 64, .inl f_t_found)), (a_t_one, .inl (cy 2, 65, .inl f_t_one)), (a_t_other, .inl (cy 2, 65, .inl f_t_other)), (a_t_sum, .inl (cy 2, 65, .inl f_t_sum)), (a_t_rest, .inl (cy 2, 65, .inl f_t_rest))]) rfl rfl rfl rfl rfl rfl) rfl (fun H locs hP hD hS => ?_)
    obtain ⟨hbz, hm⟩ := hm_g hm
    refine va_put (D := D) (cl := classes) (ci := 8) (v := .int r_4.1) (ty := .boolean) (C := RX12) (T := TX12) (N := 12) hx hb ht in_RX12 tyX12 tyX12_ok nmX12 hown hK.1 hP hD hS 0 rfl rfl 6 (by decide) (ht _ q_1255) (fun _ h9 => h9) rfl (by decide +kernel) (k_narz hbz) (k_fitz hbz) (Nat.le_of_ble_eq_true rfl) dX12_digits_29 (fun H locs hP hD hS => ?_)
    have hP : va_P D classes (([(a_t, .inr (8, [.int v_t_isWide, .ref a_t_cells, .ref a_t_page, .int v_t_pageMany, .ref a_t_digits, .int v_t_many, .int r_4.1, .ref a_t_found, .ref a_t_one, .ref a_t_other, .ref a_t_sum, .ref a_t_rest])), (a_t_cells, .inl (cy 5, 8, .inr (.inr (.inr (.inr (fun j => some (rw_t j))))))), (a_t_page, .inl (cy 0, 66, .inl f_t_page)), (a_t_digits, .inl (cy 0, 64, .inl f_t_digits)), (a_t_found, .inl (cy 2, 64, .inl f_t_found)), (a_t_one, .inl (cy 2, 65, .inl r_4.2)), (a_t_other, .inl (cy 2, 65, .inl f_t_other)), (a_t_sum, .inl (cy 2, 65, .inl f_t_sum)), (a_t_rest, .inl (cy 2, 65, .inl f_t_rest))] : va_W) ++ (rowsW (cy 2) rw_t B_t ++ ([] : va_W))) H := hP
    have hD : va_D A (([(a_t, .inr (8, [.int v_t_isWide, .ref a_t_cells, .ref a_t_page, .int v_t_pageMany, .ref a_t_digits, .int v_t_many, .int r_4.1, .ref a_t_found, .ref a_t_one, .ref a_t_other, .ref a_t_sum, .ref a_t_rest])), (a_t_cells, .inl (cy 5, 8, .inr (.inr (.inr (.inr (fun j => some (rw_t j))))))), (a_t_page, .inl (cy 0, 66, .inl f_t_page)), (a_t_digits, .inl (cy 0, 64, .inl f_t_digits)), (a_t_found, .inl (cy 2, 64, .inl f_t_found)), (a_t_one, .inl (cy 2, 65, .inl r_4.2)), (a_t_other, .inl (cy 2, 65, .inl f_t_other)), (a_t_sum, .inl (cy 2, 65, .inl f_t_sum)), (a_t_rest, .inl (cy 2, 65, .inl f_t_rest))] : va_W) ++ (rowsW (cy 2) rw_t B_t ++ ([] : va_W))) := hD
    refine lv_aload_n hx hb dX12_digits_32 rfl (lv_at hl 1 rfl) ?_
    refine lv_iconst (v := 0) hx hb dX12_digits_33 (by decide) ?_
    refine va_put (D := D) (cl := classes) (ci := 8) (v := .int 0) (ty := .int) (C := RX12) (T := TX12) (N := 12) hx hb ht in_RX12 tyX12 tyX12_ok nmX12 hown hK.1 hP hD hS 0 rfl rfl 5 (by decide) (ht _ q_1253) (fun _ h9 => h9) rfl (by decide +kernel) rfl rfl (Nat.le_of_ble_eq_true rfl) dX12_digits_34 (fun H locs hP hD hS => ?_)
    have hP : va_P D classes (([(a_t, .inr (8, [.int v_t_isWide, .ref a_t_cells, .ref a_t_page, .int v_t_pageMany, .ref a_t_digits, .int 0, .int r_4.1, .ref a_t_found, .ref a_t_one, .ref a_t_other, .ref a_t_sum, .ref a_t_rest])), (a_t_cells, .inl (cy 5, 8, .inr (.inr (.inr (.inr (fun j => some (rw_t j))))))), (a_t_page, .inl (cy 0, 66, .inl f_t_page)), (a_t_digits, .inl (cy 0, 64, .inl f_t_digits)), (a_t_found, .inl (cy 2, 64, .inl f_t_found)), (a_t_one, .inl (cy 2, 65, .inl r_4.2)), (a_t_other, .inl (cy 2, 65, .inl f_t_other)), (a_t_sum, .inl (cy 2, 65, .inl f_t_sum)), (a_t_rest, .inl (cy 2, 65, .inl f_t_rest))] : va_W) ++ (rowsW (cy 2) rw_t B_t ++ ([] : va_W))) H := hP
    have hD : va_D A (([(a_t, .inr (8, [.int v_t_isWide, .ref a_t_cells, .ref a_t_page, .int v_t_pageMany, .ref a_t_digits, .int 0, .int r_4.1, .ref a_t_found, .ref a_t_one, .ref a_t_other, .ref a_t_sum, .ref a_t_rest])), (a_t_cells, .inl (cy 5, 8, .inr (.inr (.inr (.inr (fun j => some (rw_t j))))))), (a_t_page, .inl (cy 0, 66, .inl f_t_page)), (a_t_digits, .inl (cy 0, 64, .inl f_t_digits)), (a_t_found, .inl (cy 2, 64, .inl f_t_found)), (a_t_one, .inl (cy 2, 65, .inl r_4.2)), (a_t_other, .inl (cy 2, 65, .inl f_t_other)), (a_t_sum, .inl (cy 2, 65, .inl f_t_sum)), (a_t_rest, .inl (cy 2, 65, .inl f_t_rest))] : va_W) ++ (rowsW (cy 2) rw_t B_t ++ ([] : va_W))) := hD
    refine lv_iconst (v := 1) hx hb dX12_digits_37 (by decide) ?_
    refine lv_istore (lv' := [(5, .int 1), (4, .int x_3), (0, .ref a_t), (1, .int p1), (3, .int p3)]) hx hb dX12_digits_38 hl (by decide) rfl (fun ls hl => ?_)
    have L40 : ∀ (rr : Int32 × (Nat → Int32) × (Nat → Int32)) (kk : ∀ (H : Heap) (locs : List Loc) (ls : Array Slot), va_P D classes (([(a_t, .inr (8, [.int v_t_isWide, .ref a_t_cells, .ref a_t_page, .int v_t_pageMany, .ref a_t_digits, .int rr.1, .int r_4.1, .ref a_t_found, .ref a_t_one, .ref a_t_other, .ref a_t_sum, .ref a_t_rest])), (a_t_cells, .inl (cy 5, 8, .inr (.inr (.inr (.inr (fun j => some (rw_t j))))))), (a_t_page, .inl (cy 0, 66, .inl f_t_page)), (a_t_digits, .inl (cy 0, 64, .inl rr.2.1)), (a_t_found, .inl (cy 2, 64, .inl f_t_found)), (a_t_one, .inl (cy 2, 65, .inl rr.2.2)), (a_t_other, .inl (cy 2, 65, .inl f_t_other)), (a_t_sum, .inl (cy 2, 65, .inl f_t_sum)), (a_t_rest, .inl (cy 2, 65, .inl f_t_rest))] : va_W) ++ (rowsW (cy 2) rw_t B_t ++ ([] : va_W))) H → va_D A (([(a_t, .inr (8, [.int v_t_isWide, .ref a_t_cells, .ref a_t_page, .int v_t_pageMany, .ref a_t_digits, .int rr.1, .int r_4.1, .ref a_t_found, .ref a_t_one, .ref a_t_other, .ref a_t_sum, .ref a_t_rest])), (a_t_cells, .inl (cy 5, 8, .inr (.inr (.inr (.inr (fun j => some (rw_t j))))))), (a_t_page, .inl (cy 0, 66, .inl f_t_page)), (a_t_digits, .inl (cy 0, 64, .inl rr.2.1)), (a_t_found, .inl (cy 2, 64, .inl f_t_found)), (a_t_one, .inl (cy 2, 65, .inl rr.2.2)), (a_t_other, .inl (cy 2, 65, .inl f_t_other)), (a_t_sum, .inl (cy 2, 65, .inl f_t_sum)), (a_t_rest, .inl (cy 2, 65, .inl f_t_rest))] : va_W) ++ (rowsW (cy 2) rw_t B_t ++ ([] : va_W))) → va_S A s.heap H locs → lv_has ls 8 [] → W p l e RM s m ar below meth c H locs 0 0 (MQ below Qc ar s 0 0 A) (F0 m 174 ls [])) (n_ : Nat), ∀ (y_83 : Int32) (y_84 : Int32) (y_85 : Nat → Int32) (y_86 : Nat → Int32), mX12_digits_L40 v_t_isWide x_3 k n_ y_83 y_84 y_85 y_86 = some rr → ∀ (H : Heap) (locs : List Loc) (ls : Array Slot), va_P D classes (([(a_t, .inr (8, [.int v_t_isWide, .ref a_t_cells, .ref a_t_page, .int v_t_pageMany, .ref a_t_digits, .int y_84, .int r_4.1, .ref a_t_found, .ref a_t_one, .ref a_t_other, .ref a_t_sum, .ref a_t_rest])), (a_t_cells, .inl (cy 5, 8, .inr (.inr (.inr (.inr (fun j => some (rw_t j))))))), (a_t_page, .inl (cy 0, 66, .inl f_t_page)), (a_t_digits, .inl (cy 0, 64, .inl y_85)), (a_t_found, .inl (cy 2, 64, .inl f_t_found)), (a_t_one, .inl (cy 2, 65, .inl y_86)), (a_t_other, .inl (cy 2, 65, .inl f_t_other)), (a_t_sum, .inl (cy 2, 65, .inl f_t_sum)), (a_t_rest, .inl (cy 2, 65, .inl f_t_rest))] : va_W) ++ (rowsW (cy 2) rw_t B_t ++ ([] : va_W))) H → va_D A (([(a_t, .inr (8, [.int v_t_isWide, .ref a_t_cells, .ref a_t_page, .int v_t_pageMany, .ref a_t_digits, .int y_84, .int r_4.1, .ref a_t_found, .ref a_t_one, .ref a_t_other, .ref a_t_sum, .ref a_t_rest])), (a_t_cells, .inl (cy 5, 8, .inr (.inr (.inr (.inr (fun j => some (rw_t j))))))), (a_t_page, .inl (cy 0, 66, .inl f_t_page)), (a_t_digits, .inl (cy 0, 64, .inl y_85)), (a_t_found, .inl (cy 2, 64, .inl f_t_found)), (a_t_one, .inl (cy 2, 65, .inl y_86)), (a_t_other, .inl (cy 2, 65, .inl f_t_other)), (a_t_sum, .inl (cy 2, 65, .inl f_t_sum)), (a_t_rest, .inl (cy 2, 65, .inl f_t_rest))] : va_W) ++ (rowsW (cy 2) rw_t B_t ++ ([] : va_W))) → va_S A s.heap H locs → lv_has ls 8 [(5, .int y_83), (4, .int x_3), (0, .ref a_t)] → W p l e RM s m ar below meth c H locs 0 0 (MQ below Qc ar s 0 0 A) (F0 m 40 ls []) := by
      intro rr kk n_
      induction n_ with
      | zero => intro y_83 y_84 y_85 y_86 hm; rw [mX12_digits_L40] at hm; cases hm
      | succ n_ ih =>
        intro y_83 y_84 y_85 y_86 hm H locs ls hP hD hS hl
        rw [mX12_digits_L40] at hm
        refine lv_iload hx hb dX12_digits_40 (lv_at hl 0 rfl) ?_
        refine lv_if_eq (tgt := 174) hx hb dX12_digits_42 (by decide) (fun c_87 => ?_) (fun c_87 => ?_)
        · replace hm := hm_t c_87 hm
          obtain rfl := Option.some.inj hm
          exact kk _ _ _ hP hD hS (lv_sub hl [] rfl)
        · replace hm := hm_f c_87 hm
          refine lv_iconst (v := 0) hx hb dX12_digits_45 (by decide) ?_
          refine lv_istore (lv' := [(6, .int 0), (5, .int y_83), (4, .int x_3), (0, .ref a_t)]) hx hb dX12_digits_46 hl (by decide) rfl (fun ls hl => ?_)
          refine lv_aload_n hx hb dX12_digits_48 rfl (lv_at hl 3 rfl) ?_
          obtain ⟨r_88, hr_88, hm⟩ := hm_b hm
          refine k_V (as := []) (rest := []) (ws' := (([(a_t, .inr (8, [.int v_t_isWide, .ref a_t_cells, .ref a_t_page, .int v_t_pageMany, .ref a_t_digits, .int y_84, .int r_4.1, .ref a_t_found, .ref a_t_one, .ref a_t_other, .ref a_t_sum, .ref a_t_rest])), (a_t_cells, .inl (cy 5, 8, .inr (.inr (.inr (.inr (fun j => some (rw_t j))))))), (a_t_page, .inl (cy 0, 66, .inl f_t_page)), (a_t_digits, .inl (cy 0, 64, .inl y_85)), (a_t_found, .inl (cy 2, 64, .inl f_t_found)), (a_t_one, .inl (cy 2, 65, .inl y_86)), (a_t_other, .inl (cy 2, 65, .inl f_t_other)), (a_t_sum, .inl (cy 2, 65, .inl f_t_sum)), (a_t_rest, .inl (cy 2, 65, .inl f_t_rest))] : va_W) ++ (rowsW (cy 2) rw_t B_t ++ ([] : va_W)))) (st2 := [.int r_88]) (i0 := 0) hx hb hml hown ht hK hP hD hS hA hC hR hl (kcX12_bits l D cy g a_t a_t_cells a_t_page a_t_digits a_t_found a_t_one a_t_other a_t_sum a_t_rest rw_t v_t_isWide B_t f_t_page v_t_pageMany y_85 y_84 r_4.1 f_t_found y_86 f_t_other f_t_sum f_t_rest r_88 hr_88) (isZ [0, 1, 2, 3, 4, 5, 6, 7, 8] 9 8) q_1354 q_1355 q_1356 q_55 q_1357 hyX12_bits ⟨rfl, rfl, rfl⟩ ⟨Nat.le_of_ble_eq_true rfl, Nat.le_of_ble_eq_true rfl, Nat.le_of_ble_eq_true rfl, Nat.le_of_ble_eq_true rfl⟩ rfl (zcT rfl rfl rfl) (zeT rfl rfl) rfl (Nat.le_of_ble_eq_true rfl) dX12_digits_49 (zwT (cx := [(a_t, .inr (8, [.int v_t_isWide, .ref a_t_cells, .ref a_t_page, .int v_t_pageMany, .ref a_t_digits, .int y_84, .int r_4.1, .ref a_t_found, .ref a_t_one, .ref a_t_other, .ref a_t_sum, .ref a_t_rest])), (a_t_cells, .inl (cy 5, 8, .inr (.inr (.inr (.inr (fun j => some (rw_t j))))))), (a_t_page, .inl (cy 0, 66, .inl f_t_page)), (a_t_digits, .inl (cy 0, 64, .inl y_85)), (a_t_found, .inl (cy 2, 64, .inl f_t_found)), (a_t_one, .inl (cy 2, 65, .inl y_86)), (a_t_other, .inl (cy 2, 65, .inl f_t_other)), (a_t_sum, .inl (cy 2, 65, .inl f_t_sum)), (a_t_rest, .inl (cy 2, 65, .inl f_t_rest))]) rfl rfl rfl rfl rfl rfl) rfl (fun H locs hP hD hS => ?_)
          refine lv_iconst (v := 1) hx hb dX12_digits_52 (by decide) ?_
          refine lv_isub hx hb dX12_digits_53 ?_
          refine lv_istore (lv' := [(7, .int (r_88 - 1)), (6, .int 0), (5, .int y_83), (4, .int x_3), (0, .ref a_t)]) hx hb dX12_digits_54 hl (by decide) rfl (fun ls hl => ?_)
          have L56 : ∀ (rr : Int32 × (Nat → Int32)) (kk : ∀ (H : Heap) (locs : List Loc) (ls : Array Slot), va_P D classes (([(a_t, .inr (8, [.int v_t_isWide, .ref a_t_cells, .ref a_t_page, .int v_t_pageMany, .ref a_t_digits, .int y_84, .int r_4.1, .ref a_t_found, .ref a_t_one, .ref a_t_other, .ref a_t_sum, .ref a_t_rest])), (a_t_cells, .inl (cy 5, 8, .inr (.inr (.inr (.inr (fun j => some (rw_t j))))))), (a_t_page, .inl (cy 0, 66, .inl f_t_page)), (a_t_digits, .inl (cy 0, 64, .inl y_85)), (a_t_found, .inl (cy 2, 64, .inl f_t_found)), (a_t_one, .inl (cy 2, 65, .inl rr.2)), (a_t_other, .inl (cy 2, 65, .inl f_t_other)), (a_t_sum, .inl (cy 2, 65, .inl f_t_sum)), (a_t_rest, .inl (cy 2, 65, .inl f_t_rest))] : va_W) ++ (rowsW (cy 2) rw_t B_t ++ ([] : va_W))) H → va_D A (([(a_t, .inr (8, [.int v_t_isWide, .ref a_t_cells, .ref a_t_page, .int v_t_pageMany, .ref a_t_digits, .int y_84, .int r_4.1, .ref a_t_found, .ref a_t_one, .ref a_t_other, .ref a_t_sum, .ref a_t_rest])), (a_t_cells, .inl (cy 5, 8, .inr (.inr (.inr (.inr (fun j => some (rw_t j))))))), (a_t_page, .inl (cy 0, 66, .inl f_t_page)), (a_t_digits, .inl (cy 0, 64, .inl y_85)), (a_t_found, .inl (cy 2, 64, .inl f_t_found)), (a_t_one, .inl (cy 2, 65, .inl rr.2)), (a_t_other, .inl (cy 2, 65, .inl f_t_other)), (a_t_sum, .inl (cy 2, 65, .inl f_t_sum)), (a_t_rest, .inl (cy 2, 65, .inl f_t_rest))] : va_W) ++ (rowsW (cy 2) rw_t B_t ++ ([] : va_W))) → va_S A s.heap H locs → lv_has ls 8 [(6, .int rr.1), (4, .int x_3), (0, .ref a_t)] → W p l e RM s m ar below meth c H locs 0 0 (MQ below Qc ar s 0 0 A) (F0 m 129 ls [])) (n_ : Nat), ∀ (y_109 : Int32) (y_110 : Int32) (y_111 : Nat → Int32), mX12_digits_L56 x_3 n_ y_109 y_110 y_111 = some rr → ∀ (H : Heap) (locs : List Loc) (ls : Array Slot), va_P D classes (([(a_t, .inr (8, [.int v_t_isWide, .ref a_t_cells, .ref a_t_page, .int v_t_pageMany, .ref a_t_digits, .int y_84, .int r_4.1, .ref a_t_found, .ref a_t_one, .ref a_t_other, .ref a_t_sum, .ref a_t_rest])), (a_t_cells, .inl (cy 5, 8, .inr (.inr (.inr (.inr (fun j => some (rw_t j))))))), (a_t_page, .inl (cy 0, 66, .inl f_t_page)), (a_t_digits, .inl (cy 0, 64, .inl y_85)), (a_t_found, .inl (cy 2, 64, .inl f_t_found)), (a_t_one, .inl (cy 2, 65, .inl y_111)), (a_t_other, .inl (cy 2, 65, .inl f_t_other)), (a_t_sum, .inl (cy 2, 65, .inl f_t_sum)), (a_t_rest, .inl (cy 2, 65, .inl f_t_rest))] : va_W) ++ (rowsW (cy 2) rw_t B_t ++ ([] : va_W))) H → va_D A (([(a_t, .inr (8, [.int v_t_isWide, .ref a_t_cells, .ref a_t_page, .int v_t_pageMany, .ref a_t_digits, .int y_84, .int r_4.1, .ref a_t_found, .ref a_t_one, .ref a_t_other, .ref a_t_sum, .ref a_t_rest])), (a_t_cells, .inl (cy 5, 8, .inr (.inr (.inr (.inr (fun j => some (rw_t j))))))), (a_t_page, .inl (cy 0, 66, .inl f_t_page)), (a_t_digits, .inl (cy 0, 64, .inl y_85)), (a_t_found, .inl (cy 2, 64, .inl f_t_found)), (a_t_one, .inl (cy 2, 65, .inl y_111)), (a_t_other, .inl (cy 2, 65, .inl f_t_other)), (a_t_sum, .inl (cy 2, 65, .inl f_t_sum)), (a_t_rest, .inl (cy 2, 65, .inl f_t_rest))] : va_W) ++ (rowsW (cy 2) rw_t B_t ++ ([] : va_W))) → va_S A s.heap H locs → lv_has ls 8 [(7, .int y_110), (6, .int y_109), (4, .int x_3), (0, .ref a_t)] → W p l e RM s m ar below meth c H locs 0 0 (MQ below Qc ar s 0 0 A) (F0 m 56 ls []) := by
            intro rr kk n_
            induction n_ with
            | zero => intro y_109 y_110 y_111 hm; rw [mX12_digits_L56] at hm; cases hm
            | succ n_ ih =>
              intro y_109 y_110 y_111 hm H locs ls hP hD hS hl
              rw [mX12_digits_L56] at hm
              refine lv_iload hx hb dX12_digits_56 (lv_at hl 0 rfl) ?_
              refine lv_if_lt (tgt := 129) hx hb dX12_digits_58 (by decide) (fun c_112 => ?_) (fun c_112 => ?_)
              · replace hm := hm_t c_112 hm
                obtain rfl := Option.some.inj hm
                exact kk _ _ _ hP hD hS (lv_sub hl [1, 2, 3] rfl)
              · replace hm := hm_f c_112 hm
                refine lv_iconst (v := 2) hx hb dX12_digits_61 (by decide) ?_
                refine lv_iload hx hb dX12_digits_62 (lv_at hl 1 rfl) ?_
                refine lv_imul hx hb dX12_digits_64 ?_
                refine lv_aload_n hx hb dX12_digits_65 rfl (lv_at hl 3 rfl) ?_
                refine va_get (D := D) (cl := classes) (ci := 8) (v := .ref a_t_one) (C := RX12) (T := TX12) (N := 12) hx hb ht in_RX12 hown hK.1 hP 0 rfl rfl 8 (by decide) (ht _ q_1258) (fun _ h9 => h9) rfl dX12_digits_66 ?_
                refine lv_iload hx hb dX12_digits_69 (lv_at hl 0 rfl) ?_
                obtain ⟨hin, hm⟩ := hm_g hm
                refine va_zald hx hb hK.1 hP 5 2 rfl rfl hin dX12_digits_71 ?_
                obtain ⟨x_114, hreg, hm⟩ := hm_b hm
                have J80 : ∀ (H : Heap) (locs : List Loc) (ls : Array Slot), va_P D classes (([(a_t, .inr (8, [.int v_t_isWide, .ref a_t_cells, .ref a_t_page, .int v_t_pageMany, .ref a_t_digits, .int y_84, .int r_4.1, .ref a_t_found, .ref a_t_one, .ref a_t_other, .ref a_t_sum, .ref a_t_rest])), (a_t_cells, .inl (cy 5, 8, .inr (.inr (.inr (.inr (fun j => some (rw_t j))))))), (a_t_page, .inl (cy 0, 66, .inl f_t_page)), (a_t_digits, .inl (cy 0, 64, .inl y_85)), (a_t_found, .inl (cy 2, 64, .inl f_t_found)), (a_t_one, .inl (cy 2, 65, .inl y_111)), (a_t_other, .inl (cy 2, 65, .inl f_t_other)), (a_t_sum, .inl (cy 2, 65, .inl f_t_sum)), (a_t_rest, .inl (cy 2, 65, .inl f_t_rest))] : va_W) ++ (rowsW (cy 2) rw_t B_t ++ ([] : va_W))) H → va_D A (([(a_t, .inr (8, [.int v_t_isWide, .ref a_t_cells, .ref a_t_page, .int v_t_pageMany, .ref a_t_digits, .int y_84, .int r_4.1, .ref a_t_found, .ref a_t_one, .ref a_t_other, .ref a_t_sum, .ref a_t_rest])), (a_t_cells, .inl (cy 5, 8, .inr (.inr (.inr (.inr (fun j => some (rw_t j))))))), (a_t_page, .inl (cy 0, 66, .inl f_t_page)), (a_t_digits, .inl (cy 0, 64, .inl y_85)), (a_t_found, .inl (cy 2, 64, .inl f_t_found)), (a_t_one, .inl (cy 2, 65, .inl y_111)), (a_t_other, .inl (cy 2, 65, .inl f_t_other)), (a_t_sum, .inl (cy 2, 65, .inl f_t_sum)), (a_t_rest, .inl (cy 2, 65, .inl f_t_rest))] : va_W) ++ (rowsW (cy 2) rw_t B_t ++ ([] : va_W))) → va_S A s.heap H locs → lv_has ls 8 [(7, .int y_110), (4, .int x_3), (0, .ref a_t)] → W p l e RM s m ar below meth c H locs 0 0 (MQ below Qc ar s 0 0 A) (F0 m 80 ls [.int x_114, .int (2 * y_109)]) := by
                  intro H locs ls hP hD hS hl
                  refine lv_iadd hx hb dX12_digits_80 ?_
                  obtain ⟨x_115, hx_, hm⟩ := hm_b hm
                  refine k_topi (y := x_115) (Option.some.inj hx_) ?_
                  refine lv_istore (lv' := [(6, .int x_115), (7, .int y_110), (4, .int x_3), (0, .ref a_t)]) hx hb dX12_digits_81 hl (by decide) rfl (fun ls hl => ?_)
                  refine lv_aload_n hx hb dX12_digits_83 rfl (lv_at hl 3 rfl) ?_
                  refine va_get (D := D) (cl := classes) (ci := 8) (v := .ref a_t_one) (C := RX12) (T := TX12) (N := 12) hx hb ht in_RX12 hown hK.1 hP 0 rfl rfl 8 (by decide) (ht _ q_1258) (fun _ h9 => h9) rfl dX12_digits_84 ?_
                  refine lv_iload hx hb dX12_digits_87 (lv_at hl 1 rfl) ?_
                  refine lv_iload hx hb dX12_digits_89 (lv_at hl 0 rfl) ?_
                  refine lv_iload hx hb dX12_digits_91 (lv_at hl 2 rfl) ?_
                  obtain ⟨x_117, hreg, hm⟩ := hm_b hm
                  have J101 : ∀ (H : Heap) (locs : List Loc) (ls : Array Slot), va_P D classes (([(a_t, .inr (8, [.int v_t_isWide, .ref a_t_cells, .ref a_t_page, .int v_t_pageMany, .ref a_t_digits, .int y_84, .int r_4.1, .ref a_t_found, .ref a_t_one, .ref a_t_other, .ref a_t_sum, .ref a_t_rest])), (a_t_cells, .inl (cy 5, 8, .inr (.inr (.inr (.inr (fun j => some (rw_t j))))))), (a_t_page, .inl (cy 0, 66, .inl f_t_page)), (a_t_digits, .inl (cy 0, 64, .inl y_85)), (a_t_found, .inl (cy 2, 64, .inl f_t_found)), (a_t_one, .inl (cy 2, 65, .inl y_111)), (a_t_other, .inl (cy 2, 65, .inl f_t_other)), (a_t_sum, .inl (cy 2, 65, .inl f_t_sum)), (a_t_rest, .inl (cy 2, 65, .inl f_t_rest))] : va_W) ++ (rowsW (cy 2) rw_t B_t ++ ([] : va_W))) H → va_D A (([(a_t, .inr (8, [.int v_t_isWide, .ref a_t_cells, .ref a_t_page, .int v_t_pageMany, .ref a_t_digits, .int y_84, .int r_4.1, .ref a_t_found, .ref a_t_one, .ref a_t_other, .ref a_t_sum, .ref a_t_rest])), (a_t_cells, .inl (cy 5, 8, .inr (.inr (.inr (.inr (fun j => some (rw_t j))))))), (a_t_page, .inl (cy 0, 66, .inl f_t_page)), (a_t_digits, .inl (cy 0, 64, .inl y_85)), (a_t_found, .inl (cy 2, 64, .inl f_t_found)), (a_t_one, .inl (cy 2, 65, .inl y_111)), (a_t_other, .inl (cy 2, 65, .inl f_t_other)), (a_t_sum, .inl (cy 2, 65, .inl f_t_sum)), (a_t_rest, .inl (cy 2, 65, .inl f_t_rest))] : va_W) ++ (rowsW (cy 2) rw_t B_t ++ ([] : va_W))) → va_S A s.heap H locs → lv_has ls 8 [(6, .int x_115), (7, .int y_110), (4, .int x_3), (0, .ref a_t)] → W p l e RM s m ar below meth c H locs 0 0 (MQ below Qc ar s 0 0 A) (F0 m 101 ls [.int x_117, .int y_110, .ref a_t_one]) := by
                    intro H locs ls hP hD hS hl
                    obtain ⟨hin, hm⟩ := hm_g hm
                    refine va_zast hx hb hK.1 hP hD hS 5 2 rfl rfl hin dX12_digits_101 (fun H locs hP hD hS => ?_)
                    have hP : va_P D classes (([(a_t, .inr (8, [.int v_t_isWide, .ref a_t_cells, .ref a_t_page, .int v_t_pageMany, .ref a_t_digits, .int y_84, .int r_4.1, .ref a_t_found, .ref a_t_one, .ref a_t_other, .ref a_t_sum, .ref a_t_rest])), (a_t_cells, .inl (cy 5, 8, .inr (.inr (.inr (.inr (fun j => some (rw_t j))))))), (a_t_page, .inl (cy 0, 66, .inl f_t_page)), (a_t_digits, .inl (cy 0, 64, .inl y_85)), (a_t_found, .inl (cy 2, 64, .inl f_t_found)), (a_t_one, .inl (cy 2, 65, .inl (upd y_111 y_110.toNatClampNeg (vp_nar .boolean x_117)))), (a_t_other, .inl (cy 2, 65, .inl f_t_other)), (a_t_sum, .inl (cy 2, 65, .inl f_t_sum)), (a_t_rest, .inl (cy 2, 65, .inl f_t_rest))] : va_W) ++ (rowsW (cy 2) rw_t B_t ++ ([] : va_W))) H := hP
                    have hD : va_D A (([(a_t, .inr (8, [.int v_t_isWide, .ref a_t_cells, .ref a_t_page, .int v_t_pageMany, .ref a_t_digits, .int y_84, .int r_4.1, .ref a_t_found, .ref a_t_one, .ref a_t_other, .ref a_t_sum, .ref a_t_rest])), (a_t_cells, .inl (cy 5, 8, .inr (.inr (.inr (.inr (fun j => some (rw_t j))))))), (a_t_page, .inl (cy 0, 66, .inl f_t_page)), (a_t_digits, .inl (cy 0, 64, .inl y_85)), (a_t_found, .inl (cy 2, 64, .inl f_t_found)), (a_t_one, .inl (cy 2, 65, .inl (upd y_111 y_110.toNatClampNeg (vp_nar .boolean x_117)))), (a_t_other, .inl (cy 2, 65, .inl f_t_other)), (a_t_sum, .inl (cy 2, 65, .inl f_t_sum)), (a_t_rest, .inl (cy 2, 65, .inl f_t_rest))] : va_W) ++ (rowsW (cy 2) rw_t B_t ++ ([] : va_W))) := hD
                    refine lv_iload hx hb dX12_digits_102 (lv_at hl 0 rfl) ?_
                    refine lv_aload_n hx hb dX12_digits_104 rfl (lv_at hl 3 rfl) ?_
                    refine va_get (D := D) (cl := classes) (ci := 8) (v := .ref a_t_one) (C := RX12) (T := TX12) (N := 12) hx hb ht in_RX12 hown hK.1 hP 0 rfl rfl 8 (by decide) (ht _ q_1258) (fun _ h9 => h9) rfl dX12_digits_105 ?_
                    refine lv_iload hx hb dX12_digits_108 (lv_at hl 1 rfl) ?_
                    obtain ⟨hin, hm⟩ := hm_g hm
                    refine va_zald hx hb hK.1 hP 5 2 rfl rfl hin dX12_digits_110 ?_
                    obtain ⟨x_119, hreg, hm⟩ := hm_b hm
                    have J120 : ∀ (H : Heap) (locs : List Loc) (ls : Array Slot), va_P D classes (([(a_t, .inr (8, [.int v_t_isWide, .ref a_t_cells, .ref a_t_page, .int v_t_pageMany, .ref a_t_digits, .int y_84, .int r_4.1, .ref a_t_found, .ref a_t_one, .ref a_t_other, .ref a_t_sum, .ref a_t_rest])), (a_t_cells, .inl (cy 5, 8, .inr (.inr (.inr (.inr (fun j => some (rw_t j))))))), (a_t_page, .inl (cy 0, 66, .inl f_t_page)), (a_t_digits, .inl (cy 0, 64, .inl y_85)), (a_t_found, .inl (cy 2, 64, .inl f_t_found)), (a_t_one, .inl (cy 2, 65, .inl (upd y_111 y_110.toNatClampNeg (vp_nar .boolean x_117)))), (a_t_other, .inl (cy 2, 65, .inl f_t_other)), (a_t_sum, .inl (cy 2, 65, .inl f_t_sum)), (a_t_rest, .inl (cy 2, 65, .inl f_t_rest))] : va_W) ++ (rowsW (cy 2) rw_t B_t ++ ([] : va_W))) H → va_D A (([(a_t, .inr (8, [.int v_t_isWide, .ref a_t_cells, .ref a_t_page, .int v_t_pageMany, .ref a_t_digits, .int y_84, .int r_4.1, .ref a_t_found, .ref a_t_one, .ref a_t_other, .ref a_t_sum, .ref a_t_rest])), (a_t_cells, .inl (cy 5, 8, .inr (.inr (.inr (.inr (fun j => some (rw_t j))))))), (a_t_page, .inl (cy 0, 66, .inl f_t_page)), (a_t_digits, .inl (cy 0, 64, .inl y_85)), (a_t_found, .inl (cy 2, 64, .inl f_t_found)), (a_t_one, .inl (cy 2, 65, .inl (upd y_111 y_110.toNatClampNeg (vp_nar .boolean x_117)))), (a_t_other, .inl (cy 2, 65, .inl f_t_other)), (a_t_sum, .inl (cy 2, 65, .inl f_t_sum)), (a_t_rest, .inl (cy 2, 65, .inl f_t_rest))] : va_W) ++ (rowsW (cy 2) rw_t B_t ++ ([] : va_W))) → va_S A s.heap H locs → lv_has ls 8 [(7, .int y_110), (4, .int x_3), (0, .ref a_t)] → W p l e RM s m ar below meth c H locs 0 0 (MQ below Qc ar s 0 0 A) (F0 m 120 ls [.int x_119, .int x_115]) := by
                      intro H locs ls hP hD hS hl
                      refine lv_isub hx hb dX12_digits_120 ?_
                      obtain ⟨x_120, hx_, hm⟩ := hm_b hm
                      refine k_topi (y := x_120) (Option.some.inj hx_) ?_
                      refine lv_istore (lv' := [(6, .int x_120), (7, .int y_110), (4, .int x_3), (0, .ref a_t)]) hx hb dX12_digits_121 hl (by decide) rfl (fun ls hl => ?_)
                      refine lv_iinc (v := (y_110 + (-1))) (lv' := [(7, .int (y_110 + (-1))), (6, .int x_120), (4, .int x_3), (0, .ref a_t)]) hx hb dX12_digits_123 hl (k := 1) rfl rfl (by decide) rfl (fun ls hl => ?_)
                      refine lv_goto (tgt := 56) hx hb dX12_digits_126 (by decide) ?_
                      exact ih x_120 (y_110 + (-1)) (upd y_111 y_110.toNatClampNeg (vp_nar .boolean x_117)) hm _ _ _ hP hD hS (lv_sub hl [0, 1, 2, 3] rfl)
                    replace hm := hreg
                    refine lv_if_eq (tgt := 119) hx hb dX12_digits_111 (by decide) (fun c_118 => ?_) (fun c_118 => ?_)
                    · replace hm := hm_t c_118 hm
                      refine lv_iconst (v := 0) hx hb dX12_digits_119 (by decide) ?_
                      obtain rfl := Option.some.inj hm
                      exact J120 _ _ _ hP hD hS (lv_sub hl [1, 2, 3] rfl)
                    · replace hm := hm_f c_118 hm
                      refine lv_iload hx hb dX12_digits_114 (lv_at hl 2 rfl) ?_
                      refine lv_goto (tgt := 120) hx hb dX12_digits_116 (by decide) ?_
                      obtain rfl := Option.some.inj hm
                      exact J120 _ _ _ hP hD hS (lv_sub hl [1, 2, 3] rfl)
                  replace hm := hreg
                  refine lv_icmp_lt (tgt := 100) hx hb dX12_digits_93 (by decide) (fun c_116 => ?_) (fun c_116 => ?_)
                  · replace hm := hm_t c_116 hm
                    refine lv_iconst (v := 0) hx hb dX12_digits_100 (by decide) ?_
                    obtain rfl := Option.some.inj hm
                    exact J101 _ _ _ hP hD hS (lv_sub hl [0, 1, 2, 3] rfl)
                  · replace hm := hm_f c_116 hm
                    refine lv_iconst (v := 1) hx hb dX12_digits_96 (by decide) ?_
                    refine lv_goto (tgt := 101) hx hb dX12_digits_97 (by decide) ?_
                    obtain rfl := Option.some.inj hm
                    exact J101 _ _ _ hP hD hS (lv_sub hl [0, 1, 2, 3] rfl)
                replace hm := hreg
                refine lv_if_eq (tgt := 79) hx hb dX12_digits_72 (by decide) (fun c_113 => ?_) (fun c_113 => ?_)
                · replace hm := hm_t c_113 hm
                  refine lv_iconst (v := 0) hx hb dX12_digits_79 (by decide) ?_
                  obtain rfl := Option.some.inj hm
                  exact J80 _ _ _ hP hD hS (lv_sub hl [0, 2, 3] rfl)
                · replace hm := hm_f c_113 hm
                  refine lv_iconst (v := 1) hx hb dX12_digits_75 (by decide) ?_
                  refine lv_goto (tgt := 80) hx hb dX12_digits_76 (by decide) ?_
                  obtain rfl := Option.some.inj hm
                  exact J80 _ _ _ hP hD hS (lv_sub hl [0, 2, 3] rfl)
          obtain ⟨r_121, hL, hm⟩ := hm_b hm
          refine L56 r_121 ?_ k 0 (r_88 - 1) y_86 hL _ _ _ hP hD hS (lv_sub hl [0, 1, 3, 4] rfl)
          intro H locs ls hP hD hS hl
          refine lv_aload_n hx hb dX12_digits_129 rfl (lv_at hl 2 rfl) ?_
          refine va_get (D := D) (cl := classes) (ci := 8) (v := .ref a_t_digits) (C := RX12) (T := TX12) (N := 12) hx hb ht in_RX12 hown hK.1 hP 0 rfl rfl 4 (by decide) (ht _ q_1251) (fun _ h9 => h9) rfl dX12_digits_130 ?_
          refine lv_aload_n hx hb dX12_digits_133 rfl (lv_at hl 2 rfl) ?_
          refine va_get (D := D) (cl := classes) (ci := 8) (v := .int y_84) (C := RX12) (T := TX12) (N := 12) hx hb ht in_RX12 hown hK.1 hP 0 rfl rfl 5 (by decide) (ht _ q_1253) (fun _ h9 => h9) rfl dX12_digits_134 ?_
          refine lv_iload hx hb dX12_digits_137 (lv_at hl 0 rfl) ?_
          obtain ⟨hin, hm⟩ := hm_g hm
          refine va_iast hx hb hK.1 hP hD hS 3 0 rfl rfl hin dX12_digits_139 (fun H locs hP hD hS => ?_)
          have hP : va_P D classes (([(a_t, .inr (8, [.int v_t_isWide, .ref a_t_cells, .ref a_t_page, .int v_t_pageMany, .ref a_t_digits, .int y_84, .int r_4.1, .ref a_t_found, .ref a_t_one, .ref a_t_other, .ref a_t_sum, .ref a_t_rest])), (a_t_cells, .inl (cy 5, 8, .inr (.inr (.inr (.inr (fun j => some (rw_t j))))))), (a_t_page, .inl (cy 0, 66, .inl f_t_page)), (a_t_digits, .inl (cy 0, 64, .inl (upd y_85 y_84.toNatClampNeg r_121.1))), (a_t_found, .inl (cy 2, 64, .inl f_t_found)), (a_t_one, .inl (cy 2, 65, .inl r_121.2)), (a_t_other, .inl (cy 2, 65, .inl f_t_other)), (a_t_sum, .inl (cy 2, 65, .inl f_t_sum)), (a_t_rest, .inl (cy 2, 65, .inl f_t_rest))] : va_W) ++ (rowsW (cy 2) rw_t B_t ++ ([] : va_W))) H := hP
          have hD : va_D A (([(a_t, .inr (8, [.int v_t_isWide, .ref a_t_cells, .ref a_t_page, .int v_t_pageMany, .ref a_t_digits, .int y_84, .int r_4.1, .ref a_t_found, .ref a_t_one, .ref a_t_other, .ref a_t_sum, .ref a_t_rest])), (a_t_cells, .inl (cy 5, 8, .inr (.inr (.inr (.inr (fun j => some (rw_t j))))))), (a_t_page, .inl (cy 0, 66, .inl f_t_page)), (a_t_digits, .inl (cy 0, 64, .inl (upd y_85 y_84.toNatClampNeg r_121.1))), (a_t_found, .inl (cy 2, 64, .inl f_t_found)), (a_t_one, .inl (cy 2, 65, .inl r_121.2)), (a_t_other, .inl (cy 2, 65, .inl f_t_other)), (a_t_sum, .inl (cy 2, 65, .inl f_t_sum)), (a_t_rest, .inl (cy 2, 65, .inl f_t_rest))] : va_W) ++ (rowsW (cy 2) rw_t B_t ++ ([] : va_W))) := hD
          refine lv_aload_n hx hb dX12_digits_140 rfl (lv_at hl 2 rfl) ?_
          refine lv_dup hx hb dX12_digits_141 rfl ?_
          refine va_get (D := D) (cl := classes) (ci := 8) (v := .int y_84) (C := RX12) (T := TX12) (N := 12) hx hb ht in_RX12 hown hK.1 hP 0 rfl rfl 5 (by decide) (ht _ q_1253) (fun _ h9 => h9) rfl dX12_digits_142 ?_
          refine lv_iconst (v := 1) hx hb dX12_digits_145 (by decide) ?_
          refine lv_iadd hx hb dX12_digits_146 ?_
          refine va_put (D := D) (cl := classes) (ci := 8) (v := .int (y_84 + 1)) (ty := .int) (C := RX12) (T := TX12) (N := 12) hx hb ht in_RX12 tyX12 tyX12_ok nmX12 hown hK.1 hP hD hS 0 rfl rfl 5 (by decide) (ht _ q_1253) (fun _ h9 => h9) rfl (by decide +kernel) rfl rfl (Nat.le_of_ble_eq_true rfl) dX12_digits_147 (fun H locs hP hD hS => ?_)
          have hP : va_P D classes (([(a_t, .inr (8, [.int v_t_isWide, .ref a_t_cells, .ref a_t_page, .int v_t_pageMany, .ref a_t_digits, .int (y_84 + 1), .int r_4.1, .ref a_t_found, .ref a_t_one, .ref a_t_other, .ref a_t_sum, .ref a_t_rest])), (a_t_cells, .inl (cy 5, 8, .inr (.inr (.inr (.inr (fun j => some (rw_t j))))))), (a_t_page, .inl (cy 0, 66, .inl f_t_page)), (a_t_digits, .inl (cy 0, 64, .inl (upd y_85 y_84.toNatClampNeg r_121.1))), (a_t_found, .inl (cy 2, 64, .inl f_t_found)), (a_t_one, .inl (cy 2, 65, .inl r_121.2)), (a_t_other, .inl (cy 2, 65, .inl f_t_other)), (a_t_sum, .inl (cy 2, 65, .inl f_t_sum)), (a_t_rest, .inl (cy 2, 65, .inl f_t_rest))] : va_W) ++ (rowsW (cy 2) rw_t B_t ++ ([] : va_W))) H := hP
          have hD : va_D A (([(a_t, .inr (8, [.int v_t_isWide, .ref a_t_cells, .ref a_t_page, .int v_t_pageMany, .ref a_t_digits, .int (y_84 + 1), .int r_4.1, .ref a_t_found, .ref a_t_one, .ref a_t_other, .ref a_t_sum, .ref a_t_rest])), (a_t_cells, .inl (cy 5, 8, .inr (.inr (.inr (.inr (fun j => some (rw_t j))))))), (a_t_page, .inl (cy 0, 66, .inl f_t_page)), (a_t_digits, .inl (cy 0, 64, .inl (upd y_85 y_84.toNatClampNeg r_121.1))), (a_t_found, .inl (cy 2, 64, .inl f_t_found)), (a_t_one, .inl (cy 2, 65, .inl r_121.2)), (a_t_other, .inl (cy 2, 65, .inl f_t_other)), (a_t_sum, .inl (cy 2, 65, .inl f_t_sum)), (a_t_rest, .inl (cy 2, 65, .inl f_t_rest))] : va_W) ++ (rowsW (cy 2) rw_t B_t ++ ([] : va_W))) := hD
          refine lv_aload_n hx hb dX12_digits_150 rfl (lv_at hl 2 rfl) ?_
          refine va_get (D := D) (cl := classes) (ci := 8) (v := .ref a_t_one) (C := RX12) (T := TX12) (N := 12) hx hb ht in_RX12 hown hK.1 hP 0 rfl rfl 8 (by decide) (ht _ q_1258) (fun _ h9 => h9) rfl dX12_digits_151 ?_
          refine lv_aload_n hx hb dX12_digits_154 rfl (lv_at hl 2 rfl) ?_
          obtain ⟨r_122, hr_122, hm⟩ := hm_b hm
          refine k_V (as := []) (rest := [.ref a_t_one]) (ws' := (([(a_t, .inr (8, [.int v_t_isWide, .ref a_t_cells, .ref a_t_page, .int v_t_pageMany, .ref a_t_digits, .int (y_84 + 1), .int r_4.1, .ref a_t_found, .ref a_t_one, .ref a_t_other, .ref a_t_sum, .ref a_t_rest])), (a_t_cells, .inl (cy 5, 8, .inr (.inr (.inr (.inr (fun j => some (rw_t j))))))), (a_t_page, .inl (cy 0, 66, .inl f_t_page)), (a_t_digits, .inl (cy 0, 64, .inl (upd y_85 y_84.toNatClampNeg r_121.1))), (a_t_found, .inl (cy 2, 64, .inl f_t_found)), (a_t_one, .inl (cy 2, 65, .inl r_121.2)), (a_t_other, .inl (cy 2, 65, .inl f_t_other)), (a_t_sum, .inl (cy 2, 65, .inl f_t_sum)), (a_t_rest, .inl (cy 2, 65, .inl f_t_rest))] : va_W) ++ (rowsW (cy 2) rw_t B_t ++ ([] : va_W)))) (st2 := [.int r_122, .ref a_t_one]) (i0 := 0) hx hb hml hown ht hK hP hD hS hA hC hR hl (kcX12_bits l D cy g a_t a_t_cells a_t_page a_t_digits a_t_found a_t_one a_t_other a_t_sum a_t_rest rw_t v_t_isWide B_t f_t_page v_t_pageMany (upd y_85 y_84.toNatClampNeg r_121.1) (y_84 + 1) r_4.1 f_t_found r_121.2 f_t_other f_t_sum f_t_rest r_122 hr_122) (isZ [0, 1, 2, 3, 4, 5, 6, 7, 8] 9 8) q_1354 q_1355 q_1356 q_55 q_1357 hyX12_bits ⟨rfl, rfl, rfl⟩ ⟨Nat.le_of_ble_eq_true rfl, Nat.le_of_ble_eq_true rfl, Nat.le_of_ble_eq_true rfl, Nat.le_of_ble_eq_true rfl⟩ rfl (zcT rfl rfl rfl) (zeT rfl rfl) rfl (Nat.le_of_ble_eq_true rfl) dX12_digits_155 (zwT (cx := [(a_t, .inr (8, [.int v_t_isWide, .ref a_t_cells, .ref a_t_page, .int v_t_pageMany, .ref a_t_digits, .int (y_84 + 1), .int r_4.1, .ref a_t_found, .ref a_t_one, .ref a_t_other, .ref a_t_sum, .ref a_t_rest])), (a_t_cells, .inl (cy 5, 8, .inr (.inr (.inr (.inr (fun j => some (rw_t j))))))), (a_t_page, .inl (cy 0, 66, .inl f_t_page)), (a_t_digits, .inl (cy 0, 64, .inl (upd y_85 y_84.toNatClampNeg r_121.1))), (a_t_found, .inl (cy 2, 64, .inl f_t_found)), (a_t_one, .inl (cy 2, 65, .inl r_121.2)), (a_t_other, .inl (cy 2, 65, .inl f_t_other)), (a_t_sum, .inl (cy 2, 65, .inl f_t_sum)), (a_t_rest, .inl (cy 2, 65, .inl f_t_rest))]) rfl rfl rfl rfl rfl rfl) rfl (fun H locs hP hD hS => ?_)
          obtain ⟨r_123, hr_123, hm⟩ := hm_b hm
          refine k_SN (as := [.ref a_t_one, .int r_122]) (rest := []) (ws' := (([(a_t, .inr (8, [.int v_t_isWide, .ref a_t_cells, .ref a_t_page, .int v_t_pageMany, .ref a_t_digits, .int (y_84 + 1), .int r_4.1, .ref a_t_found, .ref a_t_one, .ref a_t_other, .ref a_t_sum, .ref a_t_rest])), (a_t_cells, .inl (cy 5, 8, .inr (.inr (.inr (.inr (fun j => some (rw_t j))))))), (a_t_page, .inl (cy 0, 66, .inl f_t_page)), (a_t_digits, .inl (cy 0, 64, .inl (upd y_85 y_84.toNatClampNeg r_121.1))), (a_t_found, .inl (cy 2, 64, .inl f_t_found)), (a_t_one, .inl (cy 2, 65, .inl r_121.2)), (a_t_other, .inl (cy 2, 65, .inl f_t_other)), (a_t_sum, .inl (cy 2, 65, .inl f_t_sum)), (a_t_rest, .inl (cy 2, 65, .inl f_t_rest))] : va_W) ++ (rowsW (cy 2) rw_t B_t ++ ([] : va_W)))) (st2 := [.int r_123]) hx hb hml hown ht hK hP hD hS hA hC hR hl (kcX13_isNothing l D cy g a_t_one 65 r_121.2 r_122 k r_123 hr_123) [5] qn_1385 q_1428 q_54 q_1429 hyX13_isNothing ⟨Nat.le_of_ble_eq_true rfl, Nat.le_of_ble_eq_true rfl, Nat.le_of_ble_eq_true rfl, Nat.le_of_ble_eq_true rfl⟩ rfl (zq rfl) rfl rfl (Nat.le_of_ble_eq_true rfl) dX12_digits_158 (zqw (cx := [(a_t_one, .inl (cy 2, 65, .inl r_121.2))]) rfl rfl) rfl (fun H locs hP hD hS => ?_)
          obtain ⟨x_125, hreg, hm⟩ := hm_b hm
          have J169 : ∀ (H : Heap) (locs : List Loc) (ls : Array Slot), va_P D classes (([(a_t, .inr (8, [.int v_t_isWide, .ref a_t_cells, .ref a_t_page, .int v_t_pageMany, .ref a_t_digits, .int (y_84 + 1), .int r_4.1, .ref a_t_found, .ref a_t_one, .ref a_t_other, .ref a_t_sum, .ref a_t_rest])), (a_t_cells, .inl (cy 5, 8, .inr (.inr (.inr (.inr (fun j => some (rw_t j))))))), (a_t_page, .inl (cy 0, 66, .inl f_t_page)), (a_t_digits, .inl (cy 0, 64, .inl (upd y_85 y_84.toNatClampNeg r_121.1))), (a_t_found, .inl (cy 2, 64, .inl f_t_found)), (a_t_one, .inl (cy 2, 65, .inl r_121.2)), (a_t_other, .inl (cy 2, 65, .inl f_t_other)), (a_t_sum, .inl (cy 2, 65, .inl f_t_sum)), (a_t_rest, .inl (cy 2, 65, .inl f_t_rest))] : va_W) ++ (rowsW (cy 2) rw_t B_t ++ ([] : va_W))) H → va_D A (([(a_t, .inr (8, [.int v_t_isWide, .ref a_t_cells, .ref a_t_page, .int v_t_pageMany, .ref a_t_digits, .int (y_84 + 1), .int r_4.1, .ref a_t_found, .ref a_t_one, .ref a_t_other, .ref a_t_sum, .ref a_t_rest])), (a_t_cells, .inl (cy 5, 8, .inr (.inr (.inr (.inr (fun j => some (rw_t j))))))), (a_t_page, .inl (cy 0, 66, .inl f_t_page)), (a_t_digits, .inl (cy 0, 64, .inl (upd y_85 y_84.toNatClampNeg r_121.1))), (a_t_found, .inl (cy 2, 64, .inl f_t_found)), (a_t_one, .inl (cy 2, 65, .inl r_121.2)), (a_t_other, .inl (cy 2, 65, .inl f_t_other)), (a_t_sum, .inl (cy 2, 65, .inl f_t_sum)), (a_t_rest, .inl (cy 2, 65, .inl f_t_rest))] : va_W) ++ (rowsW (cy 2) rw_t B_t ++ ([] : va_W))) → va_S A s.heap H locs → lv_has ls 8 [(4, .int x_3), (0, .ref a_t)] → W p l e RM s m ar below meth c H locs 0 0 (MQ below Qc ar s 0 0 A) (F0 m 169 ls [.int x_125]) := by
            intro H locs ls hP hD hS hl
            refine lv_istore (lv' := [(5, .int x_125), (4, .int x_3), (0, .ref a_t)]) hx hb dX12_digits_169 hl (by decide) rfl (fun ls hl => ?_)
            refine lv_goto (tgt := 40) hx hb dX12_digits_171 (by decide) ?_
            exact ih x_125 (y_84 + 1) (upd y_85 y_84.toNatClampNeg r_121.1) r_121.2 hm _ _ _ hP hD hS (lv_sub hl [0, 1, 2] rfl)
          replace hm := hreg
          refine lv_if_ne (tgt := 168) hx hb dX12_digits_161 (by decide) (fun c_124 => ?_) (fun c_124 => ?_)
          · replace hm := hm_f c_124 hm
            refine lv_iconst (v := 0) hx hb dX12_digits_168 (by decide) ?_
            obtain rfl := Option.some.inj hm
            exact J169 _ _ _ hP hD hS (lv_sub hl [1, 2] rfl)
          · replace hm := hm_t c_124 hm
            refine lv_iconst (v := 1) hx hb dX12_digits_164 (by decide) ?_
            refine lv_goto (tgt := 169) hx hb dX12_digits_165 (by decide) ?_
            obtain rfl := Option.some.inj hm
            exact J169 _ _ _ hP hD hS (lv_sub hl [1, 2] rfl)
    obtain ⟨r_126, hL, hm⟩ := hm_b hm
    refine L40 r_126 ?_ k 1 0 f_t_digits r_4.2 hL _ _ _ hP hD hS (lv_sub hl [0, 1, 2] rfl)
    intro H locs ls hP hD hS hl
    obtain rfl := Option.some.inj hm
    exact k_vret hx hb hr hlocks hQc hP hS rfl rfl dX12_digits_174
  replace hm := hreg
  refine lv_if_eq (tgt := 14) hx hb dX12_digits_7 (by decide) (fun c_2 => ?_) (fun c_2 => ?_)
  · replace hm := hm_t c_2 hm
    refine lv_bipush (v := 10) hx hb dX12_digits_14 (by decide) ?_
    obtain rfl := Option.some.inj hm
    exact J16 _ _ _ hP hD hS (lv_sub hl [0, 1, 3] rfl)
  · replace hm := hm_f c_2 hm
    refine lv_iload_n hx hb dX12_digits_10 rfl (lv_at hl 2 rfl) ?_
    refine lv_goto (tgt := 16) hx hb dX12_digits_11 (by decide) ?_
    obtain rfl := Option.some.inj hm
    exact J16 _ _ _ hP hD hS (lv_sub hl [0, 1, 3] rfl)
theorem dX12_length_0 : decode cX12_length 0 = .ok (.aload_n 0, 1) := by decide +kernel
theorem dX12_length_1 : decode cX12_length 1 = .ok (.getfield 98, 3) := by decide +kernel
theorem dX12_length_4 : decode cX12_length 4 = .ok (.aload_n 0, 1) := by decide +kernel
theorem dX12_length_5 : decode cX12_length 5 = .ok (.getfield 95, 3) := by decide +kernel
theorem dX12_length_8 : decode cX12_length 8 = .ok (.ifCond .eq 7, 3) := by decide +kernel
theorem dX12_length_11 : decode cX12_length 11 = .ok (.iconst 1, 1) := by decide +kernel
theorem dX12_length_12 : decode cX12_length 12 = .ok (.goto 4, 3) := by decide +kernel
theorem dX12_length_15 : decode cX12_length 15 = .ok (.iconst 0, 1) := by decide +kernel
theorem dX12_length_16 : decode cX12_length 16 = .ok (.iadd, 1) := by decide +kernel
theorem dX12_length_17 : decode cX12_length 17 = .ok (.ireturn, 1) := by decide +kernel
def mX12_length (v_t_many : Int32) (v_t_isMinus : Int32) : Option (Int32) := (if v_t_isMinus = 0 then some (v_t_many + 0) else some (v_t_many + 1))
set_option maxHeartbeats 4000000 in
set_option maxRecDepth 100000 in
theorem kcX12_length (l : Launch) (D : va_G) (cy : Nat → ClassId) (g : Nat → Nat) (a_t : Nat) (a_t_cells : Nat) (a_t_page : Nat) (a_t_digits : Nat) (a_t_found : Nat) (a_t_one : Nat) (a_t_other : Nat) (a_t_sum : Nat) (a_t_rest : Nat) (rw_t : Nat → Nat) (v_t_isWide : Int32) (B_t : Nat → Nat → Int32) (f_t_page : Nat → Int32) (v_t_pageMany : Int32) (f_t_digits : Nat → Int32) (v_t_many : Int32) (v_t_isMinus : Int32) (f_t_found : Nat → Int32) (f_t_one : Nat → Int32) (f_t_other : Nat → Int32) (f_t_sum : Nat → Int32) (f_t_rest : Nat → Int32) (R : Int32) (hm : mX12_length v_t_many v_t_isMinus = some R) : Con l D cy g yX12_length cX12_length 1 (some .int) 0 0 0 0 [.ref a_t] (([(a_t, .inr (8, [.int v_t_isWide, .ref a_t_cells, .ref a_t_page, .int v_t_pageMany, .ref a_t_digits, .int v_t_many, .int v_t_isMinus, .ref a_t_found, .ref a_t_one, .ref a_t_other, .ref a_t_sum, .ref a_t_rest])), (a_t_cells, .inl (cy 5, 8, .inr (.inr (.inr (.inr (fun j => some (rw_t j))))))), (a_t_page, .inl (cy 0, 66, .inl f_t_page)), (a_t_digits, .inl (cy 0, 64, .inl f_t_digits)), (a_t_found, .inl (cy 2, 64, .inl f_t_found)), (a_t_one, .inl (cy 2, 65, .inl f_t_one)), (a_t_other, .inl (cy 2, 65, .inl f_t_other)), (a_t_sum, .inl (cy 2, 65, .inl f_t_sum)), (a_t_rest, .inl (cy 2, 65, .inl f_t_rest))] : va_W) ++ (rowsW (cy 2) rw_t B_t ++ ([] : va_W))) (([(a_t, .inr (8, [.int v_t_isWide, .ref a_t_cells, .ref a_t_page, .int v_t_pageMany, .ref a_t_digits, .int v_t_many, .int v_t_isMinus, .ref a_t_found, .ref a_t_one, .ref a_t_other, .ref a_t_sum, .ref a_t_rest])), (a_t_cells, .inl (cy 5, 8, .inr (.inr (.inr (.inr (fun j => some (rw_t j))))))), (a_t_page, .inl (cy 0, 66, .inl f_t_page)), (a_t_digits, .inl (cy 0, 64, .inl f_t_digits)), (a_t_found, .inl (cy 2, 64, .inl f_t_found)), (a_t_one, .inl (cy 2, 65, .inl f_t_one)), (a_t_other, .inl (cy 2, 65, .inl f_t_other)), (a_t_sum, .inl (cy 2, 65, .inl f_t_sum)), (a_t_rest, .inl (cy 2, 65, .inl f_t_rest))] : va_W) ++ (rowsW (cy 2) rw_t B_t ++ ([] : va_W))) (some (.int R)) := by
  refine Con.of (by decide +kernel) (Nat.le_of_ble_eq_true rfl) ?_
  intro p e RM s m ar below meth c A Qc ls hx hb hr hml hown hlocks hnm ht hK hP hD hS hA hR hC hQc hl
  have hown : s.vm.findClass RX12 = some m.cls := hown
  have hl : lv_has ls 1 [(0, .ref a_t)] := hl
  rw [mX12_length] at hm
  refine lv_aload_n hx hb dX12_length_0 rfl (lv_at hl 0 rfl) ?_
  refine va_get (D := D) (cl := classes) (ci := 8) (v := .int v_t_many) (C := RX12) (T := TX12) (N := 12) hx hb ht in_RX12 hown hK.1 hP 0 rfl rfl 5 (by decide) (ht _ q_1253) (fun _ h9 => h9) rfl dX12_length_1 ?_
  refine lv_aload_n hx hb dX12_length_4 rfl (lv_at hl 0 rfl) ?_
  refine va_get (D := D) (cl := classes) (ci := 8) (v := .int v_t_isMinus) (C := RX12) (T := TX12) (N := 12) hx hb ht in_RX12 hown hK.1 hP 0 rfl rfl 6 (by decide) (ht _ q_1255) (fun _ h9 => h9) rfl dX12_length_5 ?_
  refine lv_if_eq (tgt := 15) hx hb dX12_length_8 (by decide) (fun c_1 => ?_) (fun c_1 => ?_)
  · replace hm := hm_t c_1 hm
    refine lv_iconst (v := 0) hx hb dX12_length_15 (by decide) ?_
    refine lv_iadd hx hb dX12_length_16 ?_
    obtain rfl := Option.some.inj hm
    exact k_iret hx hb hr hlocks hQc hP hS rfl rfl dX12_length_17
  · replace hm := hm_f c_1 hm
    refine lv_iconst (v := 1) hx hb dX12_length_11 (by decide) ?_
    refine lv_goto (tgt := 16) hx hb dX12_length_12 (by decide) ?_
    refine lv_iadd hx hb dX12_length_16 ?_
    obtain rfl := Option.some.inj hm
    exact k_iret hx hb hr hlocks hQc hP hS rfl rfl dX12_length_17
theorem dX12_writes_0 : decode cX12_writes 0 = .ok (.aload_n 0, 1) := by decide +kernel
theorem dX12_writes_1 : decode cX12_writes 1 = .ok (.iload_n 1, 1) := by decide +kernel
theorem dX12_writes_2 : decode cX12_writes 2 = .ok (.iload_n 2, 1) := by decide +kernel
theorem dX12_writes_3 : decode cX12_writes 3 = .ok (.iload_n 3, 1) := by decide +kernel
theorem dX12_writes_4 : decode cX12_writes 4 = .ok (.invokevirtual 105, 3) := by decide +kernel
theorem dX12_writes_7 : decode cX12_writes 7 = .ok (.aload_n 0, 1) := by decide +kernel
theorem dX12_writes_8 : decode cX12_writes 8 = .ok (.iconst 0, 1) := by decide +kernel
theorem dX12_writes_9 : decode cX12_writes 9 = .ok (.putfield 47, 3) := by decide +kernel
theorem dX12_writes_12 : decode cX12_writes 12 = .ok (.aload_n 0, 1) := by decide +kernel
theorem dX12_writes_13 : decode cX12_writes 13 = .ok (.getfield 95, 3) := by decide +kernel
theorem dX12_writes_16 : decode cX12_writes 16 = .ok (.ifCond .eq 16, 3) := by decide +kernel
theorem dX12_writes_19 : decode cX12_writes 19 = .ok (.aload_n 0, 1) := by decide +kernel
theorem dX12_writes_20 : decode cX12_writes 20 = .ok (.getfield 16, 3) := by decide +kernel
theorem dX12_writes_23 : decode cX12_writes 23 = .ok (.iconst 0, 1) := by decide +kernel
theorem dX12_writes_24 : decode cX12_writes 24 = .ok (.bipush 45, 2) := by decide +kernel
theorem dX12_writes_26 : decode cX12_writes 26 = .ok (.iastore, 1) := by decide +kernel
theorem dX12_writes_27 : decode cX12_writes 27 = .ok (.aload_n 0, 1) := by decide +kernel
theorem dX12_writes_28 : decode cX12_writes 28 = .ok (.iconst 1, 1) := by decide +kernel
theorem dX12_writes_29 : decode cX12_writes 29 = .ok (.putfield 47, 3) := by decide +kernel
theorem dX12_writes_32 : decode cX12_writes 32 = .ok (.aload_n 0, 1) := by decide +kernel
theorem dX12_writes_33 : decode cX12_writes 33 = .ok (.getfield 98, 3) := by decide +kernel
theorem dX12_writes_36 : decode cX12_writes 36 = .ok (.iconst 1, 1) := by decide +kernel
theorem dX12_writes_37 : decode cX12_writes 37 = .ok (.isub, 1) := by decide +kernel
theorem dX12_writes_38 : decode cX12_writes 38 = .ok (.istore 4, 2) := by decide +kernel
theorem dX12_writes_40 : decode cX12_writes 40 = .ok (.iload 4, 2) := by decide +kernel
theorem dX12_writes_42 : decode cX12_writes 42 = .ok (.ifCond .lt 38, 3) := by decide +kernel
theorem dX12_writes_45 : decode cX12_writes 45 = .ok (.aload_n 0, 1) := by decide +kernel
theorem dX12_writes_46 : decode cX12_writes 46 = .ok (.getfield 16, 3) := by decide +kernel
theorem dX12_writes_49 : decode cX12_writes 49 = .ok (.aload_n 0, 1) := by decide +kernel
theorem dX12_writes_50 : decode cX12_writes 50 = .ok (.getfield 47, 3) := by decide +kernel
theorem dX12_writes_53 : decode cX12_writes 53 = .ok (.aload_n 0, 1) := by decide +kernel
theorem dX12_writes_54 : decode cX12_writes 54 = .ok (.getfield 20, 3) := by decide +kernel
theorem dX12_writes_57 : decode cX12_writes 57 = .ok (.iload 4, 2) := by decide +kernel
theorem dX12_writes_59 : decode cX12_writes 59 = .ok (.iaload, 1) := by decide +kernel
theorem dX12_writes_60 : decode cX12_writes 60 = .ok (.invokestatic 108, 3) := by decide +kernel
theorem dX12_writes_63 : decode cX12_writes 63 = .ok (.iastore, 1) := by decide +kernel
theorem dX12_writes_64 : decode cX12_writes 64 = .ok (.aload_n 0, 1) := by decide +kernel
theorem dX12_writes_65 : decode cX12_writes 65 = .ok (.dup, 1) := by decide +kernel
theorem dX12_writes_66 : decode cX12_writes 66 = .ok (.getfield 47, 3) := by decide +kernel
theorem dX12_writes_69 : decode cX12_writes 69 = .ok (.iconst 1, 1) := by decide +kernel
theorem dX12_writes_70 : decode cX12_writes 70 = .ok (.iadd, 1) := by decide +kernel
theorem dX12_writes_71 : decode cX12_writes 71 = .ok (.putfield 47, 3) := by decide +kernel
theorem dX12_writes_74 : decode cX12_writes 74 = .ok (.iinc 4 (-1), 3) := by decide +kernel
theorem dX12_writes_77 : decode cX12_writes 77 = .ok (.goto (-37), 3) := by decide +kernel
theorem dX12_writes_80 : decode cX12_writes 80 = .ok (.aload_n 0, 1) := by decide +kernel
theorem dX12_writes_81 : decode cX12_writes 81 = .ok (.getfield 47, 3) := by decide +kernel
theorem dX12_writes_84 : decode cX12_writes 84 = .ok (.ireturn, 1) := by decide +kernel
def mX12_writes_L40 (r_1 : (Nat → Int32) × Int32 × Int32 × (Nat → Int32)) : Nat → Int32 → Int32 → (Nat → Int32) → Option (Int32 × (Nat → Int32))
  | 0, _, _, _ => none
  | n_ + 1, y_11, y_12, y_13 => (if y_11 < 0 then some (y_12, y_13) else (if y_11 < 0 ∨ 64 ≤ y_11.toNatClampNeg then none else ((mX13_signOf (r_1.1 y_11.toNatClampNeg)).bind (fun r_15 => (if y_12 < 0 ∨ 66 ≤ y_12.toNatClampNeg then none else (mX12_writes_L40 r_1 n_ (y_11 + (-1)) (y_12 + 1) (upd y_13 y_12.toNatClampNeg r_15)))))))
def mX12_writes (k : Nat) (v_t_isWide : Int32) (B_t : Nat → Nat → Int32) (f_t_page : Nat → Int32) (f_t_digits : Nat → Int32) (f_t_one : Nat → Int32) (p1 : Int32) (p2 : Int32) (p3 : Int32) : Option (Int32 × (Nat → Int32) × Int32 × (Nat → Int32) × Int32 × Int32 × (Nat → Int32)) := ((mX12_digits k v_t_isWide B_t f_t_digits f_t_one p1 p2 p3).bind (fun r_1 => (((if r_1.2.2.1 = 0 then some (0, f_t_page) else (if (0 : Int32) < 0 ∨ 66 ≤ (0 : Int32).toNatClampNeg then none else some (1, (upd f_t_page (0 : Int32).toNatClampNeg 45)))) : Option (Int32 × (Nat → Int32))).bind (fun x_3 => ((mX12_writes_L40 r_1 k (r_1.2.1 - 1) x_3.1 x_3.2).bind (fun r_16 => some (r_16.1, r_16.2, r_16.1, r_1.1, r_1.2.1, r_1.2.2.1, r_1.2.2.2)))))))
set_option maxHeartbeats 4000000 in
set_option maxRecDepth 100000 in
theorem kcX12_writes (l : Launch) (D : va_G) (cy : Nat → ClassId) (g : Nat → Nat) (a_t : Nat) (a_t_cells : Nat) (a_t_page : Nat) (a_t_digits : Nat) (a_t_found : Nat) (a_t_one : Nat) (a_t_other : Nat) (a_t_sum : Nat) (a_t_rest : Nat) (rw_t : Nat → Nat) (v_t_isWide : Int32) (B_t : Nat → Nat → Int32) (f_t_page : Nat → Int32) (v_t_pageMany : Int32) (f_t_digits : Nat → Int32) (v_t_many : Int32) (v_t_isMinus : Int32) (f_t_found : Nat → Int32) (f_t_one : Nat → Int32) (f_t_other : Nat → Int32) (f_t_sum : Nat → Int32) (f_t_rest : Nat → Int32) (p1 : Int32) (p2 : Int32) (p3 : Int32) (k : Nat) (R : Int32 × (Nat → Int32) × Int32 × (Nat → Int32) × Int32 × Int32 × (Nat → Int32)) (hm : mX12_writes k v_t_isWide B_t f_t_page f_t_digits f_t_one p1 p2 p3 = some R) : Con l D cy g yX12_writes cX12_writes 5 (some .int) 3 75 0 0 [.ref a_t, .int p1, .int p2, .int p3] (([(a_t, .inr (8, [.int v_t_isWide, .ref a_t_cells, .ref a_t_page, .int v_t_pageMany, .ref a_t_digits, .int v_t_many, .int v_t_isMinus, .ref a_t_found, .ref a_t_one, .ref a_t_other, .ref a_t_sum, .ref a_t_rest])), (a_t_cells, .inl (cy 5, 8, .inr (.inr (.inr (.inr (fun j => some (rw_t j))))))), (a_t_page, .inl (cy 0, 66, .inl f_t_page)), (a_t_digits, .inl (cy 0, 64, .inl f_t_digits)), (a_t_found, .inl (cy 2, 64, .inl f_t_found)), (a_t_one, .inl (cy 2, 65, .inl f_t_one)), (a_t_other, .inl (cy 2, 65, .inl f_t_other)), (a_t_sum, .inl (cy 2, 65, .inl f_t_sum)), (a_t_rest, .inl (cy 2, 65, .inl f_t_rest))] : va_W) ++ (rowsW (cy 2) rw_t B_t ++ ([] : va_W))) (([(a_t, .inr (8, [.int v_t_isWide, .ref a_t_cells, .ref a_t_page, .int R.2.2.1, .ref a_t_digits, .int R.2.2.2.2.1, .int R.2.2.2.2.2.1, .ref a_t_found, .ref a_t_one, .ref a_t_other, .ref a_t_sum, .ref a_t_rest])), (a_t_cells, .inl (cy 5, 8, .inr (.inr (.inr (.inr (fun j => some (rw_t j))))))), (a_t_page, .inl (cy 0, 66, .inl R.2.1)), (a_t_digits, .inl (cy 0, 64, .inl R.2.2.2.1)), (a_t_found, .inl (cy 2, 64, .inl f_t_found)), (a_t_one, .inl (cy 2, 65, .inl R.2.2.2.2.2.2)), (a_t_other, .inl (cy 2, 65, .inl f_t_other)), (a_t_sum, .inl (cy 2, 65, .inl f_t_sum)), (a_t_rest, .inl (cy 2, 65, .inl f_t_rest))] : va_W) ++ (rowsW (cy 2) rw_t B_t ++ ([] : va_W))) (some (.int R.1)) := by
  refine Con.of (by decide +kernel) (Nat.le_of_ble_eq_true rfl) ?_
  intro p e RM s m ar below meth c A Qc ls hx hb hr hml hown hlocks hnm ht hK hP hD hS hA hR hC hQc hl
  have hown : s.vm.findClass RX12 = some m.cls := hown
  have hl : lv_has ls 5 [(0, .ref a_t), (1, .int p1), (2, .int p2), (3, .int p3)] := hl
  rw [mX12_writes] at hm
  refine lv_aload_n hx hb dX12_writes_0 rfl (lv_at hl 0 rfl) ?_
  refine lv_iload_n hx hb dX12_writes_1 rfl (lv_at hl 1 rfl) ?_
  refine lv_iload_n hx hb dX12_writes_2 rfl (lv_at hl 2 rfl) ?_
  refine lv_iload_n hx hb dX12_writes_3 rfl (lv_at hl 3 rfl) ?_
  obtain ⟨r_1, hr_1, hm⟩ := hm_b hm
  refine k_V (as := [.int p1, .int p2, .int p3]) (rest := []) (ws' := (([(a_t, .inr (8, [.int v_t_isWide, .ref a_t_cells, .ref a_t_page, .int v_t_pageMany, .ref a_t_digits, .int r_1.2.1, .int r_1.2.2.1, .ref a_t_found, .ref a_t_one, .ref a_t_other, .ref a_t_sum, .ref a_t_rest])), (a_t_cells, .inl (cy 5, 8, .inr (.inr (.inr (.inr (fun j => some (rw_t j))))))), (a_t_page, .inl (cy 0, 66, .inl f_t_page)), (a_t_digits, .inl (cy 0, 64, .inl r_1.1)), (a_t_found, .inl (cy 2, 64, .inl f_t_found)), (a_t_one, .inl (cy 2, 65, .inl r_1.2.2.2)), (a_t_other, .inl (cy 2, 65, .inl f_t_other)), (a_t_sum, .inl (cy 2, 65, .inl f_t_sum)), (a_t_rest, .inl (cy 2, 65, .inl f_t_rest))] : va_W) ++ (rowsW (cy 2) rw_t B_t ++ ([] : va_W)))) (st2 := []) (i0 := 0) hx hb hml hown ht hK hP hD hS hA hC hR hl (kcX12_digits l D cy g a_t a_t_cells a_t_page a_t_digits a_t_found a_t_one a_t_other a_t_sum a_t_rest rw_t v_t_isWide B_t f_t_page v_t_pageMany f_t_digits v_t_many v_t_isMinus f_t_found f_t_one f_t_other f_t_sum f_t_rest p1 p2 p3 k r_1 hr_1) (isZ [0, 1, 2, 3, 4, 5, 6, 7, 8] 9 8) q_1446 q_1447 q_1448 q_55 q_1449 hyX12_digits ⟨rfl, rfl, rfl⟩ ⟨Nat.le_of_ble_eq_true rfl, Nat.le_of_ble_eq_true rfl, Nat.le_of_ble_eq_true rfl, Nat.le_of_ble_eq_true rfl⟩ rfl (zcT rfl rfl rfl) (zeT rfl rfl) rfl (Nat.le_of_ble_eq_true rfl) dX12_writes_4 (zwT (cx := [(a_t, .inr (8, [.int v_t_isWide, .ref a_t_cells, .ref a_t_page, .int v_t_pageMany, .ref a_t_digits, .int v_t_many, .int v_t_isMinus, .ref a_t_found, .ref a_t_one, .ref a_t_other, .ref a_t_sum, .ref a_t_rest])), (a_t_cells, .inl (cy 5, 8, .inr (.inr (.inr (.inr (fun j => some (rw_t j))))))), (a_t_page, .inl (cy 0, 66, .inl f_t_page)), (a_t_digits, .inl (cy 0, 64, .inl f_t_digits)), (a_t_found, .inl (cy 2, 64, .inl f_t_found)), (a_t_one, .inl (cy 2, 65, .inl f_t_one)), (a_t_other, .inl (cy 2, 65, .inl f_t_other)), (a_t_sum, .inl (cy 2, 65, .inl f_t_sum)), (a_t_rest, .inl (cy 2, 65, .inl f_t_rest))]) rfl rfl rfl rfl rfl rfl) rfl (fun H locs hP hD hS => ?_)
  refine lv_aload_n hx hb dX12_writes_7 rfl (lv_at hl 0 rfl) ?_
  refine lv_iconst (v := 0) hx hb dX12_writes_8 (by decide) ?_
  refine va_put (D := D) (cl := classes) (ci := 8) (v := .int 0) (ty := .int) (C := RX12) (T := TX12) (N := 12) hx hb ht in_RX12 tyX12 tyX12_ok nmX12 hown hK.1 hP hD hS 0 rfl rfl 3 (by decide) (ht _ q_1249) (fun _ h9 => h9) rfl (by decide +kernel) rfl rfl (Nat.le_of_ble_eq_true rfl) dX12_writes_9 (fun H locs hP hD hS => ?_)
  have hP : va_P D classes (([(a_t, .inr (8, [.int v_t_isWide, .ref a_t_cells, .ref a_t_page, .int 0, .ref a_t_digits, .int r_1.2.1, .int r_1.2.2.1, .ref a_t_found, .ref a_t_one, .ref a_t_other, .ref a_t_sum, .ref a_t_rest])), (a_t_cells, .inl (cy 5, 8, .inr (.inr (.inr (.inr (fun j => some (rw_t j))))))), (a_t_page, .inl (cy 0, 66, .inl f_t_page)), (a_t_digits, .inl (cy 0, 64, .inl r_1.1)), (a_t_found, .inl (cy 2, 64, .inl f_t_found)), (a_t_one, .inl (cy 2, 65, .inl r_1.2.2.2)), (a_t_other, .inl (cy 2, 65, .inl f_t_other)), (a_t_sum, .inl (cy 2, 65, .inl f_t_sum)), (a_t_rest, .inl (cy 2, 65, .inl f_t_rest))] : va_W) ++ (rowsW (cy 2) rw_t B_t ++ ([] : va_W))) H := hP
  have hD : va_D A (([(a_t, .inr (8, [.int v_t_isWide, .ref a_t_cells, .ref a_t_page, .int 0, .ref a_t_digits, .int r_1.2.1, .int r_1.2.2.1, .ref a_t_found, .ref a_t_one, .ref a_t_other, .ref a_t_sum, .ref a_t_rest])), (a_t_cells, .inl (cy 5, 8, .inr (.inr (.inr (.inr (fun j => some (rw_t j))))))), (a_t_page, .inl (cy 0, 66, .inl f_t_page)), (a_t_digits, .inl (cy 0, 64, .inl r_1.1)), (a_t_found, .inl (cy 2, 64, .inl f_t_found)), (a_t_one, .inl (cy 2, 65, .inl r_1.2.2.2)), (a_t_other, .inl (cy 2, 65, .inl f_t_other)), (a_t_sum, .inl (cy 2, 65, .inl f_t_sum)), (a_t_rest, .inl (cy 2, 65, .inl f_t_rest))] : va_W) ++ (rowsW (cy 2) rw_t B_t ++ ([] : va_W))) := hD
  refine lv_aload_n hx hb dX12_writes_12 rfl (lv_at hl 0 rfl) ?_
  refine va_get (D := D) (cl := classes) (ci := 8) (v := .int r_1.2.2.1) (C := RX12) (T := TX12) (N := 12) hx hb ht in_RX12 hown hK.1 hP 0 rfl rfl 6 (by decide) (ht _ q_1255) (fun _ h9 => h9) rfl dX12_writes_13 ?_
  obtain ⟨x_3, hreg, hm⟩ := hm_b hm
  have J32 : ∀ (H : Heap) (locs : List Loc) (ls : Array Slot), va_P D classes (([(a_t, .inr (8, [.int v_t_isWide, .ref a_t_cells, .ref a_t_page, .int x_3.1, .ref a_t_digits, .int r_1.2.1, .int r_1.2.2.1, .ref a_t_found, .ref a_t_one, .ref a_t_other, .ref a_t_sum, .ref a_t_rest])), (a_t_cells, .inl (cy 5, 8, .inr (.inr (.inr (.inr (fun j => some (rw_t j))))))), (a_t_page, .inl (cy 0, 66, .inl x_3.2)), (a_t_digits, .inl (cy 0, 64, .inl r_1.1)), (a_t_found, .inl (cy 2, 64, .inl f_t_found)), (a_t_one, .inl (cy 2, 65, .inl r_1.2.2.2)), (a_t_other, .inl (cy 2, 65, .inl f_t_other)), (a_t_sum, .inl (cy 2, 65, .inl f_t_sum)), (a_t_rest, .inl (cy 2, 65, .inl f_t_rest))] : va_W) ++ (rowsW (cy 2) rw_t B_t ++ ([] : va_W))) H → va_D A (([(a_t, .inr (8, [.int v_t_isWide, .ref a_t_cells, .ref a_t_page, .int x_3.1, .ref a_t_digits, .int r_1.2.1, .int r_1.2.2.1, .ref a_t_found, .ref a_t_one, .ref a_t_other, .ref a_t_sum, .ref a_t_rest])), (a_t_cells, .inl (cy 5, 8, .inr (.inr (.inr (.inr (fun j => some (rw_t j))))))), (a_t_page, .inl (cy 0, 66, .inl x_3.2)), (a_t_digits, .inl (cy 0, 64, .inl r_1.1)), (a_t_found, .inl (cy 2, 64, .inl f_t_found)), (a_t_one, .inl (cy 2, 65, .inl r_1.2.2.2)), (a_t_other, .inl (cy 2, 65, .inl f_t_other)), (a_t_sum, .inl (cy 2, 65, .inl f_t_sum)), (a_t_rest, .inl (cy 2, 65, .inl f_t_rest))] : va_W) ++ (rowsW (cy 2) rw_t B_t ++ ([] : va_W))) → va_S A s.heap H locs → lv_has ls 5 [(0, .ref a_t)] → W p l e RM s m ar below meth c H locs 0 0 (MQ below Qc ar s 0 0 A) (F0 m 32 ls []) := by
    intro H locs ls hP hD hS hl
    refine lv_aload_n hx hb dX12_writes_32 rfl (lv_at hl 0 rfl) ?_
    refine va_get (D := D) (cl := classes) (ci := 8) (v := .int r_1.2.1) (C := RX12) (T := TX12) (N := 12) hx hb ht in_RX12 hown hK.1 hP 0 rfl rfl 5 (by decide) (ht _ q_1253) (fun _ h9 => h9) rfl dX12_writes_33 ?_
    refine lv_iconst (v := 1) hx hb dX12_writes_36 (by decide) ?_
    refine lv_isub hx hb dX12_writes_37 ?_
    refine lv_istore (lv' := [(4, .int (r_1.2.1 - 1)), (0, .ref a_t)]) hx hb dX12_writes_38 hl (by decide) rfl (fun ls hl => ?_)
    have L40 : ∀ (rr : Int32 × (Nat → Int32)) (kk : ∀ (H : Heap) (locs : List Loc) (ls : Array Slot), va_P D classes (([(a_t, .inr (8, [.int v_t_isWide, .ref a_t_cells, .ref a_t_page, .int rr.1, .ref a_t_digits, .int r_1.2.1, .int r_1.2.2.1, .ref a_t_found, .ref a_t_one, .ref a_t_other, .ref a_t_sum, .ref a_t_rest])), (a_t_cells, .inl (cy 5, 8, .inr (.inr (.inr (.inr (fun j => some (rw_t j))))))), (a_t_page, .inl (cy 0, 66, .inl rr.2)), (a_t_digits, .inl (cy 0, 64, .inl r_1.1)), (a_t_found, .inl (cy 2, 64, .inl f_t_found)), (a_t_one, .inl (cy 2, 65, .inl r_1.2.2.2)), (a_t_other, .inl (cy 2, 65, .inl f_t_other)), (a_t_sum, .inl (cy 2, 65, .inl f_t_sum)), (a_t_rest, .inl (cy 2, 65, .inl f_t_rest))] : va_W) ++ (rowsW (cy 2) rw_t B_t ++ ([] : va_W))) H → va_D A (([(a_t, .inr (8, [.int v_t_isWide, .ref a_t_cells, .ref a_t_page, .int rr.1, .ref a_t_digits, .int r_1.2.1, .int r_1.2.2.1, .ref a_t_found, .ref a_t_one, .ref a_t_other, .ref a_t_sum, .ref a_t_rest])), (a_t_cells, .inl (cy 5, 8, .inr (.inr (.inr (.inr (fun j => some (rw_t j))))))), (a_t_page, .inl (cy 0, 66, .inl rr.2)), (a_t_digits, .inl (cy 0, 64, .inl r_1.1)), (a_t_found, .inl (cy 2, 64, .inl f_t_found)), (a_t_one, .inl (cy 2, 65, .inl r_1.2.2.2)), (a_t_other, .inl (cy 2, 65, .inl f_t_other)), (a_t_sum, .inl (cy 2, 65, .inl f_t_sum)), (a_t_rest, .inl (cy 2, 65, .inl f_t_rest))] : va_W) ++ (rowsW (cy 2) rw_t B_t ++ ([] : va_W))) → va_S A s.heap H locs → lv_has ls 5 [(0, .ref a_t)] → W p l e RM s m ar below meth c H locs 0 0 (MQ below Qc ar s 0 0 A) (F0 m 80 ls [])) (n_ : Nat), ∀ (y_11 : Int32) (y_12 : Int32) (y_13 : Nat → Int32), mX12_writes_L40 r_1 n_ y_11 y_12 y_13 = some rr → ∀ (H : Heap) (locs : List Loc) (ls : Array Slot), va_P D classes (([(a_t, .inr (8, [.int v_t_isWide, .ref a_t_cells, .ref a_t_page, .int y_12, .ref a_t_digits, .int r_1.2.1, .int r_1.2.2.1, .ref a_t_found, .ref a_t_one, .ref a_t_other, .ref a_t_sum, .ref a_t_rest])), (a_t_cells, .inl (cy 5, 8, .inr (.inr (.inr (.inr (fun j => some (rw_t j))))))), (a_t_page, .inl (cy 0, 66, .inl y_13)), (a_t_digits, .inl (cy 0, 64, .inl r_1.1)), (a_t_found, .inl (cy 2, 64, .inl f_t_found)), (a_t_one, .inl (cy 2, 65, .inl r_1.2.2.2)), (a_t_other, .inl (cy 2, 65, .inl f_t_other)), (a_t_sum, .inl (cy 2, 65, .inl f_t_sum)), (a_t_rest, .inl (cy 2, 65, .inl f_t_rest))] : va_W) ++ (rowsW (cy 2) rw_t B_t ++ ([] : va_W))) H → va_D A (([(a_t, .inr (8, [.int v_t_isWide, .ref a_t_cells, .ref a_t_page, .int y_12, .ref a_t_digits, .int r_1.2.1, .int r_1.2.2.1, .ref a_t_found, .ref a_t_one, .ref a_t_other, .ref a_t_sum, .ref a_t_rest])), (a_t_cells, .inl (cy 5, 8, .inr (.inr (.inr (.inr (fun j => some (rw_t j))))))), (a_t_page, .inl (cy 0, 66, .inl y_13)), (a_t_digits, .inl (cy 0, 64, .inl r_1.1)), (a_t_found, .inl (cy 2, 64, .inl f_t_found)), (a_t_one, .inl (cy 2, 65, .inl r_1.2.2.2)), (a_t_other, .inl (cy 2, 65, .inl f_t_other)), (a_t_sum, .inl (cy 2, 65, .inl f_t_sum)), (a_t_rest, .inl (cy 2, 65, .inl f_t_rest))] : va_W) ++ (rowsW (cy 2) rw_t B_t ++ ([] : va_W))) → va_S A s.heap H locs → lv_has ls 5 [(4, .int y_11), (0, .ref a_t)] → W p l e RM s m ar below meth c H locs 0 0 (MQ below Qc ar s 0 0 A) (F0 m 40 ls []) := by
      intro rr kk n_
      induction n_ with
      | zero => intro y_11 y_12 y_13 hm; rw [mX12_writes_L40] at hm; cases hm
      | succ n_ ih =>
        intro y_11 y_12 y_13 hm H locs ls hP hD hS hl
        rw [mX12_writes_L40] at hm
        refine lv_iload hx hb dX12_writes_40 (lv_at hl 0 rfl) ?_
        refine lv_if_lt (tgt := 80) hx hb dX12_writes_42 (by decide) (fun c_14 => ?_) (fun c_14 => ?_)
        · replace hm := hm_t c_14 hm
          obtain rfl := Option.some.inj hm
          exact kk _ _ _ hP hD hS (lv_sub hl [1] rfl)
        · replace hm := hm_f c_14 hm
          refine lv_aload_n hx hb dX12_writes_45 rfl (lv_at hl 1 rfl) ?_
          refine va_get (D := D) (cl := classes) (ci := 8) (v := .ref a_t_page) (C := RX12) (T := TX12) (N := 12) hx hb ht in_RX12 hown hK.1 hP 0 rfl rfl 2 (by decide) (ht _ q_1247) (fun _ h9 => h9) rfl dX12_writes_46 ?_
          refine lv_aload_n hx hb dX12_writes_49 rfl (lv_at hl 1 rfl) ?_
          refine va_get (D := D) (cl := classes) (ci := 8) (v := .int y_12) (C := RX12) (T := TX12) (N := 12) hx hb ht in_RX12 hown hK.1 hP 0 rfl rfl 3 (by decide) (ht _ q_1249) (fun _ h9 => h9) rfl dX12_writes_50 ?_
          refine lv_aload_n hx hb dX12_writes_53 rfl (lv_at hl 1 rfl) ?_
          refine va_get (D := D) (cl := classes) (ci := 8) (v := .ref a_t_digits) (C := RX12) (T := TX12) (N := 12) hx hb ht in_RX12 hown hK.1 hP 0 rfl rfl 4 (by decide) (ht _ q_1251) (fun _ h9 => h9) rfl dX12_writes_54 ?_
          refine lv_iload hx hb dX12_writes_57 (lv_at hl 0 rfl) ?_
          obtain ⟨hin, hm⟩ := hm_g hm
          refine va_iald hx hb hK.1 hP 3 0 rfl rfl hin dX12_writes_59 ?_
          obtain ⟨r_15, hr_15, hm⟩ := hm_b hm
          refine k_SN (as := [.int (r_1.1 y_11.toNatClampNeg)]) (rest := [.int y_12, .ref a_t_page]) (ws' := (([(a_t, .inr (8, [.int v_t_isWide, .ref a_t_cells, .ref a_t_page, .int y_12, .ref a_t_digits, .int r_1.2.1, .int r_1.2.2.1, .ref a_t_found, .ref a_t_one, .ref a_t_other, .ref a_t_sum, .ref a_t_rest])), (a_t_cells, .inl (cy 5, 8, .inr (.inr (.inr (.inr (fun j => some (rw_t j))))))), (a_t_page, .inl (cy 0, 66, .inl y_13)), (a_t_digits, .inl (cy 0, 64, .inl r_1.1)), (a_t_found, .inl (cy 2, 64, .inl f_t_found)), (a_t_one, .inl (cy 2, 65, .inl r_1.2.2.2)), (a_t_other, .inl (cy 2, 65, .inl f_t_other)), (a_t_sum, .inl (cy 2, 65, .inl f_t_sum)), (a_t_rest, .inl (cy 2, 65, .inl f_t_rest))] : va_W) ++ (rowsW (cy 2) rw_t B_t ++ ([] : va_W)))) (st2 := [.int r_15, .int y_12, .ref a_t_page]) hx hb hml hown ht hK hP hD hS hA hC hR hl (kcX13_signOf l D cy g (r_1.1 y_11.toNatClampNeg) r_15 hr_15) [] qn_1415 q_1458 q_54 q_1459 hyX13_signOf ⟨Nat.le_of_ble_eq_true rfl, Nat.le_of_ble_eq_true rfl, Nat.le_of_ble_eq_true rfl, Nat.le_of_ble_eq_true rfl⟩ rfl (zq rfl) rfl rfl (Nat.le_of_ble_eq_true rfl) dX12_writes_60 (zqw (cx := []) rfl rfl) rfl (fun H locs hP hD hS => ?_)
          obtain ⟨hin, hm⟩ := hm_g hm
          refine va_iast hx hb hK.1 hP hD hS 2 0 rfl rfl hin dX12_writes_63 (fun H locs hP hD hS => ?_)
          have hP : va_P D classes (([(a_t, .inr (8, [.int v_t_isWide, .ref a_t_cells, .ref a_t_page, .int y_12, .ref a_t_digits, .int r_1.2.1, .int r_1.2.2.1, .ref a_t_found, .ref a_t_one, .ref a_t_other, .ref a_t_sum, .ref a_t_rest])), (a_t_cells, .inl (cy 5, 8, .inr (.inr (.inr (.inr (fun j => some (rw_t j))))))), (a_t_page, .inl (cy 0, 66, .inl (upd y_13 y_12.toNatClampNeg r_15))), (a_t_digits, .inl (cy 0, 64, .inl r_1.1)), (a_t_found, .inl (cy 2, 64, .inl f_t_found)), (a_t_one, .inl (cy 2, 65, .inl r_1.2.2.2)), (a_t_other, .inl (cy 2, 65, .inl f_t_other)), (a_t_sum, .inl (cy 2, 65, .inl f_t_sum)), (a_t_rest, .inl (cy 2, 65, .inl f_t_rest))] : va_W) ++ (rowsW (cy 2) rw_t B_t ++ ([] : va_W))) H := hP
          have hD : va_D A (([(a_t, .inr (8, [.int v_t_isWide, .ref a_t_cells, .ref a_t_page, .int y_12, .ref a_t_digits, .int r_1.2.1, .int r_1.2.2.1, .ref a_t_found, .ref a_t_one, .ref a_t_other, .ref a_t_sum, .ref a_t_rest])), (a_t_cells, .inl (cy 5, 8, .inr (.inr (.inr (.inr (fun j => some (rw_t j))))))), (a_t_page, .inl (cy 0, 66, .inl (upd y_13 y_12.toNatClampNeg r_15))), (a_t_digits, .inl (cy 0, 64, .inl r_1.1)), (a_t_found, .inl (cy 2, 64, .inl f_t_found)), (a_t_one, .inl (cy 2, 65, .inl r_1.2.2.2)), (a_t_other, .inl (cy 2, 65, .inl f_t_other)), (a_t_sum, .inl (cy 2, 65, .inl f_t_sum)), (a_t_rest, .inl (cy 2, 65, .inl f_t_rest))] : va_W) ++ (rowsW (cy 2) rw_t B_t ++ ([] : va_W))) := hD
          refine lv_aload_n hx hb dX12_writes_64 rfl (lv_at hl 1 rfl) ?_
          refine lv_dup hx hb dX12_writes_65 rfl ?_
          refine va_get (D := D) (cl := classes) (ci := 8) (v := .int y_12) (C := RX12) (T := TX12) (N := 12) hx hb ht in_RX12 hown hK.1 hP 0 rfl rfl 3 (by decide) (ht _ q_1249) (fun _ h9 => h9) rfl dX12_writes_66 ?_
          refine lv_iconst (v := 1) hx hb dX12_writes_69 (by decide) ?_
          refine lv_iadd hx hb dX12_writes_70 ?_
          refine va_put (D := D) (cl := classes) (ci := 8) (v := .int (y_12 + 1)) (ty := .int) (C := RX12) (T := TX12) (N := 12) hx hb ht in_RX12 tyX12 tyX12_ok nmX12 hown hK.1 hP hD hS 0 rfl rfl 3 (by decide) (ht _ q_1249) (fun _ h9 => h9) rfl (by decide +kernel) rfl rfl (Nat.le_of_ble_eq_true rfl) dX12_writes_71 (fun H locs hP hD hS => ?_)
          have hP : va_P D classes (([(a_t, .inr (8, [.int v_t_isWide, .ref a_t_cells, .ref a_t_page, .int (y_12 + 1), .ref a_t_digits, .int r_1.2.1, .int r_1.2.2.1, .ref a_t_found, .ref a_t_one, .ref a_t_other, .ref a_t_sum, .ref a_t_rest])), (a_t_cells, .inl (cy 5, 8, .inr (.inr (.inr (.inr (fun j => some (rw_t j))))))), (a_t_page, .inl (cy 0, 66, .inl (upd y_13 y_12.toNatClampNeg r_15))), (a_t_digits, .inl (cy 0, 64, .inl r_1.1)), (a_t_found, .inl (cy 2, 64, .inl f_t_found)), (a_t_one, .inl (cy 2, 65, .inl r_1.2.2.2)), (a_t_other, .inl (cy 2, 65, .inl f_t_other)), (a_t_sum, .inl (cy 2, 65, .inl f_t_sum)), (a_t_rest, .inl (cy 2, 65, .inl f_t_rest))] : va_W) ++ (rowsW (cy 2) rw_t B_t ++ ([] : va_W))) H := hP
          have hD : va_D A (([(a_t, .inr (8, [.int v_t_isWide, .ref a_t_cells, .ref a_t_page, .int (y_12 + 1), .ref a_t_digits, .int r_1.2.1, .int r_1.2.2.1, .ref a_t_found, .ref a_t_one, .ref a_t_other, .ref a_t_sum, .ref a_t_rest])), (a_t_cells, .inl (cy 5, 8, .inr (.inr (.inr (.inr (fun j => some (rw_t j))))))), (a_t_page, .inl (cy 0, 66, .inl (upd y_13 y_12.toNatClampNeg r_15))), (a_t_digits, .inl (cy 0, 64, .inl r_1.1)), (a_t_found, .inl (cy 2, 64, .inl f_t_found)), (a_t_one, .inl (cy 2, 65, .inl r_1.2.2.2)), (a_t_other, .inl (cy 2, 65, .inl f_t_other)), (a_t_sum, .inl (cy 2, 65, .inl f_t_sum)), (a_t_rest, .inl (cy 2, 65, .inl f_t_rest))] : va_W) ++ (rowsW (cy 2) rw_t B_t ++ ([] : va_W))) := hD
          refine lv_iinc (v := (y_11 + (-1))) (lv' := [(4, .int (y_11 + (-1))), (0, .ref a_t)]) hx hb dX12_writes_74 hl (k := 0) rfl rfl (by decide) rfl (fun ls hl => ?_)
          refine lv_goto (tgt := 40) hx hb dX12_writes_77 (by decide) ?_
          exact ih (y_11 + (-1)) (y_12 + 1) (upd y_13 y_12.toNatClampNeg r_15) hm _ _ _ hP hD hS (lv_sub hl [0, 1] rfl)
    obtain ⟨r_16, hL, hm⟩ := hm_b hm
    refine L40 r_16 ?_ k (r_1.2.1 - 1) x_3.1 x_3.2 hL _ _ _ hP hD hS (lv_sub hl [0, 1] rfl)
    intro H locs ls hP hD hS hl
    refine lv_aload_n hx hb dX12_writes_80 rfl (lv_at hl 0 rfl) ?_
    refine va_get (D := D) (cl := classes) (ci := 8) (v := .int r_16.1) (C := RX12) (T := TX12) (N := 12) hx hb ht in_RX12 hown hK.1 hP 0 rfl rfl 3 (by decide) (ht _ q_1249) (fun _ h9 => h9) rfl dX12_writes_81 ?_
    obtain rfl := Option.some.inj hm
    exact k_iret hx hb hr hlocks hQc hP hS rfl rfl dX12_writes_84
  replace hm := hreg
  refine lv_if_eq (tgt := 32) hx hb dX12_writes_16 (by decide) (fun c_2 => ?_) (fun c_2 => ?_)
  · replace hm := hm_t c_2 hm
    obtain rfl := Option.some.inj hm
    exact J32 _ _ _ hP hD hS (lv_sub hl [0] rfl)
  · replace hm := hm_f c_2 hm
    refine lv_aload_n hx hb dX12_writes_19 rfl (lv_at hl 0 rfl) ?_
    refine va_get (D := D) (cl := classes) (ci := 8) (v := .ref a_t_page) (C := RX12) (T := TX12) (N := 12) hx hb ht in_RX12 hown hK.1 hP 0 rfl rfl 2 (by decide) (ht _ q_1247) (fun _ h9 => h9) rfl dX12_writes_20 ?_
    refine lv_iconst (v := 0) hx hb dX12_writes_23 (by decide) ?_
    refine lv_bipush (v := 45) hx hb dX12_writes_24 (by decide) ?_
    obtain ⟨hin, hm⟩ := hm_g hm
    refine va_iast hx hb hK.1 hP hD hS 2 0 rfl rfl hin dX12_writes_26 (fun H locs hP hD hS => ?_)
    have hP : va_P D classes (([(a_t, .inr (8, [.int v_t_isWide, .ref a_t_cells, .ref a_t_page, .int 0, .ref a_t_digits, .int r_1.2.1, .int r_1.2.2.1, .ref a_t_found, .ref a_t_one, .ref a_t_other, .ref a_t_sum, .ref a_t_rest])), (a_t_cells, .inl (cy 5, 8, .inr (.inr (.inr (.inr (fun j => some (rw_t j))))))), (a_t_page, .inl (cy 0, 66, .inl (upd f_t_page (0 : Int32).toNatClampNeg 45))), (a_t_digits, .inl (cy 0, 64, .inl r_1.1)), (a_t_found, .inl (cy 2, 64, .inl f_t_found)), (a_t_one, .inl (cy 2, 65, .inl r_1.2.2.2)), (a_t_other, .inl (cy 2, 65, .inl f_t_other)), (a_t_sum, .inl (cy 2, 65, .inl f_t_sum)), (a_t_rest, .inl (cy 2, 65, .inl f_t_rest))] : va_W) ++ (rowsW (cy 2) rw_t B_t ++ ([] : va_W))) H := hP
    have hD : va_D A (([(a_t, .inr (8, [.int v_t_isWide, .ref a_t_cells, .ref a_t_page, .int 0, .ref a_t_digits, .int r_1.2.1, .int r_1.2.2.1, .ref a_t_found, .ref a_t_one, .ref a_t_other, .ref a_t_sum, .ref a_t_rest])), (a_t_cells, .inl (cy 5, 8, .inr (.inr (.inr (.inr (fun j => some (rw_t j))))))), (a_t_page, .inl (cy 0, 66, .inl (upd f_t_page (0 : Int32).toNatClampNeg 45))), (a_t_digits, .inl (cy 0, 64, .inl r_1.1)), (a_t_found, .inl (cy 2, 64, .inl f_t_found)), (a_t_one, .inl (cy 2, 65, .inl r_1.2.2.2)), (a_t_other, .inl (cy 2, 65, .inl f_t_other)), (a_t_sum, .inl (cy 2, 65, .inl f_t_sum)), (a_t_rest, .inl (cy 2, 65, .inl f_t_rest))] : va_W) ++ (rowsW (cy 2) rw_t B_t ++ ([] : va_W))) := hD
    refine lv_aload_n hx hb dX12_writes_27 rfl (lv_at hl 0 rfl) ?_
    refine lv_iconst (v := 1) hx hb dX12_writes_28 (by decide) ?_
    refine va_put (D := D) (cl := classes) (ci := 8) (v := .int 1) (ty := .int) (C := RX12) (T := TX12) (N := 12) hx hb ht in_RX12 tyX12 tyX12_ok nmX12 hown hK.1 hP hD hS 0 rfl rfl 3 (by decide) (ht _ q_1249) (fun _ h9 => h9) rfl (by decide +kernel) rfl rfl (Nat.le_of_ble_eq_true rfl) dX12_writes_29 (fun H locs hP hD hS => ?_)
    have hP : va_P D classes (([(a_t, .inr (8, [.int v_t_isWide, .ref a_t_cells, .ref a_t_page, .int 1, .ref a_t_digits, .int r_1.2.1, .int r_1.2.2.1, .ref a_t_found, .ref a_t_one, .ref a_t_other, .ref a_t_sum, .ref a_t_rest])), (a_t_cells, .inl (cy 5, 8, .inr (.inr (.inr (.inr (fun j => some (rw_t j))))))), (a_t_page, .inl (cy 0, 66, .inl (upd f_t_page (0 : Int32).toNatClampNeg 45))), (a_t_digits, .inl (cy 0, 64, .inl r_1.1)), (a_t_found, .inl (cy 2, 64, .inl f_t_found)), (a_t_one, .inl (cy 2, 65, .inl r_1.2.2.2)), (a_t_other, .inl (cy 2, 65, .inl f_t_other)), (a_t_sum, .inl (cy 2, 65, .inl f_t_sum)), (a_t_rest, .inl (cy 2, 65, .inl f_t_rest))] : va_W) ++ (rowsW (cy 2) rw_t B_t ++ ([] : va_W))) H := hP
    have hD : va_D A (([(a_t, .inr (8, [.int v_t_isWide, .ref a_t_cells, .ref a_t_page, .int 1, .ref a_t_digits, .int r_1.2.1, .int r_1.2.2.1, .ref a_t_found, .ref a_t_one, .ref a_t_other, .ref a_t_sum, .ref a_t_rest])), (a_t_cells, .inl (cy 5, 8, .inr (.inr (.inr (.inr (fun j => some (rw_t j))))))), (a_t_page, .inl (cy 0, 66, .inl (upd f_t_page (0 : Int32).toNatClampNeg 45))), (a_t_digits, .inl (cy 0, 64, .inl r_1.1)), (a_t_found, .inl (cy 2, 64, .inl f_t_found)), (a_t_one, .inl (cy 2, 65, .inl r_1.2.2.2)), (a_t_other, .inl (cy 2, 65, .inl f_t_other)), (a_t_sum, .inl (cy 2, 65, .inl f_t_sum)), (a_t_rest, .inl (cy 2, 65, .inl f_t_rest))] : va_W) ++ (rowsW (cy 2) rw_t B_t ++ ([] : va_W))) := hD
    obtain rfl := Option.some.inj hm
    exact J32 _ _ _ hP hD hS (lv_sub hl [0] rfl)
