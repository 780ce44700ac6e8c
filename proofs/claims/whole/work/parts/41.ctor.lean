theorem q_85 : Cond.instanceMethod Lib.objectInit ∈ LW := LW_of 85 (by decide +kernel) rfl
theorem q_86 : Cond.code Lib.objectInit ⟨#[0xb1]⟩ 1 none ∈ LW := LW_of 86 (by decide +kernel) rfl
theorem q_92 : Cond.methodLink RX2 3 Lib.objectInit ∈ LW := LW_of 92 (by decide +kernel) rfl
theorem q_93 : Cond.classLink RX2 18 RX6 ∈ LW := LW_of 93 (by decide +kernel) rfl
theorem q_94 : Cond.instantiable RX6 2 ∈ LW := LW_of 94 (by decide +kernel) rfl
theorem q_95 : Cond.methodLink RX2 20 yX6_init ∈ LW := LW_of 95 (by decide +kernel) rfl
theorem q_96 : Cond.instanceMethod yX6_init ∈ LW := LW_of 96 (by decide +kernel) rfl
theorem q_97 : Cond.code yX6_init cX6_init 2 none ∈ LW := LW_of 97 (by decide +kernel) rfl
theorem q_98 : Cond.methodLink RX6 1 Lib.objectInit ∈ LW := LW_of 98 (by decide +kernel) rfl
theorem q_99 : Cond.methodLink RX6 7 yJ9_max_7cf53 ∈ LW := LW_of 99 (by decide +kernel) rfl
theorem q_109 : Cond.arrayClass (newarray.typeOf .long) ∈ LW := LW_of 109 (by decide +kernel) rfl
theorem q_110 : Cond.arrayClass (newarray.typeOf .int) ∈ LW := LW_of 110 (by decide +kernel) rfl
theorem q_111 : Cond.classLink RX2 27 RX5 ∈ LW := LW_of 111 (by decide +kernel) rfl
theorem q_112 : Cond.instantiable RX5 1 ∈ LW := LW_of 112 (by decide +kernel) rfl
theorem q_114 : Cond.instanceMethod yX5_init ∈ LW := LW_of 114 (by decide +kernel) rfl
theorem q_115 : Cond.code yX5_init cX5_init 1 none ∈ LW := LW_of 115 (by decide +kernel) rfl
theorem q_116 : Cond.methodLink RX5 3 Lib.objectInit ∈ LW := LW_of 116 (by decide +kernel) rfl
theorem q_158 : Cond.methodLink RX7 3 Lib.objectInit ∈ LW := LW_of 158 (by decide +kernel) rfl
theorem q_159 : Cond.fieldLink RX7 15 "RadixDesk$Verb" "WIDE" "LRadixDesk$Verb;" ∈ LW := LW_of 159 (by decide +kernel) rfl
theorem q_189 : Cond.methodLink RX10 3 Lib.objectInit ∈ LW := LW_of 189 (by decide +kernel) rfl
theorem q_190 : Cond.classLink RX10 9 RX6 ∈ LW := LW_of 190 (by decide +kernel) rfl
theorem q_191 : Cond.methodLink RX10 11 yX6_init ∈ LW := LW_of 191 (by decide +kernel) rfl
theorem q_243 : Cond.methodLink RX8 3 Lib.objectInit ∈ LW := LW_of 243 (by decide +kernel) rfl
theorem q_244 : Cond.classLink RX8 9 RX6 ∈ LW := LW_of 244 (by decide +kernel) rfl
theorem q_245 : Cond.methodLink RX8 11 yX6_init ∈ LW := LW_of 245 (by decide +kernel) rfl
theorem q_246 : Cond.classLink RX8 20 RX5 ∈ LW := LW_of 246 (by decide +kernel) rfl
theorem qn_71 : Cond.methodLinkNest RX2 29 yX5_init "RadixDesk" ∈ NW := NW_of 71 (by decide +kernel) rfl
theorem qn_205 : Cond.methodLinkNest RX8 22 yX5_init "RadixDesk" ∈ NW := NW_of 205 (by decide +kernel) rfl
theorem hyX5_init : yX5_init.cls ≠ "java/lang/invoke/MethodHandle" ∧ yX5_init.cls ≠ "java/lang/invoke/VarHandle" ∧ (parseMethodDescriptor yX5_init.desc).map (fun d => d.parameters.length) = some 0 := by decide +kernel
theorem hyX6_init : yX6_init.cls ≠ "java/lang/invoke/MethodHandle" ∧ yX6_init.cls ≠ "java/lang/invoke/VarHandle" ∧ (parseMethodDescriptor yX6_init.desc).map (fun d => d.parameters.length) = some 1 := by decide +kernel
theorem df_X2 : ∀ j, j < 5 → defaultValue (tyX2 j) = vp_V [.null, .null, .null, .null, .int 0] j := by
  intro j hj
  rcases (show j = 0 ∨ j = 1 ∨ j = 2 ∨ j = 3 ∨ j = 4 by omega) with rfl | rfl | rfl | rfl | rfl <;> rfl
theorem df_X4 : ∀ j, j < 8 → defaultValue (tyX4 j) = vp_V [.null, .null, .null, .null, .int 0, .int 0, .int 0, .int 0] j := by
  intro j hj
  rcases (show j = 0 ∨ j = 1 ∨ j = 2 ∨ j = 3 ∨ j = 4 ∨ j = 5 ∨ j = 6 ∨ j = 7 by omega) with rfl | rfl | rfl | rfl | rfl | rfl | rfl | rfl <;> rfl
theorem df_X5 : ∀ j, j < 1 → defaultValue (tyX5 j) = vp_V [.long 0] j := by
  intro j hj
  rcases (show j = 0 by omega) with rfl <;> rfl
theorem df_X6 : ∀ j, j < 2 → defaultValue (tyX6 j) = vp_V [.null, .int 0] j := by
  intro j hj
  rcases (show j = 0 ∨ j = 1 by omega) with rfl | rfl <;> rfl
theorem df_X7 : ∀ j, j < 6 → defaultValue (tyX7 j) = vp_V [.null, .null, .int 0, .int 0, .int 0, .int 0] j := by
  intro j hj
  rcases (show j = 0 ∨ j = 1 ∨ j = 2 ∨ j = 3 ∨ j = 4 ∨ j = 5 by omega) with rfl | rfl | rfl | rfl | rfl | rfl <;> rfl
theorem df_X8 : ∀ j, j < 2 → defaultValue (tyX8 j) = vp_V [.null, .null] j := by
  intro j hj
  rcases (show j = 0 ∨ j = 1 by omega) with rfl | rfl <;> rfl
theorem df_X10 : ∀ j, j < 3 → defaultValue (tyX10 j) = vp_V [.null, .int 0, .int 0] j := by
  intro j hj
  rcases (show j = 0 ∨ j = 1 ∨ j = 2 by omega) with rfl | rfl | rfl <;> rfl
theorem df_X11 : ∀ j, j < 5 → defaultValue (tyX11 j) = vp_V [.null, .null, .null, .null, .null] j := by
  intro j hj
  rcases (show j = 0 ∨ j = 1 ∨ j = 2 ∨ j = 3 ∨ j = 4 by omega) with rfl | rfl | rfl | rfl | rfl <;> rfl
theorem df_X12 : ∀ j, j < 12 → defaultValue (tyX12 j) = vp_V [.int 0, .null, .null, .int 0, .null, .int 0, .int 0, .null, .null, .null, .null, .null] j := by
  intro j hj
  rcases (show j = 0 ∨ j = 1 ∨ j = 2 ∨ j = 3 ∨ j = 4 ∨ j = 5 ∨ j = 6 ∨ j = 7 ∨ j = 8 ∨ j = 9 ∨ j = 10 ∨ j = 11 by omega) with rfl | rfl | rfl | rfl | rfl | rfl | rfl | rfl | rfl | rfl | rfl | rfl <;> rfl
theorem df_X13 : ∀ j, j < 13 → defaultValue (tyX13 j) = vp_V [.int 0, .null, .null, .null, .int 0, .null, .null, .null, .int 0, .int 0, .int 0, .int 0, .int 0] j := by
  intro j hj
  rcases (show j = 0 ∨ j = 1 ∨ j = 2 ∨ j = 3 ∨ j = 4 ∨ j = 5 ∨ j = 6 ∨ j = 7 ∨ j = 8 ∨ j = 9 ∨ j = 10 ∨ j = 11 ∨ j = 12 by omega) with rfl | rfl | rfl | rfl | rfl | rfl | rfl | rfl | rfl | rfl | rfl | rfl | rfl <;> rfl
theorem df_J0 : ∀ j, j < 4 → defaultValue (tyJ0 j) = vp_V [.null, .int 0, .int 0, .int 0] j := by
  intro j hj
  rcases (show j = 0 ∨ j = 1 ∨ j = 2 ∨ j = 3 by omega) with rfl | rfl | rfl | rfl <;> rfl
theorem k_ascP {D : va_G} {a b c d : va_W} {H : Heap} (h : va_P D classes ((a ++ (b ++ c)) ++ d) H) : va_P D classes ((a ++ b) ++ (c ++ d)) H := by
  have e : (a ++ (b ++ c)) ++ d = (a ++ b) ++ (c ++ d) := by simp only [List.append_assoc]
  exact e ▸ h
theorem k_ascD {A : Nat → Prop} {a b c d : va_W} (h : va_D A ((a ++ (b ++ c)) ++ d)) : va_D A ((a ++ b) ++ (c ++ d)) := by
  have e : (a ++ (b ++ c)) ++ d = (a ++ b) ++ (c ++ d) := by simp only [List.append_assoc]
  exact e ▸ h
theorem dX6_init_0 : decode cX6_init 0 = .ok (.aload_n 0, 1) := by decide +kernel
theorem dX6_init_1 : decode cX6_init 1 = .ok (.invokespecial 1, 3) := by decide +kernel
theorem dX6_init_4 : decode cX6_init 4 = .ok (.aload_n 0, 1) := by decide +kernel
theorem dX6_init_5 : decode cX6_init 5 = .ok (.iload_n 1, 1) := by decide +kernel
theorem dX6_init_6 : decode cX6_init 6 = .ok (.iconst 0, 1) := by decide +kernel
theorem dX6_init_7 : decode cX6_init 7 = .ok (.invokestatic 7, 3) := by decide +kernel
theorem dX6_init_10 : decode cX6_init 10 = .ok (.newarray .int, 2) := by decide +kernel
theorem dX6_init_12 : decode cX6_init 12 = .ok (.putfield 13, 3) := by decide +kernel
theorem dX6_init_15 : decode cX6_init 15 = .ok (.return_, 1) := by decide +kernel
set_option maxHeartbeats 4000000 in
set_option maxRecDepth 100000 in
theorem kcX6_init_0 (l : Launch) (D : va_G) (cy : Nat → ClassId) (g : Nat → Nat) (a_t : Nat) : ConE l D cy g yX6_init cX6_init 2 none 1 14 1 0 [.ref a_t, .int 0] [(a_t, .inr (3, [.null, .int 0]))] (fun u => [(a_t, .inr (3, [.ref (u 0 0), .int 0]))]) (fun u => [((u 0 0), .inl (cy 0, 0, .inl (fun _ => 0)))]) (fun _ => none) := by
  refine ConE.of (by decide +kernel) (Nat.le_of_ble_eq_true rfl) ?_
  intro p e RM s m ar below meth c A Qc ls hx hb hr hml hown hlocks hnm ht hK hY hP hD hS hA hA9 hR hC hQc hl
  have hown : s.vm.findClass RX6 = some m.cls := hown
  have hl : lv_has ls 2 [(0, .ref a_t), (1, .int 0)] := hl
  refine lv_aload_n hx hb dX6_init_0 rfl (lv_at hl 0 rfl) ?_
  refine k_obj hx hb hml hown ht hR hl q_98 q_85 q_86 ⟨Nat.le_of_ble_eq_true rfl, Nat.le_of_ble_eq_true rfl⟩ dX6_init_1 ?_
  refine lv_aload_n hx hb dX6_init_4 rfl (lv_at hl 0 rfl) ?_
  refine lv_iload_n hx hb dX6_init_5 rfl (lv_at hl 1 rfl) ?_
  refine lv_iconst (v := 0) hx hb dX6_init_6 (by decide) ?_
  refine va_mmax hx hb (hml.trans hl.1.symm) hown (ht _ q_99) (ht _ q_100) (ht _ q_46) (ht _ q_101) (by rw [hR]; exact Nat.le_of_ble_eq_true rfl) (by rw [hR]; exact Nat.le_of_ble_eq_true rfl) (by rw [hR]; exact Nat.le_of_ble_eq_true rfl) (by rw [hR]; exact Nat.le_of_ble_eq_true rfl) dX6_init_7 ?_
  refine k_topi (y := 0) (by decide) ?_
  refine k_newa (wa := [(a_t, .inr (3, [.null, .int 0]))]) (wb := ([] : va_W)) (ty := .int) (a0 := (0, .inl (fun _ => 0))) (N' := 0) hx hb 0 ht q_110 rfl rfl hK hP hD hS hA hR (fun _ => rfl) (by decide) (by decide) (by decide) ⟨Nat.le_of_ble_eq_true rfl, Nat.le_of_ble_eq_true rfl⟩ dX6_init_10 (fun q_1 H hP hD hS => ?_)
  have hP : va_P D classes [(a_t, .inr (3, [.null, .int 0])), (q_1, .inl (cy 0, 0, .inl (fun _ => 0)))] H := hP
  have hD : va_D A [(a_t, .inr (3, [.null, .int 0])), (q_1, .inl (cy 0, 0, .inl (fun _ => 0)))] := hD
  refine va_putF (D := D) (cl := classes) (ci := 3) (v := .ref q_1) (ty := .array .int) (C := RX6) (T := TX6) (N := 2) hx hb ht in_RX6 tyX6 tyX6_ok nmX6 hown hK.1 hP hD hS 0 rfl rfl 0 (by decide) (ht _ q_102) (fun _ h9 => h9) rfl hnm rfl (by decide +kernel) rfl rfl (Nat.le_of_ble_eq_true rfl) dX6_init_12 (fun H locs hP hD hS => ?_)
  have hP : va_P D classes [(a_t, .inr (3, [.ref q_1, .int 0])), (q_1, .inl (cy 0, 0, .inl (fun _ => 0)))] H := hP
  have hD : va_D A [(a_t, .inr (3, [.ref q_1, .int 0])), (q_1, .inl (cy 0, 0, .inl (fun _ => 0)))] := hD
  exact k_vretE (w0 := [(a_t, .inr (3, [.null, .int 0]))]) hx hb hr hlocks hQc hA9 hP hD hS (fun n9 => ([(fun _ => q_1)] : List (Nat → Nat)).getD n9 (fun _ => 0)) rfl rfl (fun _ => rfl) dX6_init_15
set_option maxHeartbeats 4000000 in
set_option maxRecDepth 100000 in
theorem kcX6_init_65 (l : Launch) (D : va_G) (cy : Nat → ClassId) (g : Nat → Nat) (a_t : Nat) : ConE l D cy g yX6_init cX6_init 2 none 1 14 1 65 [.ref a_t, .int 65] [(a_t, .inr (3, [.null, .int 0]))] (fun u => [(a_t, .inr (3, [.ref (u 0 0), .int 0]))]) (fun u => [((u 0 0), .inl (cy 0, 65, .inl (fun _ => 0)))]) (fun _ => none) := by
  refine ConE.of (by decide +kernel) (Nat.le_of_ble_eq_true rfl) ?_
  intro p e RM s m ar below meth c A Qc ls hx hb hr hml hown hlocks hnm ht hK hY hP hD hS hA hA9 hR hC hQc hl
  have hown : s.vm.findClass RX6 = some m.cls := hown
  have hl : lv_has ls 2 [(0, .ref a_t), (1, .int 65)] := hl
  refine lv_aload_n hx hb dX6_init_0 rfl (lv_at hl 0 rfl) ?_
  refine k_obj hx hb hml hown ht hR hl q_98 q_85 q_86 ⟨Nat.le_of_ble_eq_true rfl, Nat.le_of_ble_eq_true rfl⟩ dX6_init_1 ?_
  refine lv_aload_n hx hb dX6_init_4 rfl (lv_at hl 0 rfl) ?_
  refine lv_iload_n hx hb dX6_init_5 rfl (lv_at hl 1 rfl) ?_
  refine lv_iconst (v := 0) hx hb dX6_init_6 (by decide) ?_
  refine va_mmax hx hb (hml.trans hl.1.symm) hown (ht _ q_99) (ht _ q_100) (ht _ q_46) (ht _ q_101) (by rw [hR]; exact Nat.le_of_ble_eq_true rfl) (by rw [hR]; exact Nat.le_of_ble_eq_true rfl) (by rw [hR]; exact Nat.le_of_ble_eq_true rfl) (by rw [hR]; exact Nat.le_of_ble_eq_true rfl) dX6_init_7 ?_
  refine k_topi (y := 65) (by decide) ?_
  refine k_newa (wa := [(a_t, .inr (3, [.null, .int 0]))]) (wb := ([] : va_W)) (ty := .int) (a0 := (65, .inl (fun _ => 0))) (N' := 65) hx hb 0 ht q_110 rfl rfl hK hP hD hS hA hR (fun _ => rfl) (by decide) (by decide) (by decide) ⟨Nat.le_of_ble_eq_true rfl, Nat.le_of_ble_eq_true rfl⟩ dX6_init_10 (fun q_1 H hP hD hS => ?_)
  have hP : va_P D classes [(a_t, .inr (3, [.null, .int 0])), (q_1, .inl (cy 0, 65, .inl (fun _ => 0)))] H := hP
  have hD : va_D A [(a_t, .inr (3, [.null, .int 0])), (q_1, .inl (cy 0, 65, .inl (fun _ => 0)))] := hD
  refine va_putF (D := D) (cl := classes) (ci := 3) (v := .ref q_1) (ty := .array .int) (C := RX6) (T := TX6) (N := 2) hx hb ht in_RX6 tyX6 tyX6_ok nmX6 hown hK.1 hP hD hS 0 rfl rfl 0 (by decide) (ht _ q_102) (fun _ h9 => h9) rfl hnm rfl (by decide +kernel) rfl rfl (Nat.le_of_ble_eq_true rfl) dX6_init_12 (fun H locs hP hD hS => ?_)
  have hP : va_P D classes [(a_t, .inr (3, [.ref q_1, .int 0])), (q_1, .inl (cy 0, 65, .inl (fun _ => 0)))] H := hP
  have hD : va_D A [(a_t, .inr (3, [.ref q_1, .int 0])), (q_1, .inl (cy 0, 65, .inl (fun _ => 0)))] := hD
  exact k_vretE (w0 := [(a_t, .inr (3, [.null, .int 0]))]) hx hb hr hlocks hQc hA9 hP hD hS (fun n9 => ([(fun _ => q_1)] : List (Nat → Nat)).getD n9 (fun _ => 0)) rfl rfl (fun _ => rfl) dX6_init_15
set_option maxHeartbeats 4000000 in
set_option maxRecDepth 100000 in
theorem kcX6_init_300 (l : Launch) (D : va_G) (cy : Nat → ClassId) (g : Nat → Nat) (a_t : Nat) : ConE l D cy g yX6_init cX6_init 2 none 1 14 1 300 [.ref a_t, .int 300] [(a_t, .inr (3, [.null, .int 0]))] (fun u => [(a_t, .inr (3, [.ref (u 0 0), .int 0]))]) (fun u => [((u 0 0), .inl (cy 0, 300, .inl (fun _ => 0)))]) (fun _ => none) := by
  refine ConE.of (by decide +kernel) (Nat.le_of_ble_eq_true rfl) ?_
  intro p e RM s m ar below meth c A Qc ls hx hb hr hml hown hlocks hnm ht hK hY hP hD hS hA hA9 hR hC hQc hl
  have hown : s.vm.findClass RX6 = some m.cls := hown
  have hl : lv_has ls 2 [(0, .ref a_t), (1, .int 300)] := hl
  refine lv_aload_n hx hb dX6_init_0 rfl (lv_at hl 0 rfl) ?_
  refine k_obj hx hb hml hown ht hR hl q_98 q_85 q_86 ⟨Nat.le_of_ble_eq_true rfl, Nat.le_of_ble_eq_true rfl⟩ dX6_init_1 ?_
  refine lv_aload_n hx hb dX6_init_4 rfl (lv_at hl 0 rfl) ?_
  refine lv_iload_n hx hb dX6_init_5 rfl (lv_at hl 1 rfl) ?_
  refine lv_iconst (v := 0) hx hb dX6_init_6 (by decide) ?_
  refine va_mmax hx hb (hml.trans hl.1.symm) hown (ht _ q_99) (ht _ q_100) (ht _ q_46) (ht _ q_101) (by rw [hR]; exact Nat.le_of_ble_eq_true rfl) (by rw [hR]; exact Nat.le_of_ble_eq_true rfl) (by rw [hR]; exact Nat.le_of_ble_eq_true rfl) (by rw [hR]; exact Nat.le_of_ble_eq_true rfl) dX6_init_7 ?_
  refine k_topi (y := 300) (by decide) ?_
  refine k_newa (wa := [(a_t, .inr (3, [.null, .int 0]))]) (wb := ([] : va_W)) (ty := .int) (a0 := (300, .inl (fun _ => 0))) (N' := 300) hx hb 0 ht q_110 rfl rfl hK hP hD hS hA hR (fun _ => rfl) (by decide) (by decide) (by decide) ⟨Nat.le_of_ble_eq_true rfl, Nat.le_of_ble_eq_true rfl⟩ dX6_init_10 (fun q_1 H hP hD hS => ?_)
  have hP : va_P D classes [(a_t, .inr (3, [.null, .int 0])), (q_1, .inl (cy 0, 300, .inl (fun _ => 0)))] H := hP
  have hD : va_D A [(a_t, .inr (3, [.null, .int 0])), (q_1, .inl (cy 0, 300, .inl (fun _ => 0)))] := hD
  refine va_putF (D := D) (cl := classes) (ci := 3) (v := .ref q_1) (ty := .array .int) (C := RX6) (T := TX6) (N := 2) hx hb ht in_RX6 tyX6 tyX6_ok nmX6 hown hK.1 hP hD hS 0 rfl rfl 0 (by decide) (ht _ q_102) (fun _ h9 => h9) rfl hnm rfl (by decide +kernel) rfl rfl (Nat.le_of_ble_eq_true rfl) dX6_init_12 (fun H locs hP hD hS => ?_)
  have hP : va_P D classes [(a_t, .inr (3, [.ref q_1, .int 0])), (q_1, .inl (cy 0, 300, .inl (fun _ => 0)))] H := hP
  have hD : va_D A [(a_t, .inr (3, [.ref q_1, .int 0])), (q_1, .inl (cy 0, 300, .inl (fun _ => 0)))] := hD
  exact k_vretE (w0 := [(a_t, .inr (3, [.null, .int 0]))]) hx hb hr hlocks hQc hA9 hP hD hS (fun n9 => ([(fun _ => q_1)] : List (Nat → Nat)).getD n9 (fun _ => 0)) rfl rfl (fun _ => rfl) dX6_init_15
theorem dX5_init_0 : decode cX5_init 0 = .ok (.aload_n 0, 1) := by decide +kernel
theorem dX5_init_1 : decode cX5_init 1 = .ok (.invokespecial 3, 3) := by decide +kernel
theorem dX5_init_4 : decode cX5_init 4 = .ok (.return_, 1) := by decide +kernel
set_option maxHeartbeats 4000000 in
set_option maxRecDepth 100000 in
theorem kcX5_init (l : Launch) (D : va_G) (cy : Nat → ClassId) (g : Nat → Nat) (a_t : Nat) : ConE l D cy g yX5_init cX5_init 1 none 1 12 0 0 [.ref a_t] [(a_t, .inr (2, [.long 0]))] (fun u => [(a_t, .inr (2, [.long 0]))]) (fun u => []) (fun _ => none) := by
  refine ConE.of (by decide +kernel) (Nat.le_of_ble_eq_true rfl) ?_
  intro p e RM s m ar below meth c A Qc ls hx hb hr hml hown hlocks hnm ht hK hY hP hD hS hA hA9 hR hC hQc hl
  have hown : s.vm.findClass RX5 = some m.cls := hown
  have hl : lv_has ls 1 [(0, .ref a_t)] := hl
  refine lv_aload_n hx hb dX5_init_0 rfl (lv_at hl 0 rfl) ?_
  refine k_obj hx hb hml hown ht hR hl q_116 q_85 q_86 ⟨Nat.le_of_ble_eq_true rfl, Nat.le_of_ble_eq_true rfl⟩ dX5_init_1 ?_
  exact k_vretE (w0 := [(a_t, .inr (2, [.long 0]))]) hx hb hr hlocks hQc hA9 hP hD hS (fun n9 => ([] : List (Nat → Nat)).getD n9 (fun _ => 0)) rfl rfl (fun _ => rfl) dX5_init_4
theorem dX7_init_0 : decode cX7_init 0 = .ok (.aload_n 0, 1) := by decide +kernel
theorem dX7_init_1 : decode cX7_init 1 = .ok (.invokespecial 3, 3) := by decide +kernel
theorem dX7_init_4 : decode cX7_init 4 = .ok (.aload_n 0, 1) := by decide +kernel
theorem dX7_init_5 : decode cX7_init 5 = .ok (.iconst 3, 1) := by decide +kernel
theorem dX7_init_6 : decode cX7_init 6 = .ok (.newarray .long, 2) := by decide +kernel
theorem dX7_init_8 : decode cX7_init 8 = .ok (.putfield 9, 3) := by decide +kernel
theorem dX7_init_11 : decode cX7_init 11 = .ok (.aload_n 0, 1) := by decide +kernel
theorem dX7_init_12 : decode cX7_init 12 = .ok (.getstatic 15, 3) := by decide +kernel
theorem dX7_init_15 : decode cX7_init 15 = .ok (.putfield 21, 3) := by decide +kernel
theorem dX7_init_18 : decode cX7_init 18 = .ok (.return_, 1) := by decide +kernel
set_option maxHeartbeats 4000000 in
set_option maxRecDepth 100000 in
theorem kcX7_init (l : Launch) (D : va_G) (cy : Nat → ClassId) (g : Nat → Nat) (a_t : Nat) : ConE l D cy g yX7_init cX7_init 1 none 1 12 1 3 [.ref a_t] [(a_t, .inr (4, [.null, .null, .int 0, .int 0, .int 0, .int 0]))] (fun u => [(a_t, .inr (4, [.ref (u 0 0), .ref (g (200 + 0)), .int 0, .int 0, .int 0, .int 0]))]) (fun u => [((u 0 0), .inl (cy 1, 3, .inr (.inl (fun _ => 0))))]) (fun _ => none) := by
  refine ConE.of (by decide +kernel) (Nat.le_of_ble_eq_true rfl) ?_
  intro p e RM s m ar below meth c A Qc ls hx hb hr hml hown hlocks hnm ht hK hY hP hD hS hA hA9 hR hC hQc hl
  have hown : s.vm.findClass RX7 = some m.cls := hown
  have hl : lv_has ls 1 [(0, .ref a_t)] := hl
  refine lv_aload_n hx hb dX7_init_0 rfl (lv_at hl 0 rfl) ?_
  refine k_obj hx hb hml hown ht hR hl q_158 q_85 q_86 ⟨Nat.le_of_ble_eq_true rfl, Nat.le_of_ble_eq_true rfl⟩ dX7_init_1 ?_
  refine lv_aload_n hx hb dX7_init_4 rfl (lv_at hl 0 rfl) ?_
  refine lv_iconst (v := 3) hx hb dX7_init_5 (by decide) ?_
  refine k_newa (wa := [(a_t, .inr (4, [.null, .null, .int 0, .int 0, .int 0, .int 0]))]) (wb := ([] : va_W)) (ty := .long) (a0 := (3, .inr (.inl (fun _ => 0)))) (N' := 3) hx hb 1 ht q_109 rfl rfl hK hP hD hS hA hR (fun _ => rfl) (by decide) (by decide) (by decide) ⟨Nat.le_of_ble_eq_true rfl, Nat.le_of_ble_eq_true rfl⟩ dX7_init_6 (fun q_1 H hP hD hS => ?_)
  have hP : va_P D classes [(a_t, .inr (4, [.null, .null, .int 0, .int 0, .int 0, .int 0])), (q_1, .inl (cy 1, 3, .inr (.inl (fun _ => 0))))] H := hP
  have hD : va_D A [(a_t, .inr (4, [.null, .null, .int 0, .int 0, .int 0, .int 0])), (q_1, .inl (cy 1, 3, .inr (.inl (fun _ => 0))))] := hD
  refine va_putF (D := D) (cl := classes) (ci := 4) (v := .ref q_1) (ty := .array .long) (C := RX7) (T := TX7) (N := 6) hx hb ht in_RX7 tyX7 tyX7_ok nmX7 hown hK.1 hP hD hS 0 rfl rfl 0 (by decide) (ht _ q_161) (fun _ h9 => h9) rfl hnm rfl (by decide +kernel) rfl rfl (Nat.le_of_ble_eq_true rfl) dX7_init_8 (fun H locs hP hD hS => ?_)
  have hP : va_P D classes [(a_t, .inr (4, [.ref q_1, .null, .int 0, .int 0, .int 0, .int 0])), (q_1, .inl (cy 1, 3, .inr (.inl (fun _ => 0))))] H := hP
  have hD : va_D A [(a_t, .inr (4, [.ref q_1, .null, .int 0, .int 0, .int 0, .int 0])), (q_1, .inl (cy 1, 3, .inr (.inl (fun _ => 0))))] := hD
  refine lv_aload_n hx hb dX7_init_11 rfl (lv_at hl 0 rfl) ?_
  refine va_gets (v := .ref (g (200 + 0))) hx hb hC.2.2.1.2.2.2.2.1 hS hown (ht _ q_159) (fun _ h9 => h9) dX7_init_12 ?_
  refine va_put (D := D) (cl := classes) (ci := 4) (v := .ref (g (200 + 0))) (ty := .object "RadixDesk$Verb") (C := RX7) (T := TX7) (N := 6) hx hb ht in_RX7 tyX7 tyX7_ok nmX7 hown hK.1 hP hD hS 0 rfl rfl 1 (by decide) (ht _ q_162) (fun _ h9 => h9) rfl (by decide +kernel) rfl rfl (Nat.le_of_ble_eq_true rfl) dX7_init_15 (fun H locs hP hD hS => ?_)
  have hP : va_P D classes [(a_t, .inr (4, [.ref q_1, .ref (g (200 + 0)), .int 0, .int 0, .int 0, .int 0])), (q_1, .inl (cy 1, 3, .inr (.inl (fun _ => 0))))] H := hP
  have hD : va_D A [(a_t, .inr (4, [.ref q_1, .ref (g (200 + 0)), .int 0, .int 0, .int 0, .int 0])), (q_1, .inl (cy 1, 3, .inr (.inl (fun _ => 0))))] := hD
  exact k_vretE (w0 := [(a_t, .inr (4, [.null, .null, .int 0, .int 0, .int 0, .int 0]))]) hx hb hr hlocks hQc hA9 hP hD hS (fun n9 => ([(fun _ => q_1)] : List (Nat → Nat)).getD n9 (fun _ => 0)) rfl rfl (fun _ => rfl) dX7_init_18
theorem dX2_init_0 : decode cX2_init 0 = .ok (.aload_n 0, 1) := by decide +kernel
theorem dX2_init_1 : decode cX2_init 1 = .ok (.invokespecial 3, 3) := by decide +kernel
theorem dX2_init_4 : decode cX2_init 4 = .ok (.aload_n 0, 1) := by decide +kernel
theorem dX2_init_5 : decode cX2_init 5 = .ok (.bipush 8, 2) := by decide +kernel
theorem dX2_init_7 : decode cX2_init 7 = .ok (.newarray .long, 2) := by decide +kernel
theorem dX2_init_9 : decode cX2_init 9 = .ok (.putfield 9, 3) := by decide +kernel
theorem dX2_init_12 : decode cX2_init 12 = .ok (.aload_n 0, 1) := by decide +kernel
theorem dX2_init_13 : decode cX2_init 13 = .ok (.bipush 8, 2) := by decide +kernel
theorem dX2_init_15 : decode cX2_init 15 = .ok (.newarray .long, 2) := by decide +kernel
theorem dX2_init_17 : decode cX2_init 17 = .ok (.putfield 15, 3) := by decide +kernel
theorem dX2_init_20 : decode cX2_init 20 = .ok (.aload_n 0, 1) := by decide +kernel
theorem dX2_init_21 : decode cX2_init 21 = .ok (.new 18, 3) := by decide +kernel
theorem dX2_init_24 : decode cX2_init 24 = .ok (.dup, 1) := by decide +kernel
theorem dX2_init_25 : decode cX2_init 25 = .ok (.bipush 65, 2) := by decide +kernel
theorem dX2_init_27 : decode cX2_init 27 = .ok (.invokespecial 20, 3) := by decide +kernel
theorem dX2_init_30 : decode cX2_init 30 = .ok (.putfield 23, 3) := by decide +kernel
theorem dX2_init_33 : decode cX2_init 33 = .ok (.aload_n 0, 1) := by decide +kernel
theorem dX2_init_34 : decode cX2_init 34 = .ok (.new 27, 3) := by decide +kernel
theorem dX2_init_37 : decode cX2_init 37 = .ok (.dup, 1) := by decide +kernel
theorem dX2_init_38 : decode cX2_init 38 = .ok (.invokespecial 29, 3) := by decide +kernel
theorem dX2_init_41 : decode cX2_init 41 = .ok (.putfield 30, 3) := by decide +kernel
theorem dX2_init_44 : decode cX2_init 44 = .ok (.return_, 1) := by decide +kernel
set_option maxHeartbeats 4000000 in
set_option maxRecDepth 100000 in
theorem kcX2_init (l : Launch) (D : va_G) (cy : Nat → ClassId) (g : Nat → Nat) (a_t : Nat) : ConE l D cy g yX2_init cX2_init 1 none 2 35 5 84 [.ref a_t] [(a_t, .inr (0, [.null, .null, .null, .null, .int 0]))] (fun u => [(a_t, .inr (0, [.ref (u 0 0), .ref (u 1 0), .ref (u 2 0), .ref (u 4 0), .int 0]))]) (fun u => [((u 0 0), .inl (cy 1, 8, .inr (.inl (fun _ => 0)))), ((u 1 0), .inl (cy 1, 8, .inr (.inl (fun _ => 0)))), ((u 2 0), .inr (3, [.ref (u 3 0), .int 0])), ((u 3 0), .inl (cy 0, 65, .inl (fun _ => 0))), ((u 4 0), .inr (2, [.long 0]))]) (fun _ => none) := by
  refine ConE.of (by decide +kernel) (Nat.le_of_ble_eq_true rfl) ?_
  intro p e RM s m ar below meth c A Qc ls hx hb hr hml hown hlocks hnm ht hK hY hP hD hS hA hA9 hR hC hQc hl
  have hown : s.vm.findClass RX2 = some m.cls := hown
  have hl : lv_has ls 1 [(0, .ref a_t)] := hl
  refine lv_aload_n hx hb dX2_init_0 rfl (lv_at hl 0 rfl) ?_
  refine k_obj hx hb hml hown ht hR hl q_92 q_85 q_86 ⟨Nat.le_of_ble_eq_true rfl, Nat.le_of_ble_eq_true rfl⟩ dX2_init_1 ?_
  refine lv_aload_n hx hb dX2_init_4 rfl (lv_at hl 0 rfl) ?_
  refine lv_bipush (v := 8) hx hb dX2_init_5 (by decide) ?_
  refine k_newa (wa := [(a_t, .inr (0, [.null, .null, .null, .null, .int 0]))]) (wb := ([] : va_W)) (ty := .long) (a0 := (8, .inr (.inl (fun _ => 0)))) (N' := 8) hx hb 1 ht q_109 rfl rfl hK hP hD hS hA hR (fun _ => rfl) (by decide) (by decide) (by decide) ⟨Nat.le_of_ble_eq_true rfl, Nat.le_of_ble_eq_true rfl⟩ dX2_init_7 (fun q_1 H hP hD hS => ?_)
  have hP : va_P D classes [(a_t, .inr (0, [.null, .null, .null, .null, .int 0])), (q_1, .inl (cy 1, 8, .inr (.inl (fun _ => 0))))] H := hP
  have hD : va_D A [(a_t, .inr (0, [.null, .null, .null, .null, .int 0])), (q_1, .inl (cy 1, 8, .inr (.inl (fun _ => 0))))] := hD
  refine va_putF (D := D) (cl := classes) (ci := 0) (v := .ref q_1) (ty := .array .long) (C := RX2) (T := TX2) (N := 5) hx hb ht in_RX2 tyX2 tyX2_ok nmX2 hown hK.1 hP hD hS 0 rfl rfl 0 (by decide) (ht _ q_124) (fun _ h9 => h9) rfl hnm rfl (by decide +kernel) rfl rfl (Nat.le_of_ble_eq_true rfl) dX2_init_9 (fun H locs hP hD hS => ?_)
  have hP : va_P D classes [(a_t, .inr (0, [.ref q_1, .null, .null, .null, .int 0])), (q_1, .inl (cy 1, 8, .inr (.inl (fun _ => 0))))] H := hP
  have hD : va_D A [(a_t, .inr (0, [.ref q_1, .null, .null, .null, .int 0])), (q_1, .inl (cy 1, 8, .inr (.inl (fun _ => 0))))] := hD
  refine lv_aload_n hx hb dX2_init_12 rfl (lv_at hl 0 rfl) ?_
  refine lv_bipush (v := 8) hx hb dX2_init_13 (by decide) ?_
  refine k_newa (wa := [(a_t, .inr (0, [.ref q_1, .null, .null, .null, .int 0])), (q_1, .inl (cy 1, 8, .inr (.inl (fun _ => 0))))]) (wb := ([] : va_W)) (ty := .long) (a0 := (8, .inr (.inl (fun _ => 0)))) (N' := 8) hx hb 1 ht q_109 rfl rfl hK hP hD hS hA hR (fun _ => rfl) (by decide) (by decide) (by decide) ⟨Nat.le_of_ble_eq_true rfl, Nat.le_of_ble_eq_true rfl⟩ dX2_init_15 (fun q_2 H hP hD hS => ?_)
  have hP : va_P D classes [(a_t, .inr (0, [.ref q_1, .null, .null, .null, .int 0])), (q_1, .inl (cy 1, 8, .inr (.inl (fun _ => 0)))), (q_2, .inl (cy 1, 8, .inr (.inl (fun _ => 0))))] H := hP
  have hD : va_D A [(a_t, .inr (0, [.ref q_1, .null, .null, .null, .int 0])), (q_1, .inl (cy 1, 8, .inr (.inl (fun _ => 0)))), (q_2, .inl (cy 1, 8, .inr (.inl (fun _ => 0))))] := hD
  refine va_putF (D := D) (cl := classes) (ci := 0) (v := .ref q_2) (ty := .array .long) (C := RX2) (T := TX2) (N := 5) hx hb ht in_RX2 tyX2 tyX2_ok nmX2 hown hK.1 hP hD hS 0 rfl rfl 1 (by decide) (ht _ q_125) (fun _ h9 => h9) rfl hnm rfl (by decide +kernel) rfl rfl (Nat.le_of_ble_eq_true rfl) dX2_init_17 (fun H locs hP hD hS => ?_)
  have hP : va_P D classes [(a_t, .inr (0, [.ref q_1, .ref q_2, .null, .null, .int 0])), (q_1, .inl (cy 1, 8, .inr (.inl (fun _ => 0)))), (q_2, .inl (cy 1, 8, .inr (.inl (fun _ => 0))))] H := hP
  have hD : va_D A [(a_t, .inr (0, [.ref q_1, .ref q_2, .null, .null, .int 0])), (q_1, .inl (cy 1, 8, .inr (.inl (fun _ => 0)))), (q_2, .inl (cy 1, 8, .inr (.inl (fun _ => 0))))] := hD
  refine lv_aload_n hx hb dX2_init_20 rfl (lv_at hl 0 rfl) ?_
  refine k_new (wa := [(a_t, .inr (0, [.ref q_1, .ref q_2, .null, .null, .int 0])), (q_1, .inl (cy 1, 8, .inr (.inl (fun _ => 0)))), (q_2, .inl (cy 1, 8, .inr (.inl (fun _ => 0))))]) (wb := ([] : va_W)) (C := RX6) (T := TX6) (N := 2) (ci := 3) (fs := [.null, .int 0]) hx hb ht in_RX6 tyX6 tyX6_ok hown q_93 q_94 q_45 hK hP hD hS hA hR rfl df_X6 ⟨Nat.le_of_ble_eq_true rfl, Nat.le_of_ble_eq_true rfl⟩ dX2_init_21 (fun q_3 H hP hD hS => ?_)
  have hP : va_P D classes [(a_t, .inr (0, [.ref q_1, .ref q_2, .null, .null, .int 0])), (q_1, .inl (cy 1, 8, .inr (.inl (fun _ => 0)))), (q_2, .inl (cy 1, 8, .inr (.inl (fun _ => 0)))), (q_3, .inr (3, [.null, .int 0]))] H := hP
  have hD : va_D A [(a_t, .inr (0, [.ref q_1, .ref q_2, .null, .null, .int 0])), (q_1, .inl (cy 1, 8, .inr (.inl (fun _ => 0)))), (q_2, .inl (cy 1, 8, .inr (.inl (fun _ => 0)))), (q_3, .inr (3, [.null, .int 0]))] := hD
  refine lv_dup hx hb dX2_init_24 rfl ?_
  refine lv_bipush (v := 65) hx hb dX2_init_25 (by decide) ?_
  refine k_IE (as := [.int 65]) (rest := [.ref q_3, .ref a_t]) (wa := (fun u_4 => [(a_t, .inr (0, [.ref q_1, .ref q_2, .null, .null, .int 0])), (q_1, .inl (cy 1, 8, .inr (.inl (fun _ => 0)))), (q_2, .inl (cy 1, 8, .inr (.inl (fun _ => 0)))), (q_3, .inr (3, [.ref (u_4 0 0), .int 0]))])) (wb := fun _ => ([] : va_W)) hx hb hml hown ht hK hY hP hD hS hA hC hR hl (kcX6_init_65 l D cy g q_3) [3] q_95 q_96 q_45 q_97 hyX6_init rfl ⟨Nat.le_of_ble_eq_true rfl, Nat.le_of_ble_eq_true rfl, Nat.le_of_ble_eq_true rfl, Nat.le_of_ble_eq_true rfl⟩ rfl rfl (fun _ => rfl) rfl (Nat.le_of_ble_eq_true rfl) dX2_init_27 (fun _ => rfl) (fun u_4 H locs hP hD hS => ?_)
  have hP : va_P D classes [(a_t, .inr (0, [.ref q_1, .ref q_2, .null, .null, .int 0])), (q_1, .inl (cy 1, 8, .inr (.inl (fun _ => 0)))), (q_2, .inl (cy 1, 8, .inr (.inl (fun _ => 0)))), (q_3, .inr (3, [.ref (u_4 0 0), .int 0])), ((u_4 0 0), .inl (cy 0, 65, .inl (fun _ => 0)))] H := hP
  have hD : va_D A [(a_t, .inr (0, [.ref q_1, .ref q_2, .null, .null, .int 0])), (q_1, .inl (cy 1, 8, .inr (.inl (fun _ => 0)))), (q_2, .inl (cy 1, 8, .inr (.inl (fun _ => 0)))), (q_3, .inr (3, [.ref (u_4 0 0), .int 0])), ((u_4 0 0), .inl (cy 0, 65, .inl (fun _ => 0)))] := hD
  refine va_putF (D := D) (cl := classes) (ci := 0) (v := .ref q_3) (ty := .object "RadixDesk$Row") (C := RX2) (T := TX2) (N := 5) hx hb ht in_RX2 tyX2 tyX2_ok nmX2 hown hK.1 hP hD hS 0 rfl rfl 2 (by decide) (ht _ q_126) (fun _ h9 => h9) rfl hnm rfl (by decide +kernel) rfl rfl (Nat.le_of_ble_eq_true rfl) dX2_init_30 (fun H locs hP hD hS => ?_)
  have hP : va_P D classes [(a_t, .inr (0, [.ref q_1, .ref q_2, .ref q_3, .null, .int 0])), (q_1, .inl (cy 1, 8, .inr (.inl (fun _ => 0)))), (q_2, .inl (cy 1, 8, .inr (.inl (fun _ => 0)))), (q_3, .inr (3, [.ref (u_4 0 0), .int 0])), ((u_4 0 0), .inl (cy 0, 65, .inl (fun _ => 0)))] H := hP
  have hD : va_D A [(a_t, .inr (0, [.ref q_1, .ref q_2, .ref q_3, .null, .int 0])), (q_1, .inl (cy 1, 8, .inr (.inl (fun _ => 0)))), (q_2, .inl (cy 1, 8, .inr (.inl (fun _ => 0)))), (q_3, .inr (3, [.ref (u_4 0 0), .int 0])), ((u_4 0 0), .inl (cy 0, 65, .inl (fun _ => 0)))] := hD
  refine lv_aload_n hx hb dX2_init_33 rfl (lv_at hl 0 rfl) ?_
  refine k_new (wa := [(a_t, .inr (0, [.ref q_1, .ref q_2, .ref q_3, .null, .int 0])), (q_1, .inl (cy 1, 8, .inr (.inl (fun _ => 0)))), (q_2, .inl (cy 1, 8, .inr (.inl (fun _ => 0)))), (q_3, .inr (3, [.ref (u_4 0 0), .int 0])), ((u_4 0 0), .inl (cy 0, 65, .inl (fun _ => 0)))]) (wb := ([] : va_W)) (C := RX5) (T := TX5) (N := 1) (ci := 2) (fs := [.long 0]) hx hb ht in_RX5 tyX5 tyX5_ok hown q_111 q_112 q_47 hK hP hD hS hA hR rfl df_X5 ⟨Nat.le_of_ble_eq_true rfl, Nat.le_of_ble_eq_true rfl⟩ dX2_init_34 (fun q_5 H hP hD hS => ?_)
  have hP : va_P D classes [(a_t, .inr (0, [.ref q_1, .ref q_2, .ref q_3, .null, .int 0])), (q_1, .inl (cy 1, 8, .inr (.inl (fun _ => 0)))), (q_2, .inl (cy 1, 8, .inr (.inl (fun _ => 0)))), (q_3, .inr (3, [.ref (u_4 0 0), .int 0])), ((u_4 0 0), .inl (cy 0, 65, .inl (fun _ => 0))), (q_5, .inr (2, [.long 0]))] H := hP
  have hD : va_D A [(a_t, .inr (0, [.ref q_1, .ref q_2, .ref q_3, .null, .int 0])), (q_1, .inl (cy 1, 8, .inr (.inl (fun _ => 0)))), (q_2, .inl (cy 1, 8, .inr (.inl (fun _ => 0)))), (q_3, .inr (3, [.ref (u_4 0 0), .int 0])), ((u_4 0 0), .inl (cy 0, 65, .inl (fun _ => 0))), (q_5, .inr (2, [.long 0]))] := hD
  refine lv_dup hx hb dX2_init_37 rfl ?_
  refine k_IEN (as := []) (rest := [.ref q_5, .ref a_t]) (wa := (fun u_6 => [(a_t, .inr (0, [.ref q_1, .ref q_2, .ref q_3, .null, .int 0])), (q_1, .inl (cy 1, 8, .inr (.inl (fun _ => 0)))), (q_2, .inl (cy 1, 8, .inr (.inl (fun _ => 0)))), (q_3, .inr (3, [.ref (u_4 0 0), .int 0])), ((u_4 0 0), .inl (cy 0, 65, .inl (fun _ => 0))), (q_5, .inr (2, [.long 0]))])) (wb := fun _ => ([] : va_W)) hx hb hml hown ht hK hY hP hD hS hA hC hR hl (kcX5_init l D cy g q_5) [5] qn_71 q_114 q_47 q_115 hyX5_init rfl ⟨Nat.le_of_ble_eq_true rfl, Nat.le_of_ble_eq_true rfl, Nat.le_of_ble_eq_true rfl, Nat.le_of_ble_eq_true rfl⟩ rfl rfl (fun _ => rfl) rfl (Nat.le_of_ble_eq_true rfl) dX2_init_38 (fun _ => rfl) (fun u_6 H locs hP hD hS => ?_)
  have hP : va_P D classes [(a_t, .inr (0, [.ref q_1, .ref q_2, .ref q_3, .null, .int 0])), (q_1, .inl (cy 1, 8, .inr (.inl (fun _ => 0)))), (q_2, .inl (cy 1, 8, .inr (.inl (fun _ => 0)))), (q_3, .inr (3, [.ref (u_4 0 0), .int 0])), ((u_4 0 0), .inl (cy 0, 65, .inl (fun _ => 0))), (q_5, .inr (2, [.long 0]))] H := hP
  have hD : va_D A [(a_t, .inr (0, [.ref q_1, .ref q_2, .ref q_3, .null, .int 0])), (q_1, .inl (cy 1, 8, .inr (.inl (fun _ => 0)))), (q_2, .inl (cy 1, 8, .inr (.inl (fun _ => 0)))), (q_3, .inr (3, [.ref (u_4 0 0), .int 0])), ((u_4 0 0), .inl (cy 0, 65, .inl (fun _ => 0))), (q_5, .inr (2, [.long 0]))] := hD
  refine va_putF (D := D) (cl := classes) (ci := 0) (v := .ref q_5) (ty := .object "RadixDesk$Reader") (C := RX2) (T := TX2) (N := 5) hx hb ht in_RX2 tyX2 tyX2_ok nmX2 hown hK.1 hP hD hS 0 rfl rfl 3 (by decide) (ht _ q_128) (fun _ h9 => h9) rfl hnm rfl (by decide +kernel) rfl rfl (Nat.le_of_ble_eq_true rfl) dX2_init_41 (fun H locs hP hD hS => ?_)
  have hP : va_P D classes [(a_t, .inr (0, [.ref q_1, .ref q_2, .ref q_3, .ref q_5, .int 0])), (q_1, .inl (cy 1, 8, .inr (.inl (fun _ => 0)))), (q_2, .inl (cy 1, 8, .inr (.inl (fun _ => 0)))), (q_3, .inr (3, [.ref (u_4 0 0), .int 0])), ((u_4 0 0), .inl (cy 0, 65, .inl (fun _ => 0))), (q_5, .inr (2, [.long 0]))] H := hP
  have hD : va_D A [(a_t, .inr (0, [.ref q_1, .ref q_2, .ref q_3, .ref q_5, .int 0])), (q_1, .inl (cy 1, 8, .inr (.inl (fun _ => 0)))), (q_2, .inl (cy 1, 8, .inr (.inl (fun _ => 0)))), (q_3, .inr (3, [.ref (u_4 0 0), .int 0])), ((u_4 0 0), .inl (cy 0, 65, .inl (fun _ => 0))), (q_5, .inr (2, [.long 0]))] := hD
  exact k_vretE (w0 := [(a_t, .inr (0, [.null, .null, .null, .null, .int 0]))]) hx hb hr hlocks hQc hA9 hP hD hS (fun n9 => ([(fun _ => q_1), (fun _ => q_2), (fun _ => q_3), (u_4 0), (fun _ => q_5)] : List (Nat → Nat)).getD n9 (fun _ => 0)) rfl rfl (fun _ => rfl) dX2_init_44
theorem dX10_init_0 : decode cX10_init 0 = .ok (.aload_n 0, 1) := by decide +kernel
theorem dX10_init_1 : decode cX10_init 1 = .ok (.invokespecial 3, 3) := by decide +kernel
theorem dX10_init_4 : decode cX10_init 4 = .ok (.aload_n 0, 1) := by decide +kernel
theorem dX10_init_5 : decode cX10_init 5 = .ok (.new 9, 3) := by decide +kernel
theorem dX10_init_8 : decode cX10_init 8 = .ok (.dup, 1) := by decide +kernel
theorem dX10_init_9 : decode cX10_init 9 = .ok (.iconst 0, 1) := by decide +kernel
theorem dX10_init_10 : decode cX10_init 10 = .ok (.invokespecial 11, 3) := by decide +kernel
theorem dX10_init_13 : decode cX10_init 13 = .ok (.putfield 14, 3) := by decide +kernel
theorem dX10_init_16 : decode cX10_init 16 = .ok (.return_, 1) := by decide +kernel
set_option maxHeartbeats 4000000 in
set_option maxRecDepth 100000 in
theorem kcX10_init (l : Launch) (D : va_G) (cy : Nat → ClassId) (g : Nat → Nat) (a_t : Nat) : ConE l D cy g yX10_init cX10_init 1 none 2 35 2 2 [.ref a_t] [(a_t, .inr (6, [.null, .int 0, .int 0]))] (fun u => [(a_t, .inr (6, [.ref (u 0 0), .int 0, .int 0]))]) (fun u => [((u 0 0), .inr (3, [.ref (u 1 0), .int 0])), ((u 1 0), .inl (cy 0, 0, .inl (fun _ => 0)))]) (fun _ => none) := by
  refine ConE.of (by decide +kernel) (Nat.le_of_ble_eq_true rfl) ?_
  intro p e RM s m ar below meth c A Qc ls hx hb hr hml hown hlocks hnm ht hK hY hP hD hS hA hA9 hR hC hQc hl
  have hown : s.vm.findClass RX10 = some m.cls := hown
  have hl : lv_has ls 1 [(0, .ref a_t)] := hl
  refine lv_aload_n hx hb dX10_init_0 rfl (lv_at hl 0 rfl) ?_
  refine k_obj hx hb hml hown ht hR hl q_189 q_85 q_86 ⟨Nat.le_of_ble_eq_true rfl, Nat.le_of_ble_eq_true rfl⟩ dX10_init_1 ?_
  refine lv_aload_n hx hb dX10_init_4 rfl (lv_at hl 0 rfl) ?_
  refine k_new (wa := [(a_t, .inr (6, [.null, .int 0, .int 0]))]) (wb := ([] : va_W)) (C := RX6) (T := TX6) (N := 2) (ci := 3) (fs := [.null, .int 0]) hx hb ht in_RX6 tyX6 tyX6_ok hown q_190 q_94 q_45 hK hP hD hS hA hR rfl df_X6 ⟨Nat.le_of_ble_eq_true rfl, Nat.le_of_ble_eq_true rfl⟩ dX10_init_5 (fun q_1 H hP hD hS => ?_)
  have hP : va_P D classes [(a_t, .inr (6, [.null, .int 0, .int 0])), (q_1, .inr (3, [.null, .int 0]))] H := hP
  have hD : va_D A [(a_t, .inr (6, [.null, .int 0, .int 0])), (q_1, .inr (3, [.null, .int 0]))] := hD
  refine lv_dup hx hb dX10_init_8 rfl ?_
  refine lv_iconst (v := 0) hx hb dX10_init_9 (by decide) ?_
  refine k_IE (as := [.int 0]) (rest := [.ref q_1, .ref a_t]) (wa := (fun u_2 => [(a_t, .inr (6, [.null, .int 0, .int 0])), (q_1, .inr (3, [.ref (u_2 0 0), .int 0]))])) (wb := fun _ => ([] : va_W)) hx hb hml hown ht hK hY hP hD hS hA hC hR hl (kcX6_init_0 l D cy g q_1) [1] q_191 q_96 q_45 q_97 hyX6_init rfl ⟨Nat.le_of_ble_eq_true rfl, Nat.le_of_ble_eq_true rfl, Nat.le_of_ble_eq_true rfl, Nat.le_of_ble_eq_true rfl⟩ rfl rfl (fun _ => rfl) rfl (Nat.le_of_ble_eq_true rfl) dX10_init_10 (fun _ => rfl) (fun u_2 H locs hP hD hS => ?_)
  have hP : va_P D classes [(a_t, .inr (6, [.null, .int 0, .int 0])), (q_1, .inr (3, [.ref (u_2 0 0), .int 0])), ((u_2 0 0), .inl (cy 0, 0, .inl (fun _ => 0)))] H := hP
  have hD : va_D A [(a_t, .inr (6, [.null, .int 0, .int 0])), (q_1, .inr (3, [.ref (u_2 0 0), .int 0])), ((u_2 0 0), .inl (cy 0, 0, .inl (fun _ => 0)))] := hD
  refine va_put (D := D) (cl := classes) (ci := 6) (v := .ref q_1) (ty := .object "RadixDesk$Row") (C := RX10) (T := TX10) (N := 3) hx hb ht in_RX10 tyX10 tyX10_ok nmX10 hown hK.1 hP hD hS 0 rfl rfl 0 (by decide) (ht _ q_192) (fun _ h9 => h9) rfl (by decide +kernel) rfl rfl (Nat.le_of_ble_eq_true rfl) dX10_init_13 (fun H locs hP hD hS => ?_)
  have hP : va_P D classes [(a_t, .inr (6, [.ref q_1, .int 0, .int 0])), (q_1, .inr (3, [.ref (u_2 0 0), .int 0])), ((u_2 0 0), .inl (cy 0, 0, .inl (fun _ => 0)))] H := hP
  have hD : va_D A [(a_t, .inr (6, [.ref q_1, .int 0, .int 0])), (q_1, .inr (3, [.ref (u_2 0 0), .int 0])), ((u_2 0 0), .inl (cy 0, 0, .inl (fun _ => 0)))] := hD
  exact k_vretE (w0 := [(a_t, .inr (6, [.null, .int 0, .int 0]))]) hx hb hr hlocks hQc hA9 hP hD hS (fun n9 => ([(fun _ => q_1), (u_2 0)] : List (Nat → Nat)).getD n9 (fun _ => 0)) rfl rfl (fun _ => rfl) dX10_init_16
theorem dX8_init_0 : decode cX8_init 0 = .ok (.aload_n 0, 1) := by decide +kernel
theorem dX8_init_1 : decode cX8_init 1 = .ok (.invokespecial 3, 3) := by decide +kernel
theorem dX8_init_4 : decode cX8_init 4 = .ok (.aload_n 0, 1) := by decide +kernel
theorem dX8_init_5 : decode cX8_init 5 = .ok (.new 9, 3) := by decide +kernel
theorem dX8_init_8 : decode cX8_init 8 = .ok (.dup, 1) := by decide +kernel
theorem dX8_init_9 : decode cX8_init 9 = .ok (.bipush 65, 2) := by decide +kernel
theorem dX8_init_11 : decode cX8_init 11 = .ok (.invokespecial 11, 3) := by decide +kernel
theorem dX8_init_14 : decode cX8_init 14 = .ok (.putfield 14, 3) := by decide +kernel
theorem dX8_init_17 : decode cX8_init 17 = .ok (.aload_n 0, 1) := by decide +kernel
theorem dX8_init_18 : decode cX8_init 18 = .ok (.new 20, 3) := by decide +kernel
theorem dX8_init_21 : decode cX8_init 21 = .ok (.dup, 1) := by decide +kernel
theorem dX8_init_22 : decode cX8_init 22 = .ok (.invokespecial 22, 3) := by decide +kernel
theorem dX8_init_25 : decode cX8_init 25 = .ok (.putfield 23, 3) := by decide +kernel
theorem dX8_init_28 : decode cX8_init 28 = .ok (.return_, 1) := by decide +kernel
set_option maxHeartbeats 4000000 in
set_option maxRecDepth 100000 in
theorem kcX8_init (l : Launch) (D : va_G) (cy : Nat → ClassId) (g : Nat → Nat) (a_t : Nat) : ConE l D cy g yX8_init cX8_init 1 none 2 35 3 68 [.ref a_t] [(a_t, .inr (5, [.null, .null]))] (fun u => [(a_t, .inr (5, [.ref (u 0 0), .ref (u 2 0)]))]) (fun u => [((u 0 0), .inr (3, [.ref (u 1 0), .int 0])), ((u 1 0), .inl (cy 0, 65, .inl (fun _ => 0))), ((u 2 0), .inr (2, [.long 0]))]) (fun _ => none) := by
  refine ConE.of (by decide +kernel) (Nat.le_of_ble_eq_true rfl) ?_
  intro p e RM s m ar below meth c A Qc ls hx hb hr hml hown hlocks hnm ht hK hY hP hD hS hA hA9 hR hC hQc hl
  have hown : s.vm.findClass RX8 = some m.cls := hown
  have hl : lv_has ls 1 [(0, .ref a_t)] := hl
  refine lv_aload_n hx hb dX8_init_0 rfl (lv_at hl 0 rfl) ?_
  refine k_obj hx hb hml hown ht hR hl q_243 q_85 q_86 ⟨Nat.le_of_ble_eq_true rfl, Nat.le_of_ble_eq_true rfl⟩ dX8_init_1 ?_
  refine lv_aload_n hx hb dX8_init_4 rfl (lv_at hl 0 rfl) ?_
  refine k_new (wa := [(a_t, .inr (5, [.null, .null]))]) (wb := ([] : va_W)) (C := RX6) (T := TX6) (N := 2) (ci := 3) (fs := [.null, .int 0]) hx hb ht in_RX6 tyX6 tyX6_ok hown q_244 q_94 q_45 hK hP hD hS hA hR rfl df_X6 ⟨Nat.le_of_ble_eq_true rfl, Nat.le_of_ble_eq_true rfl⟩ dX8_init_5 (fun q_1 H hP hD hS => ?_)
  have hP : va_P D classes [(a_t, .inr (5, [.null, .null])), (q_1, .inr (3, [.null, .int 0]))] H := hP
  have hD : va_D A [(a_t, .inr (5, [.null, .null])), (q_1, .inr (3, [.null, .int 0]))] := hD
  refine lv_dup hx hb dX8_init_8 rfl ?_
  refine lv_bipush (v := 65) hx hb dX8_init_9 (by decide) ?_
  refine k_IE (as := [.int 65]) (rest := [.ref q_1, .ref a_t]) (wa := (fun u_2 => [(a_t, .inr (5, [.null, .null])), (q_1, .inr (3, [.ref (u_2 0 0), .int 0]))])) (wb := fun _ => ([] : va_W)) hx hb hml hown ht hK hY hP hD hS hA hC hR hl (kcX6_init_65 l D cy g q_1) [1] q_245 q_96 q_45 q_97 hyX6_init rfl ⟨Nat.le_of_ble_eq_true rfl, Nat.le_of_ble_eq_true rfl, Nat.le_of_ble_eq_true rfl, Nat.le_of_ble_eq_true rfl⟩ rfl rfl (fun _ => rfl) rfl (Nat.le_of_ble_eq_true rfl) dX8_init_11 (fun _ => rfl) (fun u_2 H locs hP hD hS => ?_)
  have hP : va_P D classes [(a_t, .inr (5, [.null, .null])), (q_1, .inr (3, [.ref (u_2 0 0), .int 0])), ((u_2 0 0), .inl (cy 0, 65, .inl (fun _ => 0)))] H := hP
  have hD : va_D A [(a_t, .inr (5, [.null, .null])), (q_1, .inr (3, [.ref (u_2 0 0), .int 0])), ((u_2 0 0), .inl (cy 0, 65, .inl (fun _ => 0)))] := hD
  refine va_putF (D := D) (cl := classes) (ci := 5) (v := .ref q_1) (ty := .object "RadixDesk$Row") (C := RX8) (T := TX8) (N := 2) hx hb ht in_RX8 tyX8 tyX8_ok nmX8 hown hK.1 hP hD hS 0 rfl rfl 0 (by decide) (ht _ q_248) (fun _ h9 => h9) rfl hnm rfl (by decide +kernel) rfl rfl (Nat.le_of_ble_eq_true rfl) dX8_init_14 (fun H locs hP hD hS => ?_)
  have hP : va_P D classes [(a_t, .inr (5, [.ref q_1, .null])), (q_1, .inr (3, [.ref (u_2 0 0), .int 0])), ((u_2 0 0), .inl (cy 0, 65, .inl (fun _ => 0)))] H := hP
  have hD : va_D A [(a_t, .inr (5, [.ref q_1, .null])), (q_1, .inr (3, [.ref (u_2 0 0), .int 0])), ((u_2 0 0), .inl (cy 0, 65, .inl (fun _ => 0)))] := hD
  refine lv_aload_n hx hb dX8_init_17 rfl (lv_at hl 0 rfl) ?_
  refine k_new (wa := [(a_t, .inr (5, [.ref q_1, .null])), (q_1, .inr (3, [.ref (u_2 0 0), .int 0])), ((u_2 0 0), .inl (cy 0, 65, .inl (fun _ => 0)))]) (wb := ([] : va_W)) (C := RX5) (T := TX5) (N := 1) (ci := 2) (fs := [.long 0]) hx hb ht in_RX5 tyX5 tyX5_ok hown q_246 q_112 q_47 hK hP hD hS hA hR rfl df_X5 ⟨Nat.le_of_ble_eq_true rfl, Nat.le_of_ble_eq_true rfl⟩ dX8_init_18 (fun q_3 H hP hD hS => ?_)
  have hP : va_P D classes [(a_t, .inr (5, [.ref q_1, .null])), (q_1, .inr (3, [.ref (u_2 0 0), .int 0])), ((u_2 0 0), .inl (cy 0, 65, .inl (fun _ => 0))), (q_3, .inr (2, [.long 0]))] H := hP
  have hD : va_D A [(a_t, .inr (5, [.ref q_1, .null])), (q_1, .inr (3, [.ref (u_2 0 0), .int 0])), ((u_2 0 0), .inl (cy 0, 65, .inl (fun _ => 0))), (q_3, .inr (2, [.long 0]))] := hD
  refine lv_dup hx hb dX8_init_21 rfl ?_
  refine k_IEN (as := []) (rest := [.ref q_3, .ref a_t]) (wa := (fun u_4 => [(a_t, .inr (5, [.ref q_1, .null])), (q_1, .inr (3, [.ref (u_2 0 0), .int 0])), ((u_2 0 0), .inl (cy 0, 65, .inl (fun _ => 0))), (q_3, .inr (2, [.long 0]))])) (wb := fun _ => ([] : va_W)) hx hb hml hown ht hK hY hP hD hS hA hC hR hl (kcX5_init l D cy g q_3) [3] qn_205 q_114 q_47 q_115 hyX5_init rfl ⟨Nat.le_of_ble_eq_true rfl, Nat.le_of_ble_eq_true rfl, Nat.le_of_ble_eq_true rfl, Nat.le_of_ble_eq_true rfl⟩ rfl rfl (fun _ => rfl) rfl (Nat.le_of_ble_eq_true rfl) dX8_init_22 (fun _ => rfl) (fun u_4 H locs hP hD hS => ?_)
  have hP : va_P D classes [(a_t, .inr (5, [.ref q_1, .null])), (q_1, .inr (3, [.ref (u_2 0 0), .int 0])), ((u_2 0 0), .inl (cy 0, 65, .inl (fun _ => 0))), (q_3, .inr (2, [.long 0]))] H := hP
  have hD : va_D A [(a_t, .inr (5, [.ref q_1, .null])), (q_1, .inr (3, [.ref (u_2 0 0), .int 0])), ((u_2 0 0), .inl (cy 0, 65, .inl (fun _ => 0))), (q_3, .inr (2, [.long 0]))] := hD
  refine va_putF (D := D) (cl := classes) (ci := 5) (v := .ref q_3) (ty := .object "RadixDesk$Reader") (C := RX8) (T := TX8) (N := 2) hx hb ht in_RX8 tyX8 tyX8_ok nmX8 hown hK.1 hP hD hS 0 rfl rfl 1 (by decide) (ht _ q_249) (fun _ h9 => h9) rfl hnm rfl (by decide +kernel) rfl rfl (Nat.le_of_ble_eq_true rfl) dX8_init_25 (fun H locs hP hD hS => ?_)
  have hP : va_P D classes [(a_t, .inr (5, [.ref q_1, .ref q_3])), (q_1, .inr (3, [.ref (u_2 0 0), .int 0])), ((u_2 0 0), .inl (cy 0, 65, .inl (fun _ => 0))), (q_3, .inr (2, [.long 0]))] H := hP
  have hD : va_D A [(a_t, .inr (5, [.ref q_1, .ref q_3])), (q_1, .inr (3, [.ref (u_2 0 0), .int 0])), ((u_2 0 0), .inl (cy 0, 65, .inl (fun _ => 0))), (q_3, .inr (2, [.long 0]))] := hD
  exact k_vretE (w0 := [(a_t, .inr (5, [.null, .null]))]) hx hb hr hlocks hQc hA9 hP hD hS (fun n9 => ([(fun _ => q_1), (u_2 0), (fun _ => q_3)] : List (Nat → Nat)).getD n9 (fun _ => 0)) rfl rfl (fun _ => rfl) dX8_init_28
