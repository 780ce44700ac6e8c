theorem q_20 : Cond.selects yX12_multiplies.cls yX12_multiplies yX12_multiplies ∈ LW := LW_of 20 (by decide +kernel) rfl
theorem q_1256 : Cond.fieldLink RX12 23 "RadixDeskModel$Desk" "found" "[Z" ∈ LW := LW_of 1256 (by decide +kernel) rfl
theorem q_1259 : Cond.fieldLink RX12 30 "RadixDeskModel$Desk" "other" "[Z" ∈ LW := LW_of 1259 (by decide +kernel) rfl
theorem q_1261 : Cond.fieldLink RX12 36 "RadixDeskModel$Desk" "rest" "[Z" ∈ LW := LW_of 1261 (by decide +kernel) rfl
theorem q_1413 : Cond.instanceMethod yX12_reads ∈ LW := LW_of 1413 (by decide +kernel) rfl
theorem q_1414 : Cond.selects yX12_reads.cls yX12_reads yX12_reads ∈ LW := LW_of 1414 (by decide +kernel) rfl
theorem q_1415 : Cond.code yX12_reads cX12_reads 10 (some .boolean) ∈ LW := LW_of 1415 (by decide +kernel) rfl
theorem q_1416 : Cond.methodLink RX12 115 yX12_finds ∈ LW := LW_of 1416 (by decide +kernel) rfl
theorem q_1417 : Cond.instanceMethod yX12_finds ∈ LW := LW_of 1417 (by decide +kernel) rfl
theorem q_1418 : Cond.selects yX12_finds.cls yX12_finds yX12_finds ∈ LW := LW_of 1418 (by decide +kernel) rfl
theorem q_1419 : Cond.code yX12_finds cX12_finds 14 (some .boolean) ∈ LW := LW_of 1419 (by decide +kernel) rfl
theorem q_1425 : Cond.static yX13_digitOf ∈ LW := LW_of 1425 (by decide +kernel) rfl
theorem q_1426 : Cond.code yX13_digitOf cX13_digitOf 1 (some .int) ∈ LW := LW_of 1426 (by decide +kernel) rfl
theorem q_1488 : Cond.methodLink RX12 119 yX12_reads ∈ LW := LW_of 1488 (by decide +kernel) rfl
theorem q_1523 : Cond.instanceMethod yX12_alike ∈ LW := LW_of 1523 (by decide +kernel) rfl
theorem q_1524 : Cond.selects yX12_alike.cls yX12_alike yX12_alike ∈ LW := LW_of 1524 (by decide +kernel) rfl
theorem q_1525 : Cond.code yX12_alike cX12_alike 5 (some .int) ∈ LW := LW_of 1525 (by decide +kernel) rfl
theorem q_1575 : Cond.methodLink RX12 123 yX12_alike ∈ LW := LW_of 1575 (by decide +kernel) rfl
theorem q_1597 : Cond.static yX13_adds ∈ LW := LW_of 1597 (by decide +kernel) rfl
theorem q_1598 : Cond.code yX13_adds cX13_adds 8 none ∈ LW := LW_of 1598 (by decide +kernel) rfl
theorem q_1599 : Cond.methodLink RX12 131 yX12_multiplies ∈ LW := LW_of 1599 (by decide +kernel) rfl
theorem q_1601 : Cond.instanceMethod yX12_multiplies ∈ LW := LW_of 1601 (by decide +kernel) rfl
theorem q_1602 : Cond.code yX12_multiplies cX12_multiplies 5 none ∈ LW := LW_of 1602 (by decide +kernel) rfl
theorem q_1612 : Cond.static yX13_compared ∈ LW := LW_of 1612 (by decide +kernel) rfl
theorem q_1613 : Cond.code yX13_compared cX13_compared 4 (some .int) ∈ LW := LW_of 1613 (by decide +kernel) rfl
theorem qn_1382 : Cond.methodLinkNest RX12 112 yX13_digitOf "RadixDeskModel" ∈ NW := NW_of 1382 (by decide +kernel) rfl
theorem qn_1554 : Cond.methodLinkNest RX12 127 yX13_adds "RadixDeskModel" ∈ NW := NW_of 1554 (by decide +kernel) rfl
theorem qn_1569 : Cond.methodLinkNest RX12 135 yX13_compared "RadixDeskModel" ∈ NW := NW_of 1569 (by decide +kernel) rfl
theorem hyX12_alike : yX12_alike.cls ≠ "java/lang/invoke/MethodHandle" ∧ yX12_alike.cls ≠ "java/lang/invoke/VarHandle" ∧ (parseMethodDescriptor yX12_alike.desc).map (fun d => d.parameters.length) = some 3 := by decide +kernel
theorem hyX12_finds : yX12_finds.cls ≠ "java/lang/invoke/MethodHandle" ∧ yX12_finds.cls ≠ "java/lang/invoke/VarHandle" ∧ (parseMethodDescriptor yX12_finds.desc).map (fun d => d.parameters.length) = some 6 := by decide +kernel
theorem hyX12_multiplies : yX12_multiplies.cls ≠ "java/lang/invoke/MethodHandle" ∧ yX12_multiplies.cls ≠ "java/lang/invoke/VarHandle" ∧ (parseMethodDescriptor yX12_multiplies.desc).map (fun d => d.parameters.length) = some 2 := by decide +kernel
theorem hyX12_reads : yX12_reads.cls ≠ "java/lang/invoke/MethodHandle" ∧ yX12_reads.cls ≠ "java/lang/invoke/VarHandle" ∧ (parseMethodDescriptor yX12_reads.desc).map (fun d => d.parameters.length) = some 6 := by decide +kernel
theorem hyX13_adds : yX13_adds.cls ≠ "java/lang/invoke/MethodHandle" ∧ yX13_adds.cls ≠ "java/lang/invoke/VarHandle" ∧ (parseMethodDescriptor yX13_adds.desc).map (fun d => d.parameters.length) = some 4 := by decide +kernel
theorem hyX13_compared : yX13_compared.cls ≠ "java/lang/invoke/MethodHandle" ∧ yX13_compared.cls ≠ "java/lang/invoke/VarHandle" ∧ (parseMethodDescriptor yX13_compared.desc).map (fun d => d.parameters.length) = some 3 := by decide +kernel
theorem hyX13_digitOf : yX13_digitOf.cls ≠ "java/lang/invoke/MethodHandle" ∧ yX13_digitOf.cls ≠ "java/lang/invoke/VarHandle" ∧ (parseMethodDescriptor yX13_digitOf.desc).map (fun d => d.parameters.length) = some 1 := by decide +kernel
theorem dX12_finds_0 : decode cX12_finds 0 = .ok (.iload_n 2, 1) := by decide +kernel
theorem dX12_finds_1 : decode cX12_finds 1 = .ok (.iload_n 3, 1) := by decide +kernel
theorem dX12_finds_2 : decode cX12_finds 2 = .ok (.if_icmp .ge 15, 3) := by decide +kernel
theorem dX12_finds_5 : decode cX12_finds 5 = .ok (.aload_n 1, 1) := by decide +kernel
theorem dX12_finds_6 : decode cX12_finds 6 = .ok (.iload_n 2, 1) := by decide +kernel
theorem dX12_finds_7 : decode cX12_finds 7 = .ok (.iaload, 1) := by decide +kernel
theorem dX12_finds_8 : decode cX12_finds 8 = .ok (.bipush 45, 2) := by decide +kernel
theorem dX12_finds_10 : decode cX12_finds 10 = .ok (.if_icmp .ne 7, 3) := by decide +kernel
theorem dX12_finds_13 : decode cX12_finds 13 = .ok (.iconst 1, 1) := by decide +kernel
theorem dX12_finds_14 : decode cX12_finds 14 = .ok (.goto 4, 3) := by decide +kernel
theorem dX12_finds_17 : decode cX12_finds 17 = .ok (.iconst 0, 1) := by decide +kernel
theorem dX12_finds_18 : decode cX12_finds 18 = .ok (.istore 7, 2) := by decide +kernel
theorem dX12_finds_20 : decode cX12_finds 20 = .ok (.iload 7, 2) := by decide +kernel
theorem dX12_finds_22 : decode cX12_finds 22 = .ok (.ifCond .ne 16, 3) := by decide +kernel
theorem dX12_finds_25 : decode cX12_finds 25 = .ok (.iload_n 2, 1) := by decide +kernel
theorem dX12_finds_26 : decode cX12_finds 26 = .ok (.iload_n 3, 1) := by decide +kernel
theorem dX12_finds_27 : decode cX12_finds 27 = .ok (.if_icmp .ge 15, 3) := by decide +kernel
theorem dX12_finds_30 : decode cX12_finds 30 = .ok (.aload_n 1, 1) := by decide +kernel
theorem dX12_finds_31 : decode cX12_finds 31 = .ok (.iload_n 2, 1) := by decide +kernel
theorem dX12_finds_32 : decode cX12_finds 32 = .ok (.iaload, 1) := by decide +kernel
theorem dX12_finds_33 : decode cX12_finds 33 = .ok (.bipush 43, 2) := by decide +kernel
theorem dX12_finds_35 : decode cX12_finds 35 = .ok (.if_icmp .ne 7, 3) := by decide +kernel
theorem dX12_finds_38 : decode cX12_finds 38 = .ok (.iconst 1, 1) := by decide +kernel
theorem dX12_finds_39 : decode cX12_finds 39 = .ok (.goto 4, 3) := by decide +kernel
theorem dX12_finds_42 : decode cX12_finds 42 = .ok (.iconst 0, 1) := by decide +kernel
theorem dX12_finds_43 : decode cX12_finds 43 = .ok (.istore 8, 2) := by decide +kernel
theorem dX12_finds_45 : decode cX12_finds 45 = .ok (.iload 8, 2) := by decide +kernel
theorem dX12_finds_47 : decode cX12_finds 47 = .ok (.ifCond .eq 9, 3) := by decide +kernel
theorem dX12_finds_50 : decode cX12_finds 50 = .ok (.iload_n 2, 1) := by decide +kernel
theorem dX12_finds_51 : decode cX12_finds 51 = .ok (.iconst 1, 1) := by decide +kernel
theorem dX12_finds_52 : decode cX12_finds 52 = .ok (.iadd, 1) := by decide +kernel
theorem dX12_finds_53 : decode cX12_finds 53 = .ok (.goto 4, 3) := by decide +kernel
theorem dX12_finds_56 : decode cX12_finds 56 = .ok (.iload_n 2, 1) := by decide +kernel
theorem dX12_finds_57 : decode cX12_finds 57 = .ok (.istore 9, 2) := by decide +kernel
theorem dX12_finds_59 : decode cX12_finds 59 = .ok (.iload 4, 2) := by decide +kernel
theorem dX12_finds_61 : decode cX12_finds 61 = .ok (.iconst 2, 1) := by decide +kernel
theorem dX12_finds_62 : decode cX12_finds 62 = .ok (.bipush 36, 2) := by decide +kernel
theorem dX12_finds_64 : decode cX12_finds 64 = .ok (.invokestatic 87, 3) := by decide +kernel
theorem dX12_finds_67 : decode cX12_finds 67 = .ok (.ifCond .eq 19, 3) := by decide +kernel
theorem dX12_finds_70 : decode cX12_finds 70 = .ok (.iload 9, 2) := by decide +kernel
theorem dX12_finds_72 : decode cX12_finds 72 = .ok (.iload_n 3, 1) := by decide +kernel
theorem dX12_finds_73 : decode cX12_finds 73 = .ok (.if_icmp .eq 13, 3) := by decide +kernel
theorem dX12_finds_76 : decode cX12_finds 76 = .ok (.iload 7, 2) := by decide +kernel
theorem dX12_finds_78 : decode cX12_finds 78 = .ok (.ifCond .eq 10, 3) := by decide +kernel
theorem dX12_finds_81 : decode cX12_finds 81 = .ok (.iload 5, 2) := by decide +kernel
theorem dX12_finds_83 : decode cX12_finds 83 = .ok (.ifCond .eq 5, 3) := by decide +kernel
theorem dX12_finds_86 : decode cX12_finds 86 = .ok (.iconst 0, 1) := by decide +kernel
theorem dX12_finds_87 : decode cX12_finds 87 = .ok (.ireturn, 1) := by decide +kernel
theorem dX12_finds_88 : decode cX12_finds 88 = .ok (.aload_n 0, 1) := by decide +kernel
theorem dX12_finds_89 : decode cX12_finds 89 = .ok (.getfield 23, 3) := by decide +kernel
theorem dX12_finds_92 : decode cX12_finds 92 = .ok (.invokestatic 79, 3) := by decide +kernel
theorem dX12_finds_95 : decode cX12_finds 95 = .ok (.iconst 0, 1) := by decide +kernel
theorem dX12_finds_96 : decode cX12_finds 96 = .ok (.istore 10, 2) := by decide +kernel
theorem dX12_finds_98 : decode cX12_finds 98 = .ok (.iload 9, 2) := by decide +kernel
theorem dX12_finds_100 : decode cX12_finds 100 = .ok (.istore 11, 2) := by decide +kernel
theorem dX12_finds_102 : decode cX12_finds 102 = .ok (.iload 11, 2) := by decide +kernel
theorem dX12_finds_104 : decode cX12_finds 104 = .ok (.iload_n 3, 1) := by decide +kernel
theorem dX12_finds_105 : decode cX12_finds 105 = .ok (.if_icmp .ge 111, 3) := by decide +kernel
theorem dX12_finds_108 : decode cX12_finds 108 = .ok (.aload_n 1, 1) := by decide +kernel
theorem dX12_finds_109 : decode cX12_finds 109 = .ok (.iload 11, 2) := by decide +kernel
theorem dX12_finds_111 : decode cX12_finds 111 = .ok (.iaload, 1) := by decide +kernel
theorem dX12_finds_112 : decode cX12_finds 112 = .ok (.invokestatic 112, 3) := by decide +kernel
theorem dX12_finds_115 : decode cX12_finds 115 = .ok (.istore 12, 2) := by decide +kernel
theorem dX12_finds_117 : decode cX12_finds 117 = .ok (.iload 12, 2) := by decide +kernel
theorem dX12_finds_119 : decode cX12_finds 119 = .ok (.iconst 0, 1) := by decide +kernel
theorem dX12_finds_120 : decode cX12_finds 120 = .ok (.iload 4, 2) := by decide +kernel
theorem dX12_finds_122 : decode cX12_finds 122 = .ok (.iconst 1, 1) := by decide +kernel
theorem dX12_finds_123 : decode cX12_finds 123 = .ok (.isub, 1) := by decide +kernel
theorem dX12_finds_124 : decode cX12_finds 124 = .ok (.invokestatic 87, 3) := by decide +kernel
theorem dX12_finds_127 : decode cX12_finds 127 = .ok (.ifCond .ne 5, 3) := by decide +kernel
theorem dX12_finds_130 : decode cX12_finds 130 = .ok (.iconst 0, 1) := by decide +kernel
theorem dX12_finds_131 : decode cX12_finds 131 = .ok (.ireturn, 1) := by decide +kernel
theorem dX12_finds_132 : decode cX12_finds 132 = .ok (.iconst 0, 1) := by decide +kernel
theorem dX12_finds_133 : decode cX12_finds 133 = .ok (.istore 13, 2) := by decide +kernel
theorem dX12_finds_135 : decode cX12_finds 135 = .ok (.iload 13, 2) := by decide +kernel
theorem dX12_finds_137 : decode cX12_finds 137 = .ok (.iload 6, 2) := by decide +kernel
theorem dX12_finds_139 : decode cX12_finds 139 = .ok (.if_icmp .ge 56, 3) := by decide +kernel
theorem dX12_finds_142 : decode cX12_finds 142 = .ok (.iload 12, 2) := by decide +kernel
theorem dX12_finds_144 : decode cX12_finds 144 = .ok (.aload_n 0, 1) := by decide +kernel
theorem dX12_finds_145 : decode cX12_finds 145 = .ok (.getfield 23, 3) := by decide +kernel
theorem dX12_finds_148 : decode cX12_finds 148 = .ok (.iload 13, 2) := by decide +kernel
theorem dX12_finds_150 : decode cX12_finds 150 = .ok (.baload, 1) := by decide +kernel
theorem dX12_finds_151 : decode cX12_finds 151 = .ok (.ifCond .eq 8, 3) := by decide +kernel
theorem dX12_finds_154 : decode cX12_finds 154 = .ok (.iload 4, 2) := by decide +kernel
theorem dX12_finds_156 : decode cX12_finds 156 = .ok (.goto 4, 3) := by decide +kernel
theorem dX12_finds_159 : decode cX12_finds 159 = .ok (.iconst 0, 1) := by decide +kernel
theorem dX12_finds_160 : decode cX12_finds 160 = .ok (.iadd, 1) := by decide +kernel
theorem dX12_finds_161 : decode cX12_finds 161 = .ok (.istore 12, 2) := by decide +kernel
theorem dX12_finds_163 : decode cX12_finds 163 = .ok (.aload_n 0, 1) := by decide +kernel
theorem dX12_finds_164 : decode cX12_finds 164 = .ok (.getfield 23, 3) := by decide +kernel
theorem dX12_finds_167 : decode cX12_finds 167 = .ok (.iload 13, 2) := by decide +kernel
theorem dX12_finds_169 : decode cX12_finds 169 = .ok (.iload 12, 2) := by decide +kernel
theorem dX12_finds_171 : decode cX12_finds 171 = .ok (.iconst 2, 1) := by decide +kernel
theorem dX12_finds_172 : decode cX12_finds 172 = .ok (.irem, 1) := by decide +kernel
theorem dX12_finds_173 : decode cX12_finds 173 = .ok (.iconst 1, 1) := by decide +kernel
theorem dX12_finds_174 : decode cX12_finds 174 = .ok (.if_icmp .ne 7, 3) := by decide +kernel
theorem dX12_finds_177 : decode cX12_finds 177 = .ok (.iconst 1, 1) := by decide +kernel
theorem dX12_finds_178 : decode cX12_finds 178 = .ok (.goto 4, 3) := by decide +kernel
theorem dX12_finds_181 : decode cX12_finds 181 = .ok (.iconst 0, 1) := by decide +kernel
theorem dX12_finds_182 : decode cX12_finds 182 = .ok (.bastore, 1) := by decide +kernel
theorem dX12_finds_183 : decode cX12_finds 183 = .ok (.iload 12, 2) := by decide +kernel
theorem dX12_finds_185 : decode cX12_finds 185 = .ok (.iconst 2, 1) := by decide +kernel
theorem dX12_finds_186 : decode cX12_finds 186 = .ok (.idiv, 1) := by decide +kernel
theorem dX12_finds_187 : decode cX12_finds 187 = .ok (.istore 12, 2) := by decide +kernel
theorem dX12_finds_189 : decode cX12_finds 189 = .ok (.iinc 13 1, 3) := by decide +kernel
theorem dX12_finds_192 : decode cX12_finds 192 = .ok (.goto (-57), 3) := by decide +kernel
theorem dX12_finds_195 : decode cX12_finds 195 = .ok (.iload 10, 2) := by decide +kernel
theorem dX12_finds_197 : decode cX12_finds 197 = .ok (.iload 12, 2) := by decide +kernel
theorem dX12_finds_199 : decode cX12_finds 199 = .ok (.ifCond .le 7, 3) := by decide +kernel
theorem dX12_finds_202 : decode cX12_finds 202 = .ok (.iconst 1, 1) := by decide +kernel
theorem dX12_finds_203 : decode cX12_finds 203 = .ok (.goto 4, 3) := by decide +kernel
theorem dX12_finds_206 : decode cX12_finds 206 = .ok (.iconst 0, 1) := by decide +kernel
theorem dX12_finds_207 : decode cX12_finds 207 = .ok (.ior, 1) := by decide +kernel
theorem dX12_finds_208 : decode cX12_finds 208 = .ok (.istore 10, 2) := by decide +kernel
theorem dX12_finds_210 : decode cX12_finds 210 = .ok (.iinc 11 1, 3) := by decide +kernel
theorem dX12_finds_213 : decode cX12_finds 213 = .ok (.goto (-111), 3) := by decide +kernel
theorem dX12_finds_216 : decode cX12_finds 216 = .ok (.iload 7, 2) := by decide +kernel
theorem dX12_finds_218 : decode cX12_finds 218 = .ok (.ifCond .eq 21, 3) := by decide +kernel
theorem dX12_finds_221 : decode cX12_finds 221 = .ok (.aload_n 0, 1) := by decide +kernel
theorem dX12_finds_222 : decode cX12_finds 222 = .ok (.getfield 23, 3) := by decide +kernel
theorem dX12_finds_225 : decode cX12_finds 225 = .ok (.iload 6, 2) := by decide +kernel
theorem dX12_finds_227 : decode cX12_finds 227 = .ok (.iconst 1, 1) := by decide +kernel
theorem dX12_finds_228 : decode cX12_finds 228 = .ok (.isub, 1) := by decide +kernel
theorem dX12_finds_229 : decode cX12_finds 229 = .ok (.invokestatic 101, 3) := by decide +kernel
theorem dX12_finds_232 : decode cX12_finds 232 = .ok (.ifCond .eq 7, 3) := by decide +kernel
theorem dX12_finds_235 : decode cX12_finds 235 = .ok (.iconst 1, 1) := by decide +kernel
theorem dX12_finds_236 : decode cX12_finds 236 = .ok (.goto 4, 3) := by decide +kernel
theorem dX12_finds_239 : decode cX12_finds 239 = .ok (.iconst 0, 1) := by decide +kernel
theorem dX12_finds_240 : decode cX12_finds 240 = .ok (.istore 11, 2) := by decide +kernel
theorem dX12_finds_242 : decode cX12_finds 242 = .ok (.iload 10, 2) := by decide +kernel
theorem dX12_finds_244 : decode cX12_finds 244 = .ok (.ifCond .ne 25, 3) := by decide +kernel
theorem dX12_finds_247 : decode cX12_finds 247 = .ok (.iload 5, 2) := by decide +kernel
theorem dX12_finds_249 : decode cX12_finds 249 = .ok (.ifCond .ne 22, 3) := by decide +kernel
theorem dX12_finds_252 : decode cX12_finds 252 = .ok (.aload_n 0, 1) := by decide +kernel
theorem dX12_finds_253 : decode cX12_finds 253 = .ok (.getfield 23, 3) := by decide +kernel
theorem dX12_finds_256 : decode cX12_finds 256 = .ok (.iload 6, 2) := by decide +kernel
theorem dX12_finds_258 : decode cX12_finds 258 = .ok (.iconst 1, 1) := by decide +kernel
theorem dX12_finds_259 : decode cX12_finds 259 = .ok (.isub, 1) := by decide +kernel
theorem dX12_finds_260 : decode cX12_finds 260 = .ok (.baload, 1) := by decide +kernel
theorem dX12_finds_261 : decode cX12_finds 261 = .ok (.ifCond .eq 10, 3) := by decide +kernel
theorem dX12_finds_264 : decode cX12_finds 264 = .ok (.iload 11, 2) := by decide +kernel
theorem dX12_finds_266 : decode cX12_finds 266 = .ok (.ifCond .ne 5, 3) := by decide +kernel
theorem dX12_finds_269 : decode cX12_finds 269 = .ok (.iconst 0, 1) := by decide +kernel
theorem dX12_finds_270 : decode cX12_finds 270 = .ok (.ireturn, 1) := by decide +kernel
theorem dX12_finds_271 : decode cX12_finds 271 = .ok (.iload 7, 2) := by decide +kernel
theorem dX12_finds_273 : decode cX12_finds 273 = .ok (.ifCond .eq 12, 3) := by decide +kernel
theorem dX12_finds_276 : decode cX12_finds 276 = .ok (.aload_n 0, 1) := by decide +kernel
theorem dX12_finds_277 : decode cX12_finds 277 = .ok (.getfield 23, 3) := by decide +kernel
theorem dX12_finds_280 : decode cX12_finds 280 = .ok (.iload 6, 2) := by decide +kernel
theorem dX12_finds_282 : decode cX12_finds 282 = .ok (.invokestatic 83, 3) := by decide +kernel
theorem dX12_finds_285 : decode cX12_finds 285 = .ok (.iconst 1, 1) := by decide +kernel
theorem dX12_finds_286 : decode cX12_finds 286 = .ok (.ireturn, 1) := by decide +kernel
def mX12_finds_x_j271 (x_3 : Int32) (y_84 : Nat → Int32) (k : Nat) (p6 : Int32) : Option (Int32 × (Nat → Int32)) := (if x_3 = 0 then some (1, y_84) else ((mX13_negates k 64 y_84 p6).bind (fun r_95 => some (1, r_95))))
def mX12_finds_x_L135 (p6 : Int32) (p4 : Int32) : Nat → Int32 → Int32 → (Nat → Int32) → Option (Int32 × (Nat → Int32))
  | 0, _, _, _ => none
  | n_ + 1, y_118, y_119, y_120 => (if p6 ≤ y_119 then some (y_118, y_120) else (if y_119 < 0 ∨ 64 ≤ y_119.toNatClampNeg then none else (((if (y_120 y_119.toNatClampNeg) = 0 then some 0 else some p4) : Option (Int32)).bind (fun x_123 => ((some (y_118 + x_123) : Option Int32).bind (fun x_124 => (((if (x_124 - x_124 / 2 * 2) = 1 then some 1 else some 0) : Option (Int32)).bind (fun x_126 => (if y_119 < 0 ∨ 64 ≤ y_119.toNatClampNeg then none else (mX12_finds_x_L135 p6 p4 n_ (x_124 / 2) (y_119 + 1) (upd y_120 y_119.toNatClampNeg (vp_nar .boolean x_126))))))))))))
def mX12_finds_x_L102 (p3 : Int32) (x_3 : Int32) (k : Nat) (p6 : Int32) (p5 : Int32) (f_p1 : Nat → Int32) (p4 : Int32) : Nat → Int32 → Int32 → (Nat → Int32) → Option (Int32 × (Nat → Int32))
  | 0, _, _, _ => none
  | n_ + 1, y_82, y_83, y_84 => (if p3 ≤ y_83 then (((if x_3 = 0 then some 0 else ((mX13_isNothing k 64 y_84 (p6 - 1)).bind (fun r_98 => (if r_98 = 0 then some 0 else some 1)))) : Option (Int32)).bind (fun x_89 => (if y_82 = 0 then (if p5 = 0 then (if (p6 - 1) < 0 ∨ 64 ≤ (p6 - 1).toNatClampNeg then none else (if (y_84 (p6 - 1).toNatClampNeg) = 0 then (mX12_finds_x_j271 x_3 y_84 k p6) else (if x_89 = 0 then some (0, y_84) else (mX12_finds_x_j271 x_3 y_84 k p6)))) else (mX12_finds_x_j271 x_3 y_84 k p6)) else some (0, y_84)))) else (if y_83 < 0 ∨ 300 ≤ y_83.toNatClampNeg then none else ((mX13_digitOf (f_p1 y_83.toNatClampNeg)).bind (fun r_100 => ((mX13_in r_100 0 (p4 - 1)).bind (fun r_101 => (if r_101 = 0 then some (0, y_84) else ((mX12_finds_x_L135 p6 p4 k r_100 0 y_84).bind (fun r_127 => (((if r_127.1 ≤ 0 then some 0 else some 1) : Option (Int32)).bind (fun x_129 => ((some (y_82 ||| x_129) : Option Int32).bind (fun x_130 => (mX12_finds_x_L102 p3 x_3 k p6 p5 f_p1 p4 n_ x_130 (y_83 + 1) r_127.2))))))))))))))
def mX12_finds_x_j88 (k : Nat) (f_t_found : Nat → Int32) (p3 : Int32) (x_3 : Int32) (p6 : Int32) (p5 : Int32) (f_p1 : Nat → Int32) (p4 : Int32) (x_9 : Int32) : Option (Int32 × (Nat → Int32)) := ((mX13_clear k 64 f_t_found).bind (fun r_15 => (mX12_finds_x_L102 p3 x_3 k p6 p5 f_p1 p4 k 0 x_9 r_15)))
def mX12_finds_x (k : Nat) (f_t_found : Nat → Int32) (f_p1 : Nat → Int32) (p2 : Int32) (p3 : Int32) (p4 : Int32) (p5 : Int32) (p6 : Int32) : Option (Int32 × (Nat → Int32)) := (((if p3 ≤ p2 then some 0 else (if p2 < 0 ∨ 300 ≤ p2.toNatClampNeg then none else (if (f_p1 p2.toNatClampNeg) = 45 then some 1 else some 0))) : Option (Int32)).bind (fun x_3 => (((if x_3 = 0 then (if p3 ≤ p2 then some 0 else (if p2 < 0 ∨ 300 ≤ p2.toNatClampNeg then none else (if (f_p1 p2.toNatClampNeg) = 43 then some 1 else some 0))) else some 1) : Option (Int32)).bind (fun x_7 => (((if x_7 = 0 then some p2 else some (p2 + 1)) : Option (Int32)).bind (fun x_9 => ((mX13_in p4 2 36).bind (fun r_10 => (if r_10 = 0 then some (0, f_t_found) else (if x_9 = p3 then some (0, f_t_found) else (if x_3 = 0 then (mX12_finds_x_j88 k f_t_found p3 x_3 p6 p5 f_p1 p4 x_9) else (if p5 = 0 then (mX12_finds_x_j88 k f_t_found p3 x_3 p6 p5 f_p1 p4 x_9) else some (0, f_t_found)))))))))))))
set_option maxHeartbeats 4000000 in
set_option maxRecDepth 100000 in
theorem kcX12_finds_x (l : Launch) (D : va_G) (cy : Nat → ClassId) (g : Nat → Nat) (a_t : Nat) (a_t_cells : Nat) (a_t_page : Nat) (a_t_digits : Nat) (a_t_found : Nat) (a_t_one : Nat) (a_t_other : Nat) (a_t_sum : Nat) (a_t_rest : Nat) (a_p1 : Nat) (rw_t : Nat → Nat) (v_t_isWide : Int32) (B_t : Nat → Nat → Int32) (f_t_page : Nat → Int32) (v_t_pageMany : Int32) (f_t_digits : Nat → Int32) (v_t_many : Int32) (v_t_isMinus : Int32) (f_t_found : Nat → Int32) (f_t_one : Nat → Int32) (f_t_other : Nat → Int32) (f_t_sum : Nat → Int32) (f_t_rest : Nat → Int32) (f_p1 : Nat → Int32) (p2 : Int32) (p3 : Int32) (p4 : Int32) (p5 : Int32) (p6 : Int32) (k : Nat) (R : Int32 × (Nat → Int32)) (hm : mX12_finds_x k f_t_found f_p1 p2 p3 p4 p5 p6 = some R) : Con l D cy g yX12_finds cX12_finds 14 (some .boolean) 2 42 0 0 [.ref a_t, .ref a_p1, .int p2, .int p3, .int p4, .int p5, .int p6] (([(a_t, .inr (8, [.int v_t_isWide, .ref a_t_cells, .ref a_t_page, .int v_t_pageMany, .ref a_t_digits, .int v_t_many, .int v_t_isMinus, .ref a_t_found, .ref a_t_one, .ref a_t_other, .ref a_t_sum, .ref a_t_rest])), (a_t_cells, .inl (cy 5, 8, .inr (.inr (.inr (.inr (fun j => some (rw_t j))))))), (a_t_page, .inl (cy 0, 66, .inl f_t_page)), (a_t_digits, .inl (cy 0, 64, .inl f_t_digits)), (a_t_found, .inl (cy 2, 64, .inl f_t_found)), (a_t_one, .inl (cy 2, 65, .inl f_t_one)), (a_t_other, .inl (cy 2, 65, .inl f_t_other)), (a_t_sum, .inl (cy 2, 65, .inl f_t_sum)), (a_t_rest, .inl (cy 2, 65, .inl f_t_rest)), (a_p1, .inl (cy 0, 300, .inl f_p1))] : va_W) ++ (rowsW (cy 2) rw_t B_t ++ ([] : va_W))) (([(a_t, .inr (8, [.int v_t_isWide, .ref a_t_cells, .ref a_t_page, .int v_t_pageMany, .ref a_t_digits, .int v_t_many, .int v_t_isMinus, .ref a_t_found, .ref a_t_one, .ref a_t_other, .ref a_t_sum, .ref a_t_rest])), (a_t_cells, .inl (cy 5, 8, .inr (.inr (.inr (.inr (fun j => some (rw_t j))))))), (a_t_page, .inl (cy 0, 66, .inl f_t_page)), (a_t_digits, .inl (cy 0, 64, .inl f_t_digits)), (a_t_found, .inl (cy 2, 64, .inl R.2)), (a_t_one, .inl (cy 2, 65, .inl f_t_one)), (a_t_other, .inl (cy 2, 65, .inl f_t_other)), (a_t_sum, .inl (cy 2, 65, .inl f_t_sum)), (a_t_rest, .inl (cy 2, 65, .inl f_t_rest)), (a_p1, .inl (cy 0, 300, .inl f_p1))] : va_W) ++ (rowsW (cy 2) rw_t B_t ++ ([] : va_W))) (some (.int R.1)) := by
  refine Con.of (by decide +kernel) (Nat.le_of_ble_eq_true rfl) ?_
  intro p e RM s m ar below meth c A Qc ls hx hb hr hml hown hlocks hnm ht hK hP hD hS hA hR hC hQc hl
  have hown : s.vm.findClass RX12 = some m.cls := hown
  have hl : lv_has ls 14 [(0, .ref a_t), (1, .ref a_p1), (2, .int p2), (3, .int p3), (4, .int p4), (5, .int p5), (6, .int p6)] := hl
  rw [mX12_finds_x] at hm
  refine lv_iload_n hx hb dX12_finds_0 rfl (lv_at hl 2 rfl) ?_
  refine lv_iload_n hx hb dX12_finds_1 rfl (lv_at hl 3 rfl) ?_
  obtain ⟨x_3, hreg, hm⟩ := hm_b hm
  have J18 : ∀ (H : Heap) (locs : List Loc) (ls : Array Slot), va_P D classes (([(a_t, .inr (8, [.int v_t_isWide, .ref a_t_cells, .ref a_t_page, .int v_t_pageMany, .ref a_t_digits, .int v_t_many, .int v_t_isMinus, .ref a_t_found, .ref a_t_one, .ref a_t_other, .ref a_t_sum, .ref a_t_rest])), (a_t_cells, .inl (cy 5, 8, .inr (.inr (.inr (.inr (fun j => some (rw_t j))))))), (a_t_page, .inl (cy 0, 66, .inl f_t_page)), (a_t_digits, .inl (cy 0, 64, .inl f_t_digits)), (a_t_found, .inl (cy 2, 64, .inl f_t_found)), (a_t_one, .inl (cy 2, 65, .inl f_t_one)), (a_t_other, .inl (cy 2, 65, .inl f_t_other)), (a_t_sum, .inl (cy 2, 65, .inl f_t_sum)), (a_t_rest, .inl (cy 2, 65, .inl f_t_rest)), (a_p1, .inl (cy 0, 300, .inl f_p1))] : va_W) ++ (rowsW (cy 2) rw_t B_t ++ ([] : va_W))) H → va_D A (([(a_t, .inr (8, [.int v_t_isWide, .ref a_t_cells, .ref a_t_page, .int v_t_pageMany, .ref a_t_digits, .int v_t_many, .int v_t_isMinus, .ref a_t_found, .ref a_t_one, .ref a_t_other, .ref a_t_sum, .ref a_t_rest])), (a_t_cells, .inl (cy 5, 8, .inr (.inr (.inr (.inr (fun j => some (rw_t j))))))), (a_t_page, .inl (cy 0, 66, .inl f_t_page)), (a_t_digits, .inl (cy 0, 64, .inl f_t_digits)), (a_t_found, .inl (cy 2, 64, .inl f_t_found)), (a_t_one, .inl (cy 2, 65, .inl f_t_one)), (a_t_other, .inl (cy 2, 65, .inl f_t_other)), (a_t_sum, .inl (cy 2, 65, .inl f_t_sum)), (a_t_rest, .inl (cy 2, 65, .inl f_t_rest)), (a_p1, .inl (cy 0, 300, .inl f_p1))] : va_W) ++ (rowsW (cy 2) rw_t B_t ++ ([] : va_W))) → va_S A s.heap H locs → lv_has ls 14 [(0, .ref a_t), (1, .ref a_p1), (2, .int p2), (3, .int p3), (4, .int p4), (5, .int p5), (6, .int p6)] → W p l e RM s m ar below meth c H locs 0 0 (MQ below Qc ar s 0 0 A) (F0 m 18 ls [.int x_3]) := by
    intro H locs ls hP hD hS hl
    refine lv_istore (lv' := [(7, .int x_3), (0, .ref a_t), (1, .ref a_p1), (2, .int p2), (3, .int p3), (4, .int p4), (5, .int p5), (6, .int p6)]) hx hb dX12_finds_18 hl (by decide) rfl (fun ls hl => ?_)
    refine lv_iload hx hb dX12_finds_20 (lv_at hl 0 rfl) ?_
    obtain ⟨x_7, hreg, hm⟩ := hm_b hm
    have J43 : ∀ (H : Heap) (locs : List Loc) (ls : Array Slot), va_P D classes (([(a_t, .inr (8, [.int v_t_isWide, .ref a_t_cells, .ref a_t_page, .int v_t_pageMany, .ref a_t_digits, .int v_t_many, .int v_t_isMinus, .ref a_t_found, .ref a_t_one, .ref a_t_other, .ref a_t_sum, .ref a_t_rest])), (a_t_cells, .inl (cy 5, 8, .inr (.inr (.inr (.inr (fun j => some (rw_t j))))))), (a_t_page, .inl (cy 0, 66, .inl f_t_page)), (a_t_digits, .inl (cy 0, 64, .inl f_t_digits)), (a_t_found, .inl (cy 2, 64, .inl f_t_found)), (a_t_one, .inl (cy 2, 65, .inl f_t_one)), (a_t_other, .inl (cy 2, 65, .inl f_t_other)), (a_t_sum, .inl (cy 2, 65, .inl f_t_sum)), (a_t_rest, .inl (cy 2, 65, .inl f_t_rest)), (a_p1, .inl (cy 0, 300, .inl f_p1))] : va_W) ++ (rowsW (cy 2) rw_t B_t ++ ([] : va_W))) H → va_D A (([(a_t, .inr (8, [.int v_t_isWide, .ref a_t_cells, .ref a_t_page, .int v_t_pageMany, .ref a_t_digits, .int v_t_many, .int v_t_isMinus, .ref a_t_found, .ref a_t_one, .ref a_t_other, .ref a_t_sum, .ref a_t_rest])), (a_t_cells, .inl (cy 5, 8, .inr (.inr (.inr (.inr (fun j => some (rw_t j))))))), (a_t_page, .inl (cy 0, 66, .inl f_t_page)), (a_t_digits, .inl (cy 0, 64, .inl f_t_digits)), (a_t_found, .inl (cy 2, 64, .inl f_t_found)), (a_t_one, .inl (cy 2, 65, .inl f_t_one)), (a_t_other, .inl (cy 2, 65, .inl f_t_other)), (a_t_sum, .inl (cy 2, 65, .inl f_t_sum)), (a_t_rest, .inl (cy 2, 65, .inl f_t_rest)), (a_p1, .inl (cy 0, 300, .inl f_p1))] : va_W) ++ (rowsW (cy 2) rw_t B_t ++ ([] : va_W))) → va_S A s.heap H locs → lv_has ls 14 [(7, .int x_3), (0, .ref a_t), (1, .ref a_p1), (2, .int p2), (3, .int p3), (4, .int p4), (5, .int p5), (6, .int p6)] → W p l e RM s m ar below meth c H locs 0 0 (MQ below Qc ar s 0 0 A) (F0 m 43 ls [.int x_7]) := by
      intro H locs ls hP hD hS hl
      refine lv_istore (lv' := [(8, .int x_7), (7, .int x_3), (0, .ref a_t), (1, .ref a_p1), (2, .int p2), (3, .int p3), (4, .int p4), (5, .int p5), (6, .int p6)]) hx hb dX12_finds_43 hl (by decide) rfl (fun ls hl => ?_)
      refine lv_iload hx hb dX12_finds_45 (lv_at hl 0 rfl) ?_
      obtain ⟨x_9, hreg, hm⟩ := hm_b hm
      have J57 : ∀ (H : Heap) (locs : List Loc) (ls : Array Slot), va_P D classes (([(a_t, .inr (8, [.int v_t_isWide, .ref a_t_cells, .ref a_t_page, .int v_t_pageMany, .ref a_t_digits, .int v_t_many, .int v_t_isMinus, .ref a_t_found, .ref a_t_one, .ref a_t_other, .ref a_t_sum, .ref a_t_rest])), (a_t_cells, .inl (cy 5, 8, .inr (.inr (.inr (.inr (fun j => some (rw_t j))))))), (a_t_page, .inl (cy 0, 66, .inl f_t_page)), (a_t_digits, .inl (cy 0, 64, .inl f_t_digits)), (a_t_found, .inl (cy 2, 64, .inl f_t_found)), (a_t_one, .inl (cy 2, 65, .inl f_t_one)), (a_t_other, .inl (cy 2, 65, .inl f_t_other)), (a_t_sum, .inl (cy 2, 65, .inl f_t_sum)), (a_t_rest, .inl (cy 2, 65, .inl f_t_rest)), (a_p1, .inl (cy 0, 300, .inl f_p1))] : va_W) ++ (rowsW (cy 2) rw_t B_t ++ ([] : va_W))) H → va_D A (([(a_t, .inr (8, [.int v_t_isWide, .ref a_t_cells, .ref a_t_page, .int v_t_pageMany, .ref a_t_digits, .int v_t_many, .int v_t_isMinus, .ref a_t_found, .ref a_t_one, .ref a_t_other, .ref a_t_sum, .ref a_t_rest])), (a_t_cells, .inl (cy 5, 8, .inr (.inr (.inr (.inr (fun j => some (rw_t j))))))), (a_t_page, .inl (cy 0, 66, .inl f_t_page)), (a_t_digits, .inl (cy 0, 64, .inl f_t_digits)), (a_t_found, .inl (cy 2, 64, .inl f_t_found)), (a_t_one, .inl (cy 2, 65, .inl f_t_one)), (a_t_other, .inl (cy 2, 65, .inl f_t_other)), (a_t_sum, .inl (cy 2, 65, .inl f_t_sum)), (a_t_rest, .inl (cy 2, 65, .inl f_t_rest)), (a_p1, .inl (cy 0, 300, .inl f_p1))] : va_W) ++ (rowsW (cy 2) rw_t B_t ++ ([] : va_W))) → va_S A s.heap H locs → lv_has ls 14 [(7, .int x_3), (0, .ref a_t), (1, .ref a_p1), (3, .int p3), (4, .int p4), (5, .int p5), (6, .int p6)] → W p l e RM s m ar below meth c H locs 0 0 (MQ below Qc ar s 0 0 A) (F0 m 57 ls [.int x_9]) := by
        intro H locs ls hP hD hS hl
        refine lv_istore (lv' := [(9, .int x_9), (7, .int x_3), (0, .ref a_t), (1, .ref a_p1), (3, .int p3), (4, .int p4), (5, .int p5), (6, .int p6)]) hx hb dX12_finds_57 hl (by decide) rfl (fun ls hl => ?_)
        refine lv_iload hx hb dX12_finds_59 (lv_at hl 5 rfl) ?_
        refine lv_iconst (v := 2) hx hb dX12_finds_61 (by decide) ?_
        refine lv_bipush (v := 36) hx hb dX12_finds_62 (by decide) ?_
        obtain ⟨r_10, hr_10, hm⟩ := hm_b hm
        refine k_SN (as := [.int p4, .int 2, .int 36]) (rest := []) (ws' := (([(a_t, .inr (8, [.int v_t_isWide, .ref a_t_cells, .ref a_t_page, .int v_t_pageMany, .ref a_t_digits, .int v_t_many, .int v_t_isMinus, .ref a_t_found, .ref a_t_one, .ref a_t_other, .ref a_t_sum, .ref a_t_rest])), (a_t_cells, .inl (cy 5, 8, .inr (.inr (.inr (.inr (fun j => some (rw_t j))))))), (a_t_page, .inl (cy 0, 66, .inl f_t_page)), (a_t_digits, .inl (cy 0, 64, .inl f_t_digits)), (a_t_found, .inl (cy 2, 64, .inl f_t_found)), (a_t_one, .inl (cy 2, 65, .inl f_t_one)), (a_t_other, .inl (cy 2, 65, .inl f_t_other)), (a_t_sum, .inl (cy 2, 65, .inl f_t_sum)), (a_t_rest, .inl (cy 2, 65, .inl f_t_rest)), (a_p1, .inl (cy 0, 300, .inl f_p1))] : va_W) ++ (rowsW (cy 2) rw_t B_t ++ ([] : va_W)))) (st2 := [.int r_10]) hx hb hml hown ht hK hP hD hS hA hC hR hl (kcX13_in l D cy g p4 2 36 r_10 hr_10) [] qn_1378 q_1344 q_54 q_1345 hyX13_in ⟨Nat.le_of_ble_eq_true rfl, Nat.le_of_ble_eq_true rfl, Nat.le_of_ble_eq_true rfl, Nat.le_of_ble_eq_true rfl⟩ rfl (zq rfl) rfl rfl (Nat.le_of_ble_eq_true rfl) dX12_finds_64 (zqw (cx := []) rfl rfl) rfl (fun H locs hP hD hS => ?_)
        refine lv_if_eq (tgt := 86) hx hb dX12_finds_67 (by decide) (fun c_11 => ?_) (fun c_11 => ?_)
        · replace hm := hm_t c_11 hm
          refine lv_iconst (v := 0) hx hb dX12_finds_86 (by decide) ?_
          obtain rfl := Option.some.inj hm
          exact k_zret hx hb hr hlocks hQc rfl hP hS rfl rfl dX12_finds_87
        · replace hm := hm_f c_11 hm
          refine lv_iload hx hb dX12_finds_70 (lv_at hl 0 rfl) ?_
          refine lv_iload_n hx hb dX12_finds_72 rfl (lv_at hl 4 rfl) ?_
          refine lv_icmp_eq (tgt := 86) hx hb dX12_finds_73 (by decide) (fun c_12 => ?_) (fun c_12 => ?_)
          · replace hm := hm_t c_12 hm
            refine lv_iconst (v := 0) hx hb dX12_finds_86 (by decide) ?_
            obtain rfl := Option.some.inj hm
            exact k_zret hx hb hr hlocks hQc rfl hP hS rfl rfl dX12_finds_87
          · replace hm := hm_f c_12 hm
            refine lv_iload hx hb dX12_finds_76 (lv_at hl 1 rfl) ?_
            have J88 : ∀ (_ : Unit), mX12_finds_x_j88 k f_t_found p3 x_3 p6 p5 f_p1 p4 x_9 = some R → ∀ (H : Heap) (locs : List Loc) (ls : Array Slot), va_P D classes (([(a_t, .inr (8, [.int v_t_isWide, .ref a_t_cells, .ref a_t_page, .int v_t_pageMany, .ref a_t_digits, .int v_t_many, .int v_t_isMinus, .ref a_t_found, .ref a_t_one, .ref a_t_other, .ref a_t_sum, .ref a_t_rest])), (a_t_cells, .inl (cy 5, 8, .inr (.inr (.inr (.inr (fun j => some (rw_t j))))))), (a_t_page, .inl (cy 0, 66, .inl f_t_page)), (a_t_digits, .inl (cy 0, 64, .inl f_t_digits)), (a_t_found, .inl (cy 2, 64, .inl f_t_found)), (a_t_one, .inl (cy 2, 65, .inl f_t_one)), (a_t_other, .inl (cy 2, 65, .inl f_t_other)), (a_t_sum, .inl (cy 2, 65, .inl f_t_sum)), (a_t_rest, .inl (cy 2, 65, .inl f_t_rest)), (a_p1, .inl (cy 0, 300, .inl f_p1))] : va_W) ++ (rowsW (cy 2) rw_t B_t ++ ([] : va_W))) H → va_D A (([(a_t, .inr (8, [.int v_t_isWide, .ref a_t_cells, .ref a_t_page, .int v_t_pageMany, .ref a_t_digits, .int v_t_many, .int v_t_isMinus, .ref a_t_found, .ref a_t_one, .ref a_t_other, .ref a_t_sum, .ref a_t_rest])), (a_t_cells, .inl (cy 5, 8, .inr (.inr (.inr (.inr (fun j => some (rw_t j))))))), (a_t_page, .inl (cy 0, 66, .inl f_t_page)), (a_t_digits, .inl (cy 0, 64, .inl f_t_digits)), (a_t_found, .inl (cy 2, 64, .inl f_t_found)), (a_t_one, .inl (cy 2, 65, .inl f_t_one)), (a_t_other, .inl (cy 2, 65, .inl f_t_other)), (a_t_sum, .inl (cy 2, 65, .inl f_t_sum)), (a_t_rest, .inl (cy 2, 65, .inl f_t_rest)), (a_p1, .inl (cy 0, 300, .inl f_p1))] : va_W) ++ (rowsW (cy 2) rw_t B_t ++ ([] : va_W))) → va_S A s.heap H locs → lv_has ls 14 [(9, .int x_9), (7, .int x_3), (0, .ref a_t), (1, .ref a_p1), (3, .int p3), (4, .int p4), (5, .int p5), (6, .int p6)] → W p l e RM s m ar below meth c H locs 0 0 (MQ below Qc ar s 0 0 A) (F0 m 88 ls []) := by
              intro _ hm H locs ls hP hD hS hl
              rw [mX12_finds_x_j88] at hm
              refine lv_aload_n hx hb dX12_finds_88 rfl (lv_at hl 2 rfl) ?_
              refine va_get (D := D) (cl := classes) (ci := 8) (v := .ref a_t_found) (C := RX12) (T := TX12) (N := 12) hx hb ht in_RX12 hown hK.1 hP 0 rfl rfl 7 (by decide) (ht _ q_1256) (fun _ h9 => h9) rfl dX12_finds_89 ?_
              obtain ⟨r_15, hr_15, hm⟩ := hm_b hm
              refine k_SN (as := [.ref a_t_found]) (rest := []) (ws' := (([(a_t, .inr (8, [.int v_t_isWide, .ref a_t_cells, .ref a_t_page, .int v_t_pageMany, .ref a_t_digits, .int v_t_many, .int v_t_isMinus, .ref a_t_found, .ref a_t_one, .ref a_t_other, .ref a_t_sum, .ref a_t_rest])), (a_t_cells, .inl (cy 5, 8, .inr (.inr (.inr (.inr (fun j => some (rw_t j))))))), (a_t_page, .inl (cy 0, 66, .inl f_t_page)), (a_t_digits, .inl (cy 0, 64, .inl f_t_digits)), (a_t_found, .inl (cy 2, 64, .inl r_15)), (a_t_one, .inl (cy 2, 65, .inl f_t_one)), (a_t_other, .inl (cy 2, 65, .inl f_t_other)), (a_t_sum, .inl (cy 2, 65, .inl f_t_sum)), (a_t_rest, .inl (cy 2, 65, .inl f_t_rest)), (a_p1, .inl (cy 0, 300, .inl f_p1))] : va_W) ++ (rowsW (cy 2) rw_t B_t ++ ([] : va_W)))) (st2 := []) hx hb hml hown ht hK hP hD hS hA hC hR hl (kcX13_clear l D cy g a_t_found 64 f_t_found k r_15 hr_15) [4] qn_1379 q_1422 q_54 q_1423 hyX13_clear ⟨Nat.le_of_ble_eq_true rfl, Nat.le_of_ble_eq_true rfl, Nat.le_of_ble_eq_true rfl, Nat.le_of_ble_eq_true rfl⟩ rfl (zq rfl) rfl rfl (Nat.le_of_ble_eq_true rfl) dX12_finds_92 (zqw (cx := [(a_t_found, .inl (cy 2, 64, .inl f_t_found))]) rfl rfl) rfl (fun H locs hP hD hS => ?_)
              refine lv_iconst (v := 0) hx hb dX12_finds_95 (by decide) ?_
              refine lv_istore (lv' := [(10, .int 0), (9, .int x_9), (7, .int x_3), (0, .ref a_t), (1, .ref a_p1), (3, .int p3), (4, .int p4), (5, .int p5), (6, .int p6)]) hx hb dX12_finds_96 hl (by decide) rfl (fun ls hl => ?_)
              refine lv_iload hx hb dX12_finds_98 (lv_at hl 1 rfl) ?_
              refine lv_istore (lv' := [(11, .int x_9), (10, .int 0), (9, .int x_9), (7, .int x_3), (0, .ref a_t), (1, .ref a_p1), (3, .int p3), (4, .int p4), (5, .int p5), (6, .int p6)]) hx hb dX12_finds_100 hl (by decide) rfl (fun ls hl => ?_)
              have L102 : ∀ (n_ : Nat), ∀ (y_82 : Int32) (y_83 : Int32) (y_84 : Nat → Int32), mX12_finds_x_L102 p3 x_3 k p6 p5 f_p1 p4 n_ y_82 y_83 y_84 = some R → ∀ (H : Heap) (locs : List Loc) (ls : Array Slot), va_P D classes (([(a_t, .inr (8, [.int v_t_isWide, .ref a_t_cells, .ref a_t_page, .int v_t_pageMany, .ref a_t_digits, .int v_t_many, .int v_t_isMinus, .ref a_t_found, .ref a_t_one, .ref a_t_other, .ref a_t_sum, .ref a_t_rest])), (a_t_cells, .inl (cy 5, 8, .inr (.inr (.inr (.inr (fun j => some (rw_t j))))))), (a_t_page, .inl (cy 0, 66, .inl f_t_page)), (a_t_digits, .inl (cy 0, 64, .inl f_t_digits)), (a_t_found, .inl (cy 2, 64, .inl y_84)), (a_t_one, .inl (cy 2, 65, .inl f_t_one)), (a_t_other, .inl (cy 2, 65, .inl f_t_other)), (a_t_sum, .inl (cy 2, 65, .inl f_t_sum)), (a_t_rest, .inl (cy 2, 65, .inl f_t_rest)), (a_p1, .inl (cy 0, 300, .inl f_p1))] : va_W) ++ (rowsW (cy 2) rw_t B_t ++ ([] : va_W))) H → va_D A (([(a_t, .inr (8, [.int v_t_isWide, .ref a_t_cells, .ref a_t_page, .int v_t_pageMany, .ref a_t_digits, .int v_t_many, .int v_t_isMinus, .ref a_t_found, .ref a_t_one, .ref a_t_other, .ref a_t_sum, .ref a_t_rest])), (a_t_cells, .inl (cy 5, 8, .inr (.inr (.inr (.inr (fun j => some (rw_t j))))))), (a_t_page, .inl (cy 0, 66, .inl f_t_page)), (a_t_digits, .inl (cy 0, 64, .inl f_t_digits)), (a_t_found, .inl (cy 2, 64, .inl y_84)), (a_t_one, .inl (cy 2, 65, .inl f_t_one)), (a_t_other, .inl (cy 2, 65, .inl f_t_other)), (a_t_sum, .inl (cy 2, 65, .inl f_t_sum)), (a_t_rest, .inl (cy 2, 65, .inl f_t_rest)), (a_p1, .inl (cy 0, 300, .inl f_p1))] : va_W) ++ (rowsW (cy 2) rw_t B_t ++ ([] : va_W))) → va_S A s.heap H locs → lv_has ls 14 [(11, .int y_83), (10, .int y_82), (7, .int x_3), (0, .ref a_t), (1, .ref a_p1), (3, .int p3), (4, .int p4), (5, .int p5), (6, .int p6)] → W p l e RM s m ar below meth c H locs 0 0 (MQ below Qc ar s 0 0 A) (F0 m 102 ls []) := by
                intro n_
                induction n_ with
                | zero => intro y_82 y_83 y_84 hm; rw [mX12_finds_x_L102] at hm; cases hm
                | succ n_ ih =>
                  intro y_82 y_83 y_84 hm H locs ls hP hD hS hl
                  rw [mX12_finds_x_L102] at hm
                  refine lv_iload hx hb dX12_finds_102 (lv_at hl 0 rfl) ?_
                  refine lv_iload_n hx hb dX12_finds_104 rfl (lv_at hl 5 rfl) ?_
                  refine lv_icmp_ge (tgt := 216) hx hb dX12_finds_105 (by decide) (fun c_85 => ?_) (fun c_85 => ?_)
                  · replace hm := hm_t c_85 hm
                    refine lv_iload hx hb dX12_finds_216 (lv_at hl 2 rfl) ?_
                    obtain ⟨x_89, hreg, hm⟩ := hm_b hm
                    have J240 : ∀ (H : Heap) (locs : List Loc) (ls : Array Slot), va_P D classes (([(a_t, .inr (8, [.int v_t_isWide, .ref a_t_cells, .ref a_t_page, .int v_t_pageMany, .ref a_t_digits, .int v_t_many, .int v_t_isMinus, .ref a_t_found, .ref a_t_one, .ref a_t_other, .ref a_t_sum, .ref a_t_rest])), (a_t_cells, .inl (cy 5, 8, .inr (.inr (.inr (.inr (fun j => some (rw_t j))))))), (a_t_page, .inl (cy 0, 66, .inl f_t_page)), (a_t_digits, .inl (cy 0, 64, .inl f_t_digits)), (a_t_found, .inl (cy 2, 64, .inl y_84)), (a_t_one, .inl (cy 2, 65, .inl f_t_one)), (a_t_other, .inl (cy 2, 65, .inl f_t_other)), (a_t_sum, .inl (cy 2, 65, .inl f_t_sum)), (a_t_rest, .inl (cy 2, 65, .inl f_t_rest)), (a_p1, .inl (cy 0, 300, .inl f_p1))] : va_W) ++ (rowsW (cy 2) rw_t B_t ++ ([] : va_W))) H → va_D A (([(a_t, .inr (8, [.int v_t_isWide, .ref a_t_cells, .ref a_t_page, .int v_t_pageMany, .ref a_t_digits, .int v_t_many, .int v_t_isMinus, .ref a_t_found, .ref a_t_one, .ref a_t_other, .ref a_t_sum, .ref a_t_rest])), (a_t_cells, .inl (cy 5, 8, .inr (.inr (.inr (.inr (fun j => some (rw_t j))))))), (a_t_page, .inl (cy 0, 66, .inl f_t_page)), (a_t_digits, .inl (cy 0, 64, .inl f_t_digits)), (a_t_found, .inl (cy 2, 64, .inl y_84)), (a_t_one, .inl (cy 2, 65, .inl f_t_one)), (a_t_other, .inl (cy 2, 65, .inl f_t_other)), (a_t_sum, .inl (cy 2, 65, .inl f_t_sum)), (a_t_rest, .inl (cy 2, 65, .inl f_t_rest)), (a_p1, .inl (cy 0, 300, .inl f_p1))] : va_W) ++ (rowsW (cy 2) rw_t B_t ++ ([] : va_W))) → va_S A s.heap H locs → lv_has ls 14 [(10, .int y_82), (7, .int x_3), (0, .ref a_t), (5, .int p5), (6, .int p6)] → W p l e RM s m ar below meth c H locs 0 0 (MQ below Qc ar s 0 0 A) (F0 m 240 ls [.int x_89]) := by
                      intro H locs ls hP hD hS hl
                      refine lv_istore (lv' := [(11, .int x_89), (10, .int y_82), (7, .int x_3), (0, .ref a_t), (5, .int p5), (6, .int p6)]) hx hb dX12_finds_240 hl (by decide) rfl (fun ls hl => ?_)
                      refine lv_iload hx hb dX12_finds_242 (lv_at hl 1 rfl) ?_
                      refine lv_if_ne (tgt := 269) hx hb dX12_finds_244 (by decide) (fun c_90 => ?_) (fun c_90 => ?_)
                      · replace hm := hm_f c_90 hm
                        refine lv_iconst (v := 0) hx hb dX12_finds_269 (by decide) ?_
                        obtain rfl := Option.some.inj hm
                        exact k_zret hx hb hr hlocks hQc rfl hP hS rfl rfl dX12_finds_270
                      · replace hm := hm_t c_90 hm
                        refine lv_iload hx hb dX12_finds_247 (lv_at hl 4 rfl) ?_
                        have J271 : ∀ (_ : Unit), mX12_finds_x_j271 x_3 y_84 k p6 = some R → ∀ (H : Heap) (locs : List Loc) (ls : Array Slot), va_P D classes (([(a_t, .inr (8, [.int v_t_isWide, .ref a_t_cells, .ref a_t_page, .int v_t_pageMany, .ref a_t_digits, .int v_t_many, .int v_t_isMinus, .ref a_t_found, .ref a_t_one, .ref a_t_other, .ref a_t_sum, .ref a_t_rest])), (a_t_cells, .inl (cy 5, 8, .inr (.inr (.inr (.inr (fun j => some (rw_t j))))))), (a_t_page, .inl (cy 0, 66, .inl f_t_page)), (a_t_digits, .inl (cy 0, 64, .inl f_t_digits)), (a_t_found, .inl (cy 2, 64, .inl y_84)), (a_t_one, .inl (cy 2, 65, .inl f_t_one)), (a_t_other, .inl (cy 2, 65, .inl f_t_other)), (a_t_sum, .inl (cy 2, 65, .inl f_t_sum)), (a_t_rest, .inl (cy 2, 65, .inl f_t_rest)), (a_p1, .inl (cy 0, 300, .inl f_p1))] : va_W) ++ (rowsW (cy 2) rw_t B_t ++ ([] : va_W))) H → va_D A (([(a_t, .inr (8, [.int v_t_isWide, .ref a_t_cells, .ref a_t_page, .int v_t_pageMany, .ref a_t_digits, .int v_t_many, .int v_t_isMinus, .ref a_t_found, .ref a_t_one, .ref a_t_other, .ref a_t_sum, .ref a_t_rest])), (a_t_cells, .inl (cy 5, 8, .inr (.inr (.inr (.inr (fun j => some (rw_t j))))))), (a_t_page, .inl (cy 0, 66, .inl f_t_page)), (a_t_digits, .inl (cy 0, 64, .inl f_t_digits)), (a_t_found, .inl (cy 2, 64, .inl y_84)), (a_t_one, .inl (cy 2, 65, .inl f_t_one)), (a_t_other, .inl (cy 2, 65, .inl f_t_other)), (a_t_sum, .inl (cy 2, 65, .inl f_t_sum)), (a_t_rest, .inl (cy 2, 65, .inl f_t_rest)), (a_p1, .inl (cy 0, 300, .inl f_p1))] : va_W) ++ (rowsW (cy 2) rw_t B_t ++ ([] : va_W))) → va_S A s.heap H locs → lv_has ls 14 [(7, .int x_3), (0, .ref a_t), (6, .int p6)] → W p l e RM s m ar below meth c H locs 0 0 (MQ below Qc ar s 0 0 A) (F0 m 271 ls []) := by
                          intro _ hm H locs ls hP hD hS hl
                          rw [mX12_finds_x_j271] at hm
                          refine lv_iload hx hb dX12_finds_271 (lv_at hl 0 rfl) ?_
                          refine lv_if_eq (tgt := 285) hx hb dX12_finds_273 (by decide) (fun c_94 => ?_) (fun c_94 => ?_)
                          · replace hm := hm_t c_94 hm
                            refine lv_iconst (v := 1) hx hb dX12_finds_285 (by decide) ?_
                            obtain rfl := Option.some.inj hm
                            exact k_zret hx hb hr hlocks hQc rfl hP hS rfl rfl dX12_finds_286
                          · replace hm := hm_f c_94 hm
                            refine lv_aload_n hx hb dX12_finds_276 rfl (lv_at hl 1 rfl) ?_
                            refine va_get (D := D) (cl := classes) (ci := 8) (v := .ref a_t_found) (C := RX12) (T := TX12) (N := 12) hx hb ht in_RX12 hown hK.1 hP 0 rfl rfl 7 (by decide) (ht _ q_1256) (fun _ h9 => h9) rfl dX12_finds_277 ?_
                            refine lv_iload hx hb dX12_finds_280 (lv_at hl 2 rfl) ?_
                            obtain ⟨r_95, hr_95, hm⟩ := hm_b hm
                            refine k_SN (as := [.ref a_t_found, .int p6]) (rest := []) (ws' := (([(a_t, .inr (8, [.int v_t_isWide, .ref a_t_cells, .ref a_t_page, .int v_t_pageMany, .ref a_t_digits, .int v_t_many, .int v_t_isMinus, .ref a_t_found, .ref a_t_one, .ref a_t_other, .ref a_t_sum, .ref a_t_rest])), (a_t_cells, .inl (cy 5, 8, .inr (.inr (.inr (.inr (fun j => some (rw_t j))))))), (a_t_page, .inl (cy 0, 66, .inl f_t_page)), (a_t_digits, .inl (cy 0, 64, .inl f_t_digits)), (a_t_found, .inl (cy 2, 64, .inl r_95)), (a_t_one, .inl (cy 2, 65, .inl f_t_one)), (a_t_other, .inl (cy 2, 65, .inl f_t_other)), (a_t_sum, .inl (cy 2, 65, .inl f_t_sum)), (a_t_rest, .inl (cy 2, 65, .inl f_t_rest)), (a_p1, .inl (cy 0, 300, .inl f_p1))] : va_W) ++ (rowsW (cy 2) rw_t B_t ++ ([] : va_W)))) (st2 := []) hx hb hml hown ht hK hP hD hS hA hC hR hl (kcX13_negates l D cy g a_t_found 64 y_84 p6 k r_95 hr_95) [4] qn_1388 q_1431 q_54 q_1432 hyX13_negates ⟨Nat.le_of_ble_eq_true rfl, Nat.le_of_ble_eq_true rfl, Nat.le_of_ble_eq_true rfl, Nat.le_of_ble_eq_true rfl⟩ rfl (zq rfl) rfl rfl (Nat.le_of_ble_eq_true rfl) dX12_finds_282 (zqw (cx := [(a_t_found, .inl (cy 2, 64, .inl y_84))]) rfl rfl) rfl (fun H locs hP hD hS => ?_)
                            refine lv_iconst (v := 1) hx hb dX12_finds_285 (by decide) ?_
                            obtain rfl := Option.some.inj hm
                            exact k_zret hx hb hr hlocks hQc rfl hP hS rfl rfl dX12_finds_286
                        refine lv_if_ne (tgt := 271) hx hb dX12_finds_249 (by decide) (fun c_91 => ?_) (fun c_91 => ?_)
                        · replace hm := hm_f c_91 hm
                          exact J271 () hm _ _ _ hP hD hS (lv_sub hl [2, 3, 5] rfl)
                        · replace hm := hm_t c_91 hm
                          refine lv_aload_n hx hb dX12_finds_252 rfl (lv_at hl 3 rfl) ?_
                          refine va_get (D := D) (cl := classes) (ci := 8) (v := .ref a_t_found) (C := RX12) (T := TX12) (N := 12) hx hb ht in_RX12 hown hK.1 hP 0 rfl rfl 7 (by decide) (ht _ q_1256) (fun _ h9 => h9) rfl dX12_finds_253 ?_
                          refine lv_iload hx hb dX12_finds_256 (lv_at hl 5 rfl) ?_
                          refine lv_iconst (v := 1) hx hb dX12_finds_258 (by decide) ?_
                          refine lv_isub hx hb dX12_finds_259 ?_
                          obtain ⟨hin, hm⟩ := hm_g hm
                          refine va_zald hx hb hK.1 hP 4 2 rfl rfl hin dX12_finds_260 ?_
                          refine lv_if_eq (tgt := 271) hx hb dX12_finds_261 (by decide) (fun c_96 => ?_) (fun c_96 => ?_)
                          · replace hm := hm_t c_96 hm
                            exact J271 () hm _ _ _ hP hD hS (lv_sub hl [2, 3, 5] rfl)
                          · replace hm := hm_f c_96 hm
                            refine lv_iload hx hb dX12_finds_264 (lv_at hl 0 rfl) ?_
                            refine lv_if_ne (tgt := 271) hx hb dX12_finds_266 (by decide) (fun c_97 => ?_) (fun c_97 => ?_)
                            · replace hm := hm_f c_97 hm
                              exact J271 () hm _ _ _ hP hD hS (lv_sub hl [2, 3, 5] rfl)
                            · replace hm := hm_t c_97 hm
                              refine lv_iconst (v := 0) hx hb dX12_finds_269 (by decide) ?_
                              obtain rfl := Option.some.inj hm
                              exact k_zret hx hb hr hlocks hQc rfl hP hS rfl rfl dX12_finds_270
                    replace hm := hreg
                    refine lv_if_eq (tgt := 239) hx hb dX12_finds_218 (by decide) (fun c_86 => ?_) (fun c_86 => ?_)
                    · replace hm := hm_t c_86 hm
                      refine lv_iconst (v := 0) hx hb dX12_finds_239 (by decide) ?_
                      obtain rfl := Option.some.inj hm
                      exact J240 _ _ _ hP hD hS (lv_sub hl [1, 2, 3, 7, 8] rfl)
                    · replace hm := hm_f c_86 hm
                      refine lv_aload_n hx hb dX12_finds_221 rfl (lv_at hl 3 rfl) ?_
                      refine va_get (D := D) (cl := classes) (ci := 8) (v := .ref a_t_found) (C := RX12) (T := TX12) (N := 12) hx hb ht in_RX12 hown hK.1 hP 0 rfl rfl 7 (by decide) (ht _ q_1256) (fun _ h9 => h9) rfl dX12_finds_222 ?_
                      refine lv_iload hx hb dX12_finds_225 (lv_at hl 8 rfl) ?_
                      refine lv_iconst (v := 1) hx hb dX12_finds_227 (by decide) ?_
                      refine lv_isub hx hb dX12_finds_228 ?_
                      obtain ⟨r_98, hr_98, hm⟩ := hm_b hm
                      refine k_SN (as := [.ref a_t_found, .int (p6 - 1)]) (rest := []) (ws' := (([(a_t, .inr (8, [.int v_t_isWide, .ref a_t_cells, .ref a_t_page, .int v_t_pageMany, .ref a_t_digits, .int v_t_many, .int v_t_isMinus, .ref a_t_found, .ref a_t_one, .ref a_t_other, .ref a_t_sum, .ref a_t_rest])), (a_t_cells, .inl (cy 5, 8, .inr (.inr (.inr (.inr (fun j => some (rw_t j))))))), (a_t_page, .inl (cy 0, 66, .inl f_t_page)), (a_t_digits, .inl (cy 0, 64, .inl f_t_digits)), (a_t_found, .inl (cy 2, 64, .inl y_84)), (a_t_one, .inl (cy 2, 65, .inl f_t_one)), (a_t_other, .inl (cy 2, 65, .inl f_t_other)), (a_t_sum, .inl (cy 2, 65, .inl f_t_sum)), (a_t_rest, .inl (cy 2, 65, .inl f_t_rest)), (a_p1, .inl (cy 0, 300, .inl f_p1))] : va_W) ++ (rowsW (cy 2) rw_t B_t ++ ([] : va_W)))) (st2 := [.int r_98]) hx hb hml hown ht hK hP hD hS hA hC hR hl (kcX13_isNothing l D cy g a_t_found 64 y_84 (p6 - 1) k r_98 hr_98) [4] qn_1385 q_1428 q_54 q_1429 hyX13_isNothing ⟨Nat.le_of_ble_eq_true rfl, Nat.le_of_ble_eq_true rfl, Nat.le_of_ble_eq_true rfl, Nat.le_of_ble_eq_true rfl⟩ rfl (zq rfl) rfl rfl (Nat.le_of_ble_eq_true rfl) dX12_finds_229 (zqw (cx := [(a_t_found, .inl (cy 2, 64, .inl y_84))]) rfl rfl) rfl (fun H locs hP hD hS => ?_)
                      refine lv_if_eq (tgt := 239) hx hb dX12_finds_232 (by decide) (fun c_99 => ?_) (fun c_99 => ?_)
                      · replace hm := hm_t c_99 hm
                        refine lv_iconst (v := 0) hx hb dX12_finds_239 (by decide) ?_
                        obtain rfl := Option.some.inj hm
                        exact J240 _ _ _ hP hD hS (lv_sub hl [1, 2, 3, 7, 8] rfl)
                      · replace hm := hm_f c_99 hm
                        refine lv_iconst (v := 1) hx hb dX12_finds_235 (by decide) ?_
                        refine lv_goto (tgt := 240) hx hb dX12_finds_236 (by decide) ?_
                        obtain rfl := Option.some.inj hm
                        exact J240 _ _ _ hP hD hS (lv_sub hl [1, 2, 3, 7, 8] rfl)
                  · replace hm := hm_f c_85 hm
                    refine lv_aload_n hx hb dX12_finds_108 rfl (lv_at hl 4 rfl) ?_
                    refine lv_iload hx hb dX12_finds_109 (lv_at hl 0 rfl) ?_
                    obtain ⟨hin, hm⟩ := hm_g hm
                    refine va_iald hx hb hK.1 hP 9 0 rfl rfl hin dX12_finds_111 ?_
                    obtain ⟨r_100, hr_100, hm⟩ := hm_b hm
                    refine k_SN (as := [.int (f_p1 y_83.toNatClampNeg)]) (rest := []) (ws' := (([(a_t, .inr (8, [.int v_t_isWide, .ref a_t_cells, .ref a_t_page, .int v_t_pageMany, .ref a_t_digits, .int v_t_many, .int v_t_isMinus, .ref a_t_found, .ref a_t_one, .ref a_t_other, .ref a_t_sum, .ref a_t_rest])), (a_t_cells, .inl (cy 5, 8, .inr (.inr (.inr (.inr (fun j => some (rw_t j))))))), (a_t_page, .inl (cy 0, 66, .inl f_t_page)), (a_t_digits, .inl (cy 0, 64, .inl f_t_digits)), (a_t_found, .inl (cy 2, 64, .inl y_84)), (a_t_one, .inl (cy 2, 65, .inl f_t_one)), (a_t_other, .inl (cy 2, 65, .inl f_t_other)), (a_t_sum, .inl (cy 2, 65, .inl f_t_sum)), (a_t_rest, .inl (cy 2, 65, .inl f_t_rest)), (a_p1, .inl (cy 0, 300, .inl f_p1))] : va_W) ++ (rowsW (cy 2) rw_t B_t ++ ([] : va_W)))) (st2 := [.int r_100]) hx hb hml hown ht hK hP hD hS hA hC hR hl (kcX13_digitOf l D cy g (f_p1 y_83.toNatClampNeg) r_100 hr_100) [] qn_1382 q_1425 q_54 q_1426 hyX13_digitOf ⟨Nat.le_of_ble_eq_true rfl, Nat.le_of_ble_eq_true rfl, Nat.le_of_ble_eq_true rfl, Nat.le_of_ble_eq_true rfl⟩ rfl (zq rfl) rfl rfl (Nat.le_of_ble_eq_true rfl) dX12_finds_112 (zqw (cx := []) rfl rfl) rfl (fun H locs hP hD hS => ?_)
                    refine lv_istore (lv' := [(12, .int r_100), (11, .int y_83), (10, .int y_82), (7, .int x_3), (0, .ref a_t), (1, .ref a_p1), (3, .int p3), (4, .int p4), (5, .int p5), (6, .int p6)]) hx hb dX12_finds_115 hl (by decide) rfl (fun ls hl => ?_)
                    refine lv_iload hx hb dX12_finds_117 (lv_at hl 0 rfl) ?_
                    refine lv_iconst (v := 0) hx hb dX12_finds_119 (by decide) ?_
                    refine lv_iload hx hb dX12_finds_120 (lv_at hl 7 rfl) ?_
                    refine lv_iconst (v := 1) hx hb dX12_finds_122 (by decide) ?_
                    refine lv_isub hx hb dX12_finds_123 ?_
                    obtain ⟨r_101, hr_101, hm⟩ := hm_b hm
                    refine k_SN (as := [.int r_100, .int 0, .int (p4 - 1)]) (rest := []) (ws' := (([(a_t, .inr (8, [.int v_t_isWide, .ref a_t_cells, .ref a_t_page, .int v_t_pageMany, .ref a_t_digits, .int v_t_many, .int v_t_isMinus, .ref a_t_found, .ref a_t_one, .ref a_t_other, .ref a_t_sum, .ref a_t_rest])), (a_t_cells, .inl (cy 5, 8, .inr (.inr (.inr (.inr (fun j => some (rw_t j))))))), (a_t_page, .inl (cy 0, 66, .inl f_t_page)), (a_t_digits, .inl (cy 0, 64, .inl f_t_digits)), (a_t_found, .inl (cy 2, 64, .inl y_84)), (a_t_one, .inl (cy 2, 65, .inl f_t_one)), (a_t_other, .inl (cy 2, 65, .inl f_t_other)), (a_t_sum, .inl (cy 2, 65, .inl f_t_sum)), (a_t_rest, .inl (cy 2, 65, .inl f_t_rest)), (a_p1, .inl (cy 0, 300, .inl f_p1))] : va_W) ++ (rowsW (cy 2) rw_t B_t ++ ([] : va_W)))) (st2 := [.int r_101]) hx hb hml hown ht hK hP hD hS hA hC hR hl (kcX13_in l D cy g r_100 0 (p4 - 1) r_101 hr_101) [] qn_1378 q_1344 q_54 q_1345 hyX13_in ⟨Nat.le_of_ble_eq_true rfl, Nat.le_of_ble_eq_true rfl, Nat.le_of_ble_eq_true rfl, Nat.le_of_ble_eq_true rfl⟩ rfl (zq rfl) rfl rfl (Nat.le_of_ble_eq_true rfl) dX12_finds_124 (zqw (cx := []) rfl rfl) rfl (fun H locs hP hD hS => ?_)
                    refine lv_if_ne (tgt := 132) hx hb dX12_finds_127 (by decide) (fun c_102 => ?_) (fun c_102 => ?_)
                    · replace hm := hm_f c_102 hm
                      refine lv_iconst (v := 0) hx hb dX12_finds_132 (by decide) ?_
                      refine lv_istore (lv' := [(13, .int 0), (12, .int r_100), (11, .int y_83), (10, .int y_82), (7, .int x_3), (0, .ref a_t), (1, .ref a_p1), (3, .int p3), (4, .int p4), (5, .int p5), (6, .int p6)]) hx hb dX12_finds_133 hl (by decide) rfl (fun ls hl => ?_)
                      have L135 : ∀ (rr : Int32 × (Nat → Int32)) (kk : ∀ (H : Heap) (locs : List Loc) (ls : Array Slot), va_P D classes (([(a_t, .inr (8, [.int v_t_isWide, .ref a_t_cells, .ref a_t_page, .int v_t_pageMany, .ref a_t_digits, .int v_t_many, .int v_t_isMinus, .ref a_t_found, .ref a_t_one, .ref a_t_other, .ref a_t_sum, .ref a_t_rest])), (a_t_cells, .inl (cy 5, 8, .inr (.inr (.inr (.inr (fun j => some (rw_t j))))))), (a_t_page, .inl (cy 0, 66, .inl f_t_page)), (a_t_digits, .inl (cy 0, 64, .inl f_t_digits)), (a_t_found, .inl (cy 2, 64, .inl rr.2)), (a_t_one, .inl (cy 2, 65, .inl f_t_one)), (a_t_other, .inl (cy 2, 65, .inl f_t_other)), (a_t_sum, .inl (cy 2, 65, .inl f_t_sum)), (a_t_rest, .inl (cy 2, 65, .inl f_t_rest)), (a_p1, .inl (cy 0, 300, .inl f_p1))] : va_W) ++ (rowsW (cy 2) rw_t B_t ++ ([] : va_W))) H → va_D A (([(a_t, .inr (8, [.int v_t_isWide, .ref a_t_cells, .ref a_t_page, .int v_t_pageMany, .ref a_t_digits, .int v_t_many, .int v_t_isMinus, .ref a_t_found, .ref a_t_one, .ref a_t_other, .ref a_t_sum, .ref a_t_rest])), (a_t_cells, .inl (cy 5, 8, .inr (.inr (.inr (.inr (fun j => some (rw_t j))))))), (a_t_page, .inl (cy 0, 66, .inl f_t_page)), (a_t_digits, .inl (cy 0, 64, .inl f_t_digits)), (a_t_found, .inl (cy 2, 64, .inl rr.2)), (a_t_one, .inl (cy 2, 65, .inl f_t_one)), (a_t_other, .inl (cy 2, 65, .inl f_t_other)), (a_t_sum, .inl (cy 2, 65, .inl f_t_sum)), (a_t_rest, .inl (cy 2, 65, .inl f_t_rest)), (a_p1, .inl (cy 0, 300, .inl f_p1))] : va_W) ++ (rowsW (cy 2) rw_t B_t ++ ([] : va_W))) → va_S A s.heap H locs → lv_has ls 14 [(12, .int rr.1), (11, .int y_83), (10, .int y_82), (7, .int x_3), (0, .ref a_t), (1, .ref a_p1), (3, .int p3), (4, .int p4), (5, .int p5), (6, .int p6)] → W p l e RM s m ar below meth c H locs 0 0 (MQ below Qc ar s 0 0 A) (F0 m 195 ls [])) (n_ : Nat), ∀ (y_118 : Int32) (y_119 : Int32) (y_120 : Nat → Int32), mX12_finds_x_L135 p6 p4 n_ y_118 y_119 y_120 = some rr → ∀ (H : Heap) (locs : List Loc) (ls : Array Slot), va_P D classes (([(a_t, .inr (8, [.int v_t_isWide, .ref a_t_cells, .ref a_t_page, .int v_t_pageMany, .ref a_t_digits, .int v_t_many, .int v_t_isMinus, .ref a_t_found, .ref a_t_one, .ref a_t_other, .ref a_t_sum, .ref a_t_rest])), (a_t_cells, .inl (cy 5, 8, .inr (.inr (.inr (.inr (fun j => some (rw_t j))))))), (a_t_page, .inl (cy 0, 66, .inl f_t_page)), (a_t_digits, .inl (cy 0, 64, .inl f_t_digits)), (a_t_found, .inl (cy 2, 64, .inl y_120)), (a_t_one, .inl (cy 2, 65, .inl f_t_one)), (a_t_other, .inl (cy 2, 65, .inl f_t_other)), (a_t_sum, .inl (cy 2, 65, .inl f_t_sum)), (a_t_rest, .inl (cy 2, 65, .inl f_t_rest)), (a_p1, .inl (cy 0, 300, .inl f_p1))] : va_W) ++ (rowsW (cy 2) rw_t B_t ++ ([] : va_W))) H → va_D A (([(a_t, .inr (8, [.int v_t_isWide, .ref a_t_cells, .ref a_t_page, .int v_t_pageMany, .ref a_t_digits, .int v_t_many, .int v_t_isMinus, .ref a_t_found, .ref a_t_one, .ref a_t_other, .ref a_t_sum, .ref a_t_rest])), (a_t_cells, .inl (cy 5, 8, .inr (.inr (.inr (.inr (fun j => some (rw_t j))))))), (a_t_page, .inl (cy 0, 66, .inl f_t_page)), (a_t_digits, .inl (cy 0, 64, .inl f_t_digits)), (a_t_found, .inl (cy 2, 64, .inl y_120)), (a_t_one, .inl (cy 2, 65, .inl f_t_one)), (a_t_other, .inl (cy 2, 65, .inl f_t_other)), (a_t_sum, .inl (cy 2, 65, .inl f_t_sum)), (a_t_rest, .inl (cy 2, 65, .inl f_t_rest)), (a_p1, .inl (cy 0, 300, .inl f_p1))] : va_W) ++ (rowsW (cy 2) rw_t B_t ++ ([] : va_W))) → va_S A s.heap H locs → lv_has ls 14 [(13, .int y_119), (12, .int y_118), (11, .int y_83), (10, .int y_82), (7, .int x_3), (0, .ref a_t), (1, .ref a_p1), (3, .int p3), (4, .int p4), (5, .int p5), (6, .int p6)] → W p l e RM s m ar below meth c H locs 0 0 (MQ below Qc ar s 0 0 A) (F0 m 135 ls []) := by
                        intro rr kk n_
                        induction n_ with
                        | zero => intro y_118 y_119 y_120 hm; rw [mX12_finds_x_L135] at hm; cases hm
                        | succ n_ ih =>
                          intro y_118 y_119 y_120 hm H locs ls hP hD hS hl
                          rw [mX12_finds_x_L135] at hm
                          refine lv_iload hx hb dX12_finds_135 (lv_at hl 0 rfl) ?_
                          refine lv_iload hx hb dX12_finds_137 (lv_at hl 10 rfl) ?_
                          refine lv_icmp_ge (tgt := 195) hx hb dX12_finds_139 (by decide) (fun c_121 => ?_) (fun c_121 => ?_)
                          · replace hm := hm_t c_121 hm
                            obtain rfl := Option.some.inj hm
                            exact kk _ _ _ hP hD hS (lv_sub hl [1, 2, 3, 4, 5, 6, 7, 8, 9, 10] rfl)
                          · replace hm := hm_f c_121 hm
                            refine lv_iload hx hb dX12_finds_142 (lv_at hl 1 rfl) ?_
                            refine lv_aload_n hx hb dX12_finds_144 rfl (lv_at hl 5 rfl) ?_
                            refine va_get (D := D) (cl := classes) (ci := 8) (v := .ref a_t_found) (C := RX12) (T := TX12) (N := 12) hx hb ht in_RX12 hown hK.1 hP 0 rfl rfl 7 (by decide) (ht _ q_1256) (fun _ h9 => h9) rfl dX12_finds_145 ?_
                            refine lv_iload hx hb dX12_finds_148 (lv_at hl 0 rfl) ?_
                            obtain ⟨hin, hm⟩ := hm_g hm
                            refine va_zald hx hb hK.1 hP 4 2 rfl rfl hin dX12_finds_150 ?_
                            obtain ⟨x_123, hreg, hm⟩ := hm_b hm
                            have J160 : ∀ (H : Heap) (locs : List Loc) (ls : Array Slot), va_P D classes (([(a_t, .inr (8, [.int v_t_isWide, .ref a_t_cells, .ref a_t_page, .int v_t_pageMany, .ref a_t_digits, .int v_t_many, .int v_t_isMinus, .ref a_t_found, .ref a_t_one, .ref a_t_other, .ref a_t_sum, .ref a_t_rest])), (a_t_cells, .inl (cy 5, 8, .inr (.inr (.inr (.inr (fun j => some (rw_t j))))))), (a_t_page, .inl (cy 0, 66, .inl f_t_page)), (a_t_digits, .inl (cy 0, 64, .inl f_t_digits)), (a_t_found, .inl (cy 2, 64, .inl y_120)), (a_t_one, .inl (cy 2, 65, .inl f_t_one)), (a_t_other, .inl (cy 2, 65, .inl f_t_other)), (a_t_sum, .inl (cy 2, 65, .inl f_t_sum)), (a_t_rest, .inl (cy 2, 65, .inl f_t_rest)), (a_p1, .inl (cy 0, 300, .inl f_p1))] : va_W) ++ (rowsW (cy 2) rw_t B_t ++ ([] : va_W))) H → va_D A (([(a_t, .inr (8, [.int v_t_isWide, .ref a_t_cells, .ref a_t_page, .int v_t_pageMany, .ref a_t_digits, .int v_t_many, .int v_t_isMinus, .ref a_t_found, .ref a_t_one, .ref a_t_other, .ref a_t_sum, .ref a_t_rest])), (a_t_cells, .inl (cy 5, 8, .inr (.inr (.inr (.inr (fun j => some (rw_t j))))))), (a_t_page, .inl (cy 0, 66, .inl f_t_page)), (a_t_digits, .inl (cy 0, 64, .inl f_t_digits)), (a_t_found, .inl (cy 2, 64, .inl y_120)), (a_t_one, .inl (cy 2, 65, .inl f_t_one)), (a_t_other, .inl (cy 2, 65, .inl f_t_other)), (a_t_sum, .inl (cy 2, 65, .inl f_t_sum)), (a_t_rest, .inl (cy 2, 65, .inl f_t_rest)), (a_p1, .inl (cy 0, 300, .inl f_p1))] : va_W) ++ (rowsW (cy 2) rw_t B_t ++ ([] : va_W))) → va_S A s.heap H locs → lv_has ls 14 [(13, .int y_119), (11, .int y_83), (10, .int y_82), (7, .int x_3), (0, .ref a_t), (1, .ref a_p1), (3, .int p3), (4, .int p4), (5, .int p5), (6, .int p6)] → W p l e RM s m ar below meth c H locs 0 0 (MQ below Qc ar s 0 0 A) (F0 m 160 ls [.int x_123, .int y_118]) := by
                              intro H locs ls hP hD hS hl
                              refine lv_iadd hx hb dX12_finds_160 ?_
                              obtain ⟨x_124, hx_, hm⟩ := hm_b hm
                              refine k_topi (y := x_124) (Option.some.inj hx_) ?_
                              refine lv_istore (lv' := [(12, .int x_124), (13, .int y_119), (11, .int y_83), (10, .int y_82), (7, .int x_3), (0, .ref a_t), (1, .ref a_p1), (3, .int p3), (4, .int p4), (5, .int p5), (6, .int p6)]) hx hb dX12_finds_161 hl (by decide) rfl (fun ls hl => ?_)
                              refine lv_aload_n hx hb dX12_finds_163 rfl (lv_at hl 5 rfl) ?_
                              refine va_get (D := D) (cl := classes) (ci := 8) (v := .ref a_t_found) (C := RX12) (T := TX12) (N := 12) hx hb ht in_RX12 hown hK.1 hP 0 rfl rfl 7 (by decide) (ht _ q_1256) (fun _ h9 => h9) rfl dX12_finds_164 ?_
                              refine lv_iload hx hb dX12_finds_167 (lv_at hl 1 rfl) ?_
                              refine lv_iload hx hb dX12_finds_169 (lv_at hl 0 rfl) ?_
                              refine lv_iconst (v := 2) hx hb dX12_finds_171 (by decide) ?_
                              refine lv_irem hx hb dX12_finds_172 (by decide) ?_
                              refine lv_iconst (v := 1) hx hb dX12_finds_173 (by decide) ?_
                              obtain ⟨x_126, hreg, hm⟩ := hm_b hm
                              have J182 : ∀ (H : Heap) (locs : List Loc) (ls : Array Slot), va_P D classes (([(a_t, .inr (8, [.int v_t_isWide, .ref a_t_cells, .ref a_t_page, .int v_t_pageMany, .ref a_t_digits, .int v_t_many, .int v_t_isMinus, .ref a_t_found, .ref a_t_one, .ref a_t_other, .ref a_t_sum, .ref a_t_rest])), (a_t_cells, .inl (cy 5, 8, .inr (.inr (.inr (.inr (fun j => some (rw_t j))))))), (a_t_page, .inl (cy 0, 66, .inl f_t_page)), (a_t_digits, .inl (cy 0, 64, .inl f_t_digits)), (a_t_found, .inl (cy 2, 64, .inl y_120)), (a_t_one, .inl (cy 2, 65, .inl f_t_one)), (a_t_other, .inl (cy 2, 65, .inl f_t_other)), (a_t_sum, .inl (cy 2, 65, .inl f_t_sum)), (a_t_rest, .inl (cy 2, 65, .inl f_t_rest)), (a_p1, .inl (cy 0, 300, .inl f_p1))] : va_W) ++ (rowsW (cy 2) rw_t B_t ++ ([] : va_W))) H → va_D A (([(a_t, .inr (8, [.int v_t_isWide, .ref a_t_cells, .ref a_t_page, .int v_t_pageMany, .ref a_t_digits, .int v_t_many, .int v_t_isMinus, .ref a_t_found, .ref a_t_one, .ref a_t_other, .ref a_t_sum, .ref a_t_rest])), (a_t_cells, .inl (cy 5, 8, .inr (.inr (.inr (.inr (fun j => some (rw_t j))))))), (a_t_page, .inl (cy 0, 66, .inl f_t_page)), (a_t_digits, .inl (cy 0, 64, .inl f_t_digits)), (a_t_found, .inl (cy 2, 64, .inl y_120)), (a_t_one, .inl (cy 2, 65, .inl f_t_one)), (a_t_other, .inl (cy 2, 65, .inl f_t_other)), (a_t_sum, .inl (cy 2, 65, .inl f_t_sum)), (a_t_rest, .inl (cy 2, 65, .inl f_t_rest)), (a_p1, .inl (cy 0, 300, .inl f_p1))] : va_W) ++ (rowsW (cy 2) rw_t B_t ++ ([] : va_W))) → va_S A s.heap H locs → lv_has ls 14 [(12, .int x_124), (13, .int y_119), (11, .int y_83), (10, .int y_82), (7, .int x_3), (0, .ref a_t), (1, .ref a_p1), (3, .int p3), (4, .int p4), (5, .int p5), (6, .int p6)] → W p l e RM s m ar below meth c H locs 0 0 (MQ below Qc ar s 0 0 A) (F0 m 182 ls [.int x_126, .int y_119, .ref a_t_found]) := by
                                intro H locs ls hP hD hS hl
                                obtain ⟨hin, hm⟩ := hm_g hm
                                refine va_zast hx hb hK.1 hP hD hS 4 2 rfl rfl hin dX12_finds_182 (fun H locs hP hD hS => ?_)
                                have hP : va_P D classes (([(a_t, .inr (8, [.int v_t_isWide, .ref a_t_cells, .ref a_t_page, .int v_t_pageMany, .ref a_t_digits, .int v_t_many, .int v_t_isMinus, .ref a_t_found, .ref a_t_one, .ref a_t_other, .ref a_t_sum, .ref a_t_rest])), (a_t_cells, .inl (cy 5, 8, .inr (.inr (.inr (.inr (fun j => some (rw_t j))))))), (a_t_page, .inl (cy 0, 66, .inl f_t_page)), (a_t_digits, .inl (cy 0, 64, .inl f_t_digits)), (a_t_found, .inl (cy 2, 64, .inl (upd y_120 y_119.toNatClampNeg (vp_nar .boolean x_126)))), (a_t_one, .inl (cy 2, 65, .inl f_t_one)), (a_t_other, .inl (cy 2, 65, .inl f_t_other)), (a_t_sum, .inl (cy 2, 65, .inl f_t_sum)), (a_t_rest, .inl (cy 2, 65, .inl f_t_rest)), (a_p1, .inl (cy 0, 300, .inl f_p1))] : va_W) ++ (rowsW (cy 2) rw_t B_t ++ ([] : va_W))) H := hP
                                have hD : va_D A (([(a_t, .inr (8, [.int v_t_isWide, .ref a_t_cells, .ref a_t_page, .int v_t_pageMany, .ref a_t_digits, .int v_t_many, .int v_t_isMinus, .ref a_t_found, .ref a_t_one, .ref a_t_other, .ref a_t_sum, .ref a_t_rest])), (a_t_cells, .inl (cy 5, 8, .inr (.inr (.inr (.inr (fun j => some (rw_t j))))))), (a_t_page, .inl (cy 0, 66, .inl f_t_page)), (a_t_digits, .inl (cy 0, 64, .inl f_t_digits)), (a_t_found, .inl (cy 2, 64, .inl (upd y_120 y_119.toNatClampNeg (vp_nar .boolean x_126)))), (a_t_one, .inl (cy 2, 65, .inl f_t_one)), (a_t_other, .inl (cy 2, 65, .inl f_t_other)), (a_t_sum, .inl (cy 2, 65, .inl f_t_sum)), (a_t_rest, .inl (cy 2, 65, .inl f_t_rest)), (a_p1, .inl (cy 0, 300, .inl f_p1))] : va_W) ++ (rowsW (cy 2) rw_t B_t ++ ([] : va_W))) := hD
                                refine lv_iload hx hb dX12_finds_183 (lv_at hl 0 rfl) ?_
                                refine lv_iconst (v := 2) hx hb dX12_finds_185 (by decide) ?_
                                refine lv_idiv hx hb dX12_finds_186 (by decide) ?_
                                refine lv_istore (lv' := [(12, .int (x_124 / 2)), (13, .int y_119), (11, .int y_83), (10, .int y_82), (7, .int x_3), (0, .ref a_t), (1, .ref a_p1), (3, .int p3), (4, .int p4), (5, .int p5), (6, .int p6)]) hx hb dX12_finds_187 hl (by decide) rfl (fun ls hl => ?_)
                                refine lv_iinc (v := (y_119 + 1)) (lv' := [(13, .int (y_119 + 1)), (12, .int (x_124 / 2)), (11, .int y_83), (10, .int y_82), (7, .int x_3), (0, .ref a_t), (1, .ref a_p1), (3, .int p3), (4, .int p4), (5, .int p5), (6, .int p6)]) hx hb dX12_finds_189 hl (k := 1) rfl rfl (by decide) rfl (fun ls hl => ?_)
                                refine lv_goto (tgt := 135) hx hb dX12_finds_192 (by decide) ?_
                                exact ih (x_124 / 2) (y_119 + 1) (upd y_120 y_119.toNatClampNeg (vp_nar .boolean x_126)) hm _ _ _ hP hD hS (lv_sub hl [0, 1, 2, 3, 4, 5, 6, 7, 8, 9, 10] rfl)
                              replace hm := hreg
                              refine lv_icmp_ne (tgt := 181) hx hb dX12_finds_174 (by decide) (fun c_125 => ?_) (fun c_125 => ?_)
                              · replace hm := hm_f c_125 hm
                                refine lv_iconst (v := 0) hx hb dX12_finds_181 (by decide) ?_
                                obtain rfl := Option.some.inj hm
                                exact J182 _ _ _ hP hD hS (lv_sub hl [0, 1, 2, 3, 4, 5, 6, 7, 8, 9, 10] rfl)
                              · replace hm := hm_t c_125 hm
                                refine lv_iconst (v := 1) hx hb dX12_finds_177 (by decide) ?_
                                refine lv_goto (tgt := 182) hx hb dX12_finds_178 (by decide) ?_
                                obtain rfl := Option.some.inj hm
                                exact J182 _ _ _ hP hD hS (lv_sub hl [0, 1, 2, 3, 4, 5, 6, 7, 8, 9, 10] rfl)
                            replace hm := hreg
                            refine lv_if_eq (tgt := 159) hx hb dX12_finds_151 (by decide) (fun c_122 => ?_) (fun c_122 => ?_)
                            · replace hm := hm_t c_122 hm
                              refine lv_iconst (v := 0) hx hb dX12_finds_159 (by decide) ?_
                              obtain rfl := Option.some.inj hm
                              exact J160 _ _ _ hP hD hS (lv_sub hl [0, 2, 3, 4, 5, 6, 7, 8, 9, 10] rfl)
                            · replace hm := hm_f c_122 hm
                              refine lv_iload hx hb dX12_finds_154 (lv_at hl 8 rfl) ?_
                              refine lv_goto (tgt := 160) hx hb dX12_finds_156 (by decide) ?_
                              obtain rfl := Option.some.inj hm
                              exact J160 _ _ _ hP hD hS (lv_sub hl [0, 2, 3, 4, 5, 6, 7, 8, 9, 10] rfl)
                      obtain ⟨r_127, hL, hm⟩ := hm_b hm
                      refine L135 r_127 ?_ k r_100 0 y_84 hL _ _ _ hP hD hS (lv_sub hl [0, 1, 2, 3, 4, 5, 6, 7, 8, 9, 10] rfl)
                      intro H locs ls hP hD hS hl
                      refine lv_iload hx hb dX12_finds_195 (lv_at hl 2 rfl) ?_
                      refine lv_iload hx hb dX12_finds_197 (lv_at hl 0 rfl) ?_
                      obtain ⟨x_129, hreg, hm⟩ := hm_b hm
                      have J207 : ∀ (H : Heap) (locs : List Loc) (ls : Array Slot), va_P D classes (([(a_t, .inr (8, [.int v_t_isWide, .ref a_t_cells, .ref a_t_page, .int v_t_pageMany, .ref a_t_digits, .int v_t_many, .int v_t_isMinus, .ref a_t_found, .ref a_t_one, .ref a_t_other, .ref a_t_sum, .ref a_t_rest])), (a_t_cells, .inl (cy 5, 8, .inr (.inr (.inr (.inr (fun j => some (rw_t j))))))), (a_t_page, .inl (cy 0, 66, .inl f_t_page)), (a_t_digits, .inl (cy 0, 64, .inl f_t_digits)), (a_t_found, .inl (cy 2, 64, .inl r_127.2)), (a_t_one, .inl (cy 2, 65, .inl f_t_one)), (a_t_other, .inl (cy 2, 65, .inl f_t_other)), (a_t_sum, .inl (cy 2, 65, .inl f_t_sum)), (a_t_rest, .inl (cy 2, 65, .inl f_t_rest)), (a_p1, .inl (cy 0, 300, .inl f_p1))] : va_W) ++ (rowsW (cy 2) rw_t B_t ++ ([] : va_W))) H → va_D A (([(a_t, .inr (8, [.int v_t_isWide, .ref a_t_cells, .ref a_t_page, .int v_t_pageMany, .ref a_t_digits, .int v_t_many, .int v_t_isMinus, .ref a_t_found, .ref a_t_one, .ref a_t_other, .ref a_t_sum, .ref a_t_rest])), (a_t_cells, .inl (cy 5, 8, .inr (.inr (.inr (.inr (fun j => some (rw_t j))))))), (a_t_page, .inl (cy 0, 66, .inl f_t_page)), (a_t_digits, .inl (cy 0, 64, .inl f_t_digits)), (a_t_found, .inl (cy 2, 64, .inl r_127.2)), (a_t_one, .inl (cy 2, 65, .inl f_t_one)), (a_t_other, .inl (cy 2, 65, .inl f_t_other)), (a_t_sum, .inl (cy 2, 65, .inl f_t_sum)), (a_t_rest, .inl (cy 2, 65, .inl f_t_rest)), (a_p1, .inl (cy 0, 300, .inl f_p1))] : va_W) ++ (rowsW (cy 2) rw_t B_t ++ ([] : va_W))) → va_S A s.heap H locs → lv_has ls 14 [(11, .int y_83), (7, .int x_3), (0, .ref a_t), (1, .ref a_p1), (3, .int p3), (4, .int p4), (5, .int p5), (6, .int p6)] → W p l e RM s m ar below meth c H locs 0 0 (MQ below Qc ar s 0 0 A) (F0 m 207 ls [.int x_129, .int y_82]) := by
                        intro H locs ls hP hD hS hl
                        refine lv_ior hx hb dX12_finds_207 ?_
                        obtain ⟨x_130, hx_, hm⟩ := hm_b hm
                        refine k_topi (y := x_130) (Option.some.inj hx_) ?_
                        refine lv_istore (lv' := [(10, .int x_130), (11, .int y_83), (7, .int x_3), (0, .ref a_t), (1, .ref a_p1), (3, .int p3), (4, .int p4), (5, .int p5), (6, .int p6)]) hx hb dX12_finds_208 hl (by decide) rfl (fun ls hl => ?_)
                        refine lv_iinc (v := (y_83 + 1)) (lv' := [(11, .int (y_83 + 1)), (10, .int x_130), (7, .int x_3), (0, .ref a_t), (1, .ref a_p1), (3, .int p3), (4, .int p4), (5, .int p5), (6, .int p6)]) hx hb dX12_finds_210 hl (k := 1) rfl rfl (by decide) rfl (fun ls hl => ?_)
                        refine lv_goto (tgt := 102) hx hb dX12_finds_213 (by decide) ?_
                        exact ih x_130 (y_83 + 1) r_127.2 hm _ _ _ hP hD hS (lv_sub hl [0, 1, 2, 3, 4, 5, 6, 7, 8] rfl)
                      replace hm := hreg
                      refine lv_if_le (tgt := 206) hx hb dX12_finds_199 (by decide) (fun c_128 => ?_) (fun c_128 => ?_)
                      · replace hm := hm_t c_128 hm
                        refine lv_iconst (v := 0) hx hb dX12_finds_206 (by decide) ?_
                        obtain rfl := Option.some.inj hm
                        exact J207 _ _ _ hP hD hS (lv_sub hl [1, 3, 4, 5, 6, 7, 8, 9] rfl)
                      · replace hm := hm_f c_128 hm
                        refine lv_iconst (v := 1) hx hb dX12_finds_202 (by decide) ?_
                        refine lv_goto (tgt := 207) hx hb dX12_finds_203 (by decide) ?_
                        obtain rfl := Option.some.inj hm
                        exact J207 _ _ _ hP hD hS (lv_sub hl [1, 3, 4, 5, 6, 7, 8, 9] rfl)
                    · replace hm := hm_t c_102 hm
                      refine lv_iconst (v := 0) hx hb dX12_finds_130 (by decide) ?_
                      obtain rfl := Option.some.inj hm
                      exact k_zret hx hb hr hlocks hQc rfl hP hS rfl rfl dX12_finds_131
              exact L102 k 0 x_9 r_15 hm _ _ _ hP hD hS (lv_sub hl [0, 1, 3, 4, 5, 6, 7, 8, 9] rfl)
            refine lv_if_eq (tgt := 88) hx hb dX12_finds_78 (by decide) (fun c_13 => ?_) (fun c_13 => ?_)
            · replace hm := hm_t c_13 hm
              exact J88 () hm _ _ _ hP hD hS (lv_sub hl [0, 1, 2, 3, 4, 5, 6, 7] rfl)
            · replace hm := hm_f c_13 hm
              refine lv_iload hx hb dX12_finds_81 (lv_at hl 6 rfl) ?_
              refine lv_if_eq (tgt := 88) hx hb dX12_finds_83 (by decide) (fun c_131 => ?_) (fun c_131 => ?_)
              · replace hm := hm_t c_131 hm
                exact J88 () hm _ _ _ hP hD hS (lv_sub hl [0, 1, 2, 3, 4, 5, 6, 7] rfl)
              · replace hm := hm_f c_131 hm
                refine lv_iconst (v := 0) hx hb dX12_finds_86 (by decide) ?_
                obtain rfl := Option.some.inj hm
                exact k_zret hx hb hr hlocks hQc rfl hP hS rfl rfl dX12_finds_87
      replace hm := hreg
      refine lv_if_eq (tgt := 56) hx hb dX12_finds_47 (by decide) (fun c_8 => ?_) (fun c_8 => ?_)
      · replace hm := hm_t c_8 hm
        refine lv_iload_n hx hb dX12_finds_56 rfl (lv_at hl 4 rfl) ?_
        obtain rfl := Option.some.inj hm
        exact J57 _ _ _ hP hD hS (lv_sub hl [1, 2, 3, 5, 6, 7, 8] rfl)
      · replace hm := hm_f c_8 hm
        refine lv_iload_n hx hb dX12_finds_50 rfl (lv_at hl 4 rfl) ?_
        refine lv_iconst (v := 1) hx hb dX12_finds_51 (by decide) ?_
        refine lv_iadd hx hb dX12_finds_52 ?_
        refine lv_goto (tgt := 57) hx hb dX12_finds_53 (by decide) ?_
        obtain rfl := Option.some.inj hm
        exact J57 _ _ _ hP hD hS (lv_sub hl [1, 2, 3, 5, 6, 7, 8] rfl)
    replace hm := hreg
    refine lv_if_ne (tgt := 38) hx hb dX12_finds_22 (by decide) (fun c_4 => ?_) (fun c_4 => ?_)
    · replace hm := hm_f c_4 hm
      refine lv_iconst (v := 1) hx hb dX12_finds_38 (by decide) ?_
      refine lv_goto (tgt := 43) hx hb dX12_finds_39 (by decide) ?_
      obtain rfl := Option.some.inj hm
      exact J43 _ _ _ hP hD hS (lv_sub hl [0, 1, 2, 3, 4, 5, 6, 7] rfl)
    · replace hm := hm_t c_4 hm
      refine lv_iload_n hx hb dX12_finds_25 rfl (lv_at hl 3 rfl) ?_
      refine lv_iload_n hx hb dX12_finds_26 rfl (lv_at hl 4 rfl) ?_
      refine lv_icmp_ge (tgt := 42) hx hb dX12_finds_27 (by decide) (fun c_132 => ?_) (fun c_132 => ?_)
      · replace hm := hm_t c_132 hm
        refine lv_iconst (v := 0) hx hb dX12_finds_42 (by decide) ?_
        obtain rfl := Option.some.inj hm
        exact J43 _ _ _ hP hD hS (lv_sub hl [0, 1, 2, 3, 4, 5, 6, 7] rfl)
      · replace hm := hm_f c_132 hm
        refine lv_aload_n hx hb dX12_finds_30 rfl (lv_at hl 2 rfl) ?_
        refine lv_iload_n hx hb dX12_finds_31 rfl (lv_at hl 3 rfl) ?_
        obtain ⟨hin, hm⟩ := hm_g hm
        refine va_iald hx hb hK.1 hP 9 0 rfl rfl hin dX12_finds_32 ?_
        refine lv_bipush (v := 43) hx hb dX12_finds_33 (by decide) ?_
        refine lv_icmp_ne (tgt := 42) hx hb dX12_finds_35 (by decide) (fun c_133 => ?_) (fun c_133 => ?_)
        · replace hm := hm_f c_133 hm
          refine lv_iconst (v := 0) hx hb dX12_finds_42 (by decide) ?_
          obtain rfl := Option.some.inj hm
          exact J43 _ _ _ hP hD hS (lv_sub hl [0, 1, 2, 3, 4, 5, 6, 7] rfl)
        · replace hm := hm_t c_133 hm
          refine lv_iconst (v := 1) hx hb dX12_finds_38 (by decide) ?_
          refine lv_goto (tgt := 43) hx hb dX12_finds_39 (by decide) ?_
          obtain rfl := Option.some.inj hm
          exact J43 _ _ _ hP hD hS (lv_sub hl [0, 1, 2, 3, 4, 5, 6, 7] rfl)
  replace hm := hreg
  refine lv_icmp_ge (tgt := 17) hx hb dX12_finds_2 (by decide) (fun c_1 => ?_) (fun c_1 => ?_)
  · replace hm := hm_t c_1 hm
    refine lv_iconst (v := 0) hx hb dX12_finds_17 (by decide) ?_
    obtain rfl := Option.some.inj hm
    exact J18 _ _ _ hP hD hS (lv_sub hl [0, 1, 2, 3, 4, 5, 6] rfl)
  · replace hm := hm_f c_1 hm
    refine lv_aload_n hx hb dX12_finds_5 rfl (lv_at hl 1 rfl) ?_
    refine lv_iload_n hx hb dX12_finds_6 rfl (lv_at hl 2 rfl) ?_
    obtain ⟨hin, hm⟩ := hm_g hm
    refine va_iald hx hb hK.1 hP 9 0 rfl rfl hin dX12_finds_7 ?_
    refine lv_bipush (v := 45) hx hb dX12_finds_8 (by decide) ?_
    refine lv_icmp_ne (tgt := 17) hx hb dX12_finds_10 (by decide) (fun c_134 => ?_) (fun c_134 => ?_)
    · replace hm := hm_f c_134 hm
      refine lv_iconst (v := 0) hx hb dX12_finds_17 (by decide) ?_
      obtain rfl := Option.some.inj hm
      exact J18 _ _ _ hP hD hS (lv_sub hl [0, 1, 2, 3, 4, 5, 6] rfl)
    · replace hm := hm_t c_134 hm
      refine lv_iconst (v := 1) hx hb dX12_finds_13 (by decide) ?_
      refine lv_goto (tgt := 18) hx hb dX12_finds_14 (by decide) ?_
      obtain rfl := Option.some.inj hm
      exact J18 _ _ _ hP hD hS (lv_sub hl [0, 1, 2, 3, 4, 5, 6] rfl)
def mX12_finds_o_j271 (x_3 : Int32) (y_84 : Nat → Int32) (k : Nat) (p6 : Int32) : Option (Int32 × (Nat → Int32)) := (if x_3 = 0 then some (1, y_84) else ((mX13_negates k 64 y_84 p6).bind (fun r_95 => some (1, r_95))))
def mX12_finds_o_L135 (p6 : Int32) (p4 : Int32) : Nat → Int32 → Int32 → (Nat → Int32) → Option (Int32 × (Nat → Int32))
  | 0, _, _, _ => none
  | n_ + 1, y_118, y_119, y_120 => (if p6 ≤ y_119 then some (y_118, y_120) else (if y_119 < 0 ∨ 64 ≤ y_119.toNatClampNeg then none else (((if (y_120 y_119.toNatClampNeg) = 0 then some 0 else some p4) : Option (Int32)).bind (fun x_123 => ((some (y_118 + x_123) : Option Int32).bind (fun x_124 => (((if (x_124 - x_124 / 2 * 2) = 1 then some 1 else some 0) : Option (Int32)).bind (fun x_126 => (if y_119 < 0 ∨ 64 ≤ y_119.toNatClampNeg then none else (mX12_finds_o_L135 p6 p4 n_ (x_124 / 2) (y_119 + 1) (upd y_120 y_119.toNatClampNeg (vp_nar .boolean x_126))))))))))))
def mX12_finds_o_L102 (p3 : Int32) (x_3 : Int32) (k : Nat) (p6 : Int32) (p5 : Int32) (f_t_page : Nat → Int32) (p4 : Int32) : Nat → Int32 → Int32 → (Nat → Int32) → Option (Int32 × (Nat → Int32))
  | 0, _, _, _ => none
  | n_ + 1, y_82, y_83, y_84 => (if p3 ≤ y_83 then (((if x_3 = 0 then some 0 else ((mX13_isNothing k 64 y_84 (p6 - 1)).bind (fun r_98 => (if r_98 = 0 then some 0 else some 1)))) : Option (Int32)).bind (fun x_89 => (if y_82 = 0 then (if p5 = 0 then (if (p6 - 1) < 0 ∨ 64 ≤ (p6 - 1).toNatClampNeg then none else (if (y_84 (p6 - 1).toNatClampNeg) = 0 then (mX12_finds_o_j271 x_3 y_84 k p6) else (if x_89 = 0 then some (0, y_84) else (mX12_finds_o_j271 x_3 y_84 k p6)))) else (mX12_finds_o_j271 x_3 y_84 k p6)) else some (0, y_84)))) else (if y_83 < 0 ∨ 66 ≤ y_83.toNatClampNeg then none else ((mX13_digitOf (f_t_page y_83.toNatClampNeg)).bind (fun r_100 => ((mX13_in r_100 0 (p4 - 1)).bind (fun r_101 => (if r_101 = 0 then some (0, y_84) else ((mX12_finds_o_L135 p6 p4 k r_100 0 y_84).bind (fun r_127 => (((if r_127.1 ≤ 0 then some 0 else some 1) : Option (Int32)).bind (fun x_129 => ((some (y_82 ||| x_129) : Option Int32).bind (fun x_130 => (mX12_finds_o_L102 p3 x_3 k p6 p5 f_t_page p4 n_ x_130 (y_83 + 1) r_127.2))))))))))))))
def mX12_finds_o_j88 (k : Nat) (f_t_found : Nat → Int32) (p3 : Int32) (x_3 : Int32) (p6 : Int32) (p5 : Int32) (f_t_page : Nat → Int32) (p4 : Int32) (x_9 : Int32) : Option (Int32 × (Nat → Int32)) := ((mX13_clear k 64 f_t_found).bind (fun r_15 => (mX12_finds_o_L102 p3 x_3 k p6 p5 f_t_page p4 k 0 x_9 r_15)))
def mX12_finds_o (k : Nat) (f_t_page : Nat → Int32) (f_t_found : Nat → Int32) (p2 : Int32) (p3 : Int32) (p4 : Int32) (p5 : Int32) (p6 : Int32) : Option (Int32 × (Nat → Int32)) := (((if p3 ≤ p2 then some 0 else (if p2 < 0 ∨ 66 ≤ p2.toNatClampNeg then none else (if (f_t_page p2.toNatClampNeg) = 45 then some 1 else some 0))) : Option (Int32)).bind (fun x_3 => (((if x_3 = 0 then (if p3 ≤ p2 then some 0 else (if p2 < 0 ∨ 66 ≤ p2.toNatClampNeg then none else (if (f_t_page p2.toNatClampNeg) = 43 then some 1 else some 0))) else some 1) : Option (Int32)).bind (fun x_7 => (((if x_7 = 0 then some p2 else some (p2 + 1)) : Option (Int32)).bind (fun x_9 => ((mX13_in p4 2 36).bind (fun r_10 => (if r_10 = 0 then some (0, f_t_found) else (if x_9 = p3 then some (0, f_t_found) else (if x_3 = 0 then (mX12_finds_o_j88 k f_t_found p3 x_3 p6 p5 f_t_page p4 x_9) else (if p5 = 0 then (mX12_finds_o_j88 k f_t_found p3 x_3 p6 p5 f_t_page p4 x_9) else some (0, f_t_found)))))))))))))
set_option maxHeartbeats 4000000 in
set_option maxRecDepth 100000 in
theorem kcX12_finds_o (l : Launch) (D : va_G) (cy : Nat → ClassId) (g : Nat → Nat) (a_t : Nat) (a_t_cells : Nat) (a_t_page : Nat) (a_t_digits : Nat) (a_t_found : Nat) (a_t_one : Nat) (a_t_other : Nat) (a_t_sum : Nat) (a_t_rest : Nat) (rw_t : Nat → Nat) (v_t_isWide : Int32) (B_t : Nat → Nat → Int32) (f_t_page : Nat → Int32) (v_t_pageMany : Int32) (f_t_digits : Nat → Int32) (v_t_many : Int32) (v_t_isMinus : Int32) (f_t_found : Nat → Int32) (f_t_one : Nat → Int32) (f_t_other : Nat → Int32) (f_t_sum : Nat → Int32) (f_t_rest : Nat → Int32) (p2 : Int32) (p3 : Int32) (p4 : Int32) (p5 : Int32) (p6 : Int32) (k : Nat) (R : Int32 × (Nat → Int32)) (hm : mX12_finds_o k f_t_page f_t_found p2 p3 p4 p5 p6 = some R) : Con l D cy g yX12_finds cX12_finds 14 (some .boolean) 2 42 0 0 [.ref a_t, .ref a_t_page, .int p2, .int p3, .int p4, .int p5, .int p6] (([(a_t, .inr (8, [.int v_t_isWide, .ref a_t_cells, .ref a_t_page, .int v_t_pageMany, .ref a_t_digits, .int v_t_many, .int v_t_isMinus, .ref a_t_found, .ref a_t_one, .ref a_t_other, .ref a_t_sum, .ref a_t_rest])), (a_t_cells, .inl (cy 5, 8, .inr (.inr (.inr (.inr (fun j => some (rw_t j))))))), (a_t_page, .inl (cy 0, 66, .inl f_t_page)), (a_t_digits, .inl (cy 0, 64, .inl f_t_digits)), (a_t_found, .inl (cy 2, 64, .inl f_t_found)), (a_t_one, .inl (cy 2, 65, .inl f_t_one)), (a_t_other, .inl (cy 2, 65, .inl f_t_other)), (a_t_sum, .inl (cy 2, 65, .inl f_t_sum)), (a_t_rest, .inl (cy 2, 65, .inl f_t_rest))] : va_W) ++ (rowsW (cy 2) rw_t B_t ++ ([] : va_W))) (([(a_t, .inr (8, [.int v_t_isWide, .ref a_t_cells, .ref a_t_page, .int v_t_pageMany, .ref a_t_digits, .int v_t_many, .int v_t_isMinus, .ref a_t_found, .ref a_t_one, .ref a_t_other, .ref a_t_sum, .ref a_t_rest])), (a_t_cells, .inl (cy 5, 8, .inr (.inr (.inr (.inr (fun j => some (rw_t j))))))), (a_t_page, .inl (cy 0, 66, .inl f_t_page)), (a_t_digits, .inl (cy 0, 64, .inl f_t_digits)), (a_t_found, .inl (cy 2, 64, .inl R.2)), (a_t_one, .inl (cy 2, 65, .inl f_t_one)), (a_t_other, .inl (cy 2, 65, .inl f_t_other)), (a_t_sum, .inl (cy 2, 65, .inl f_t_sum)), (a_t_rest, .inl (cy 2, 65, .inl f_t_rest))] : va_W) ++ (rowsW (cy 2) rw_t B_t ++ ([] : va_W))) (some (.int R.1)) := by
  refine Con.of (by decide +kernel) (Nat.le_of_ble_eq_true rfl) ?_
  intro p e RM s m ar below meth c A Qc ls hx hb hr hml hown hlocks hnm ht hK hP hD hS hA hR hC hQc hl
  have hown : s.vm.findClass RX12 = some m.cls := hown
  have hl : lv_has ls 14 [(0, .ref a_t), (1, .ref a_t_page), (2, .int p2), (3, .int p3), (4, .int p4), (5, .int p5), (6, .int p6)] := hl
  rw [mX12_finds_o] at hm
  refine lv_iload_n hx hb dX12_finds_0 rfl (lv_at hl 2 rfl) ?_
  refine lv_iload_n hx hb dX12_finds_1 rfl (lv_at hl 3 rfl) ?_
  obtain ⟨x_3, hreg, hm⟩ := hm_b hm
  have J18 : ∀ (H : Heap) (locs : List Loc) (ls : Array Slot), va_P D classes (([(a_t, .inr (8, [.int v_t_isWide, .ref a_t_cells, .ref a_t_page, .int v_t_pageMany, .ref a_t_digits, .int v_t_many, .int v_t_isMinus, .ref a_t_found, .ref a_t_one, .ref a_t_other, .ref a_t_sum, .ref a_t_rest])), (a_t_cells, .inl (cy 5, 8, .inr (.inr (.inr (.inr (fun j => some (rw_t j))))))), (a_t_page, .inl (cy 0, 66, .inl f_t_page)), (a_t_digits, .inl (cy 0, 64, .inl f_t_digits)), (a_t_found, .inl (cy 2, 64, .inl f_t_found)), (a_t_one, .inl (cy 2, 65, .inl f_t_one)), (a_t_other, .inl (cy 2, 65, .inl f_t_other)), (a_t_sum, .inl (cy 2, 65, .inl f_t_sum)), (a_t_rest, .inl (cy 2, 65, .inl f_t_rest))] : va_W) ++ (rowsW (cy 2) rw_t B_t ++ ([] : va_W))) H → va_D A (([(a_t, .inr (8, [.int v_t_isWide, .ref a_t_cells, .ref a_t_page, .int v_t_pageMany, .ref a_t_digits, .int v_t_many, .int v_t_isMinus, .ref a_t_found, .ref a_t_one, .ref a_t_other, .ref a_t_sum, .ref a_t_rest])), (a_t_cells, .inl (cy 5, 8, .inr (.inr (.inr (.inr (fun j => some (rw_t j))))))), (a_t_page, .inl (cy 0, 66, .inl f_t_page)), (a_t_digits, .inl (cy 0, 64, .inl f_t_digits)), (a_t_found, .inl (cy 2, 64, .inl f_t_found)), (a_t_one, .inl (cy 2, 65, .inl f_t_one)), (a_t_other, .inl (cy 2, 65, .inl f_t_other)), (a_t_sum, .inl (cy 2, 65, .inl f_t_sum)), (a_t_rest, .inl (cy 2, 65, .inl f_t_rest))] : va_W) ++ (rowsW (cy 2) rw_t B_t ++ ([] : va_W))) → va_S A s.heap H locs → lv_has ls 14 [(0, .ref a_t), (1, .ref a_t_page), (2, .int p2), (3, .int p3), (4, .int p4), (5, .int p5), (6, .int p6)] → W p l e RM s m ar below meth c H locs 0 0 (MQ below Qc ar s 0 0 A) (F0 m 18 ls [.int x_3]) := by
    intro H locs ls hP hD hS hl
    refine lv_istore (lv' := [(7, .int x_3), (0, .ref a_t), (1, .ref a_t_page), (2, .int p2), (3, .int p3), (4, .int p4), (5, .int p5), (6, .int p6)]) hx hb dX12_finds_18 hl (by decide) rfl (fun ls hl => ?_)
    refine lv_iload hx hb dX12_finds_20 (lv_at hl 0 rfl) ?_
    obtain ⟨x_7, hreg, hm⟩ := hm_b hm
    have J43 : ∀ (H : Heap) (locs : List Loc) (ls : Array Slot), va_P D classes (([(a_t, .inr (8, [.int v_t_isWide, .ref a_t_cells, .ref a_t_page, .int v_t_pageMany, .ref a_t_digits, .int v_t_many, .int v_t_isMinus, .ref a_t_found, .ref a_t_one, .ref a_t_other, .ref a_t_sum, .ref a_t_rest])), (a_t_cells, .inl (cy 5, 8, .inr (.inr (.inr (.inr (fun j => some (rw_t j))))))), (a_t_page, .inl (cy 0, 66, .inl f_t_page)), (a_t_digits, .inl (cy 0, 64, .inl f_t_digits)), (a_t_found, .inl (cy 2, 64, .inl f_t_found)), (a_t_one, .inl (cy 2, 65, .inl f_t_one)), (a_t_other, .inl (cy 2, 65, .inl f_t_other)), (a_t_sum, .inl (cy 2, 65, .inl f_t_sum)), (a_t_rest, .inl (cy 2, 65, .inl f_t_rest))] : va_W) ++ (rowsW (cy 2) rw_t B_t ++ ([] : va_W))) H → va_D A (([(a_t, .inr (8, [.int v_t_isWide, .ref a_t_cells, .ref a_t_page, .int v_t_pageMany, .ref a_t_digits, .int v_t_many, .int v_t_isMinus, .ref a_t_found, .ref a_t_one, .ref a_t_other, .ref a_t_sum, .ref a_t_rest])), (a_t_cells, .inl (cy 5, 8, .inr (.inr (.inr (.inr (fun j => some (rw_t j))))))), (a_t_page, .inl (cy 0, 66, .inl f_t_page)), (a_t_digits, .inl (cy 0, 64, .inl f_t_digits)), (a_t_found, .inl (cy 2, 64, .inl f_t_found)), (a_t_one, .inl (cy 2, 65, .inl f_t_one)), (a_t_other, .inl (cy 2, 65, .inl f_t_other)), (a_t_sum, .inl (cy 2, 65, .inl f_t_sum)), (a_t_rest, .inl (cy 2, 65, .inl f_t_rest))] : va_W) ++ (rowsW (cy 2) rw_t B_t ++ ([] : va_W))) → va_S A s.heap H locs → lv_has ls 14 [(7, .int x_3), (0, .ref a_t), (1, .ref a_t_page), (2, .int p2), (3, .int p3), (4, .int p4), (5, .int p5), (6, .int p6)] → W p l e RM s m ar below meth c H locs 0 0 (MQ below Qc ar s 0 0 A) (F0 m 43 ls [.int x_7]) := by
      intro H locs ls hP hD hS hl
      refine lv_istore (lv' := [(8, .int x_7), (7, .int x_3), (0, .ref a_t), (1, .ref a_t_page), (2, .int p2), (3, .int p3), (4, .int p4), (5, .int p5), (6, .int p6)]) hx hb dX12_finds_43 hl (by decide) rfl (fun ls hl => ?_)
      refine lv_iload hx hb dX12_finds_45 (lv_at hl 0 rfl) ?_
      obtain ⟨x_9, hreg, hm⟩ := hm_b hm
      have J57 : ∀ (H : Heap) (locs : List Loc) (ls : Array Slot), va_P D classes (([(a_t, .inr (8, [.int v_t_isWide, .ref a_t_cells, .ref a_t_page, .int v_t_pageMany, .ref a_t_digits, .int v_t_many, .int v_t_isMinus, .ref a_t_found, .ref a_t_one, .ref a_t_other, .ref a_t_sum, .ref a_t_rest])), (a_t_cells, .inl (cy 5, 8, .inr (.inr (.inr (.inr (fun j => some (rw_t j))))))), (a_t_page, .inl (cy 0, 66, .inl f_t_page)), (a_t_digits, .inl (cy 0, 64, .inl f_t_digits)), (a_t_found, .inl (cy 2, 64, .inl f_t_found)), (a_t_one, .inl (cy 2, 65, .inl f_t_one)), (a_t_other, .inl (cy 2, 65, .inl f_t_other)), (a_t_sum, .inl (cy 2, 65, .inl f_t_sum)), (a_t_rest, .inl (cy 2, 65, .inl f_t_rest))] : va_W) ++ (rowsW (cy 2) rw_t B_t ++ ([] : va_W))) H → va_D A (([(a_t, .inr (8, [.int v_t_isWide, .ref a_t_cells, .ref a_t_page, .int v_t_pageMany, .ref a_t_digits, .int v_t_many, .int v_t_isMinus, .ref a_t_found, .ref a_t_one, .ref a_t_other, .ref a_t_sum, .ref a_t_rest])), (a_t_cells, .inl (cy 5, 8, .inr (.inr (.inr (.inr (fun j => some (rw_t j))))))), (a_t_page, .inl (cy 0, 66, .inl f_t_page)), (a_t_digits, .inl (cy 0, 64, .inl f_t_digits)), (a_t_found, .inl (cy 2, 64, .inl f_t_found)), (a_t_one, .inl (cy 2, 65, .inl f_t_one)), (a_t_other, .inl (cy 2, 65, .inl f_t_other)), (a_t_sum, .inl (cy 2, 65, .inl f_t_sum)), (a_t_rest, .inl (cy 2, 65, .inl f_t_rest))] : va_W) ++ (rowsW (cy 2) rw_t B_t ++ ([] : va_W))) → va_S A s.heap H locs → lv_has ls 14 [(7, .int x_3), (0, .ref a_t), (1, .ref a_t_page), (3, .int p3), (4, .int p4), (5, .int p5), (6, .int p6)] → W p l e RM s m ar below meth c H locs 0 0 (MQ below Qc ar s 0 0 A) (F0 m 57 ls [.int x_9]) := by
        intro H locs ls hP hD hS hl
        refine lv_istore (lv' := [(9, .int x_9), (7, .int x_3), (0, .ref a_t), (1, .ref a_t_page), (3, .int p3), (4, .int p4), (5, .int p5), (6, .int p6)]) hx hb dX12_finds_57 hl (by decide) rfl (fun ls hl => ?_)
        refine lv_iload hx hb dX12_finds_59 (lv_at hl 5 rfl) ?_
        refine lv_iconst (v := 2) hx hb dX12_finds_61 (by decide) ?_
        refine lv_bipush (v := 36) hx hb dX12_finds_62 (by decide) ?_
        obtain ⟨r_10, hr_10, hm⟩ := hm_b hm
        refine k_SN (as := [.int p4, .int 2, .int 36]) (rest := []) (ws' := (([(a_t, .inr (8, [.int v_t_isWide, .ref a_t_cells, .ref a_t_page, .int v_t_pageMany, .ref a_t_digits, .int v_t_many, .int v_t_isMinus, .ref a_t_found, .ref a_t_one, .ref a_t_other, .ref a_t_sum, .ref a_t_rest])), (a_t_cells, .inl (cy 5, 8, .inr (.inr (.inr (.inr (fun j => some (rw_t j))))))), (a_t_page, .inl (cy 0, 66, .inl f_t_page)), (a_t_digits, .inl (cy 0, 64, .inl f_t_digits)), (a_t_found, .inl (cy 2, 64, .inl f_t_found)), (a_t_one, .inl (cy 2, 65, .inl f_t_one)), (a_t_other, .inl (cy 2, 65, .inl f_t_other)), (a_t_sum, .inl (cy 2, 65, .inl f_t_sum)), (a_t_rest, .inl (cy 2, 65, .inl f_t_rest))] : va_W) ++ (rowsW (cy 2) rw_t B_t ++ ([] : va_W)))) (st2 := [.int r_10]) hx hb hml hown ht hK hP hD hS hA hC hR hl (kcX13_in l D cy g p4 2 36 r_10 hr_10) [] qn_1378 q_1344 q_54 q_1345 hyX13_in ⟨Nat.le_of_ble_eq_true rfl, Nat.le_of_ble_eq_true rfl, Nat.le_of_ble_eq_true rfl, Nat.le_of_ble_eq_true rfl⟩ rfl (zq rfl) rfl rfl (Nat.le_of_ble_eq_true rfl) dX12_finds_64 (zqw (cx := []) rfl rfl) rfl (fun H locs hP hD hS => ?_)
        refine lv_if_eq (tgt := 86) hx hb dX12_finds_67 (by decide) (fun c_11 => ?_) (fun c_11 => ?_)
        · replace hm := hm_t c_11 hm
          refine lv_iconst (v := 0) hx hb dX12_finds_86 (by decide) ?_
          obtain rfl := Option.some.inj hm
          exact k_zret hx hb hr hlocks hQc rfl hP hS rfl rfl dX12_finds_87
        · replace hm := hm_f c_11 hm
          refine lv_iload hx hb dX12_finds_70 (lv_at hl 0 rfl) ?_
          refine lv_iload_n hx hb dX12_finds_72 rfl (lv_at hl 4 rfl) ?_
          refine lv_icmp_eq (tgt := 86) hx hb dX12_finds_73 (by decide) (fun c_12 => ?_) (fun c_12 => ?_)
          · replace hm := hm_t c_12 hm
            refine lv_iconst (v := 0) hx hb dX12_finds_86 (by decide) ?_
            obtain rfl := Option.some.inj hm
            exact k_zret hx hb hr hlocks hQc rfl hP hS rfl rfl dX12_finds_87
          · replace hm := hm_f c_12 hm
            refine lv_iload hx hb dX12_finds_76 (lv_at hl 1 rfl) ?_
            have J88 : ∀ (_ : Unit), mX12_finds_o_j88 k f_t_found p3 x_3 p6 p5 f_t_page p4 x_9 = some R → ∀ (H : Heap) (locs : List Loc) (ls : Array Slot), va_P D classes (([(a_t, .inr (8, [.int v_t_isWide, .ref a_t_cells, .ref a_t_page, .int v_t_pageMany, .ref a_t_digits, .int v_t_many, .int v_t_isMinus, .ref a_t_found, .ref a_t_one, .ref a_t_other, .ref a_t_sum, .ref a_t_rest])), (a_t_cells, .inl (cy 5, 8, .inr (.inr (.inr (.inr (fun j => some (rw_t j))))))), (a_t_page, .inl (cy 0, 66, .inl f_t_page)), (a_t_digits, .inl (cy 0, 64, .inl f_t_digits)), (a_t_found, .inl (cy 2, 64, .inl f_t_found)), (a_t_one, .inl (cy 2, 65, .inl f_t_one)), (a_t_other, .inl (cy 2, 65, .inl f_t_other)), (a_t_sum, .inl (cy 2, 65, .inl f_t_sum)), (a_t_rest, .inl (cy 2, 65, .inl f_t_rest))] : va_W) ++ (rowsW (cy 2) rw_t B_t ++ ([] : va_W))) H → va_D A (([(a_t, .inr (8, [.int v_t_isWide, .ref a_t_cells, .ref a_t_page, .int v_t_pageMany, .ref a_t_digits, .int v_t_many, .int v_t_isMinus, .ref a_t_found, .ref a_t_one, .ref a_t_other, .ref a_t_sum, .ref a_t_rest])), (a_t_cells, .inl (cy 5, 8, .inr (.inr (.inr (.inr (fun j => some (rw_t j))))))), (a_t_page, .inl (cy 0, 66, .inl f_t_page)), (a_t_digits, .inl (cy 0, 64, .inl f_t_digits)), (a_t_found, .inl (cy 2, 64, .inl f_t_found)), (a_t_one, .inl (cy 2, 65, .inl f_t_one)), (a_t_other, .inl (cy 2, 65, .inl f_t_other)), (a_t_sum, .inl (cy 2, 65, .inl f_t_sum)), (a_t_rest, .inl (cy 2, 65, .inl f_t_rest))] : va_W) ++ (rowsW (cy 2) rw_t B_t ++ ([] : va_W))) → va_S A s.heap H locs → lv_has ls 14 [(9, .int x_9), (7, .int x_3), (0, .ref a_t), (1, .ref a_t_page), (3, .int p3), (4, .int p4), (5, .int p5), (6, .int p6)] → W p l e RM s m ar below meth c H locs 0 0 (MQ below Qc ar s 0 0 A) (F0 m 88 ls []) := by
              intro _ hm H locs ls hP hD hS hl
              rw [mX12_finds_o_j88] at hm
              refine lv_aload_n hx hb dX12_finds_88 rfl (lv_at hl 2 rfl) ?_
              refine va_get (D := D) (cl := classes) (ci := 8) (v := .ref a_t_found) (C := RX12) (T := TX12) (N := 12) hx hb ht in_RX12 hown hK.1 hP 0 rfl rfl 7 (by decide) (ht _ q_1256) (fun _ h9 => h9) rfl dX12_finds_89 ?_
              obtain ⟨r_15, hr_15, hm⟩ := hm_b hm
              refine k_SN (as := [.ref a_t_found]) (rest := []) (ws' := (([(a_t, .inr (8, [.int v_t_isWide, .ref a_t_cells, .ref a_t_page, .int v_t_pageMany, .ref a_t_digits, .int v_t_many, .int v_t_isMinus, .ref a_t_found, .ref a_t_one, .ref a_t_other, .ref a_t_sum, .ref a_t_rest])), (a_t_cells, .inl (cy 5, 8, .inr (.inr (.inr (.inr (fun j => some (rw_t j))))))), (a_t_page, .inl (cy 0, 66, .inl f_t_page)), (a_t_digits, .inl (cy 0, 64, .inl f_t_digits)), (a_t_found, .inl (cy 2, 64, .inl r_15)), (a_t_one, .inl (cy 2, 65, .inl f_t_one)), (a_t_other, .inl (cy 2, 65, .inl f_t_other)), (a_t_sum, .inl (cy 2, 65, .inl f_t_sum)), (a_t_rest, .inl (cy 2, 65, .inl f_t_rest))] : va_W) ++ (rowsW (cy 2) rw_t B_t ++ ([] : va_W)))) (st2 := []) hx hb hml hown ht hK hP hD hS hA hC hR hl (kcX13_clear l D cy g a_t_found 64 f_t_found k r_15 hr_15) [4] qn_1379 q_1422 q_54 q_1423 hyX13_clear ⟨Nat.le_of_ble_eq_true rfl, Nat.le_of_ble_eq_true rfl, Nat.le_of_ble_eq_true rfl, Nat.le_of_ble_eq_true rfl⟩ rfl (zq rfl) rfl rfl (Nat.le_of_ble_eq_true rfl) dX12_finds_92 (zqw (cx := [(a_t_found, .inl (cy 2, 64, .inl f_t_found))]) rfl rfl) rfl (fun H locs hP hD hS => ?_)
              refine lv_iconst (v := 0) hx hb dX12_finds_95 (by decide) ?_
              refine lv_istore (lv' := [(10, .int 0), (9, .int x_9), (7, .int x_3), (0, .ref a_t), (1, .ref a_t_page), (3, .int p3), (4, .int p4), (5, .int p5), (6, .int p6)]) hx hb dX12_finds_96 hl (by decide) rfl (fun ls hl => ?_)
              refine lv_iload hx hb dX12_finds_98 (lv_at hl 1 rfl) ?_
              refine lv_istore (lv' := [(11, .int x_9), (10, .int 0), (9, .int x_9), (7, .int x_3), (0, .ref a_t), (1, .ref a_t_page), (3, .int p3), (4, .int p4), (5, .int p5), (6, .int p6)]) hx hb dX12_finds_100 hl (by decide) rfl (fun ls hl => ?_)
              have L102 : ∀ (n_ : Nat), ∀ (y_82 : Int32) (y_83 : Int32) (y_84 : Nat → Int32), mX12_finds_o_L102 p3 x_3 k p6 p5 f_t_page p4 n_ y_82 y_83 y_84 = some R → ∀ (H : Heap) (locs : List Loc) (ls : Array Slot), va_P D classes (([(a_t, .inr (8, [.int v_t_isWide, .ref a_t_cells, .ref a_t_page, .int v_t_pageMany, .ref a_t_digits, .int v_t_many, .int v_t_isMinus, .ref a_t_found, .ref a_t_one, .ref a_t_other, .ref a_t_sum, .ref a_t_rest])), (a_t_cells, .inl (cy 5, 8, .inr (.inr (.inr (.inr (fun j => some (rw_t j))))))), (a_t_page, .inl (cy 0, 66, .inl f_t_page)), (a_t_digits, .inl (cy 0, 64, .inl f_t_digits)), (a_t_found, .inl (cy 2, 64, .inl y_84)), (a_t_one, .inl (cy 2, 65, .inl f_t_one)), (a_t_other, .inl (cy 2, 65, .inl f_t_other)), (a_t_sum, .inl (cy 2, 65, .inl f_t_sum)), (a_t_rest, .inl (cy 2, 65, .inl f_t_rest))] : va_W) ++ (rowsW (cy 2) rw_t B_t ++ ([] : va_W))) H → va_D A (([(a_t, .inr (8, [.int v_t_isWide, .ref a_t_cells, .ref a_t_page, .int v_t_pageMany, .ref a_t_digits, .int v_t_many, .int v_t_isMinus, .ref a_t_found, .ref a_t_one, .ref a_t_other, .ref a_t_sum, .ref a_t_rest])), (a_t_cells, .inl (cy 5, 8, .inr (.inr (.inr (.inr (fun j => some (rw_t j))))))), (a_t_page, .inl (cy 0, 66, .inl f_t_page)), (a_t_digits, .inl (cy 0, 64, .inl f_t_digits)), (a_t_found, .inl (cy 2, 64, .inl y_84)), (a_t_one, .inl (cy 2, 65, .inl f_t_one)), (a_t_other, .inl (cy 2, 65, .inl f_t_other)), (a_t_sum, .inl (cy 2, 65, .inl f_t_sum)), (a_t_rest, .inl (cy 2, 65, .inl f_t_rest))] : va_W) ++ (rowsW (cy 2) rw_t B_t ++ ([] : va_W))) → va_S A s.heap H locs → lv_has ls 14 [(11, .int y_83), (10, .int y_82), (7, .int x_3), (0, .ref a_t), (1, .ref a_t_page), (3, .int p3), (4, .int p4), (5, .int p5), (6, .int p6)] → W p l e RM s m ar below meth c H locs 0 0 (MQ below Qc ar s 0 0 A) (F0 m 102 ls []) := by
                intro n_
                induction n_ with
                | zero => intro y_82 y_83 y_84 hm; rw [mX12_finds_o_L102] at hm; cases hm
                | succ n_ ih =>
                  intro y_82 y_83 y_84 hm H locs ls hP hD hS hl
                  rw [mX12_finds_o_L102] at hm
                  refine lv_iload hx hb dX12_finds_102 (lv_at hl 0 rfl) ?_
                  refine lv_iload_n hx hb dX12_finds_104 rfl (lv_at hl 5 rfl) ?_
                  refine lv_icmp_ge (tgt := 216) hx hb dX12_finds_105 (by decide) (fun c_85 => ?_) (fun c_85 => ?_)
                  · replace hm := hm_t c_85 hm
                    refine lv_iload hx hb dX12_finds_216 (lv_at hl 2 rfl) ?_
                    obtain ⟨x_89, hreg, hm⟩ := hm_b hm
                    have J240 : ∀ (H : Heap) (locs : List Loc) (ls : Array Slot), va_P D classes (([(a_t, .inr (8, [.int v_t_isWide, .ref a_t_cells, .ref a_t_page, .int v_t_pageMany, .ref a_t_digits, .int v_t_many, .int v_t_isMinus, .ref a_t_found, .ref a_t_one, .ref a_t_other, .ref a_t_sum, .ref a_t_rest])), (a_t_cells, .inl (cy 5, 8, .inr (.inr (.inr (.inr (fun j => some (rw_t j))))))), (a_t_page, .inl (cy 0, 66, .inl f_t_page)), (a_t_digits, .inl (cy 0, 64, .inl f_t_digits)), (a_t_found, .inl (cy 2, 64, .inl y_84)), (a_t_one, .inl (cy 2, 65, .inl f_t_one)), (a_t_other, .inl (cy 2, 65, .inl f_t_other)), (a_t_sum, .inl (cy 2, 65, .inl f_t_sum)), (a_t_rest, .inl (cy 2, 65, .inl f_t_rest))] : va_W) ++ (rowsW (cy 2) rw_t B_t ++ ([] : va_W))) H → va_D A (([(a_t, .inr (8, [.int v_t_isWide, .ref a_t_cells, .ref a_t_page, .int v_t_pageMany, .ref a_t_digits, .int v_t_many, .int v_t_isMinus, .ref a_t_found, .ref a_t_one, .ref a_t_other, .ref a_t_sum, .ref a_t_rest])), (a_t_cells, .inl (cy 5, 8, .inr (.inr (.inr (.inr (fun j => some (rw_t j))))))), (a_t_page, .inl (cy 0, 66, .inl f_t_page)), (a_t_digits, .inl (cy 0, 64, .inl f_t_digits)), (a_t_found, .inl (cy 2, 64, .inl y_84)), (a_t_one, .inl (cy 2, 65, .inl f_t_one)), (a_t_other, .inl (cy 2, 65, .inl f_t_other)), (a_t_sum, .inl (cy 2, 65, .inl f_t_sum)), (a_t_rest, .inl (cy 2, 65, .inl f_t_rest))] : va_W) ++ (rowsW (cy 2) rw_t B_t ++ ([] : va_W))) → va_S A s.heap H locs → lv_has ls 14 [(10, .int y_82), (7, .int x_3), (0, .ref a_t), (5, .int p5), (6, .int p6)] → W p l e RM s m ar below meth c H locs 0 0 (MQ below Qc ar s 0 0 A) (F0 m 240 ls [.int x_89]) := by
                      intro H locs ls hP hD hS hl
                      refine lv_istore (lv' := [(11, .int x_89), (10, .int y_82), (7, .int x_3), (0, .ref a_t), (5, .int p5), (6, .int p6)]) hx hb dX12_finds_240 hl (by decide) rfl (fun ls hl => ?_)
                      refine lv_iload hx hb dX12_finds_242 (lv_at hl 1 rfl) ?_
                      refine lv_if_ne (tgt := 269) hx hb dX12_finds_244 (by decide) (fun c_90 => ?_) (fun c_90 => ?_)
                      · replace hm := hm_f c_90 hm
                        refine lv_iconst (v := 0) hx hb dX12_finds_269 (by decide) ?_
                        obtain rfl := Option.some.inj hm
                        exact k_zret hx hb hr hlocks hQc rfl hP hS rfl rfl dX12_finds_270
                      · replace hm := hm_t c_90 hm
                        refine lv_iload hx hb dX12_finds_247 (lv_at hl 4 rfl) ?_
                        have J271 : ∀ (_ : Unit), mX12_finds_o_j271 x_3 y_84 k p6 = some R → ∀ (H : Heap) (locs : List Loc) (ls : Array Slot), va_P D classes (([(a_t, .inr (8, [.int v_t_isWide, .ref a_t_cells, .ref a_t_page, .int v_t_pageMany, .ref a_t_digits, .int v_t_many, .int v_t_isMinus, .ref a_t_found, .ref a_t_one, .ref a_t_other, .ref a_t_sum, .ref a_t_rest])), (a_t_cells, .inl (cy 5, 8, .inr (.inr (.inr (.inr (fun j => some (rw_t j))))))), (a_t_page, .inl (cy 0, 66, .inl f_t_page)), (a_t_digits, .inl (cy 0, 64, .inl f_t_digits)), (a_t_found, .inl (cy 2, 64, .inl y_84)), (a_t_one, .inl (cy 2, 65, .inl f_t_one)), (a_t_other, .inl (cy 2, 65, .inl f_t_other)), (a_t_sum, .inl (cy 2, 65, .inl f_t_sum)), (a_t_rest, .inl (cy 2, 65, .inl f_t_rest))] : va_W) ++ (rowsW (cy 2) rw_t B_t ++ ([] : va_W))) H → va_D A (([(a_t, .inr (8, [.int v_t_isWide, .ref a_t_cells, .ref a_t_page, .int v_t_pageMany, .ref a_t_digits, .int v_t_many, .int v_t_isMinus, .ref a_t_found, .ref a_t_one, .ref a_t_other, .ref a_t_sum, .ref a_t_rest])), (a_t_cells, .inl (cy 5, 8, .inr (.inr (.inr (.inr (fun j => some (rw_t j))))))), (a_t_page, .inl (cy 0, 66, .inl f_t_page)), (a_t_digits, .inl (cy 0, 64, .inl f_t_digits)), (a_t_found, .inl (cy 2, 64, .inl y_84)), (a_t_one, .inl (cy 2, 65, .inl f_t_one)), (a_t_other, .inl (cy 2, 65, .inl f_t_other)), (a_t_sum, .inl (cy 2, 65, .inl f_t_sum)), (a_t_rest, .inl (cy 2, 65, .inl f_t_rest))] : va_W) ++ (rowsW (cy 2) rw_t B_t ++ ([] : va_W))) → va_S A s.heap H locs → lv_has ls 14 [(7, .int x_3), (0, .ref a_t), (6, .int p6)] → W p l e RM s m ar below meth c H locs 0 0 (MQ below Qc ar s 0 0 A) (F0 m 271 ls []) := by
                          intro _ hm H locs ls hP hD hS hl
                          rw [mX12_finds_o_j271] at hm
                          refine lv_iload hx hb dX12_finds_271 (lv_at hl 0 rfl) ?_
                          refine lv_if_eq (tgt := 285) hx hb dX12_finds_273 (by decide) (fun c_94 => ?_) (fun c_94 => ?_)
                          · replace hm := hm_t c_94 hm
                            refine lv_iconst (v := 1) hx hb dX12_finds_285 (by decide) ?_
                            obtain rfl := Option.some.inj hm
                            exact k_zret hx hb hr hlocks hQc rfl hP hS rfl rfl dX12_finds_286
                          · replace hm := hm_f c_94 hm
                            refine lv_aload_n hx hb dX12_finds_276 rfl (lv_at hl 1 rfl) ?_
                            refine va_get (D := D) (cl := classes) (ci := 8) (v := .ref a_t_found) (C := RX12) (T := TX12) (N := 12) hx hb ht in_RX12 hown hK.1 hP 0 rfl rfl 7 (by decide) (ht _ q_1256) (fun _ h9 => h9) rfl dX12_finds_277 ?_
                            refine lv_iload hx hb dX12_finds_280 (lv_at hl 2 rfl) ?_
                            obtain ⟨r_95, hr_95, hm⟩ := hm_b hm
                            refine k_SN (as := [.ref a_t_found, .int p6]) (rest := []) (ws' := (([(a_t, .inr (8, [.int v_t_isWide, .ref a_t_cells, .ref a_t_page, .int v_t_pageMany, .ref a_t_digits, .int v_t_many, .int v_t_isMinus, .ref a_t_found, .ref a_t_one, .ref a_t_other, .ref a_t_sum, .ref a_t_rest])), (a_t_cells, .inl (cy 5, 8, .inr (.inr (.inr (.inr (fun j => some (rw_t j))))))), (a_t_page, .inl (cy 0, 66, .inl f_t_page)), (a_t_digits, .inl (cy 0, 64, .inl f_t_digits)), (a_t_found, .inl (cy 2, 64, .inl r_95)), (a_t_one, .inl (cy 2, 65, .inl f_t_one)), (a_t_other, .inl (cy 2, 65, .inl f_t_other)), (a_t_sum, .inl (cy 2, 65, .inl f_t_sum)), (a_t_rest, .inl (cy 2, 65, .inl f_t_rest))] : va_W) ++ (rowsW (cy 2) rw_t B_t ++ ([] : va_W)))) (st2 := []) hx hb hml hown ht hK hP hD hS hA hC hR hl (kcX13_negates l D cy g a_t_found 64 y_84 p6 k r_95 hr_95) [4] qn_1388 q_1431 q_54 q_1432 hyX13_negates ⟨Nat.le_of_ble_eq_true rfl, Nat.le_of_ble_eq_true rfl, Nat.le_of_ble_eq_true rfl, Nat.le_of_ble_eq_true rfl⟩ rfl (zq rfl) rfl rfl (Nat.le_of_ble_eq_true rfl) dX12_finds_282 (zqw (cx := [(a_t_found, .inl (cy 2, 64, .inl y_84))]) rfl rfl) rfl (fun H locs hP hD hS => ?_)
                            refine lv_iconst (v := 1) hx hb dX12_finds_285 (by decide) ?_
                            obtain rfl := Option.some.inj hm
                            exact k_zret hx hb hr hlocks hQc rfl hP hS rfl rfl dX12_finds_286
                        refine lv_if_ne (tgt := 271) hx hb dX12_finds_249 (by decide) (fun c_91 => ?_) (fun c_91 => ?_)
                        · replace hm := hm_f c_91 hm
                          exact J271 () hm _ _ _ hP hD hS (lv_sub hl [2, 3, 5] rfl)
                        · replace hm := hm_t c_91 hm
                          refine lv_aload_n hx hb dX12_finds_252 rfl (lv_at hl 3 rfl) ?_
                          refine va_get (D := D) (cl := classes) (ci := 8) (v := .ref a_t_found) (C := RX12) (T := TX12) (N := 12) hx hb ht in_RX12 hown hK.1 hP 0 rfl rfl 7 (by decide) (ht _ q_1256) (fun _ h9 => h9) rfl dX12_finds_253 ?_
                          refine lv_iload hx hb dX12_finds_256 (lv_at hl 5 rfl) ?_
                          refine lv_iconst (v := 1) hx hb dX12_finds_258 (by decide) ?_
                          refine lv_isub hx hb dX12_finds_259 ?_
                          obtain ⟨hin, hm⟩ := hm_g hm
                          refine va_zald hx hb hK.1 hP 4 2 rfl rfl hin dX12_finds_260 ?_
                          refine lv_if_eq (tgt := 271) hx hb dX12_finds_261 (by decide) (fun c_96 => ?_) (fun c_96 => ?_)
                          · replace hm := hm_t c_96 hm
                            exact J271 () hm _ _ _ hP hD hS (lv_sub hl [2, 3, 5] rfl)
                          · replace hm := hm_f c_96 hm
                            refine lv_iload hx hb dX12_finds_264 (lv_at hl 0 rfl) ?_
                            refine lv_if_ne (tgt := 271) hx hb dX12_finds_266 (by decide) (fun c_97 => ?_) (fun c_97 => ?_)
                            · replace hm := hm_f c_97 hm
                              exact J271 () hm _ _ _ hP hD hS (lv_sub hl [2, 3, 5] rfl)
                            · replace hm := hm_t c_97 hm
                              refine lv_iconst (v := 0) hx hb dX12_finds_269 (by decide) ?_
                              obtain rfl := Option.some.inj hm
                              exact k_zret hx hb hr hlocks hQc rfl hP hS rfl rfl dX12_finds_270
                    replace hm := hreg
                    refine lv_if_eq (tgt := 239) hx hb dX12_finds_218 (by decide) (fun c_86 => ?_) (fun c_86 => ?_)
                    · replace hm := hm_t c_86 hm
                      refine lv_iconst (v := 0) hx hb dX12_finds_239 (by decide) ?_
                      obtain rfl := Option.some.inj hm
                      exact J240 _ _ _ hP hD hS (lv_sub hl [1, 2, 3, 7, 8] rfl)
                    · replace hm := hm_f c_86 hm
                      refine lv_aload_n hx hb dX12_finds_221 rfl (lv_at hl 3 rfl) ?_
                      refine va_get (D := D) (cl := classes) (ci := 8) (v := .ref a_t_found) (C := RX12) (T := TX12) (N := 12) hx hb ht in_RX12 hown hK.1 hP 0 rfl rfl 7 (by decide) (ht _ q_1256) (fun _ h9 => h9) rfl dX12_finds_222 ?_
                      refine lv_iload hx hb dX12_finds_225 (lv_at hl 8 rfl) ?_
                      refine lv_iconst (v := 1) hx hb dX12_finds_227 (by decide) ?_
                      refine lv_isub hx hb dX12_finds_228 ?_
                      obtain ⟨r_98, hr_98, hm⟩ := hm_b hm
                      refine k_SN (as := [.ref a_t_found, .int (p6 - 1)]) (rest := []) (ws' := (([(a_t, .inr (8, [.int v_t_isWide, .ref a_t_cells, .ref a_t_page, .int v_t_pageMany, .ref a_t_digits, .int v_t_many, .int v_t_isMinus, .ref a_t_found, .ref a_t_one, .ref a_t_other, .ref a_t_sum, .ref a_t_rest])), (a_t_cells, .inl (cy 5, 8, .inr (.inr (.inr (.inr (fun j => some (rw_t j))))))), (a_t_page, .inl (cy 0, 66, .inl f_t_page)), (a_t_digits, .inl (cy 0, 64, .inl f_t_digits)), (a_t_found, .inl (cy 2, 64, .inl y_84)), (a_t_one, .inl (cy 2, 65, .inl f_t_one)), (a_t_other, .inl (cy 2, 65, .inl f_t_other)), (a_t_sum, .inl (cy 2, 65, .inl f_t_sum)), (a_t_rest, .inl (cy 2, 65, .inl f_t_rest))] : va_W) ++ (rowsW (cy 2) rw_t B_t ++ ([] : va_W)))) (st2 := [.int r_98]) hx hb hml hown ht hK hP hD hS hA hC hR hl (kcX13_isNothing l D cy g a_t_found 64 y_84 (p6 - 1) k r_98 hr_98) [4] qn_1385 q_1428 q_54 q_1429 hyX13_isNothing ⟨Nat.le_of_ble_eq_true rfl, Nat.le_of_ble_eq_true rfl, Nat.le_of_ble_eq_true rfl, Nat.le_of_ble_eq_true rfl⟩ rfl (zq rfl) rfl rfl (Nat.le_of_ble_eq_true rfl) dX12_finds_229 (zqw (cx := [(a_t_found, .inl (cy 2, 64, .inl y_84))]) rfl rfl) rfl (fun H locs hP hD hS => ?_)
                      refine lv_if_eq (tgt := 239) hx hb dX12_finds_232 (by decide) (fun c_99 => ?_) (fun c_99 => ?_)
                      · replace hm := hm_t c_99 hm
                        refine lv_iconst (v := 0) hx hb dX12_finds_239 (by decide) ?_
                        obtain rfl := Option.some.inj hm
                        exact J240 _ _ _ hP hD hS (lv_sub hl [1, 2, 3, 7, 8] rfl)
                      · replace hm := hm_f c_99 hm
                        refine lv_iconst (v := 1) hx hb dX12_finds_235 (by decide) ?_
                        refine lv_goto (tgt := 240) hx hb dX12_finds_236 (by decide) ?_
                        obtain rfl := Option.some.inj hm
                        exact J240 _ _ _ hP hD hS (lv_sub hl [1, 2, 3, 7, 8] rfl)
                  · replace hm := hm_f c_85 hm
                    refine lv_aload_n hx hb dX12_finds_108 rfl (lv_at hl 4 rfl) ?_
                    refine lv_iload hx hb dX12_finds_109 (lv_at hl 0 rfl) ?_
                    obtain ⟨hin, hm⟩ := hm_g hm
                    refine va_iald hx hb hK.1 hP 2 0 rfl rfl hin dX12_finds_111 ?_
                    obtain ⟨r_100, hr_100, hm⟩ := hm_b hm
                    refine k_SN (as := [.int (f_t_page y_83.toNatClampNeg)]) (rest := []) (ws' := (([(a_t, .inr (8, [.int v_t_isWide, .ref a_t_cells, .ref a_t_page, .int v_t_pageMany, .ref a_t_digits, .int v_t_many, .int v_t_isMinus, .ref a_t_found, .ref a_t_one, .ref a_t_other, .ref a_t_sum, .ref a_t_rest])), (a_t_cells, .inl (cy 5, 8, .inr (.inr (.inr (.inr (fun j => some (rw_t j))))))), (a_t_page, .inl (cy 0, 66, .inl f_t_page)), (a_t_digits, .inl (cy 0, 64, .inl f_t_digits)), (a_t_found, .inl (cy 2, 64, .inl y_84)), (a_t_one, .inl (cy 2, 65, .inl f_t_one)), (a_t_other, .inl (cy 2, 65, .inl f_t_other)), (a_t_sum, .inl (cy 2, 65, .inl f_t_sum)), (a_t_rest, .inl (cy 2, 65, .inl f_t_rest))] : va_W) ++ (rowsW (cy 2) rw_t B_t ++ ([] : va_W)))) (st2 := [.int r_100]) hx hb hml hown ht hK hP hD hS hA hC hR hl (kcX13_digitOf l D cy g (f_t_page y_83.toNatClampNeg) r_100 hr_100) [] qn_1382 q_1425 q_54 q_1426 hyX13_digitOf ⟨Nat.le_of_ble_eq_true rfl, Nat.le_of_ble_eq_true rfl, Nat.le_of_ble_eq_true rfl, Nat.le_of_ble_eq_true rfl⟩ rfl (zq rfl) rfl rfl (Nat.le_of_ble_eq_true rfl) dX12_finds_112 (zqw (cx := []) rfl rfl) rfl (fun H locs hP hD hS => ?_)
                    refine lv_istore (lv' := [(12, .int r_100), (11, .int y_83), (10, .int y_82), (7, .int x_3), (0, .ref a_t), (1, .ref a_t_page), (3, .int p3), (4, .int p4), (5, .int p5), (6, .int p6)]) hx hb dX12_finds_115 hl (by decide) rfl (fun ls hl => ?_)
                    refine lv_iload hx hb dX12_finds_117 (lv_at hl 0 rfl) ?_
                    refine lv_iconst (v := 0) hx hb dX12_finds_119 (by decide) ?_
                    refine lv_iload hx hb dX12_finds_120 (lv_at hl 7 rfl) ?_
                    refine lv_iconst (v := 1) hx hb dX12_finds_122 (by decide) ?_
                    refine lv_isub hx hb dX12_finds_123 ?_
                    obtain ⟨r_101, hr_101, hm⟩ := hm_b hm
                    refine k_SN (as := [.int r_100, .int 0, .int (p4 - 1)]) (rest := []) (ws' := (([(a_t, .inr (8, [.int v_t_isWide, .ref a_t_cells, .ref a_t_page, .int v_t_pageMany, .ref a_t_digits, .int v_t_many, .int v_t_isMinus, .ref a_t_found, .ref a_t_one, .ref a_t_other, .ref a_t_sum, .ref a_t_rest])), (a_t_cells, .inl (cy 5, 8, .inr (.inr (.inr (.inr (fun j => some (rw_t j))))))), (a_t_page, .inl (cy 0, 66, .inl f_t_page)), (a_t_digits, .inl (cy 0, 64, .inl f_t_digits)), (a_t_found, .inl (cy 2, 64, .inl y_84)), (a_t_one, .inl (cy 2, 65, .inl f_t_one)), (a_t_other, .inl (cy 2, 65, .inl f_t_other)), (a_t_sum, .inl (cy 2, 65, .inl f_t_sum)), (a_t_rest, .inl (cy 2, 65, .inl f_t_rest))] : va_W) ++ (rowsW (cy 2) rw_t B_t ++ ([] : va_W)))) (st2 := [.int r_101]) hx hb hml hown ht hK hP hD hS hA hC hR hl (kcX13_in l D cy g r_100 0 (p4 - 1) r_101 hr_101) [] qn_1378 q_1344 q_54 q_1345 hyX13_in ⟨Nat.le_of_ble_eq_true rfl, Nat.le_of_ble_eq_true rfl, Nat.le_of_ble_eq_true rfl, Nat.le_of_ble_eq_true rfl⟩ rfl (zq rfl) rfl rfl (Nat.le_of_ble_eq_true rfl) dX12_finds_124 (zqw (cx := []) rfl rfl) rfl (fun H locs hP hD hS => ?_)
                    refine lv_if_ne (tgt := 132) hx hb dX12_finds_127 (by decide) (fun c_102 => ?_) (fun c_102 => ?_)
                    · replace hm := hm_f c_102 hm
                      refine lv_iconst (v := 0) hx hb dX12_finds_132 (by decide) ?_
                      refine lv_istore (lv' := [(13, .int 0), (12, .int r_100), (11, .int y_83), (10, .int y_82), (7, .int x_3), (0, .ref a_t), (1, .ref a_t_page), (3, .int p3), (4, .int p4), (5, .int p5), (6, .int p6)]) hx hb dX12_finds_133 hl (by decide) rfl (fun ls hl => ?_)
                      have L135 : ∀ (rr : Int32 × (Nat → Int32)) (kk : ∀ (H : Heap) (locs : List Loc) (ls : Array Slot), va_P D classes (([(a_t, .inr (8, [.int v_t_isWide, .ref a_t_cells, .ref a_t_page, .int v_t_pageMany, .ref a_t_digits, .int v_t_many, .int v_t_isMinus, .ref a_t_found, .ref a_t_one, .ref a_t_other, .ref a_t_sum, .ref a_t_rest])), (a_t_cells, .inl (cy 5, 8, .inr (.inr (.inr (.inr (fun j => some (rw_t j))))))), (a_t_page, .inl (cy 0, 66, .inl f_t_page)), (a_t_digits, .inl (cy 0, 64, .inl f_t_digits)), (a_t_found, .inl (cy 2, 64, .inl rr.2)), (a_t_one, .inl (cy 2, 65, .inl f_t_one)), (a_t_other, .inl (cy 2, 65, .inl f_t_other)), (a_t_sum, .inl (cy 2, 65, .inl f_t_sum)), (a_t_rest, .inl (cy 2, 65, .inl f_t_rest))] : va_W) ++ (rowsW (cy 2) rw_t B_t ++ ([] : va_W))) H → va_D A (([(a_t, .inr (8, [.int v_t_isWide, .ref a_t_cells, .ref a_t_page, .int v_t_pageMany, .ref a_t_digits, .int v_t_many, .int v_t_isMinus, .ref a_t_found, .ref a_t_one, .ref a_t_other, .ref a_t_sum, .ref a_t_rest])), (a_t_cells, .inl (cy 5, 8, .inr (.inr (.inr (.inr (fun j => some (rw_t j))))))), (a_t_page, .inl (cy 0, 66, .inl f_t_page)), (a_t_digits, .inl (cy 0, 64, .inl f_t_digits)), (a_t_found, .inl (cy 2, 64, .inl rr.2)), (a_t_one, .inl (cy 2, 65, .inl f_t_one)), (a_t_other, .inl (cy 2, 65, .inl f_t_other)), (a_t_sum, .inl (cy 2, 65, .inl f_t_sum)), (a_t_rest, .inl (cy 2, 65, .inl f_t_rest))] : va_W) ++ (rowsW (cy 2) rw_t B_t ++ ([] : va_W))) → va_S A s.heap H locs → lv_has ls 14 [(12, .int rr.1), (11, .int y_83), (10, .int y_82), (7, .int x_3), (0, .ref a_t), (1, .ref a_t_page), (3, .int p3), (4, .int p4), (5, .int p5), (6, .int p6)] → W p l e RM s m ar below meth c H locs 0 0 (MQ below Qc ar s 0 0 A) (F0 m 195 ls [])) (n_ : Nat), ∀ (y_118 : Int32) (y_119 : Int32) (y_120 : Nat → Int32), mX12_finds_o_L135 p6 p4 n_ y_118 y_119 y_120 = some rr → ∀ (H : Heap) (locs : List Loc) (ls : Array Slot), va_P D classes (([(a_t, .inr (8, [.int v_t_isWide, .ref a_t_cells, .ref a_t_page, .int v_t_pageMany, .ref a_t_digits, .int v_t_many, .int v_t_isMinus, .ref a_t_found, .ref a_t_one, .ref a_t_other, .ref a_t_sum, .ref a_t_rest])), (a_t_cells, .inl (cy 5, 8, .inr (.inr (.inr (.inr (fun j => some (rw_t j))))))), (a_t_page, .inl (cy 0, 66, .inl f_t_page)), (a_t_digits, .inl (cy 0, 64, .inl f_t_digits)), (a_t_found, .inl (cy 2, 64, .inl y_120)), (a_t_one, .inl (cy 2, 65, .inl f_t_one)), (a_t_other, .inl (cy 2, 65, .inl f_t_other)), (a_t_sum, .inl (cy 2, 65, .inl f_t_sum)), (a_t_rest, .inl (cy 2, 65, .inl f_t_rest))] : va_W) ++ (rowsW (cy 2) rw_t B_t ++ ([] : va_W))) H → va_D A (([(a_t, .inr (8, [.int v_t_isWide, .ref a_t_cells, .ref a_t_page, .int v_t_pageMany, .ref a_t_digits, .int v_t_many, .int v_t_isMinus, .ref a_t_found, .ref a_t_one, .ref a_t_other, .ref a_t_sum, .ref a_t_rest])), (a_t_cells, .inl (cy 5, 8, .inr (.inr (.inr (.inr (fun j => some (rw_t j))))))), (a_t_page, .inl (cy 0, 66, .inl f_t_page)), (a_t_digits, .inl (cy 0, 64, .inl f_t_digits)), (a_t_found, .inl (cy 2, 64, .inl y_120)), (a_t_one, .inl (cy 2, 65, .inl f_t_one)), (a_t_other, .inl (cy 2, 65, .inl f_t_other)), (a_t_sum, .inl (cy 2, 65, .inl f_t_sum)), (a_t_rest, .inl (cy 2, 65, .inl f_t_rest))] : va_W) ++ (rowsW (cy 2) rw_t B_t ++ ([] : va_W))) → va_S A s.heap H locs → lv_has ls 14 [(13, .int y_119), (12, .int y_118), (11, .int y_83), (10, .int y_82), (7, .int x_3), (0, .ref a_t), (1, .ref a_t_page), (3, .int p3), (4, .int p4), (5, .int p5), (6, .int p6)] → W p l e RM s m ar below meth c H locs 0 0 (MQ below Qc ar s 0 0 A) (F0 m 135 ls []) := by
                        intro rr kk n_
                        induction n_ with
                        | zero => intro y_118 y_119 y_120 hm; rw [mX12_finds_o_L135] at hm; cases hm
                        | succ n_ ih =>
                          intro y_118 y_119 y_120 hm H locs ls hP hD hS hl
                          rw [mX12_finds_o_L135] at hm
                          refine lv_iload hx hb dX12_finds_135 (lv_at hl 0 rfl) ?_
                          refine lv_iload hx hb dX12_finds_137 (lv_at hl 10 rfl) ?_
                          refine lv_icmp_ge (tgt := 195) hx hb dX12_finds_139 (by decide) (fun c_121 => ?_) (fun c_121 => ?_)
                          · replace hm := hm_t c_121 hm
                            obtain rfl := Option.some.inj hm
                            exact kk _ _ _ hP hD hS (lv_sub hl [1, 2, 3, 4, 5, 6, 7, 8, 9, 10] rfl)
                          · replace hm := hm_f c_121 hm
                            refine lv_iload hx hb dX12_finds_142 (lv_at hl 1 rfl) ?_
                            refine lv_aload_n hx hb dX12_finds_144 rfl (lv_at hl 5 rfl) ?_
                            refine va_get (D := D) (cl := classes) (ci := 8) (v := .ref a_t_found) (C := RX12) (T := TX12) (N := 12) hx hb ht in_RX12 hown hK.1 hP 0 rfl rfl 7 (by decide) (ht _ q_1256) (fun _ h9 => h9) rfl dX12_finds_145 ?_
                            refine lv_iload hx hb dX12_finds_148 (lv_at hl 0 rfl) ?_
                            obtain ⟨hin, hm⟩ := hm_g hm
                            refine va_zald hx hb hK.1 hP 4 2 rfl rfl hin dX12_finds_150 ?_
                            obtain ⟨x_123, hreg, hm⟩ := hm_b hm
                            have J160 : ∀ (H : Heap) (locs : List Loc) (ls : Array Slot), va_P D classes (([(a_t, .inr (8, [.int v_t_isWide, .ref a_t_cells, .ref a_t_page, .int v_t_pageMany, .ref a_t_digits, .int v_t_many, .int v_t_isMinus, .ref a_t_found, .ref a_t_one, .ref a_t_other, .ref a_t_sum, .ref a_t_rest])), (a_t_cells, .inl (cy 5, 8, .inr (.inr (.inr (.inr (fun j => some (rw_t j))))))), (a_t_page, .inl (cy 0, 66, .inl f_t_page)), (a_t_digits, .inl (cy 0, 64, .inl f_t_digits)), (a_t_found, .inl (cy 2, 64, .inl y_120)), (a_t_one, .inl (cy 2, 65, .inl f_t_one)), (a_t_other, .inl (cy 2, 65, .inl f_t_other)), (a_t_sum, .inl (cy 2, 65, .inl f_t_sum)), (a_t_rest, .inl (cy 2, 65, .inl f_t_rest))] : va_W) ++ (rowsW (cy 2) rw_t B_t ++ ([] : va_W))) H → va_D A (([(a_t, .inr (8, [.int v_t_isWide, .ref a_t_cells, .ref a_t_page, .int v_t_pageMany, .ref a_t_digits, .int v_t_many, .int v_t_isMinus, .ref a_t_found, .ref a_t_one, .ref a_t_other, .ref a_t_sum, .ref a_t_rest])), (a_t_cells, .inl (cy 5, 8, .inr (.inr (.inr (.inr (fun j => some (rw_t j))))))), (a_t_page, .inl (cy 0, 66, .inl f_t_page)), (a_t_digits, .inl (cy 0, 64, .inl f_t_digits)), (a_t_found, .inl (cy 2, 64, .inl y_120)), (a_t_one, .inl (cy 2, 65, .inl f_t_one)), (a_t_other, .inl (cy 2, 65, .inl f_t_other)), (a_t_sum, .inl (cy 2, 65, .inl f_t_sum)), (a_t_rest, .inl (cy 2, 65, .inl f_t_rest))] : va_W) ++ (rowsW (cy 2) rw_t B_t ++ ([] : va_W))) → va_S A s.heap H locs → lv_has ls 14 [(13, .int y_119), (11, .int y_83), (10, .int y_82), (7, .int x_3), (0, .ref a_t), (1, .ref a_t_page), (3, .int p3), (4, .int p4), (5, .int p5), (6, .int p6)] → W p l e RM s m ar below meth c H locs 0 0 (MQ below Qc ar s 0 0 A) (F0 m 160 ls [.int x_123, .int y_118]) := by
                              intro H locs ls hP hD hS hl
                              refine lv_iadd hx hb dX12_finds_160 ?_
                              obtain ⟨x_124, hx_, hm⟩ := hm_b hm
                              refine k_topi (y := x_124) (Option.some.inj hx_) ?_
                              refine lv_istore (lv' := [(12, .int x_124), (13, .int y_119), (11, .int y_83), (10, .int y_82), (7, .int x_3), (0, .ref a_t), (1, .ref a_t_page), (3, .int p3), (4, .int p4), (5, .int p5), (6, .int p6)]) hx hb dX12_finds_161 hl (by decide) rfl (fun ls hl => ?_)
                              refine lv_aload_n hx hb dX12_finds_163 rfl (lv_at hl 5 rfl) ?_
                              refine va_get (D := D) (cl := classes) (ci := 8) (v := .ref a_t_found) (C := RX12) (T := TX12) (N := 12) hx hb ht in_RX12 hown hK.1 hP 0 rfl rfl 7 (by decide) (ht _ q_1256) (fun _ h9 => h9) rfl dX12_finds_164 ?_
                              refine lv_iload hx hb dX12_finds_167 (lv_at hl 1 rfl) ?_
                              refine lv_iload hx hb dX12_finds_169 (lv_at hl 0 rfl) ?_
                              refine lv_iconst (v := 2) hx hb dX12_finds_171 (by decide) ?_
                              refine lv_irem hx hb dX12_finds_172 (by decide) ?_
                              refine lv_iconst (v := 1) hx hb dX12_finds_173 (by decide) ?_
                              obtain ⟨x_126, hreg, hm⟩ := hm_b hm
                              have J182 : ∀ (H : Heap) (locs : List Loc) (ls : Array Slot), va_P D classes (([(a_t, .inr (8, [.int v_t_isWide, .ref a_t_cells, .ref a_t_page, .int v_t_pageMany, .ref a_t_digits, .int v_t_many, .int v_t_isMinus, .ref a_t_found, .ref a_t_one, .ref a_t_other, .ref a_t_sum, .ref a_t_rest])), (a_t_cells, .inl (cy 5, 8, .inr (.inr (.inr (.inr (fun j => some (rw_t j))))))), (a_t_page, .inl (cy 0, 66, .inl f_t_page)), (a_t_digits, .inl (cy 0, 64, .inl f_t_digits)), (a_t_found, .inl (cy 2, 64, .inl y_120)), (a_t_one, .inl (cy 2, 65, .inl f_t_one)), (a_t_other, .inl (cy 2, 65, .inl f_t_other)), (a_t_sum, .inl (cy 2, 65, .inl f_t_sum)), (a_t_rest, .inl (cy 2, 65, .inl f_t_rest))] : va_W) ++ (rowsW (cy 2) rw_t B_t ++ ([] : va_W))) H → va_D A (([(a_t, .inr (8, [.int v_t_isWide, .ref a_t_cells, .ref a_t_page, .int v_t_pageMany, .ref a_t_digits, .int v_t_many, .int v_t_isMinus, .ref a_t_found, .ref a_t_one, .ref a_t_other, .ref a_t_sum, .ref a_t_rest])), (a_t_cells, .inl (cy 5, 8, .inr (.inr (.inr (.inr (fun j => some (rw_t j))))))), (a_t_page, .inl (cy 0, 66, .inl f_t_page)), (a_t_digits, .inl (cy 0, 64, .inl f_t_digits)), (a_t_found, .inl (cy 2, 64, .inl y_120)), (a_t_one, .inl (cy 2, 65, .inl f_t_one)), (a_t_other, .inl (cy 2, 65, .inl f_t_other)), (a_t_sum, .inl (cy 2, 65, .inl f_t_sum)), (a_t_rest, .inl (cy 2, 65, .inl f_t_rest))] : va_W) ++ (rowsW (cy 2) rw_t B_t ++ ([] : va_W))) → va_S A s.heap H locs → lv_has ls 14 [(12, .int x_124), (13, .int y_119), (11, .int y_83), (10, .int y_82), (7, .int x_3), (0, .ref a_t), (1, .ref a_t_page), (3, .int p3), (4, .int p4), (5, .int p5), (6, .int p6)] → W p l e RM s m ar below meth c H locs 0 0 (MQ below Qc ar s 0 0 A) (F0 m 182 ls [.int x_126, .int y_119, .ref a_t_found]) := by
                                intro H locs ls hP hD hS hl
                                obtain ⟨hin, hm⟩ := hm_g hm
                                refine va_zast hx hb hK.1 hP hD hS 4 2 rfl rfl hin dX12_finds_182 (fun H locs hP hD hS => ?_)
                                have hP : va_P D classes (([(a_t, .inr (8, [.int v_t_isWide, .ref a_t_cells, .ref a_t_page, .int v_t_pageMany, .ref a_t_digits, .int v_t_many, .int v_t_isMinus, .ref a_t_found, .ref a_t_one, .ref a_t_other, .ref a_t_sum, .ref a_t_rest])), (a_t_cells, .inl (cy 5, 8, .inr (.inr (.inr (.inr (fun j => some (rw_t j))))))), (a_t_page, .inl (cy 0, 66, .inl f_t_page)), (a_t_digits, .inl (cy 0, 64, .inl f_t_digits)), (a_t_found, .inl (cy 2, 64, .inl (upd y_120 y_119.toNatClampNeg (vp_nar .boolean x_126)))), (a_t_one, .inl (cy 2, 65, .inl f_t_one)), (a_t_other, .inl (cy 2, 65, .inl f_t_other)), (a_t_sum, .inl (cy 2, 65, .inl f_t_sum)), (a_t_rest, .inl (cy 2, 65, .inl f_t_rest))] : va_W) ++ (rowsW (cy 2) rw_t B_t ++ ([] : va_W))) H := hP
                                have hD : va_D A (([(a_t, .inr (8, [.int v_t_isWide, .ref a_t_cells, .ref a_t_page, .int v_t_pageMany, .ref a_t_digits, .int v_t_many, .int v_t_isMinus, .ref a_t_found, .ref a_t_one, .ref a_t_other, .ref a_t_sum, .ref a_t_rest])), (a_t_cells, .inl (cy 5, 8, .inr (.inr (.inr (.inr (fun j => some (rw_t j))))))), (a_t_page, .inl (cy 0, 66, .inl f_t_page)), (a_t_digits, .inl (cy 0, 64, .inl f_t_digits)), (a_t_found, .inl (cy 2, 64, .inl (upd y_120 y_119.toNatClampNeg (vp_nar .boolean x_126)))), (a_t_one, .inl (cy 2, 65, .inl f_t_one)), (a_t_other, .inl (cy 2, 65, .inl f_t_other)), (a_t_sum, .inl (cy 2, 65, .inl f_t_sum)), (a_t_rest, .inl (cy 2, 65, .inl f_t_rest))] : va_W) ++ (rowsW (cy 2) rw_t B_t ++ ([] : va_W))) := hD
                                refine lv_iload hx hb dX12_finds_183 (lv_at hl 0 rfl) ?_
                                refine lv_iconst (v := 2) hx hb dX12_finds_185 (by decide) ?_
                                refine lv_idiv hx hb dX12_finds_186 (by decide) ?_
                                refine lv_istore (lv' := [(12, .int (x_124 / 2)), (13, .int y_119), (11, .int y_83), (10, .int y_82), (7, .int x_3), (0, .ref a_t), (1, .ref a_t_page), (3, .int p3), (4, .int p4), (5, .int p5), (6, .int p6)]) hx hb dX12_finds_187 hl (by decide) rfl (fun ls hl => ?_)
                                refine lv_iinc (v := (y_119 + 1)) (lv' := [(13, .int (y_119 + 1)), (12, .int (x_124 / 2)), (11, .int y_83), (10, .int y_82), (7, .int x_3), (0, .ref a_t), (1, .ref a_t_page), (3, .int p3), (4, .int p4), (5, .int p5), (6, .int p6)]) hx hb dX12_finds_189 hl (k := 1) rfl rfl (by decide) rfl (fun ls hl => ?_)
                                refine lv_goto (tgt := 135) hx hb dX12_finds_192 (by decide) ?_
                                exact ih (x_124 / 2) (y_119 + 1) (upd y_120 y_119.toNatClampNeg (vp_nar .boolean x_126)) hm _ _ _ hP hD hS (lv_sub hl [0, 1, 2, 3, 4, 5, 6, 7, 8, 9, 10] rfl)
                              replace hm := hreg
                              refine lv_icmp_ne (tgt := 181) hx hb dX12_finds_174 (by decide) (fun c_125 => ?_) (fun c_125 => ?_)
                              · replace hm := hm_f c_125 hm
                                refine lv_iconst (v := 0) hx hb dX12_finds_181 (by decide) ?_
                                obtain rfl := Option.some.inj hm
                                exact J182 _ _ _ hP hD hS (lv_sub hl [0, 1, 2, 3, 4, 5, 6, 7, 8, 9, 10] rfl)
                              · replace hm := hm_t c_125 hm
                                refine lv_iconst (v := 1) hx hb dX12_finds_177 (by decide) ?_
                                refine lv_goto (tgt := 182) hx hb dX12_finds_178 (by decide) ?_
                                obtain rfl := Option.some.inj hm
                                exact J182 _ _ _ hP hD hS (lv_sub hl [0, 1, 2, 3, 4, 5, 6, 7, 8, 9, 10] rfl)
                            replace hm := hreg
                            refine lv_if_eq (tgt := 159) hx hb dX12_finds_151 (by decide) (fun c_122 => ?_) (fun c_122 => ?_)
                            · replace hm := hm_t c_122 hm
                              refine lv_iconst (v := 0) hx hb dX12_finds_159 (by decide) ?_
                              obtain rfl := Option.some.inj hm
                              exact J160 _ _ _ hP hD hS (lv_sub hl [0, 2, 3, 4, 5, 6, 7, 8, 9, 10] rfl)
                            · replace hm := hm_f c_122 hm
                              refine lv_iload hx hb dX12_finds_154 (lv_at hl 8 rfl) ?_
                              refine lv_goto (tgt := 160) hx hb dX12_finds_156 (by decide) ?_
                              obtain rfl := Option.some.inj hm
                              exact J160 _ _ _ hP hD hS (lv_sub hl [0, 2, 3, 4, 5, 6, 7, 8, 9, 10] rfl)
                      obtain ⟨r_127, hL, hm⟩ := hm_b hm
                      refine L135 r_127 ?_ k r_100 0 y_84 hL _ _ _ hP hD hS (lv_sub hl [0, 1, 2, 3, 4, 5, 6, 7, 8, 9, 10] rfl)
                      intro H locs ls hP hD hS hl
                      refine lv_iload hx hb dX12_finds_195 (lv_at hl 2 rfl) ?_
                      refine lv_iload hx hb dX12_finds_197 (lv_at hl 0 rfl) ?_
                      obtain ⟨x_129, hreg, hm⟩ := hm_b hm
                      have J207 : ∀ (H : Heap) (locs : List Loc) (ls : Array Slot), va_P D classes (([(a_t, .inr (8, [.int v_t_isWide, .ref a_t_cells, .ref a_t_page, .int v_t_pageMany, .ref a_t_digits, .int v_t_many, .int v_t_isMinus, .ref a_t_found, .ref a_t_one, .ref a_t_other, .ref a_t_sum, .ref a_t_rest])), (a_t_cells, .inl (cy 5, 8, .inr (.inr (.inr (.inr (fun j => some (rw_t j))))))), (a_t_page, .inl (cy 0, 66, .inl f_t_page)), (a_t_digits, .inl (cy 0, 64, .inl f_t_digits)), (a_t_found, .inl (cy 2, 64, .inl r_127.2)), (a_t_one, .inl (cy 2, 65, .inl f_t_one)), (a_t_other, .inl (cy 2, 65, .inl f_t_other)), (a_t_sum, .inl (cy 2, 65, .inl f_t_sum)), (a_t_rest, .inl (cy 2, 65, .inl f_t_rest))] : va_W) ++ (rowsW (cy 2) rw_t B_t ++ ([] : va_W))) H → va_D A (([(a_t, .inr (8, [.int v_t_isWide, .ref a_t_cells, .ref a_t_page, .int v_t_pageMany, .ref a_t_digits, .int v_t_many, .int v_t_isMinus, .ref a_t_found, .ref a_t_one, .ref a_t_other, .ref a_t_sum, .ref a_t_rest])), (a_t_cells, .inl (cy 5, 8, .inr (.inr (.inr (.inr (fun j => some (rw_t j))))))), (a_t_page, .inl (cy 0, 66, .inl f_t_page)), (a_t_digits, .inl (cy 0, 64, .inl f_t_digits)), (a_t_found, .inl (cy 2, 64, .inl r_127.2)), (a_t_one, .inl (cy 2, 65, .inl f_t_one)), (a_t_other, .inl (cy 2, 65, .inl f_t_other)), (a_t_sum, .inl (cy 2, 65, .inl f_t_sum)), (a_t_rest, .inl (cy 2, 65, .inl f_t_rest))] : va_W) ++ (rowsW (cy 2) rw_t B_t ++ ([] : va_W))) → va_S A s.heap H locs → lv_has ls 14 [(11, .int y_83), (7, .int x_3), (0, .ref a_t), (1, .ref a_t_page), (3, .int p3), (4, .int p4), (5, .int p5), (6, .int p6)] → W p l e RM s m ar below meth c H locs 0 0 (MQ below Qc ar s 0 0 A) (F0 m 207 ls [.int x_129, .int y_82]) := by
                        intro H locs ls hP hD hS hl
                        refine lv_ior hx hb dX12_finds_207 ?_
                        obtain ⟨x_130, hx_, hm⟩ := hm_b hm
                        refine k_topi (y := x_130) (Option.some.inj hx_) ?_
                        refine lv_istore (lv' := [(10, .int x_130), (11, .int y_83), (7, .int x_3), (0, .ref a_t), (1, .ref a_t_page), (3, .int p3), (4, .int p4), (5, .int p5), (6, .int p6)]) hx hb dX12_finds_208 hl (by decide) rfl (fun ls hl => ?_)
                        refine lv_iinc (v := (y_83 + 1)) (lv' := [(11, .int (y_83 + 1)), (10, .int x_130), (7, .int x_3), (0, .ref a_t), (1, .ref a_t_page), (3, .int p3), (4, .int p4), (5, .int p5), (6, .int p6)]) hx hb dX12_finds_210 hl (k := 1) rfl rfl (by decide) rfl (fun ls hl => ?_)
                        refine lv_goto (tgt := 102) hx hb dX12_finds_213 (by decide) ?_
                        exact ih x_130 (y_83 + 1) r_127.2 hm _ _ _ hP hD hS (lv_sub hl [0, 1, 2, 3, 4, 5, 6, 7, 8] rfl)
                      replace hm := hreg
                      refine lv_if_le (tgt := 206) hx hb dX12_finds_199 (by decide) (fun c_128 => ?_) (fun c_128 => ?_)
                      · replace hm := hm_t c_128 hm
                        refine lv_iconst (v := 0) hx hb dX12_finds_206 (by decide) ?_
                        obtain rfl := Option.some.inj hm
                        exact J207 _ _ _ hP hD hS (lv_sub hl [1, 3, 4, 5, 6, 7, 8, 9] rfl)
                      · replace hm := hm_f c_128 hm
                        refine lv_iconst (v := 1) hx hb dX12_finds_202 (by decide) ?_
                        refine lv_goto (tgt := 207) hx hb dX12_finds_203 (by decide) ?_
                        obtain rfl := Option.some.inj hm
                        exact J207 _ _ _ hP hD hS (lv_sub hl [1, 3, 4, 5, 6, 7, 8, 9] rfl)
                    · replace hm := hm_t c_102 hm
                      refine lv_iconst (v := 0) hx hb dX12_finds_130 (by decide) ?_
                      obtain rfl := Option.some.inj hm
                      exact k_zret hx hb hr hlocks hQc rfl hP hS rfl rfl dX12_finds_131
              exact L102 k 0 x_9 r_15 hm _ _ _ hP hD hS (lv_sub hl [0, 1, 3, 4, 5, 6, 7, 8, 9] rfl)
            refine lv_if_eq (tgt := 88) hx hb dX12_finds_78 (by decide) (fun c_13 => ?_) (fun c_13 => ?_)
            · replace hm := hm_t c_13 hm
              exact J88 () hm _ _ _ hP hD hS (lv_sub hl [0, 1, 2, 3, 4, 5, 6, 7] rfl)
            · replace hm := hm_f c_13 hm
              refine lv_iload hx hb dX12_finds_81 (lv_at hl 6 rfl) ?_
              refine lv_if_eq (tgt := 88) hx hb dX12_finds_83 (by decide) (fun c_131 => ?_) (fun c_131 => ?_)
              · replace hm := hm_t c_131 hm
                exact J88 () hm _ _ _ hP hD hS (lv_sub hl [0, 1, 2, 3, 4, 5, 6, 7] rfl)
              · replace hm := hm_f c_131 hm
                refine lv_iconst (v := 0) hx hb dX12_finds_86 (by decide) ?_
                obtain rfl := Option.some.inj hm
                exact k_zret hx hb hr hlocks hQc rfl hP hS rfl rfl dX12_finds_87
      replace hm := hreg
      refine lv_if_eq (tgt := 56) hx hb dX12_finds_47 (by decide) (fun c_8 => ?_) (fun c_8 => ?_)
      · replace hm := hm_t c_8 hm
        refine lv_iload_n hx hb dX12_finds_56 rfl (lv_at hl 4 rfl) ?_
        obtain rfl := Option.some.inj hm
        exact J57 _ _ _ hP hD hS (lv_sub hl [1, 2, 3, 5, 6, 7, 8] rfl)
      · replace hm := hm_f c_8 hm
        refine lv_iload_n hx hb dX12_finds_50 rfl (lv_at hl 4 rfl) ?_
        refine lv_iconst (v := 1) hx hb dX12_finds_51 (by decide) ?_
        refine lv_iadd hx hb dX12_finds_52 ?_
        refine lv_goto (tgt := 57) hx hb dX12_finds_53 (by decide) ?_
        obtain rfl := Option.some.inj hm
        exact J57 _ _ _ hP hD hS (lv_sub hl [1, 2, 3, 5, 6, 7, 8] rfl)
    replace hm := hreg
    refine lv_if_ne (tgt := 38) hx hb dX12_finds_22 (by decide) (fun c_4 => ?_) (fun c_4 => ?_)
    · replace hm := hm_f c_4 hm
      refine lv_iconst (v := 1) hx hb dX12_finds_38 (by decide) ?_
      refine lv_goto (tgt := 43) hx hb dX12_finds_39 (by decide) ?_
      obtain rfl := Option.some.inj hm
      exact J43 _ _ _ hP hD hS (lv_sub hl [0, 1, 2, 3, 4, 5, 6, 7] rfl)
    · replace hm := hm_t c_4 hm
      refine lv_iload_n hx hb dX12_finds_25 rfl (lv_at hl 3 rfl) ?_
      refine lv_iload_n hx hb dX12_finds_26 rfl (lv_at hl 4 rfl) ?_
      refine lv_icmp_ge (tgt := 42) hx hb dX12_finds_27 (by decide) (fun c_132 => ?_) (fun c_132 => ?_)
      · replace hm := hm_t c_132 hm
        refine lv_iconst (v := 0) hx hb dX12_finds_42 (by decide) ?_
        obtain rfl := Option.some.inj hm
        exact J43 _ _ _ hP hD hS (lv_sub hl [0, 1, 2, 3, 4, 5, 6, 7] rfl)
      · replace hm := hm_f c_132 hm
        refine lv_aload_n hx hb dX12_finds_30 rfl (lv_at hl 2 rfl) ?_
        refine lv_iload_n hx hb dX12_finds_31 rfl (lv_at hl 3 rfl) ?_
        obtain ⟨hin, hm⟩ := hm_g hm
        refine va_iald hx hb hK.1 hP 2 0 rfl rfl hin dX12_finds_32 ?_
        refine lv_bipush (v := 43) hx hb dX12_finds_33 (by decide) ?_
        refine lv_icmp_ne (tgt := 42) hx hb dX12_finds_35 (by decide) (fun c_133 => ?_) (fun c_133 => ?_)
        · replace hm := hm_f c_133 hm
          refine lv_iconst (v := 0) hx hb dX12_finds_42 (by decide) ?_
          obtain rfl := Option.some.inj hm
          exact J43 _ _ _ hP hD hS (lv_sub hl [0, 1, 2, 3, 4, 5, 6, 7] rfl)
        · replace hm := hm_t c_133 hm
          refine lv_iconst (v := 1) hx hb dX12_finds_38 (by decide) ?_
          refine lv_goto (tgt := 43) hx hb dX12_finds_39 (by decide) ?_
          obtain rfl := Option.some.inj hm
          exact J43 _ _ _ hP hD hS (lv_sub hl [0, 1, 2, 3, 4, 5, 6, 7] rfl)
  replace hm := hreg
  refine lv_icmp_ge (tgt := 17) hx hb dX12_finds_2 (by decide) (fun c_1 => ?_) (fun c_1 => ?_)
  · replace hm := hm_t c_1 hm
    refine lv_iconst (v := 0) hx hb dX12_finds_17 (by decide) ?_
    obtain rfl := Option.some.inj hm
    exact J18 _ _ _ hP hD hS (lv_sub hl [0, 1, 2, 3, 4, 5, 6] rfl)
  · replace hm := hm_f c_1 hm
    refine lv_aload_n hx hb dX12_finds_5 rfl (lv_at hl 1 rfl) ?_
    refine lv_iload_n hx hb dX12_finds_6 rfl (lv_at hl 2 rfl) ?_
    obtain ⟨hin, hm⟩ := hm_g hm
    refine va_iald hx hb hK.1 hP 2 0 rfl rfl hin dX12_finds_7 ?_
    refine lv_bipush (v := 45) hx hb dX12_finds_8 (by decide) ?_
    refine lv_icmp_ne (tgt := 17) hx hb dX12_finds_10 (by decide) (fun c_134 => ?_) (fun c_134 => ?_)
    · replace hm := hm_f c_134 hm
      refine lv_iconst (v := 0) hx hb dX12_finds_17 (by decide) ?_
      obtain rfl := Option.some.inj hm
      exact J18 _ _ _ hP hD hS (lv_sub hl [0, 1, 2, 3, 4, 5, 6] rfl)
    · replace hm := hm_t c_134 hm
      refine lv_iconst (v := 1) hx hb dX12_finds_13 (by decide) ?_
      refine lv_goto (tgt := 18) hx hb dX12_finds_14 (by decide) ?_
      obtain rfl := Option.some.inj hm
      exact J18 _ _ _ hP hD hS (lv_sub hl [0, 1, 2, 3, 4, 5, 6] rfl)
theorem dX12_reads_0 : decode cX12_reads 0 = .ok (.aload_n 0, 1) := by decide +kernel
theorem dX12_reads_1 : decode cX12_reads 1 = .ok (.aload_n 2, 1) := by decide +kernel
theorem dX12_reads_2 : decode cX12_reads 2 = .ok (.iload_n 3, 1) := by decide +kernel
theorem dX12_reads_3 : decode cX12_reads 3 = .ok (.iload 4, 2) := by decide +kernel
theorem dX12_reads_5 : decode cX12_reads 5 = .ok (.iload 5, 2) := by decide +kernel
theorem dX12_reads_7 : decode cX12_reads 7 = .ok (.iload 6, 2) := by decide +kernel
theorem dX12_reads_9 : decode cX12_reads 9 = .ok (.aload_n 0, 1) := by decide +kernel
theorem dX12_reads_10 : decode cX12_reads 10 = .ok (.invokevirtual 59, 3) := by decide +kernel
theorem dX12_reads_13 : decode cX12_reads 13 = .ok (.invokevirtual 115, 3) := by decide +kernel
theorem dX12_reads_16 : decode cX12_reads 16 = .ok (.istore 7, 2) := by decide +kernel
theorem dX12_reads_18 : decode cX12_reads 18 = .ok (.iload 7, 2) := by decide +kernel
theorem dX12_reads_20 : decode cX12_reads 20 = .ok (.ifCond .eq 14, 3) := by decide +kernel
theorem dX12_reads_23 : decode cX12_reads 23 = .ok (.aload_n 0, 1) := by decide +kernel
theorem dX12_reads_24 : decode cX12_reads 24 = .ok (.iload_n 1, 1) := by decide +kernel
theorem dX12_reads_25 : decode cX12_reads 25 = .ok (.aload_n 0, 1) := by decide +kernel
theorem dX12_reads_26 : decode cX12_reads 26 = .ok (.getfield 23, 3) := by decide +kernel
theorem dX12_reads_29 : decode cX12_reads 29 = .ok (.invokevirtual 75, 3) := by decide +kernel
theorem dX12_reads_32 : decode cX12_reads 32 = .ok (.lstore 8, 2) := by decide +kernel
theorem dX12_reads_34 : decode cX12_reads 34 = .ok (.iload 7, 2) := by decide +kernel
theorem dX12_reads_36 : decode cX12_reads 36 = .ok (.ireturn, 1) := by decide +kernel
def mX12_reads_x (k : Nat) (v_t_isWide : Int32) (B_t : Nat → Nat → Int32) (f_t_found : Nat → Int32) (f_p2 : Nat → Int32) (p1 : Int32) (p3 : Int32) (p4 : Int32) (p5 : Int32) (p6 : Int32) : Option (Int32 × (Nat → Nat → Int32) × (Nat → Int32)) := ((mX12_bits v_t_isWide).bind (fun r_1 => ((mX12_finds_x k f_t_found f_p2 p3 p4 p5 p6 r_1).bind (fun r_2 => (if r_2.1 = 0 then (if ¬ (r_2.1 = 0 ∨ r_2.1 = 1) then none else some (r_2.1, B_t, r_2.2)) else ((mX12_puts_found k v_t_isWide B_t r_2.2 p1).bind (fun r_4 => (if ¬ (r_2.1 = 0 ∨ r_2.1 = 1) then none else some (r_2.1, r_4.2, r_2.2)))))))))
set_option maxHeartbeats 4000000 in
set_option maxRecDepth 100000 in
theorem kcX12_reads_x (l : Launch) (D : va_G) (cy : Nat → ClassId) (g : Nat → Nat) (a_t : Nat) (a_t_cells : Nat) (a_t_page : Nat) (a_t_digits : Nat) (a_t_found : Nat) (a_t_one : Nat) (a_t_other : Nat) (a_t_sum : Nat) (a_t_rest : Nat) (a_p2 : Nat) (rw_t : Nat → Nat) (v_t_isWide : Int32) (B_t : Nat → Nat → Int32) (f_t_page : Nat → Int32) (v_t_pageMany : Int32) (f_t_digits : Nat → Int32) (v_t_many : Int32) (v_t_isMinus : Int32) (f_t_found : Nat → Int32) (f_t_one : Nat → Int32) (f_t_other : Nat → Int32) (f_t_sum : Nat → Int32) (f_t_rest : Nat → Int32) (f_p2 : Nat → Int32) (p1 : Int32) (p3 : Int32) (p4 : Int32) (p5 : Int32) (p6 : Int32) (k : Nat) (R : Int32 × (Nat → Nat → Int32) × (Nat → Int32)) (hm : mX12_reads_x k v_t_isWide B_t f_t_found f_p2 p1 p3 p4 p5 p6 = some R) : Con l D cy g yX12_reads cX12_reads 10 (some .boolean) 4 85 0 0 [.ref a_t, .int p1, .ref a_p2, .int p3, .int p4, .int p5, .int p6] (([(a_t, .inr (8, [.int v_t_isWide, .ref a_t_cells, .ref a_t_page, .int v_t_pageMany, .ref a_t_digits, .int v_t_many, .int v_t_isMinus, .ref a_t_found, .ref a_t_one, .ref a_t_other, .ref a_t_sum, .ref a_t_rest])), (a_t_cells, .inl (cy 5, 8, .inr (.inr (.inr (.inr (fun j => some (rw_t j))))))), (a_t_page, .inl (cy 0, 66, .inl f_t_page)), (a_t_digits, .inl (cy 0, 64, .inl f_t_digits)), (a_t_found, .inl (cy 2, 64, .inl f_t_found)), (a_t_one, .inl (cy 2, 65, .inl f_t_one)), (a_t_other, .inl (cy 2, 65, .inl f_t_other)), (a_t_sum, .inl (cy 2, 65, .inl f_t_sum)), (a_t_rest, .inl (cy 2, 65, .inl f_t_rest)), (a_p2, .inl (cy 0, 300, .inl f_p2))] : va_W) ++ (rowsW (cy 2) rw_t B_t ++ ([] : va_W))) (([(a_t, .inr (8, [.int v_t_isWide, .ref a_t_cells, .ref a_t_page, .int v_t_pageMany, .ref a_t_digits, .int v_t_many, .int v_t_isMinus, .ref a_t_found, .ref a_t_one, .ref a_t_other, .ref a_t_sum, .ref a_t_rest])), (a_t_cells, .inl (cy 5, 8, .inr (.inr (.inr (.inr (fun j => some (rw_t j))))))), (a_t_page, .inl (cy 0, 66, .inl f_t_page)), (a_t_digits, .inl (cy 0, 64, .inl f_t_digits)), (a_t_found, .inl (cy 2, 64, .inl R.2.2)), (a_t_one, .inl (cy 2, 65, .inl f_t_one)), (a_t_other, .inl (cy 2, 65, .inl f_t_other)), (a_t_sum, .inl (cy 2, 65, .inl f_t_sum)), (a_t_rest, .inl (cy 2, 65, .inl f_t_rest)), (a_p2, .inl (cy 0, 300, .inl f_p2))] : va_W) ++ (rowsW (cy 2) rw_t R.2.1 ++ ([] : va_W))) (some (.int R.1)) := by
  refine Con.of (by decide +kernel) (Nat.le_of_ble_eq_true rfl) ?_
  intro p e RM s m ar below meth c A Qc ls hx hb hr hml hown hlocks hnm ht hK hP hD hS hA hR hC hQc hl
  have hown : s.vm.findClass RX12 = some m.cls := hown
  have hl : lv_has ls 10 [(0, .ref a_t), (1, .int p1), (2, .ref a_p2), (3, .int p3), (4, .int p4), (5, .int p5), (6, .int p6)] := hl
  rw [mX12_reads_x] at hm
  refine lv_aload_n hx hb dX12_reads_0 rfl (lv_at hl 0 rfl) ?_
  refine lv_aload_n hx hb dX12_reads_1 rfl (lv_at hl 2 rfl) ?_
  refine lv_iload_n hx hb dX12_reads_2 rfl (lv_at hl 3 rfl) ?_
  refine lv_iload hx hb dX12_reads_3 (lv_at hl 4 rfl) ?_
  refine lv_iload hx hb dX12_reads_5 (lv_at hl 5 rfl) ?_
  refine lv_iload hx hb dX12_reads_7 (lv_at hl 6 rfl) ?_
  refine lv_aload_n hx hb dX12_reads_9 rfl (lv_at hl 0 rfl) ?_
  obtain ⟨r_1, hr_1, hm⟩ := hm_b hm
  refine k_V (as := []) (rest := [.int p6, .int p5, .int p4, .int p3, .ref a_p2, .ref a_t]) (ws' := (([(a_t, .inr (8, [.int v_t_isWide, .ref a_t_cells, .ref a_t_page, .int v_t_pageMany, .ref a_t_digits, .int v_t_many, .int v_t_isMinus, .ref a_t_found, .ref a_t_one, .ref a_t_other, .ref a_t_sum, .ref a_t_rest])), (a_t_cells, .inl (cy 5, 8, .inr (.inr (.inr (.inr (fun j => some (rw_t j))))))), (a_t_page, .inl (cy 0, 66, .inl f_t_page)), (a_t_digits, .inl (cy 0, 64, .inl f_t_digits)), (a_t_found, .inl (cy 2, 64, .inl f_t_found)), (a_t_one, .inl (cy 2, 65, .inl f_t_one)), (a_t_other, .inl (cy 2, 65, .inl f_t_other)), (a_t_sum, .inl (cy 2, 65, .inl f_t_sum)), (a_t_rest, .inl (cy 2, 65, .inl f_t_rest)), (a_p2, .inl (cy 0, 300, .inl f_p2))] : va_W) ++ (rowsW (cy 2) rw_t B_t ++ ([] : va_W)))) (st2 := [.int r_1, .int p6, .int p5, .int p4, .int p3, .ref a_p2, .ref a_t]) (i0 := 0) hx hb hml hown ht hK hP hD hS hA hC hR hl (kcX12_bits l D cy g a_t a_t_cells a_t_page a_t_digits a_t_found a_t_one a_t_other a_t_sum a_t_rest rw_t v_t_isWide B_t f_t_page v_t_pageMany f_t_digits v_t_many v_t_isMinus f_t_found f_t_one f_t_other f_t_sum f_t_rest r_1 hr_1) (isZ [0, 1, 2, 3, 4, 5, 6, 7, 8] 10 8) q_1354 q_1355 q_1356 q_55 q_1357 hyX12_bits ⟨rfl, rfl, rfl⟩ ⟨Nat.le_of_ble_eq_true rfl, Nat.le_of_ble_eq_true rfl, Nat.le_of_ble_eq_true rfl, Nat.le_of_ble_eq_true rfl⟩ rfl (zcT rfl rfl rfl) (zeT rfl rfl) rfl (Nat.le_of_ble_eq_true rfl) dX12_reads_10 (zwT (cx := [(a_t, .inr (8, [.int v_t_isWide, .ref a_t_cells, .ref a_t_page, .int v_t_pageMany, .ref a_t_digits, .int v_t_many, .int v_t_isMinus, .ref a_t_found, .ref a_t_one, .ref a_t_other, .ref a_t_sum, .ref a_t_rest])), (a_t_cells, .inl (cy 5, 8, .inr (.inr (.inr (.inr (fun j => some (rw_t j))))))), (a_t_page, .inl (cy 0, 66, .inl f_t_page)), (a_t_digits, .inl (cy 0, 64, .inl f_t_digits)), (a_t_found, .inl (cy 2, 64, .inl f_t_found)), (a_t_one, .inl (cy 2, 65, .inl f_t_one)), (a_t_other, .inl (cy 2, 65, .inl f_t_other)), (a_t_sum, .inl (cy 2, 65, .inl f_t_sum)), (a_t_rest, .inl (cy 2, 65, .inl f_t_rest))]) rfl rfl rfl rfl rfl rfl) rfl (fun H locs hP hD hS => ?_)
  obtain ⟨r_2, hr_2, hm⟩ := hm_b hm
  refine k_V (as := [.ref a_p2, .int p3, .int p4, .int p5, .int p6, .int r_1]) (rest := []) (ws' := (([(a_t, .inr (8, [.int v_t_isWide, .ref a_t_cells, .ref a_t_page, .int v_t_pageMany, .ref a_t_digits, .int v_t_many, .int v_t_isMinus, .ref a_t_found, .ref a_t_one, .ref a_t_other, .ref a_t_sum, .ref a_t_rest])), (a_t_cells, .inl (cy 5, 8, .inr (.inr (.inr (.inr (fun j => some (rw_t j))))))), (a_t_page, .inl (cy 0, 66, .inl f_t_page)), (a_t_digits, .inl (cy 0, 64, .inl f_t_digits)), (a_t_found, .inl (cy 2, 64, .inl r_2.2)), (a_t_one, .inl (cy 2, 65, .inl f_t_one)), (a_t_other, .inl (cy 2, 65, .inl f_t_other)), (a_t_sum, .inl (cy 2, 65, .inl f_t_sum)), (a_t_rest, .inl (cy 2, 65, .inl f_t_rest)), (a_p2, .inl (cy 0, 300, .inl f_p2))] : va_W) ++ (rowsW (cy 2) rw_t B_t ++ ([] : va_W)))) (st2 := [.int r_2.1]) (i0 := 0) hx hb hml hown ht hK hP hD hS hA hC hR hl (kcX12_finds_x l D cy g a_t a_t_cells a_t_page a_t_digits a_t_found a_t_one a_t_other a_t_sum a_t_rest a_p2 rw_t v_t_isWide B_t f_t_page v_t_pageMany f_t_digits v_t_many v_t_isMinus f_t_found f_t_one f_t_other f_t_sum f_t_rest f_p2 p3 p4 p5 p6 r_1 k r_2 hr_2) (isZ [0, 1, 2, 3, 4, 5, 6, 7, 8, 9] 10 8) q_1416 q_1417 q_1418 q_55 q_1419 hyX12_finds ⟨rfl, rfl, rfl⟩ ⟨Nat.le_of_ble_eq_true rfl, Nat.le_of_ble_eq_true rfl, Nat.le_of_ble_eq_true rfl, Nat.le_of_ble_eq_true rfl⟩ rfl (zcT rfl rfl rfl) (zeT rfl rfl) rfl (Nat.le_of_ble_eq_true rfl) dX12_reads_13 (zwT (cx := [(a_t, .inr (8, [.int v_t_isWide, .ref a_t_cells, .ref a_t_page, .int v_t_pageMany, .ref a_t_digits, .int v_t_many, .int v_t_isMinus, .ref a_t_found, .ref a_t_one, .ref a_t_other, .ref a_t_sum, .ref a_t_rest])), (a_t_cells, .inl (cy 5, 8, .inr (.inr (.inr (.inr (fun j => some (rw_t j))))))), (a_t_page, .inl (cy 0, 66, .inl f_t_page)), (a_t_digits, .inl (cy 0, 64, .inl f_t_digits)), (a_t_found, .inl (cy 2, 64, .inl f_t_found)), (a_t_one, .inl (cy 2, 65, .inl f_t_one)), (a_t_other, .inl (cy 2, 65, .inl f_t_other)), (a_t_sum, .inl (cy 2, 65, .inl f_t_sum)), (a_t_rest, .inl (cy 2, 65, .inl f_t_rest)), (a_p2, .inl (cy 0, 300, .inl f_p2))]) rfl rfl rfl rfl rfl rfl) rfl (fun H locs hP hD hS => ?_)
  refine lv_istore (lv' := [(7, .int r_2.1), (0, .ref a_t), (1, .int p1), (2, .ref a_p2), (3, .int p3), (4, .int p4), (5, .int p5), (6, .int p6)]) hx hb dX12_reads_16 hl (by decide) rfl (fun ls hl => ?_)
  refine lv_iload hx hb dX12_reads_18 (lv_at hl 0 rfl) ?_
  refine lv_if_eq (tgt := 34) hx hb dX12_reads_20 (by decide) (fun c_3 => ?_) (fun c_3 => ?_)
  · replace hm := hm_t c_3 hm
    refine lv_iload hx hb dX12_reads_34 (lv_at hl 0 rfl) ?_
    obtain ⟨hbz, hm⟩ := hm_g hm
    obtain rfl := Option.some.inj hm
    exact k_zret hx hb hr hlocks hQc (k_narz hbz) hP hS rfl rfl dX12_reads_36
  · replace hm := hm_f c_3 hm
    refine lv_aload_n hx hb dX12_reads_23 rfl (lv_at hl 1 rfl) ?_
    refine lv_iload_n hx hb dX12_reads_24 rfl (lv_at hl 2 rfl) ?_
    refine lv_aload_n hx hb dX12_reads_25 rfl (lv_at hl 1 rfl) ?_
    refine va_get (D := D) (cl := classes) (ci := 8) (v := .ref a_t_found) (C := RX12) (T := TX12) (N := 12) hx hb ht in_RX12 hown hK.1 hP 0 rfl rfl 7 (by decide) (ht _ q_1256) (fun _ h9 => h9) rfl dX12_reads_26 ?_
    obtain ⟨r_4, hr_4, hm⟩ := hm_b hm
    refine k_V (as := [.int p1, .ref a_t_found]) (rest := []) (ws' := (([(a_t, .inr (8, [.int v_t_isWide, .ref a_t_cells, .ref a_t_page, .int v_t_pageMany, .ref a_t_digits, .int v_t_many, .int v_t_isMinus, .ref a_t_found, .ref a_t_one, .ref a_t_other, .ref a_t_sum, .ref a_t_rest])), (a_t_cells, .inl (cy 5, 8, .inr (.inr (.inr (.inr (fun j => some (rw_t j))))))), (a_t_page, .inl (cy 0, 66, .inl f_t_page)), (a_t_digits, .inl (cy 0, 64, .inl f_t_digits)), (a_t_found, .inl (cy 2, 64, .inl r_2.2)), (a_t_one, .inl (cy 2, 65, .inl f_t_one)), (a_t_other, .inl (cy 2, 65, .inl f_t_other)), (a_t_sum, .inl (cy 2, 65, .inl f_t_sum)), (a_t_rest, .inl (cy 2, 65, .inl f_t_rest)), (a_p2, .inl (cy 0, 300, .inl f_p2))] : va_W) ++ (rowsW (cy 2) rw_t r_4.2 ++ ([] : va_W)))) (st2 := [.long r_4.1]) (i0 := 0) hx hb hml hown ht hK hP hD hS hA hC hR hl (kcX12_puts_found l D cy g a_t a_t_cells a_t_page a_t_digits a_t_found a_t_one a_t_other a_t_sum a_t_rest rw_t v_t_isWide B_t f_t_page v_t_pageMany f_t_digits v_t_many v_t_isMinus r_2.2 f_t_one f_t_other f_t_sum f_t_rest p1 k r_4 hr_4) (isZ [0, 1, 2, 3, 4, 5, 6, 7, 8] 10 8) q_1433 q_1435 q_18 q_55 q_1436 hyX12_puts ⟨rfl, rfl, rfl⟩ ⟨Nat.le_of_ble_eq_true rfl, Nat.le_of_ble_eq_true rfl, Nat.le_of_ble_eq_true rfl, Nat.le_of_ble_eq_true rfl⟩ rfl (zcT rfl rfl rfl) (zeT rfl rfl) rfl (Nat.le_of_ble_eq_true rfl) dX12_reads_29 (zwT (cx := [(a_t, .inr (8, [.int v_t_isWide, .ref a_t_cells, .ref a_t_page, .int v_t_pageMany, .ref a_t_digits, .int v_t_many, .int v_t_isMinus, .ref a_t_found, .ref a_t_one, .ref a_t_other, .ref a_t_sum, .ref a_t_rest])), (a_t_cells, .inl (cy 5, 8, .inr (.inr (.inr (.inr (fun j => some (rw_t j))))))), (a_t_page, .inl (cy 0, 66, .inl f_t_page)), (a_t_digits, .inl (cy 0, 64, .inl f_t_digits)), (a_t_found, .inl (cy 2, 64, .inl r_2.2)), (a_t_one, .inl (cy 2, 65, .inl f_t_one)), (a_t_other, .inl (cy 2, 65, .inl f_t_other)), (a_t_sum, .inl (cy 2, 65, .inl f_t_sum)), (a_t_rest, .inl (cy 2, 65, .inl f_t_rest))]) rfl rfl rfl rfl rfl rfl) rfl (fun H locs hP hD hS => ?_)
    refine lv_lstore (lv' := [(8, .long r_4.1), (7, .int r_2.1), (0, .ref a_t), (1, .int p1), (2, .ref a_p2), (3, .int p3), (4, .int p4), (5, .int p5), (6, .int p6)]) hx hb dX12_reads_32 hl (by decide) rfl (fun ls hl => ?_)
    refine lv_iload hx hb dX12_reads_34 (lv_at hl 1 rfl) ?_
    obtain ⟨hbz, hm⟩ := hm_g hm
    obtain rfl := Option.some.inj hm
    exact k_zret hx hb hr hlocks hQc (k_narz hbz) hP hS rfl rfl dX12_reads_36
def mX12_reads_o (k : Nat) (v_t_isWide : Int32) (B_t : Nat → Nat → Int32) (f_t_page : Nat → Int32) (f_t_found : Nat → Int32) (p1 : Int32) (p3 : Int32) (p4 : Int32) (p5 : Int32) (p6 : Int32) : Option (Int32 × (Nat → Nat → Int32) × (Nat → Int32)) := ((mX12_bits v_t_isWide).bind (fun r_1 => ((mX12_finds_o k f_t_page f_t_found p3 p4 p5 p6 r_1).bind (fun r_2 => (if r_2.1 = 0 then (if ¬ (r_2.1 = 0 ∨ r_2.1 = 1) then none else some (r_2.1, B_t, r_2.2)) else ((mX12_puts_found k v_t_isWide B_t r_2.2 p1).bind (fun r_4 => (if ¬ (r_2.1 = 0 ∨ r_2.1 = 1) then none else some (r_2.1, r_4.2, r_2.2)))))))))
set_option maxHeartbeats 4000000 in
set_option maxRecDepth 100000 in
theorem kcX12_reads_o (l : Launch) (D : va_G) (cy : Nat → ClassId) (g : Nat → Nat) (a_t : Nat) (a_t_cells : Nat) (a_t_page : Nat) (a_t_digits : Nat) (a_t_found : Nat) (a_t_one : Nat) (a_t_other : Nat) (a_t_sum : Nat) (a_t_rest : Nat) (rw_t : Nat → Nat) (v_t_isWide : Int32) (B_t : Nat → Nat → Int32) (f_t_page : Nat → Int32) (v_t_pageMany : Int32) (f_t_digits : Nat → Int32) (v_t_many : Int32) (v_t_isMinus : Int32) (f_t_found : Nat → Int32) (f_t_one : Nat → Int32) (f_t_other : Nat → Int32) (f_t_sum : Nat → Int32) (f_t_rest : Nat → Int32) (p1 : Int32) (p3 : Int32) (p4 : Int32) (p5 : Int32) (p6 : Int32) (k : Nat) (R : Int32 × (Nat → Nat → Int32) × (Nat → Int32)) (hm : mX12_reads_o k v_t_isWide B_t f_t_page f_t_found p1 p3 p4 p5 p6 = some R) : Con l D cy g yX12_reads cX12_reads 10 (some .boolean) 4 85 0 0 [.ref a_t, .int p1, .ref a_t_page, .int p3, .int p4, .int p5, .int p6] (([(a_t, .inr (8, [.int v_t_isWide, .ref a_t_cells, .ref a_t_page, .int v_t_pageMany, .ref a_t_digits, .int v_t_many, .int v_t_isMinus, .ref a_t_found, .ref a_t_one, .ref a_t_other, .ref a_t_sum, .ref a_t_rest])), (a_t_cells, .inl (cy 5, 8, .inr (.inr (.inr (.inr (fun j => some (rw_t j))))))), (a_t_page, .inl (cy 0, 66, .inl f_t_page)), (a_t_digits, .inl (cy 0, 64, .inl f_t_digits)), (a_t_found, .inl (cy 2, 64, .inl f_t_found)), (a_t_one, .inl (cy 2, 65, .inl f_t_one)), (a_t_other, .inl (cy 2, 65, .inl f_t_other)), (a_t_sum, .inl (cy 2, 65, .inl f_t_sum)), (a_t_rest, .inl (cy 2, 65, .inl f_t_rest))] : va_W) ++ (rowsW (cy 2) rw_t B_t ++ ([] : va_W))) (([(a_t, .inr (8, [.int v_t_isWide, .ref a_t_cells, .ref a_t_page, .int v_t_pageMany, .ref a_t_digits, .int v_t_many, .int v_t_isMinus, .ref a_t_found, .ref a_t_one, .ref a_t_other, .ref a_t_sum, .ref a_t_rest])), (a_t_cells, .inl (cy 5, 8, .inr (.inr (.inr (.inr (fun j => some (rw_t j))))))), (a_t_page, .inl (cy 0, 66, .inl f_t_page)), (a_t_digits, .inl (cy 0, 64, .inl f_t_digits)), (a_t_found, .inl (cy 2, 64, .inl R.2.2)), (a_t_one, .inl (cy 2, 65, .inl f_t_one)), (a_t_other, .inl (cy 2, 65, .inl f_t_other)), (a_t_sum, .inl (cy 2, 65, .inl f_t_sum)), (a_t_rest, .inl (cy 2, 65, .inl f_t_rest))] : va_W) ++ (rowsW (cy 2) rw_t R.2.1 ++ ([] : va_W))) (some (.int R.1)) := by
  refine Con.of (by decide +kernel) (Nat.le_of_ble_eq_true rfl) ?_
  intro p e RM s m ar below meth c A Qc ls hx hb hr hml hown hlocks hnm ht hK hP hD hS hA hR hC hQc hl
  have hown : s.vm.findClass RX12 = some m.cls := hown
  have hl : lv_has ls 10 [(0, .ref a_t), (1, .int p1), (2, .ref a_t_page), (3, .int p3), (4, .int p4), (5, .int p5), (6, .int p6)] := hl
  rw [mX12_reads_o] at hm
  refine lv_aload_n hx hb dX12_reads_0 rfl (lv_at hl 0 rfl) ?_
  refine lv_aload_n hx hb dX12_reads_1 rfl (lv_at hl 2 rfl) ?_
  refine lv_iload_n hx hb dX12_reads_2 rfl (lv_at hl 3 rfl) ?_
  refine lv_iload hx hb dX12_reads_3 (lv_at hl 4 rfl) ?_
  refine lv_iload hx hb dX12_reads_5 (lv_at hl 5 rfl) ?_
  refine lv_iload hx hb dX12_reads_7 (lv_at hl 6 rfl) ?_
  refine lv_aload_n hx hb dX12_reads_9 rfl (lv_at hl 0 rfl) ?_
  obtain ⟨r_1, hr_1, hm⟩ := hm_b hm
  refine k_V (as := []) (rest := [.int p6, .int p5, .int p4, .int p3, .ref a_t_page, .ref a_t]) (ws' := (([(a_t, .inr (8, [.int v_t_isWide, .ref a_t_cells, .ref a_t_page, .int v_t_pageMany, .ref a_t_digits, .int v_t_many, .int v_t_isMinus, .ref a_t_found, .ref a_t_one, .ref a_t_other, .ref a_t_sum, .ref a_t_rest])), (a_t_cells, .inl (cy 5, 8, .inr (.inr (.inr (.inr (fun j => some (rw_t j))))))), (a_t_page, .inl (cy 0, 66, .inl f_t_page)), (a_t_digits, .inl (cy 0, 64, .inl f_t_digits)), (a_t_found, .inl (cy 2, 64, .inl f_t_found)), (a_t_one, .inl (cy 2, 65, .inl f_t_one)), (a_t_other, .inl (cy 2, 65, .inl f_t_other)), (a_t_sum, .inl (cy 2, 65, .inl f_t_sum)), (a_t_rest, .inl (cy 2, 65, .inl f_t_rest))] : va_W) ++ (rowsW (cy 2) rw_t B_t ++ ([] : va_W)))) (st2 := [.int r_1, .int p6, .int p5, .int p4, .int p3, .ref a_t_page, .ref a_t]) (i0 := 0) hx hb hml hown ht hK hP hD hS hA hC hR hl (kcX12_bits l D cy g a_t a_t_cells a_t_page a_t_digits a_t_found a_t_one a_t_other a_t_sum a_t_rest rw_t v_t_isWide B_t f_t_page v_t_pageMany f_t_digits v_t_many v_t_isMinus f_t_found f_t_one f_t_other f_t_sum f_t_rest r_1 hr_1) (isZ [0, 1, 2, 3, 4, 5, 6, 7, 8] 9 8) q_1354 q_1355 q_1356 q_55 q_1357 hyX12_bits ⟨rfl, rfl, rfl⟩ ⟨Nat.le_of_ble_eq_true rfl, Nat.le_of_ble_eq_true rfl, Nat.le_of_ble_eq_true rfl, Nat.le_of_ble_eq_true rfl⟩ rfl (zcT rfl rfl rfl) (zeT rfl rfl) rfl (Nat.le_of_ble_eq_true rfl) dX12_reads_10 (zwT (cx := [(a_t, .inr (8, [.int v_t_isWide, .ref a_t_cells, .ref a_t_page, .int v_t_pageMany, .ref a_t_digits, .int v_t_many, .int v_t_isMinus, .ref a_t_found, .ref a_t_one, .ref a_t_other, .ref a_t_sum, .ref a_t_rest])), (a_t_cells, .inl (cy 5, 8, .inr (.inr (.inr (.inr (fun j => some (rw_t j))))))), (a_t_page, .inl (cy 0, 66, .inl f_t_page)), (a_t_digits, .inl (cy 0, 64, .inl f_t_digits)), (a_t_found, .inl (cy 2, 64, .inl f_t_found)), (a_t_one, .inl (cy 2, 65, .inl f_t_one)), (a_t_other, .inl (cy 2, 65, .inl f_t_other)), (a_t_sum, .inl (cy 2, 65, .inl f_t_sum)), (a_t_rest, .inl (cy 2, 65, .inl f_t_rest))]) rfl rfl rfl rfl rfl rfl) rfl (fun H locs hP hD hS => ?_)
  obtain ⟨r_2, hr_2, hm⟩ := hm_b hm
  refine k_V (as := [.ref a_t_page, .int p3, .int p4, .int p5, .int p6, .int r_1]) (rest := []) (ws' := (([(a_t, .inr (8, [.int v_t_isWide, .ref a_t_cells, .ref a_t_page, .int v_t_pageMany, .ref a_t_digits, .int v_t_many, .int v_t_isMinus, .ref a_t_found, .ref a_t_one, .ref a_t_other, .ref a_t_sum, .ref a_t_rest])), (a_t_cells, .inl (cy 5, 8, .inr (.inr (.inr (.inr (fun j => some (rw_t j))))))), (a_t_page, .inl (cy 0, 66, .inl f_t_page)), (a_t_digits, .inl (cy 0, 64, .inl f_t_digits)), (a_t_found, .inl (cy 2, 64, .inl r_2.2)), (a_t_one, .inl (cy 2, 65, .inl f_t_one)), (a_t_other, .inl (cy 2, 65, .inl f_t_other)), (a_t_sum, .inl (cy 2, 65, .inl f_t_sum)), (a_t_rest, .inl (cy 2, 65, .inl f_t_rest))] : va_W) ++ (rowsW (cy 2) rw_t B_t ++ ([] : va_W)))) (st2 := [.int r_2.1]) (i0 := 0) hx hb hml hown ht hK hP hD hS hA hC hR hl (kcX12_finds_o l D cy g a_t a_t_cells a_t_page a_t_digits a_t_found a_t_one a_t_other a_t_sum a_t_rest rw_t v_t_isWide B_t f_t_page v_t_pageMany f_t_digits v_t_many v_t_isMinus f_t_found f_t_one f_t_other f_t_sum f_t_rest p3 p4 p5 p6 r_1 k r_2 hr_2) (isZ [0, 1, 2, 3, 4, 5, 6, 7, 8] 9 8) q_1416 q_1417 q_1418 q_55 q_1419 hyX12_finds ⟨rfl, rfl, rfl⟩ ⟨Nat.le_of_ble_eq_true rfl, Nat.le_of_ble_eq_true rfl, Nat.le_of_ble_eq_true rfl, Nat.le_of_ble_eq_true rfl⟩ rfl (zcT rfl rfl rfl) (zeT rfl rfl) rfl (Nat.le_of_ble_eq_true rfl) dX12_reads_13 (zwT (cx := [(a_t, .inr (8, [.int v_t_isWide, .ref a_t_cells, .ref a_t_page, .int v_t_pageMany, .ref a_t_digits, .int v_t_many, .int v_t_isMinus, .ref a_t_found, .ref a_t_one, .ref a_t_other, .ref a_t_sum, .ref a_t_rest])), (a_t_cells, .inl (cy 5, 8, .inr (.inr (.inr (.inr (fun j => some (rw_t j))))))), (a_t_page, .inl (cy 0, 66, .inl f_t_page)), (a_t_digits, .inl (cy 0, 64, .inl f_t_digits)), (a_t_found, .inl (cy 2, 64, .inl f_t_found)), (a_t_one, .inl (cy 2, 65, .inl f_t_one)), (a_t_other, .inl (cy 2, 65, .inl f_t_other)), (a_t_sum, .inl (cy 2, 65, .inl f_t_sum)), (a_t_rest, .inl (cy 2, 65, .inl f_t_rest))]) rfl rfl rfl rfl rfl rfl) rfl (fun H locs hP hD hS => ?_)
  refine lv_istore (lv' := [(7, .int r_2.1), (0, .ref a_t), (1, .int p1), (2, .ref a_t_page), (3, .int p3), (4, .int p4), (5, .int p5), (6, .int p6)]) hx hb dX12_reads_16 hl (by decide) rfl (fun ls hl => ?_)
  refine lv_iload hx hb dX12_reads_18 (lv_at hl 0 rfl) ?_
  refine lv_if_eq (tgt := 34) hx hb dX12_reads_20 (by decide) (fun c_3 => ?_) (fun c_3 => ?_)
  · replace hm := hm_t c_3 hm
    refine lv_iload hx hb dX12_reads_34 (lv_at hl 0 rfl) ?_
    obtain ⟨hbz, hm⟩ := hm_g hm
    obtain rfl := Option.some.inj hm
    exact k_zret hx hb hr hlocks hQc (k_narz hbz) hP hS rfl rfl dX12_reads_36
  · replace hm := hm_f c_3 hm
    refine lv_aload_n hx hb dX12_reads_23 rfl (lv_at hl 1 rfl) ?_
    refine lv_iload_n hx hb dX12_reads_24 rfl (lv_at hl 2 rfl) ?_
    refine lv_aload_n hx hb dX12_reads_25 rfl (lv_at hl 1 rfl) ?_
    refine va_get (D := D) (cl := classes) (ci := 8) (v := .ref a_t_found) (C := RX12) (T := TX12) (N := 12) hx hb ht in_RX12 hown hK.1 hP 0 rfl rfl 7 (by decide) (ht _ q_1256) (fun _ h9 => h9) rfl dX12_reads_26 ?_
    obtain ⟨r_4, hr_4, hm⟩ := hm_b hm
    refine k_V (as := [.int p1, .ref a_t_found]) (rest := []) (ws' := (([(a_t, .inr (8, [.int v_t_isWide, .ref a_t_cells, .ref a_t_page, .int v_t_pageMany, .ref a_t_digits, .int v_t_many, .int v_t_isMinus, .ref a_t_found, .ref a_t_one, .ref a_t_other, .ref a_t_sum, .ref a_t_rest])), (a_t_cells, .inl (cy 5, 8, .inr (.inr (.inr (.inr (fun j => some (rw_t j))))))), (a_t_page, .inl (cy 0, 66, .inl f_t_page)), (a_t_digits, .inl (cy 0, 64, .inl f_t_digits)), (a_t_found, .inl (cy 2, 64, .inl r_2.2)), (a_t_one, .inl (cy 2, 65, .inl f_t_one)), (a_t_other, .inl (cy 2, 65, .inl f_t_other)), (a_t_sum, .inl (cy 2, 65, .inl f_t_sum)), (a_t_rest, .inl (cy 2, 65, .inl f_t_rest))] : va_W) ++ (rowsW (cy 2) rw_t r_4.2 ++ ([] : va_W)))) (st2 := [.long r_4.1]) (i0 := 0) hx hb hml hown ht hK hP hD hS hA hC hR hl (kcX12_puts_found l D cy g a_t a_t_cells a_t_page a_t_digits a_t_found a_t_one a_t_other a_t_sum a_t_rest rw_t v_t_isWide B_t f_t_page v_t_pageMany f_t_digits v_t_many v_t_isMinus r_2.2 f_t_one f_t_other f_t_sum f_t_rest p1 k r_4 hr_4) (isZ [0, 1, 2, 3, 4, 5, 6, 7, 8] 9 8) q_1433 q_1435 q_18 q_55 q_1436 hyX12_puts ⟨rfl, rfl, rfl⟩ ⟨Nat.le_of_ble_eq_true rfl, Nat.le_of_ble_eq_true rfl, Nat.le_of_ble_eq_true rfl, Nat.le_of_ble_eq_true rfl⟩ rfl (zcT rfl rfl rfl) (zeT rfl rfl) rfl (Nat.le_of_ble_eq_true rfl) dX12_reads_29 (zwT (cx := [(a_t, .inr (8, [.int v_t_isWide, .ref a_t_cells, .ref a_t_page, .int v_t_pageMany, .ref a_t_digits, .int v_t_many, .int v_t_isMinus, .ref a_t_found, .ref a_t_one, .ref a_t_other, .ref a_t_sum, .ref a_t_rest])), (a_t_cells, .inl (cy 5, 8, .inr (.inr (.inr (.inr (fun j => some (rw_t j))))))), (a_t_page, .inl (cy 0, 66, .inl f_t_page)), (a_t_digits, .inl (cy 0, 64, .inl f_t_digits)), (a_t_found, .inl (cy 2, 64, .inl r_2.2)), (a_t_one, .inl (cy 2, 65, .inl f_t_one)), (a_t_other, .inl (cy 2, 65, .inl f_t_other)), (a_t_sum, .inl (cy 2, 65, .inl f_t_sum)), (a_t_rest, .inl (cy 2, 65, .inl f_t_rest))]) rfl rfl rfl rfl rfl rfl) rfl (fun H locs hP hD hS => ?_)
    refine lv_lstore (lv' := [(8, .long r_4.1), (7, .int r_2.1), (0, .ref a_t), (1, .int p1), (2, .ref a_t_page), (3, .int p3), (4, .int p4), (5, .int p5), (6, .int p6)]) hx hb dX12_reads_32 hl (by decide) rfl (fun ls hl => ?_)
    refine lv_iload hx hb dX12_reads_34 (lv_at hl 1 rfl) ?_
    obtain ⟨hbz, hm⟩ := hm_g hm
    obtain rfl := Option.some.inj hm
    exact k_zret hx hb hr hlocks hQc (k_narz hbz) hP hS rfl rfl dX12_reads_36
theorem dX12_readsPage_0 : decode cX12_readsPage 0 = .ok (.aload_n 0, 1) := by decide +kernel
theorem dX12_readsPage_1 : decode cX12_readsPage 1 = .ok (.iload_n 1, 1) := by decide +kernel
theorem dX12_readsPage_2 : decode cX12_readsPage 2 = .ok (.aload_n 0, 1) := by decide +kernel
theorem dX12_readsPage_3 : decode cX12_readsPage 3 = .ok (.getfield 16, 3) := by decide +kernel
theorem dX12_readsPage_6 : decode cX12_readsPage 6 = .ok (.iconst 0, 1) := by decide +kernel
theorem dX12_readsPage_7 : decode cX12_readsPage 7 = .ok (.aload_n 0, 1) := by decide +kernel
theorem dX12_readsPage_8 : decode cX12_readsPage 8 = .ok (.getfield 47, 3) := by decide +kernel
theorem dX12_readsPage_11 : decode cX12_readsPage 11 = .ok (.iload_n 2, 1) := by decide +kernel
theorem dX12_readsPage_12 : decode cX12_readsPage 12 = .ok (.iload_n 3, 1) := by decide +kernel
theorem dX12_readsPage_13 : decode cX12_readsPage 13 = .ok (.invokevirtual 119, 3) := by decide +kernel
theorem dX12_readsPage_16 : decode cX12_readsPage 16 = .ok (.ireturn, 1) := by decide +kernel
def mX12_readsPage (k : Nat) (v_t_isWide : Int32) (B_t : Nat → Nat → Int32) (f_t_page : Nat → Int32) (v_t_pageMany : Int32) (f_t_found : Nat → Int32) (p1 : Int32) (p2 : Int32) (p3 : Int32) : Option (Int32 × (Nat → Nat → Int32) × (Nat → Int32)) := ((mX12_reads_o k v_t_isWide B_t f_t_page f_t_found p1 0 v_t_pageMany p2 p3).bind (fun r_1 => (if ¬ (r_1.1 = 0 ∨ r_1.1 = 1) then none else some (r_1.1, r_1.2.1, r_1.2.2))))
set_option maxHeartbeats 4000000 in
set_option maxRecDepth 100000 in
theorem kcX12_readsPage (l : Launch) (D : va_G) (cy : Nat → ClassId) (g : Nat → Nat) (a_t : Nat) (a_t_cells : Nat) (a_t_page : Nat) (a_t_digits : Nat) (a_t_found : Nat) (a_t_one : Nat) (a_t_other : Nat) (a_t_sum : Nat) (a_t_rest : Nat) (rw_t : Nat → Nat) (v_t_isWide : Int32) (B_t : Nat → Nat → Int32) (f_t_page : Nat → Int32) (v_t_pageMany : Int32) (f_t_digits : Nat → Int32) (v_t_many : Int32) (v_t_isMinus : Int32) (f_t_found : Nat → Int32) (f_t_one : Nat → Int32) (f_t_other : Nat → Int32) (f_t_sum : Nat → Int32) (f_t_rest : Nat → Int32) (p1 : Int32) (p2 : Int32) (p3 : Int32) (k : Nat) (R : Int32 × (Nat → Nat → Int32) × (Nat → Int32)) (hm : mX12_readsPage k v_t_isWide B_t f_t_page v_t_pageMany f_t_found p1 p2 p3 = some R) : Con l D cy g yX12_readsPage cX12_readsPage 4 (some .boolean) 5 114 0 0 [.ref a_t, .int p1, .int p2, .int p3] (([(a_t, .inr (8, [.int v_t_isWide, .ref a_t_cells, .ref a_t_page, .int v_t_pageMany, .ref a_t_digits, .int v_t_many, .int v_t_isMinus, .ref a_t_found, .ref a_t_one, .ref a_t_other, .ref a_t_sum, .ref a_t_rest])), (a_t_cells, .inl (cy 5, 8, .inr (.inr (.inr (.inr (fun j => some (rw_t j))))))), (a_t_page, .inl (cy 0, 66, .inl f_t_page)), (a_t_digits, .inl (cy 0, 64, .inl f_t_digits)), (a_t_found, .inl (cy 2, 64, .inl f_t_found)), (a_t_one, .inl (cy 2, 65, .inl f_t_one)), (a_t_other, .inl (cy 2, 65, .inl f_t_other)), (a_t_sum, .inl (cy 2, 65, .inl f_t_sum)), (a_t_rest, .inl (cy 2, 65, .inl f_t_rest))] : va_W) ++ (rowsW (cy 2) rw_t B_t ++ ([] : va_W))) (([(a_t, .inr (8, [.int v_t_isWide, .ref a_t_cells, .ref a_t_page, .int v_t_pageMany, .ref a_t_digits, .int v_t_many, .int v_t_isMinus, .ref a_t_found, .ref a_t_one, .ref a_t_other, .ref a_t_sum, .ref a_t_rest])), (a_t_cells, .inl (cy 5, 8, .inr (.inr (.inr (.inr (fun j => some (rw_t j))))))), (a_t_page, .inl (cy 0, 66, .inl f_t_page)), (a_t_digits, .inl (cy 0, 64, .inl f_t_digits)), (a_t_found, .inl (cy 2, 64, .inl R.2.2)), (a_t_one, .inl (cy 2, 65, .inl f_t_one)), (a_t_other, .inl (cy 2, 65, .inl f_t_other)), (a_t_sum, .inl (cy 2, 65, .inl f_t_sum)), (a_t_rest, .inl (cy 2, 65, .inl f_t_rest))] : va_W) ++ (rowsW (cy 2) rw_t R.2.1 ++ ([] : va_W))) (some (.int R.1)) := by
  refine Con.of (by decide +kernel) (Nat.le_of_ble_eq_true rfl) ?_
  intro p e RM s m ar below meth c A Qc ls hx hb hr hml hown hlocks hnm ht hK hP hD hS hA hR hC hQc hl
  have hown : s.vm.findClass RX12 = some m.cls := hown
  have hl : lv_has ls 4 [(0, .ref a_t), (1, .int p1), (2, .int p2), (3, .int p3)] := hl
  rw [mX12_readsPage] at hm
  refine lv_aload_n hx hb dX12_readsPage_0 rfl (lv_at hl 0 rfl) ?_
  refine lv_iload_n hx hb dX12_readsPage_1 rfl (lv_at hl 1 rfl) ?_
  refine lv_aload_n hx hb dX12_readsPage_2 rfl (lv_at hl 0 rfl) ?_
  refine va_get (D := D) (cl := classes) (ci := 8) (v := .ref a_t_page) (C := RX12) (T := TX12) (N := 12) hx hb ht in_RX12 hown hK.1 hP 0 rfl rfl 2 (by decide) (ht _ q_1247) (fun _ h9 => h9) rfl dX12_readsPage_3 ?_
  refine lv_iconst (v := 0) hx hb dX12_readsPage_6 (by decide) ?_
  refine lv_aload_n hx hb dX12_readsPage_7 rfl (lv_at hl 0 rfl) ?_
  refine va_get (D := D) (cl := classes) (ci := 8) (v := .int v_t_pageMany) (C := RX12) (T := TX12) (N := 12) hx hb ht in_RX12 hown hK.1 hP 0 rfl rfl 3 (by decide) (ht _ q_1249) (fun _ h9 => h9) rfl dX12_readsPage_8 ?_
  refine lv_iload_n hx hb dX12_readsPage_11 rfl (lv_at hl 2 rfl) ?_
  refine lv_iload_n hx hb dX12_readsPage_12 rfl (lv_at hl 3 rfl) ?_
  obtain ⟨r_1, hr_1, hm⟩ := hm_b hm
  refine k_V (as := [.int p1, .ref a_t_page, .int 0, .int v_t_pageMany, .int p2, .int p3]) (rest := []) (ws' := (([(a_t, .inr (8, [.int v_t_isWide, .ref a_t_cells, .ref a_t_page, .int v_t_pageMany, .ref a_t_digits, .int v_t_many, .int v_t_isMinus, .ref a_t_found, .ref a_t_one, .ref a_t_other, .ref a_t_sum, .ref a_t_rest])), (a_t_cells, .inl (cy 5, 8, .inr (.inr (.inr (.inr (fun j => some (rw_t j))))))), (a_t_page, .inl (cy 0, 66, .inl f_t_page)), (a_t_digits, .inl (cy 0, 64, .inl f_t_digits)), (a_t_found, .inl (cy 2, 64, .inl r_1.2.2)), (a_t_one, .inl (cy 2, 65, .inl f_t_one)), (a_t_other, .inl (cy 2, 65, .inl f_t_other)), (a_t_sum, .inl (cy 2, 65, .inl f_t_sum)), (a_t_rest, .inl (cy 2, 65, .inl f_t_rest))] : va_W) ++ (rowsW (cy 2) rw_t r_1.2.1 ++ ([] : va_W)))) (st2 := [.int r_1.1]) (i0 := 0) hx hb hml hown ht hK hP hD hS hA hC hR hl (kcX12_reads_o l D cy g a_t a_t_cells a_t_page a_t_digits a_t_found a_t_one a_t_other a_t_sum a_t_rest rw_t v_t_isWide B_t f_t_page v_t_pageMany f_t_digits v_t_many v_t_isMinus f_t_found f_t_one f_t_other f_t_sum f_t_rest p1 0 v_t_pageMany p2 p3 k r_1 hr_1) (isZ [0, 1, 2, 3, 4, 5, 6, 7, 8] 9 8) q_1488 q_1413 q_1414 q_55 q_1415 hyX12_reads ⟨rfl, rfl, rfl⟩ ⟨Nat.le_of_ble_eq_true rfl, Nat.le_of_ble_eq_true rfl, Nat.le_of_ble_eq_true rfl, Nat.le_of_ble_eq_true rfl⟩ rfl (zcT rfl rfl rfl) (zeT rfl rfl) rfl (Nat.le_of_ble_eq_true rfl) dX12_readsPage_13 (zwT (cx := [(a_t, .inr (8, [.int v_t_isWide, .ref a_t_cells, .ref a_t_page, .int v_t_pageMany, .ref a_t_digits, .int v_t_many, .int v_t_isMinus, .ref a_t_found, .ref a_t_one, .ref a_t_other, .ref a_t_sum, .ref a_t_rest])), (a_t_cells, .inl (cy 5, 8, .inr (.inr (.inr (.inr (fun j => some (rw_t j))))))), (a_t_page, .inl (cy 0, 66, .inl f_t_page)), (a_t_digits, .inl (cy 0, 64, .inl f_t_digits)), (a_t_found, .inl (cy 2, 64, .inl f_t_found)), (a_t_one, .inl (cy 2, 65, .inl f_t_one)), (a_t_other, .inl (cy 2, 65, .inl f_t_other)), (a_t_sum, .inl (cy 2, 65, .inl f_t_sum)), (a_t_rest, .inl (cy 2, 65, .inl f_t_rest))]) rfl rfl rfl rfl rfl rfl) rfl (fun H locs hP hD hS => ?_)
  obtain ⟨hbz, hm⟩ := hm_g hm
  obtain rfl := Option.some.inj hm
  exact k_zret hx hb hr hlocks hQc (k_narz hbz) hP hS rfl rfl dX12_readsPage_16
theorem dX12_alike_0 : decode cX12_alike 0 = .ok (.iconst 0, 1) := by decide +kernel
theorem dX12_alike_1 : decode cX12_alike 1 = .ok (.istore 4, 2) := by decide +kernel
theorem dX12_alike_3 : decode cX12_alike 3 = .ok (.iload 4, 2) := by decide +kernel
theorem dX12_alike_5 : decode cX12_alike 5 = .ok (.aload_n 0, 1) := by decide +kernel
theorem dX12_alike_6 : decode cX12_alike 6 = .ok (.invokevirtual 59, 3) := by decide +kernel
theorem dX12_alike_9 : decode cX12_alike 9 = .ok (.if_icmp .ge 38, 3) := by decide +kernel
theorem dX12_alike_12 : decode cX12_alike 12 = .ok (.aload_n 0, 1) := by decide +kernel
theorem dX12_alike_13 : decode cX12_alike 13 = .ok (.getfield 11, 3) := by decide +kernel
theorem dX12_alike_16 : decode cX12_alike 16 = .ok (.iload_n 1, 1) := by decide +kernel
theorem dX12_alike_17 : decode cX12_alike 17 = .ok (.aaload, 1) := by decide +kernel
theorem dX12_alike_18 : decode cX12_alike 18 = .ok (.iload_n 3, 1) := by decide +kernel
theorem dX12_alike_19 : decode cX12_alike 19 = .ok (.ifCond .eq 15, 3) := by decide +kernel
theorem dX12_alike_22 : decode cX12_alike 22 = .ok (.aload_n 0, 1) := by decide +kernel
theorem dX12_alike_23 : decode cX12_alike 23 = .ok (.invokevirtual 59, 3) := by decide +kernel
theorem dX12_alike_26 : decode cX12_alike 26 = .ok (.iconst 1, 1) := by decide +kernel
theorem dX12_alike_27 : decode cX12_alike 27 = .ok (.isub, 1) := by decide +kernel
theorem dX12_alike_28 : decode cX12_alike 28 = .ok (.iload 4, 2) := by decide +kernel
theorem dX12_alike_30 : decode cX12_alike 30 = .ok (.isub, 1) := by decide +kernel
theorem dX12_alike_31 : decode cX12_alike 31 = .ok (.goto 5, 3) := by decide +kernel
theorem dX12_alike_34 : decode cX12_alike 34 = .ok (.iload 4, 2) := by decide +kernel
theorem dX12_alike_36 : decode cX12_alike 36 = .ok (.baload, 1) := by decide +kernel
theorem dX12_alike_37 : decode cX12_alike 37 = .ok (.iload_n 2, 1) := by decide +kernel
theorem dX12_alike_38 : decode cX12_alike 38 = .ok (.if_icmp .ne 9, 3) := by decide +kernel
theorem dX12_alike_41 : decode cX12_alike 41 = .ok (.iinc 4 1, 3) := by decide +kernel
theorem dX12_alike_44 : decode cX12_alike 44 = .ok (.goto (-41), 3) := by decide +kernel
theorem dX12_alike_47 : decode cX12_alike 47 = .ok (.iload 4, 2) := by decide +kernel
theorem dX12_alike_49 : decode cX12_alike 49 = .ok (.ireturn, 1) := by decide +kernel
def mX12_alike_L3 (v_t_isWide : Int32) (p1 : Int32) (p3 : Int32) (B_t : Nat → Nat → Int32) (p2 : Int32) : Nat → Int32 → Option (Int32)
  | 0, _ => none
  | n_ + 1, y_18 => ((mX12_bits v_t_isWide).bind (fun r_19 => (if r_19 ≤ y_18 then some y_18 else (if p1 < 0 ∨ 8 ≤ p1.toNatClampNeg then none else (((if p3 = 0 then some y_18 else ((mX12_bits v_t_isWide).bind (fun r_26 => some ((r_26 - 1) - y_18)))) : Option (Int32)).bind (fun x_24 => (if x_24 < 0 ∨ 64 ≤ x_24.toNatClampNeg then none else (if ((B_t p1.toNatClampNeg) x_24.toNatClampNeg) = p2 then (mX12_alike_L3 v_t_isWide p1 p3 B_t p2 n_ (y_18 + 1)) else some y_18))))))))
def mX12_alike (k : Nat) (v_t_isWide : Int32) (B_t : Nat → Nat → Int32) (p1 : Int32) (p2 : Int32) (p3 : Int32) : Option (Int32) := ((mX12_alike_L3 v_t_isWide p1 p3 B_t p2 k 0).bind (fun r_27 => some r_27))
set_option maxHeartbeats 4000000 in
set_option maxRecDepth 100000 in
theorem kcX12_alike (l : Launch) (D : va_G) (cy : Nat → ClassId) (g : Nat → Nat) (a_t : Nat) (a_t_cells : Nat) (a_t_page : Nat) (a_t_digits : Nat) (a_t_found : Nat) (a_t_one : Nat) (a_t_other : Nat) (a_t_sum : Nat) (a_t_rest : Nat) (rw_t : Nat → Nat) (v_t_isWide : Int32) (B_t : Nat → Nat → Int32) (f_t_page : Nat → Int32) (v_t_pageMany : Int32) (f_t_digits : Nat → Int32) (v_t_many : Int32) (v_t_isMinus : Int32) (f_t_found : Nat → Int32) (f_t_one : Nat → Int32) (f_t_other : Nat → Int32) (f_t_sum : Nat → Int32) (f_t_rest : Nat → Int32) (p1 : Int32) (p2 : Int32) (p3 : Int32) (k : Nat) (R : Int32) (hm : mX12_alike k v_t_isWide B_t p1 p2 p3 = some R) : Con l D cy g yX12_alike cX12_alike 5 (some .int) 1 20 0 0 [.ref a_t, .int p1, .int p2, .int p3] (([(a_t, .inr (8, [.int v_t_isWide, .ref a_t_cells, .ref a_t_page, .int v_t_pageMany, .ref a_t_digits, .int v_t_many, .int v_t_isMinus, .ref a_t_found, .ref a_t_one, .ref a_t_other, .ref a_t_sum, .ref a_t_rest])), (a_t_cells, .inl (cy 5, 8, .inr (.inr (.inr (.inr (fun j => some (rw_t j))))))), (a_t_page, .inl (cy 0, 66, .inl f_t_page)), (a_t_digits, .inl (cy 0, 64, .inl f_t_digits)), (a_t_found, .inl (cy 2, 64, .inl f_t_found)), (a_t_one, .inl (cy 2, 65, .inl f_t_one)), (a_t_other, .inl (cy 2, 65, .inl f_t_other)), (a_t_sum, .inl (cy 2, 65, .inl f_t_sum)), (a_t_rest, .inl (cy 2, 65, .inl f_t_rest))] : va_W) ++ (rowsW (cy 2) rw_t B_t ++ ([] : va_W))) (([(a_t, .inr (8, [.int v_t_isWide, .ref a_t_cells, .ref a_t_page, .int v_t_pageMany, .ref a_t_digits, .int v_t_many, .int v_t_isMinus, .ref a_t_found, .ref a_t_one, .ref a_t_other, .ref a_t_sum, .ref a_t_rest])), (a_t_cells, .inl (cy 5, 8, .inr (.inr (.inr (.inr (fun j => some (rw_t j))))))), (a_t_page, .inl (cy 0, 66, .inl f_t_page)), (a_t_digits, .inl (cy 0, 64, .inl f_t_digits)), (a_t_found, .inl (cy 2, 64, .inl f_t_found)), (a_t_one, .inl (cy 2, 65, .inl f_t_one)), (a_t_other, .inl (cy 2, 65, .inl f_t_other)), (a_t_sum, .inl (cy 2, 65, .inl f_t_sum)), (a_t_rest, .inl (cy 2, 65, .inl f_t_rest))] : va_W) ++ (rowsW (cy 2) rw_t B_t ++ ([] : va_W))) (some (.int R)) := by
  refine Con.of (by decide +kernel) (Nat.le_of_ble_eq_true rfl) ?_
  intro p e RM s m ar below meth c A Qc ls hx hb hr hml hown hlocks hnm ht hK hP hD hS hA hR hC hQc hl
  have hown : s.vm.findClass RX12 = some m.cls := hown
  have hl : lv_has ls 5 [(0, .ref a_t), (1, .int p1), (2, .int p2), (3, .int p3)] := hl
  rw [mX12_alike] at hm
  refine lv_iconst (v := 0) hx hb dX12_alike_0 (by decide) ?_
  refine lv_istore (lv' := [(4, .int 0), (0, .ref a_t), (1, .int p1), (2, .int p2), (3, .int p3)]) hx hb dX12_alike_1 hl (by decide) rfl (fun ls hl => ?_)
  have L3 : ∀ (rr : Int32) (kk : ∀ (H : Heap) (locs : List Loc) (ls : Array Slot), va_P D classes (([(a_t, .inr (8, [.int v_t_isWide, .ref a_t_cells, .ref a_t_page, .int v_t_pageMany, .ref a_t_digits, .int v_t_many, .int v_t_isMinus, .ref a_t_found, .ref a_t_one, .ref a_t_other, .ref a_t_sum, .ref a_t_rest])), (a_t_cells, .inl (cy 5, 8, .inr (.inr (.inr (.inr (fun j => some (rw_t j))))))), (a_t_page, .inl (cy 0, 66, .inl f_t_page)), (a_t_digits, .inl (cy 0, 64, .inl f_t_digits)), (a_t_found, .inl (cy 2, 64, .inl f_t_found)), (a_t_one, .inl (cy 2, 65, .inl f_t_one)), (a_t_other, .inl (cy 2, 65, .inl f_t_other)), (a_t_sum, .inl (cy 2, 65, .inl f_t_sum)), (a_t_rest, .inl (cy 2, 65, .inl f_t_rest))] : va_W) ++ (rowsW (cy 2) rw_t B_t ++ ([] : va_W))) H → va_D A (([(a_t, .inr (8, [.int v_t_isWide, .ref a_t_cells, .ref a_t_page, .int v_t_pageMany, .ref a_t_digits, .int v_t_many, .int v_t_isMinus, .ref a_t_found, .ref a_t_one, .ref a_t_other, .ref a_t_sum, .ref a_t_rest])), (a_t_cells, .inl (cy 5, 8, .inr (.inr (.inr (.inr (fun j => some (rw_t j))))))), (a_t_page, .inl (cy 0, 66, .inl f_t_page)), (a_t_digits, .inl (cy 0, 64, .inl f_t_digits)), (a_t_found, .inl (cy 2, 64, .inl f_t_found)), (a_t_one, .inl (cy 2, 65, .inl f_t_one)), (a_t_other, .inl (cy 2, 65, .inl f_t_other)), (a_t_sum, .inl (cy 2, 65, .inl f_t_sum)), (a_t_rest, .inl (cy 2, 65, .inl f_t_rest))] : va_W) ++ (rowsW (cy 2) rw_t B_t ++ ([] : va_W))) → va_S A s.heap H locs → lv_has ls 5 [(4, .int rr)] → W p l e RM s m ar below meth c H locs 0 0 (MQ below Qc ar s 0 0 A) (F0 m 47 ls [])) (n_ : Nat), ∀ (y_18 : Int32), mX12_alike_L3 v_t_isWide p1 p3 B_t p2 n_ y_18 = some rr → ∀ (H : Heap) (locs : List Loc) (ls : Array Slot), va_P D classes (([(a_t, .inr (8, [.int v_t_isWide, .ref a_t_cells, .ref a_t_page, .int v_t_pageMany, .ref a_t_digits, .int v_t_many, .int v_t_isMinus, .ref a_t_found, .ref a_t_one, .ref a_t_other, .ref a_t_sum, .ref a_t_rest])), (a_t_cells, .inl (cy 5, 8, .inr (.inr (.inr (.inr (fun j => some (rw_t j))))))), (a_t_page, .inl (cy 0, 66, .inl f_t_page)), (a_t_digits, .inl (cy 0, 64, .inl f_t_digits)), (a_t_found, .inl (cy 2, 64, .inl f_t_found)), (a_t_one, .inl (cy 2, 65, .inl f_t_one)), (a_t_other, .inl (cy 2, 65, .inl f_t_other)), (a_t_sum, .inl (cy 2, 65, .inl f_t_sum)), (a_t_rest, .inl (cy 2, 65, .inl f_t_rest))] : va_W) ++ (rowsW (cy 2) rw_t B_t ++ ([] : va_W))) H → va_D A (([(a_t, .inr (8, [.int v_t_isWide, .ref a_t_cells, .ref a_t_page, .int v_t_pageMany, .ref a_t_digits, .int v_t_many, .int v_t_isMinus, .ref a_t_found, .ref a_t_one, .ref a_t_other, .ref a_t_sum, .ref a_t_rest])), (a_t_cells, .inl (cy 5, 8, .inr (.inr (.inr (.inr (fun j => some (rw_t j))))))), (a_t_page, .inl (cy 0, 66, .inl f_t_page)), (a_t_digits, .inl (cy 0, 64, .inl f_t_digits)), (a_t_found, .inl (cy 2, 64, .inl f_t_found)), (a_t_one, .inl (cy 2, 65, .inl f_t_one)), (a_t_other, .inl (cy 2, 65, .inl f_t_other)), (a_t_sum, .inl (cy 2, 65, .inl f_t_sum)), (a_t_rest, .inl (cy 2, 65, .inl f_t_rest))] : va_W) ++ (rowsW (cy 2) rw_t B_t ++ ([] : va_W))) → va_S A s.heap H locs → lv_has ls 5 [(4, .int y_18), (0, .ref a_t), (1, .int p1), (2, .int p2), (3, .int p3)] → W p l e RM s m ar below meth c H locs 0 0 (MQ below Qc ar s 0 0 A) (F0 m 3 ls []) := by
    intro rr kk n_
    induction n_ with
    | zero => intro y_18 hm; rw [mX12_alike_L3] at hm; cases hm
    | succ n_ ih =>
      intro y_18 hm H locs ls hP hD hS hl
      rw [mX12_alike_L3] at hm
      refine lv_iload hx hb dX12_alike_3 (lv_at hl 0 rfl) ?_
      refine lv_aload_n hx hb dX12_alike_5 rfl (lv_at hl 1 rfl) ?_
      obtain ⟨r_19, hr_19, hm⟩ := hm_b hm
      refine k_V (as := []) (rest := [.int y_18]) (ws' := (([(a_t, .inr (8, [.int v_t_isWide, .ref a_t_cells, .ref a_t_page, .int v_t_pageMany, .ref a_t_digits, .int v_t_many, .int v_t_isMinus, .ref a_t_found, .ref a_t_one, .ref a_t_other, .ref a_t_sum, .ref a_t_rest])), (a_t_cells, .inl (cy 5, 8, .inr (.inr (.inr (.inr (fun j => some (rw_t j))))))), (a_t_page, .inl (cy 0, 66, .inl f_t_page)), (a_t_digits, .inl (cy 0, 64, .inl f_t_digits)), (a_t_found, .inl (cy 2, 64, .inl f_t_found)), (a_t_one, .inl (cy 2, 65, .inl f_t_one)), (a_t_other, .inl (cy 2, 65, .inl f_t_other)), (a_t_sum, .inl (cy 2, 65, .inl f_t_sum)), (a_t_rest, .inl (cy 2, 65, .inl f_t_rest))] : va_W) ++ (rowsW (cy 2) rw_t B_t ++ ([] : va_W)))) (st2 := [.int r_19, .int y_18]) (i0 := 0) hx hb hml hown ht hK hP hD hS hA hC hR hl (kcX12_bits l D cy g a_t a_t_cells a_t_page a_t_digits a_t_found a_t_one a_t_other a_t_sum a_t_rest rw_t v_t_isWide B_t f_t_page v_t_pageMany f_t_digits v_t_many v_t_isMinus f_t_found f_t_one f_t_other f_t_sum f_t_rest r_19 hr_19) (isZ [0, 1, 2, 3, 4, 5, 6, 7, 8] 9 8) q_1354 q_1355 q_1356 q_55 q_1357 hyX12_bits ⟨rfl, rfl, rfl⟩ ⟨Nat.le_of_ble_eq_true rfl, Nat.le_of_ble_eq_true rfl, Nat.le_of_ble_eq_true rfl, Nat.le_of_ble_eq_true rfl⟩ rfl (zcT rfl rfl rfl) (zeT rfl rfl) rfl (Nat.le_of_ble_eq_true rfl) dX12_alike_6 (zwT (cx := [(a_t, .inr (8, [.int v_t_isWide, .ref a_t_cells, .ref a_t_page, .int v_t_pageMany, .ref a_t_digits, .int v_t_many, .int v_t_isMinus, .ref a_t_found, .ref a_t_one, .ref a_t_other, .ref a_t_sum, .ref a_t_rest])), (a_t_cells, .inl (cy 5, 8, .inr (.inr (.inr (.inr (fun j => some (rw_t j))))))), (a_t_page, .inl (cy 0, 66, .inl f_t_page)), (a_t_digits, .inl (cy 0, 64, .inl f_t_digits)), (a_t_found, .inl (cy 2, 64, .inl f_t_found)), (a_t_one, .inl (cy 2, 65, .inl f_t_one)), (a_t_other, .inl (cy 2, 65, .inl f_t_other)), (a_t_sum, .inl (cy 2, 65, .inl f_t_sum)), (a_t_rest, .inl (cy 2, 65, .inl f_t_rest))]) rfl rfl rfl rfl rfl rfl) rfl (fun H locs hP hD hS => ?_)
      refine lv_icmp_ge (tgt := 47) hx hb dX12_alike_9 (by decide) (fun c_20 => ?_) (fun c_20 => ?_)
      · replace hm := hm_t c_20 hm
        obtain rfl := Option.some.inj hm
        exact kk _ _ _ hP hD hS (lv_sub hl [0] rfl)
      · replace hm := hm_f c_20 hm
        refine lv_aload_n hx hb dX12_alike_12 rfl (lv_at hl 1 rfl) ?_
        refine va_get (D := D) (cl := classes) (ci := 8) (v := .ref a_t_cells) (C := RX12) (T := TX12) (N := 12) hx hb ht in_RX12 hown hK.1 hP 0 rfl rfl 1 (by decide) (ht _ q_1245) (fun _ h9 => h9) rfl dX12_alike_13 ?_
        refine lv_iload_n hx hb dX12_alike_16 rfl (lv_at hl 2 rfl) ?_
        obtain ⟨hin, hm⟩ := hm_g hm
        have hi_21 : p1.toNatClampNeg < 8 := Nat.not_le.mp (fun q => hin (Or.inr q))
        refine k_aldA hx hb hK.1 hP 1 5 rfl rfl hin dX12_alike_17 ?_
        refine lv_iload_n hx hb dX12_alike_18 rfl (lv_at hl 4 rfl) ?_
        obtain ⟨x_24, hreg, hm⟩ := hm_b hm
        have J36 : ∀ (H : Heap) (locs : List Loc) (ls : Array Slot), va_P D classes (([(a_t, .inr (8, [.int v_t_isWide, .ref a_t_cells, .ref a_t_page, .int v_t_pageMany, .ref a_t_digits, .int v_t_many, .int v_t_isMinus, .ref a_t_found, .ref a_t_one, .ref a_t_other, .ref a_t_sum, .ref a_t_rest])), (a_t_cells, .inl (cy 5, 8, .inr (.inr (.inr (.inr (fun j => some (rw_t j))))))), (a_t_page, .inl (cy 0, 66, .inl f_t_page)), (a_t_digits, .inl (cy 0, 64, .inl f_t_digits)), (a_t_found, .inl (cy 2, 64, .inl f_t_found)), (a_t_one, .inl (cy 2, 65, .inl f_t_one)), (a_t_other, .inl (cy 2, 65, .inl f_t_other)), (a_t_sum, .inl (cy 2, 65, .inl f_t_sum)), (a_t_rest, .inl (cy 2, 65, .inl f_t_rest))] : va_W) ++ (rowsW (cy 2) rw_t B_t ++ ([] : va_W))) H → va_D A (([(a_t, .inr (8, [.int v_t_isWide, .ref a_t_cells, .ref a_t_page, .int v_t_pageMany, .ref a_t_digits, .int v_t_many, .int v_t_isMinus, .ref a_t_found, .ref a_t_one, .ref a_t_other, .ref a_t_sum, .ref a_t_rest])), (a_t_cells, .inl (cy 5, 8, .inr (.inr (.inr (.inr (fun j => some (rw_t j))))))), (a_t_page, .inl (cy 0, 66, .inl f_t_page)), (a_t_digits, .inl (cy 0, 64, .inl f_t_digits)), (a_t_found, .inl (cy 2, 64, .inl f_t_found)), (a_t_one, .inl (cy 2, 65, .inl f_t_one)), (a_t_other, .inl (cy 2, 65, .inl f_t_other)), (a_t_sum, .inl (cy 2, 65, .inl f_t_sum)), (a_t_rest, .inl (cy 2, 65, .inl f_t_rest))] : va_W) ++ (rowsW (cy 2) rw_t B_t ++ ([] : va_W))) → va_S A s.heap H locs → lv_has ls 5 [(4, .int y_18), (0, .ref a_t), (1, .int p1), (2, .int p2), (3, .int p3)] → W p l e RM s m ar below meth c H locs 0 0 (MQ below Qc ar s 0 0 A) (F0 m 36 ls [.int x_24, .ref (rw_t p1.toNatClampNeg)]) := by
          intro H locs ls hP hD hS hl
          obtain ⟨hin, hm⟩ := hm_g hm
          refine va_zald hx hb hK.1 hP (9 + p1.toNatClampNeg) 2 (row_get0 rfl hi_21) rfl hin dX12_alike_36 ?_
          refine lv_iload_n hx hb dX12_alike_37 rfl (lv_at hl 3 rfl) ?_
          refine lv_icmp_ne (tgt := 47) hx hb dX12_alike_38 (by decide) (fun c_25 => ?_) (fun c_25 => ?_)
          · replace hm := hm_f c_25 hm
            obtain rfl := Option.some.inj hm
            exact kk _ _ _ hP hD hS (lv_sub hl [0] rfl)
          · replace hm := hm_t c_25 hm
            refine lv_iinc (v := (y_18 + 1)) (lv' := [(4, .int (y_18 + 1)), (0, .ref a_t), (1, .int p1), (2, .int p2), (3, .int p3)]) hx hb dX12_alike_41 hl (k := 0) rfl rfl (by decide) rfl (fun ls hl => ?_)
            refine lv_goto (tgt := 3) hx hb dX12_alike_44 (by decide) ?_
            exact ih (y_18 + 1) hm _ _ _ hP hD hS (lv_sub hl [0, 1, 2, 3, 4] rfl)
        replace hm := hreg
        refine lv_if_eq (tgt := 34) hx hb dX12_alike_19 (by decide) (fun c_22 => ?_) (fun c_22 => ?_)
        · replace hm := hm_t c_22 hm
          refine lv_iload hx hb dX12_alike_34 (lv_at hl 0 rfl) ?_
          obtain rfl := Option.some.inj hm
          exact J36 _ _ _ hP hD hS (lv_sub hl [0, 1, 2, 3, 4] rfl)
        · replace hm := hm_f c_22 hm
          refine lv_aload_n hx hb dX12_alike_22 rfl (lv_at hl 1 rfl) ?_
          obtain ⟨r_26, hr_26, hm⟩ := hm_b hm
          refine k_V (as := []) (rest := [.ref (rw_t p1.toNatClampNeg)]) (ws' := (([(a_t, .inr (8, [.int v_t_isWide, .ref a_t_cells, .ref a_t_page, .int v_t_pageMany, .ref a_t_digits, .int v_t_many, .int v_t_isMinus, .ref a_t_found, .ref a_t_one, .ref a_t_other, .ref a_t_sum, .ref a_t_rest])), (a_t_cells, .inl (cy 5, 8, .inr (.inr (.inr (.inr (fun j => some (rw_t j))))))), (a_t_page, .inl (cy 0, 66, .inl f_t_page)), (a_t_digits, .inl (cy 0, 64, .inl f_t_digits)), (a_t_found, .inl (cy 2, 64, .inl f_t_found)), (a_t_one, .inl (cy 2, 65, .inl f_t_one)), (a_t_other, .inl (cy 2, 65, .inl f_t_other)), (a_t_sum, .inl (cy 2, 65, .inl f_t_sum)), (a_t_rest, .inl (cy 2, 65, .inl f_t_rest))] : va_W) ++ (rowsW (cy 2) rw_t B_t ++ ([] : va_W)))) (st2 := [.int r_26, .ref (rw_t p1.toNatClampNeg)]) (i0 := 0) hx hb hml hown ht hK hP hD hS hA hC hR hl (kcX12_bits l D cy g a_t a_t_cells a_t_page a_t_digits a_t_found a_t_one a_t_other a_t_sum a_t_rest rw_t v_t_isWide B_t f_t_page v_t_pageMany f_t_digits v_t_many v_t_isMinus f_t_found f_t_one f_t_other f_t_sum f_t_rest r_26 hr_26) (isZ [0, 1, 2, 3, 4, 5, 6, 7, 8] 9 8) q_1354 q_1355 q_1356 q_55 q_1357 hyX12_bits ⟨rfl, rfl, rfl⟩ ⟨Nat.le_of_ble_eq_true rfl, Nat.le_of_ble_eq_true rfl, Nat.le_of_ble_eq_true rfl, Nat.le_of_ble_eq_true rfl⟩ rfl (zcT rfl rfl rfl) (zeT rfl rfl) rfl (Nat.le_of_ble_eq_true rfl) dX12_alike_23 (zwT (cx := [(a_t, .inr (8, [.int v_t_isWide, .ref a_t_cells, .ref a_t_page, .int v_t_pageMany, .ref a_t_digits, .int v_t_many, .int v_t_isMinus, .ref a_t_found, .ref a_t_one, .ref a_t_other, .ref a_t_sum, .ref a_t_rest])), (a_t_cells, .inl (cy 5, 8, .inr (.inr (.inr (.inr (fun j => some (rw_t j))))))), (a_t_page, .inl (cy 0, 66, .inl f_t_page)), (a_t_digits, .inl (cy 0, 64, .inl f_t_digits)), (a_t_found, .inl (cy 2, 64, .inl f_t_found)), (a_t_one, .inl (cy 2, 65, .inl f_t_one)), (a_t_other, .inl (cy 2, 65, .inl f_t_other)), (a_t_sum, .inl (cy 2, 65, .inl f_t_sum)), (a_t_rest, .inl (cy 2, 65, .inl f_t_rest))]) rfl rfl rfl rfl rfl rfl) rfl (fun H locs hP hD hS => ?_)
          refine lv_iconst (v := 1) hx hb dX12_alike_26 (by decide) ?_
          refine lv_isub hx hb dX12_alike_27 ?_
          refine lv_iload hx hb dX12_alike_28 (lv_at hl 0 rfl) ?_
          refine lv_isub hx hb dX12_alike_30 ?_
          refine lv_goto (tgt := 36) hx hb dX12_alike_31 (by decide) ?_
          obtain rfl := Option.some.inj hm
          exact J36 _ _ _ hP hD hS (lv_sub hl [0, 1, 2, 3, 4] rfl)
  obtain ⟨r_27, hL, hm⟩ := hm_b hm
  refine L3 r_27 ?_ k 0 hL _ _ _ hP hD hS (lv_sub hl [0, 1, 2, 3, 4] rfl)
  intro H locs ls hP hD hS hl
  refine lv_iload hx hb dX12_alike_47 (lv_at hl 0 rfl) ?_
  obtain rfl := Option.some.inj hm
  exact k_iret hx hb hr hlocks hQc hP hS rfl rfl dX12_alike_49
theorem dX12_count_0 : decode cX12_count 0 = .ok (.iconst 0, 1) := by decide +kernel
theorem dX12_count_1 : decode cX12_count 1 = .ok (.istore_n 2, 1) := by decide +kernel
theorem dX12_count_2 : decode cX12_count 2 = .ok (.iconst 0, 1) := by decide +kernel
theorem dX12_count_3 : decode cX12_count 3 = .ok (.istore_n 3, 1) := by decide +kernel
theorem dX12_count_4 : decode cX12_count 4 = .ok (.iload_n 3, 1) := by decide +kernel
theorem dX12_count_5 : decode cX12_count 5 = .ok (.aload_n 0, 1) := by decide +kernel
theorem dX12_count_6 : decode cX12_count 6 = .ok (.invokevirtual 59, 3) := by decide +kernel
theorem dX12_count_9 : decode cX12_count 9 = .ok (.if_icmp .ge 28, 3) := by decide +kernel
theorem dX12_count_12 : decode cX12_count 12 = .ok (.iload_n 2, 1) := by decide +kernel
theorem dX12_count_13 : decode cX12_count 13 = .ok (.aload_n 0, 1) := by decide +kernel
theorem dX12_count_14 : decode cX12_count 14 = .ok (.getfield 11, 3) := by decide +kernel
theorem dX12_count_17 : decode cX12_count 17 = .ok (.iload_n 1, 1) := by decide +kernel
theorem dX12_count_18 : decode cX12_count 18 = .ok (.aaload, 1) := by decide +kernel
theorem dX12_count_19 : decode cX12_count 19 = .ok (.iload_n 3, 1) := by decide +kernel
theorem dX12_count_20 : decode cX12_count 20 = .ok (.baload, 1) := by decide +kernel
theorem dX12_count_21 : decode cX12_count 21 = .ok (.ifCond .eq 7, 3) := by decide +kernel
theorem dX12_count_24 : decode cX12_count 24 = .ok (.iconst 1, 1) := by decide +kernel
theorem dX12_count_25 : decode cX12_count 25 = .ok (.goto 4, 3) := by decide +kernel
theorem dX12_count_28 : decode cX12_count 28 = .ok (.iconst 0, 1) := by decide +kernel
theorem dX12_count_29 : decode cX12_count 29 = .ok (.iadd, 1) := by decide +kernel
theorem dX12_count_30 : decode cX12_count 30 = .ok (.istore_n 2, 1) := by decide +kernel
theorem dX12_count_31 : decode cX12_count 31 = .ok (.iinc 3 1, 3) := by decide +kernel
theorem dX12_count_34 : decode cX12_count 34 = .ok (.goto (-30), 3) := by decide +kernel
theorem dX12_count_37 : decode cX12_count 37 = .ok (.iload_n 2, 1) := by decide +kernel
theorem dX12_count_38 : decode cX12_count 38 = .ok (.ireturn, 1) := by decide +kernel
def mX12_count_L4 (v_t_isWide : Int32) (p1 : Int32) (B_t : Nat → Nat → Int32) : Nat → Int32 → Int32 → Option (Int32)
  | 0, _, _ => none
  | n_ + 1, y_13, y_14 => ((mX12_bits v_t_isWide).bind (fun r_15 => (if r_15 ≤ y_14 then some y_13 else (if p1 < 0 ∨ 8 ≤ p1.toNatClampNeg then none else (if y_14 < 0 ∨ 64 ≤ y_14.toNatClampNeg then none else (((if ((B_t p1.toNatClampNeg) y_14.toNatClampNeg) = 0 then some 0 else some 1) : Option (Int32)).bind (fun x_19 => (mX12_count_L4 v_t_isWide p1 B_t n_ (y_13 + x_19) (y_14 + 1)))))))))
def mX12_count (k : Nat) (v_t_isWide : Int32) (B_t : Nat → Nat → Int32) (p1 : Int32) : Option (Int32) := ((mX12_count_L4 v_t_isWide p1 B_t k 0 0).bind (fun r_20 => some r_20))
set_option maxHeartbeats 4000000 in
set_option maxRecDepth 100000 in
theorem kcX12_count (l : Launch) (D : va_G) (cy : Nat → ClassId) (g : Nat → Nat) (a_t : Nat) (a_t_cells : Nat) (a_t_page : Nat) (a_t_digits : Nat) (a_t_found : Nat) (a_t_one : Nat) (a_t_other : Nat) (a_t_sum : Nat) (a_t_rest : Nat) (rw_t : Nat → Nat) (v_t_isWide : Int32) (B_t : Nat → Nat → Int32) (f_t_page : Nat → Int32) (v_t_pageMany : Int32) (f_t_digits : Nat → Int32) (v_t_many : Int32) (v_t_isMinus : Int32) (f_t_found : Nat → Int32) (f_t_one : Nat → Int32) (f_t_other : Nat → Int32) (f_t_sum : Nat → Int32) (f_t_rest : Nat → Int32) (p1 : Int32) (k : Nat) (R : Int32) (hm : mX12_count k v_t_isWide B_t p1 = some R) : Con l D cy g yX12_count cX12_count 4 (some .int) 1 20 0 0 [.ref a_t, .int p1] (([(a_t, .inr (8, [.int v_t_isWide, .ref a_t_cells, .ref a_t_page, .int v_t_pageMany, .ref a_t_digits, .int v_t_many, .int v_t_isMinus, .ref a_t_found, .ref a_t_one, .ref a_t_other, .ref a_t_sum, .ref a_t_rest])), (a_t_cells, .inl (cy 5, 8, .inr (.inr (.inr (.inr (fun j => some (rw_t j))))))), (a_t_page, .inl (cy 0, 66, .inl f_t_page)), (a_t_digits, .inl (cy 0, 64, .inl f_t_digits)), (a_t_found, .inl (cy 2, 64, .inl f_t_found)), (a_t_one, .inl (cy 2, 65, .inl f_t_one)), (a_t_other, .inl (cy 2, 65, .inl f_t_other)), (a_t_sum, .inl (cy 2, 65, .inl f_t_sum)), (a_t_rest, .inl (cy 2, 65, .inl f_t_rest))] : va_W) ++ (rowsW (cy 2) rw_t B_t ++ ([] : va_W))) (([(a_t, .inr (8, [.int v_t_isWide, .ref a_t_cells, .ref a_t_page, .int v_t_pageMany, .ref a_t_digits, .int v_t_many, .int v_t_isMinus, .ref a_t_found, .ref a_t_one, .ref a_t_other, .ref a_t_sum, .ref a_t_rest])), (a_t_cells, .inl (cy 5, 8, .inr (.inr (.inr (.inr (fun j => some (rw_t j))))))), (a_t_page, .inl (cy 0, 66, .inl f_t_page)), (a_t_digits, .inl (cy 0, 64, .inl f_t_digits)), (a_t_found, .inl (cy 2, 64, .inl f_t_found)), (a_t_one, .inl (cy 2, 65, .inl f_t_one)), (a_t_other, .inl (cy 2, 65, .inl f_t_other)), (a_t_sum, .inl (cy 2, 65, .inl f_t_sum)), (a_t_rest, .inl (cy 2, 65, .inl f_t_rest))] : va_W) ++ (rowsW (cy 2) rw_t B_t ++ ([] : va_W))) (some (.int R)) := by
  refine Con.of (by decide +kernel) (Nat.le_of_ble_eq_true rfl) ?_
  intro p e RM s m ar below meth c A Qc ls hx hb hr hml hown hlocks hnm ht hK hP hD hS hA hR hC hQc hl
  have hown : s.vm.findClass RX12 = some m.cls := hown
  have hl : lv_has ls 4 [(0, .ref a_t), (1, .int p1)] := hl
  rw [mX12_count] at hm
  refine lv_iconst (v := 0) hx hb dX12_count_0 (by decide) ?_
  refine lv_istore_n (lv' := [(2, .int 0), (0, .ref a_t), (1, .int p1)]) hx hb dX12_count_1 rfl hl (by decide) rfl (fun ls hl => ?_)
  refine lv_iconst (v := 0) hx hb dX12_count_2 (by decide) ?_
  refine lv_istore_n (lv' := [(3, .int 0), (2, .int 0), (0, .ref a_t), (1, .int p1)]) hx hb dX12_count_3 rfl hl (by decide) rfl (fun ls hl => ?_)
  have L4 : ∀ (rr : Int32) (kk : ∀ (H : Heap) (locs : List Loc) (ls : Array Slot), va_P D classes (([(a_t, .inr (8, [.int v_t_isWide, .ref a_t_cells, .ref a_t_page, .int v_t_pageMany, .ref a_t_digits, .int v_t_many, .int v_t_isMinus, .ref a_t_found, .ref a_t_one, .ref a_t_other, .ref a_t_sum, .ref a_t_rest])), (a_t_cells, .inl (cy 5, 8, .inr (.inr (.inr (.inr (fun j => some (rw_t j))))))), (a_t_page, .inl (cy 0, 66, .inl f_t_page)), (a_t_digits, .inl (cy 0, 64, .inl f_t_digits)), (a_t_found, .inl (cy 2, 64, .inl f_t_found)), (a_t_one, .inl (cy 2, 65, .inl f_t_one)), (a_t_other, .inl (cy 2, 65, .inl f_t_other)), (a_t_sum, .inl (cy 2, 65, .inl f_t_sum)), (a_t_rest, .inl (cy 2, 65, .inl f_t_rest))] : va_W) ++ (rowsW (cy 2) rw_t B_t ++ ([] : va_W))) H → va_D A (([(a_t, .inr (8, [.int v_t_isWide, .ref a_t_cells, .ref a_t_page, .int v_t_pageMany, .ref a_t_digits, .int v_t_many, .int v_t_isMinus, .ref a_t_found, .ref a_t_one, .ref a_t_other, .ref a_t_sum, .ref a_t_rest])), (a_t_cells, .inl (cy 5, 8, .inr (.inr (.inr (.inr (fun j => some (rw_t j))))))), (a_t_page, .inl (cy 0, 66, .inl f_t_page)), (a_t_digits, .inl (cy 0, 64, .inl f_t_digits)), (a_t_found, .inl (cy 2, 64, .inl f_t_found)), (a_t_one, .inl (cy 2, 65, .inl f_t_one)), (a_t_other, .inl (cy 2, 65, .inl f_t_other)), (a_t_sum, .inl (cy 2, 65, .inl f_t_sum)), (a_t_rest, .inl (cy 2, 65, .inl f_t_rest))] : va_W) ++ (rowsW (cy 2) rw_t B_t ++ ([] : va_W))) → va_S A s.heap H locs → lv_has ls 4 [(2, .int rr)] → W p l e RM s m ar below meth c H locs 0 0 (MQ below Qc ar s 0 0 A) (F0 m 37 ls [])) (n_ : Nat), ∀ (y_13 : Int32) (y_14 : Int32), mX12_count_L4 v_t_isWide p1 B_t n_ y_13 y_14 = some rr → ∀ (H : Heap) (locs : List Loc) (ls : Array Slot), va_P D classes (([(a_t, .inr (8, [.int v_t_isWide, .ref a_t_cells, .ref a_t_page, .int v_t_pageMany, .ref a_t_digits, .int v_t_many, .int v_t_isMinus, .ref a_t_found, .ref a_t_one, .ref a_t_other, .ref a_t_sum, .ref a_t_rest])), (a_t_cells, .inl (cy 5, 8, .inr (.inr (.inr (.inr (fun j => some (rw_t j))))))), (a_t_page, .inl (cy 0, 66, .inl f_t_page)), (a_t_digits, .inl (cy 0, 64, .inl f_t_digits)), (a_t_found, .inl (cy 2, 64, .inl f_t_found)), (a_t_one, .inl (cy 2, 65, .inl f_t_one)), (a_t_other, .inl (cy 2, 65, .inl f_t_other)), (a_t_sum, .inl (cy 2, 65, .inl f_t_sum)), (a_t_rest, .inl (cy 2, 65, .inl f_t_rest))] : va_W) ++ (rowsW (cy 2) rw_t B_t ++ ([] : va_W))) H → va_D A (([(a_t, .inr (8, [.int v_t_isWide, .ref a_t_cells, .ref a_t_page, .int v_t_pageMany, .ref a_t_digits, .int v_t_many, .int v_t_isMinus, .ref a_t_found, .ref a_t_one, .ref a_t_other, .ref a_t_sum, .ref a_t_rest])), (a_t_cells, .inl (cy 5, 8, .inr (.inr (.inr (.inr (fun j => some (rw_t j))))))), (a_t_page, .inl (cy 0, 66, .inl f_t_page)), (a_t_digits, .inl (cy 0, 64, .inl f_t_digits)), (a_t_found, .inl (cy 2, 64, .inl f_t_found)), (a_t_one, .inl (cy 2, 65, .inl f_t_one)), (a_t_other, .inl (cy 2, 65, .inl f_t_other)), (a_t_sum, .inl (cy 2, 65, .inl f_t_sum)), (a_t_rest, .inl (cy 2, 65, .inl f_t_rest))] : va_W) ++ (rowsW (cy 2) rw_t B_t ++ ([] : va_W))) → va_S A s.heap H locs → lv_has ls 4 [(3, .int y_14), (2, .int y_13), (0, .ref a_t), (1, .int p1)] → W p l e RM s m ar below meth c H locs 0 0 (MQ below Qc ar s 0 0 A) (F0 m 4 ls []) := by
    intro rr kk n_
    induction n_ with
    | zero => intro y_13 y_14 hm; rw [mX12_count_L4] at hm; cases hm
    | succ n_ ih =>
      intro y_13 y_14 hm H locs ls hP hD hS hl
      rw [mX12_count_L4] at hm
      refine lv_iload_n hx hb dX12_count_4 rfl (lv_at hl 0 rfl) ?_
      refine lv_aload_n hx hb dX12_count_5 rfl (lv_at hl 2 rfl) ?_
      obtain ⟨r_15, hr_15, hm⟩ := hm_b hm
      refine k_V (as := []) (rest := [.int y_14]) (ws' := (([(a_t, .inr (8, [.int v_t_isWide, .ref a_t_cells, .ref a_t_page, .int v_t_pageMany, .ref a_t_digits, .int v_t_many, .int v_t_isMinus, .ref a_t_found, .ref a_t_one, .ref a_t_other, .ref a_t_sum, .ref a_t_rest])), (a_t_cells, .inl (cy 5, 8, .inr (.inr (.inr (.inr (fun j => some (rw_t j))))))), (a_t_page, .inl (cy 0, 66, .inl f_t_page)), (a_t_digits, .inl (cy 0, 64, .inl f_t_digits)), (a_t_found, .inl (cy 2, 64, .inl f_t_found)), (a_t_one, .inl (cy 2, 65, .inl f_t_one)), (a_t_other, .inl (cy 2, 65, .inl f_t_other)), (a_t_sum, .inl (cy 2, 65, .inl f_t_sum)), (a_t_rest, .inl (cy 2, 65, .inl f_t_rest))] : va_W) ++ (rowsW (cy 2) rw_t B_t ++ ([] : va_W)))) (st2 := [.int r_15, .int y_14]) (i0 := 0) hx hb hml hown ht hK hP hD hS hA hC hR hl (kcX12_bits l D cy g a_t a_t_cells a_t_page a_t_digits a_t_found a_t_one a_t_other a_t_sum a_t_rest rw_t v_t_isWide B_t f_t_page v_t_pageMany f_t_digits v_t_many v_t_isMinus f_t_found f_t_one f_t_other f_t_sum f_t_rest r_15 hr_15) (isZ [0, 1, 2, 3, 4, 5, 6, 7, 8] 9 8) q_1354 q_1355 q_1356 q_55 q_1357 hyX12_bits ⟨rfl, rfl, rfl⟩ ⟨Nat.le_of_ble_eq_true rfl, Nat.le_of_ble_eq_true rfl, Nat.le_of_ble_eq_true rfl, Nat.le_of_ble_eq_true rfl⟩ rfl (zcT rfl rfl rfl) (zeT rfl rfl) rfl (Nat.le_of_ble_eq_true rfl) dX12_count_6 (zwT (cx := [(a_t, .inr (8, [.int v_t_isWide, .ref a_t_cells, .ref a_t_page, .int v_t_pageMany, .ref a_t_digits, .int v_t_many, .int v_t_isMinus, .ref a_t_found, .ref a_t_one, .ref a_t_other, .ref a_t_sum, .ref a_t_rest])), (a_t_cells, .inl (cy 5, 8, .inr (.inr (.inr (.inr (fun j => some (rw_t j))))))), (a_t_page, .inl (cy 0, 66, .inl f_t_page)), (a_t_digits, .inl (cy 0, 64, .inl f_t_digits)), (a_t_found, .inl (cy 2, 64, .inl f_t_found)), (a_t_one, .inl (cy 2, 65, .inl f_t_one)), (a_t_other, .inl (cy 2, 65, .inl f_t_other)), (a_t_sum, .inl (cy 2, 65, .inl f_t_sum)), (a_t_rest, .inl (cy 2, 65, .inl f_t_rest))]) rfl rfl rfl rfl rfl rfl) rfl (fun H locs hP hD hS => ?_)
      refine lv_icmp_ge (tgt := 37) hx hb dX12_count_9 (by decide) (fun c_16 => ?_) (fun c_16 => ?_)
      · replace hm := hm_t c_16 hm
        obtain rfl := Option.some.inj hm
        exact kk _ _ _ hP hD hS (lv_sub hl [1] rfl)
      · replace hm := hm_f c_16 hm
        refine lv_iload_n hx hb dX12_count_12 rfl (lv_at hl 1 rfl) ?_
        refine lv_aload_n hx hb dX12_count_13 rfl (lv_at hl 2 rfl) ?_
        refine va_get (D := D) (cl := classes) (ci := 8) (v := .ref a_t_cells) (C := RX12) (T := TX12) (N := 12) hx hb ht in_RX12 hown hK.1 hP 0 rfl rfl 1 (by decide) (ht _ q_1245) (fun _ h9 => h9) rfl dX12_count_14 ?_
        refine lv_iload_n hx hb dX12_count_17 rfl (lv_at hl 3 rfl) ?_
        obtain ⟨hin, hm⟩ := hm_g hm
        have hi_17 : p1.toNatClampNeg < 8 := Nat.not_le.mp (fun q => hin (Or.inr q))
        refine k_aldA hx hb hK.1 hP 1 5 rfl rfl hin dX12_count_18 ?_
        refine lv_iload_n hx hb dX12_count_19 rfl (lv_at hl 0 rfl) ?_
        obtain ⟨hin, hm⟩ := hm_g hm
        refine va_zald hx hb hK.1 hP (9 + p1.toNatClampNeg) 2 (row_get0 rfl hi_17) rfl hin dX12_count_20 ?_
        obtain ⟨x_19, hreg, hm⟩ := hm_b hm
        have J29 : ∀ (H : Heap) (locs : List Loc) (ls : Array Slot), va_P D classes (([(a_t, .inr (8, [.int v_t_isWide, .ref a_t_cells, .ref a_t_page, .int v_t_pageMany, .ref a_t_digits, .int v_t_many, .int v_t_isMinus, .ref a_t_found, .ref a_t_one, .ref a_t_other, .ref a_t_sum, .ref a_t_rest])), (a_t_cells, .inl (cy 5, 8, .inr (.inr (.inr (.inr (fun j => some (rw_t j))))))), (a_t_page, .inl (cy 0, 66, .inl f_t_page)), (a_t_digits, .inl (cy 0, 64, .inl f_t_digits)), (a_t_found, .inl (cy 2, 64, .inl f_t_found)), (a_t_one, .inl (cy 2, 65, .inl f_t_one)), (a_t_other, .inl (cy 2, 65, .inl f_t_other)), (a_t_sum, .inl (cy 2, 65, .inl f_t_sum)), (a_t_rest, .inl (cy 2, 65, .inl f_t_rest))] : va_W) ++ (rowsW (cy 2) rw_t B_t ++ ([] : va_W))) H → va_D A (([(a_t, .inr (8, [.int v_t_isWide, .ref a_t_cells, .ref a_t_page, .int v_t_pageMany, .ref a_t_digits, .int v_t_many, .int v_t_isMinus, .ref a_t_found, .ref a_t_one, .ref a_t_other, .ref a_t_sum, .ref a_t_rest])), (a_t_cells, .inl (cy 5, 8, .inr (.inr (.inr (.inr (fun j => some (rw_t j))))))), (a_t_page, .inl (cy 0, 66, .inl f_t_page)), (a_t_digits, .inl (cy 0, 64, .inl f_t_digits)), (a_t_found, .inl (cy 2, 64, .inl f_t_found)), (a_t_one, .inl (cy 2, 65, .inl f_t_one)), (a_t_other, .inl (cy 2, 65, .inl f_t_other)), (a_t_sum, .inl (cy 2, 65, .inl f_t_sum)), (a_t_rest, .inl (cy 2, 65, .inl f_t_rest))] : va_W) ++ (rowsW (cy 2) rw_t B_t ++ ([] : va_W))) → va_S A s.heap H locs → lv_has ls 4 [(3, .int y_14), (0, .ref a_t), (1, .int p1)] → W p l e RM s m ar below meth c H locs 0 0 (MQ below Qc ar s 0 0 A) (F0 m 29 ls [.int x_19, .int y_13]) := by
          intro H locs ls hP hD hS hl
          refine lv_iadd hx hb dX12_count_29 ?_
          refine lv_istore_n (lv' := [(2, .int (y_13 + x_19)), (3, .int y_14), (0, .ref a_t), (1, .int p1)]) hx hb dX12_count_30 rfl hl (by decide) rfl (fun ls hl => ?_)
          refine lv_iinc (v := (y_14 + 1)) (lv' := [(3, .int (y_14 + 1)), (2, .int (y_13 + x_19)), (0, .ref a_t), (1, .int p1)]) hx hb dX12_count_31 hl (k := 1) rfl rfl (by decide) rfl (fun ls hl => ?_)
          refine lv_goto (tgt := 4) hx hb dX12_count_34 (by decide) ?_
          exact ih (y_13 + x_19) (y_14 + 1) hm _ _ _ hP hD hS (lv_sub hl [0, 1, 2, 3] rfl)
        replace hm := hreg
        refine lv_if_eq (tgt := 28) hx hb dX12_count_21 (by decide) (fun c_18 => ?_) (fun c_18 => ?_)
        · replace hm := hm_t c_18 hm
          refine lv_iconst (v := 0) hx hb dX12_count_28 (by decide) ?_
          obtain rfl := Option.some.inj hm
          exact J29 _ _ _ hP hD hS (lv_sub hl [0, 2, 3] rfl)
        · replace hm := hm_f c_18 hm
          refine lv_iconst (v := 1) hx hb dX12_count_24 (by decide) ?_
          refine lv_goto (tgt := 29) hx hb dX12_count_25 (by decide) ?_
          obtain rfl := Option.some.inj hm
          exact J29 _ _ _ hP hD hS (lv_sub hl [0, 2, 3] rfl)
  obtain ⟨r_20, hL, hm⟩ := hm_b hm
  refine L4 r_20 ?_ k 0 0 hL _ _ _ hP hD hS (lv_sub hl [0, 1, 2, 3] rfl)
  intro H locs ls hP hD hS hl
  refine lv_iload_n hx hb dX12_count_37 rfl (lv_at hl 0 rfl) ?_
  obtain rfl := Option.some.inj hm
  exact k_iret hx hb hr hlocks hQc hP hS rfl rfl dX12_count_38
theorem dX12_reverses_0 : decode cX12_reverses 0 = .ok (.iconst 0, 1) := by decide +kernel
theorem dX12_reverses_1 : decode cX12_reverses 1 = .ok (.istore_n 2, 1) := by decide +kernel
theorem dX12_reverses_2 : decode cX12_reverses 2 = .ok (.iload_n 2, 1) := by decide +kernel
theorem dX12_reverses_3 : decode cX12_reverses 3 = .ok (.aload_n 0, 1) := by decide +kernel
theorem dX12_reverses_4 : decode cX12_reverses 4 = .ok (.invokevirtual 59, 3) := by decide +kernel
theorem dX12_reverses_7 : decode cX12_reverses 7 = .ok (.if_icmp .ge 30, 3) := by decide +kernel
theorem dX12_reverses_10 : decode cX12_reverses 10 = .ok (.aload_n 0, 1) := by decide +kernel
theorem dX12_reverses_11 : decode cX12_reverses 11 = .ok (.getfield 33, 3) := by decide +kernel
theorem dX12_reverses_14 : decode cX12_reverses 14 = .ok (.iload_n 2, 1) := by decide +kernel
theorem dX12_reverses_15 : decode cX12_reverses 15 = .ok (.aload_n 0, 1) := by decide +kernel
theorem dX12_reverses_16 : decode cX12_reverses 16 = .ok (.getfield 11, 3) := by decide +kernel
theorem dX12_reverses_19 : decode cX12_reverses 19 = .ok (.iload_n 1, 1) := by decide +kernel
theorem dX12_reverses_20 : decode cX12_reverses 20 = .ok (.aaload, 1) := by decide +kernel
theorem dX12_reverses_21 : decode cX12_reverses 21 = .ok (.aload_n 0, 1) := by decide +kernel
theorem dX12_reverses_22 : decode cX12_reverses 22 = .ok (.invokevirtual 59, 3) := by decide +kernel
theorem dX12_reverses_25 : decode cX12_reverses 25 = .ok (.iconst 1, 1) := by decide +kernel
theorem dX12_reverses_26 : decode cX12_reverses 26 = .ok (.isub, 1) := by decide +kernel
theorem dX12_reverses_27 : decode cX12_reverses 27 = .ok (.iload_n 2, 1) := by decide +kernel
theorem dX12_reverses_28 : decode cX12_reverses 28 = .ok (.isub, 1) := by decide +kernel
theorem dX12_reverses_29 : decode cX12_reverses 29 = .ok (.baload, 1) := by decide +kernel
theorem dX12_reverses_30 : decode cX12_reverses 30 = .ok (.bastore, 1) := by decide +kernel
theorem dX12_reverses_31 : decode cX12_reverses 31 = .ok (.iinc 2 1, 3) := by decide +kernel
theorem dX12_reverses_34 : decode cX12_reverses 34 = .ok (.goto (-32), 3) := by decide +kernel
theorem dX12_reverses_37 : decode cX12_reverses 37 = .ok (.aload_n 0, 1) := by decide +kernel
theorem dX12_reverses_38 : decode cX12_reverses 38 = .ok (.iload_n 1, 1) := by decide +kernel
theorem dX12_reverses_39 : decode cX12_reverses 39 = .ok (.aload_n 0, 1) := by decide +kernel
theorem dX12_reverses_40 : decode cX12_reverses 40 = .ok (.getfield 33, 3) := by decide +kernel
theorem dX12_reverses_43 : decode cX12_reverses 43 = .ok (.invokevirtual 75, 3) := by decide +kernel
theorem dX12_reverses_46 : decode cX12_reverses 46 = .ok (.lreturn, 1) := by decide +kernel
def mX12_reverses_L2 (v_t_isWide : Int32) (p1 : Int32) (B_t : Nat → Nat → Int32) : Nat → Int32 → (Nat → Int32) → Option ((Nat → Int32))
  | 0, _, _ => none
  | n_ + 1, y_11, y_12 => ((mX12_bits v_t_isWide).bind (fun r_13 => (if r_13 ≤ y_11 then some y_12 else (if p1 < 0 ∨ 8 ≤ p1.toNatClampNeg then none else ((mX12_bits v_t_isWide).bind (fun r_16 => (if ((r_16 - 1) - y_11) < 0 ∨ 64 ≤ ((r_16 - 1) - y_11).toNatClampNeg then none else (if y_11 < 0 ∨ 65 ≤ y_11.toNatClampNeg then none else (mX12_reverses_L2 v_t_isWide p1 B_t n_ (y_11 + 1) (upd y_12 y_11.toNatClampNeg (vp_nar .boolean ((B_t p1.toNatClampNeg) ((r_16 - 1) - y_11).toNatClampNeg))))))))))))
def mX12_reverses (k : Nat) (v_t_isWide : Int32) (B_t : Nat → Nat → Int32) (f_t_sum : Nat → Int32) (p1 : Int32) : Option (Int64 × (Nat → Nat → Int32) × (Nat → Int32)) := ((mX12_reverses_L2 v_t_isWide p1 B_t k 0 f_t_sum).bind (fun r_17 => ((mX12_puts_sum k v_t_isWide B_t r_17 p1).bind (fun r_18 => some (r_18.1, r_18.2, r_17)))))
set_option maxHeartbeats 4000000 in
set_option maxRecDepth 100000 in
theorem kcX12_reverses (l : Launch) (D : va_G) (cy : Nat → ClassId) (g : Nat → Nat) (a_t : Nat) (a_t_cells : Nat) (a_t_page : Nat) (a_t_digits : Nat) (a_t_found : Nat) (a_t_one : Nat) (a_t_other : Nat) (a_t_sum : Nat) (a_t_rest : Nat) (rw_t : Nat → Nat) (v_t_isWide : Int32) (B_t : Nat → Nat → Int32) (f_t_page : Nat → Int32) (v_t_pageMany : Int32) (f_t_digits : Nat → Int32) (v_t_many : Int32) (v_t_isMinus : Int32) (f_t_found : Nat → Int32) (f_t_one : Nat → Int32) (f_t_other : Nat → Int32) (f_t_sum : Nat → Int32) (f_t_rest : Nat → Int32) (p1 : Int32) (k : Nat) (R : Int64 × (Nat → Nat → Int32) × (Nat → Int32)) (hm : mX12_reverses k v_t_isWide B_t f_t_sum p1 = some R) : Con l D cy g yX12_reverses cX12_reverses 3 (some .long) 4 85 0 0 [.ref a_t, .int p1] (([(a_t, .inr (8, [.int v_t_isWide, .ref a_t_cells, .ref a_t_page, .int v_t_pageMany, .ref a_t_digits, .int v_t_many, .int v_t_isMinus, .ref a_t_found, .ref a_t_one, .ref a_t_other, .ref a_t_sum, .ref a_t_rest])), (a_t_cells, .inl (cy 5, 8, .inr (.inr (.inr (.inr (fun j => some (rw_t j))))))), (a_t_page, .inl (cy 0, 66, .inl f_t_page)), (a_t_digits, .inl (cy 0, 64, .inl f_t_digits)), (a_t_found, .inl (cy 2, 64, .inl f_t_found)), (a_t_one, .inl (cy 2, 65, .inl f_t_one)), (a_t_other, .inl (cy 2, 65, .inl f_t_other)), (a_t_sum, .inl (cy 2, 65, .inl f_t_sum)), (a_t_rest, .inl (cy 2, 65, .inl f_t_rest))] : va_W) ++ (rowsW (cy 2) rw_t B_t ++ ([] : va_W))) (([(a_t, .inr (8, [.int v_t_isWide, .ref a_t_cells, .ref a_t_page, .int v_t_pageMany, .ref a_t_digits, .int v_t_many, .int v_t_isMinus, .ref a_t_found, .ref a_t_one, .ref a_t_other, .ref a_t_sum, .ref a_t_rest])), (a_t_cells, .inl (cy 5, 8, .inr (.inr (.inr (.inr (fun j => some (rw_t j))))))), (a_t_page, .inl (cy 0, 66, .inl f_t_page)), (a_t_digits, .inl (cy 0, 64, .inl f_t_digits)), (a_t_found, .inl (cy 2, 64, .inl f_t_found)), (a_t_one, .inl (cy 2, 65, .inl f_t_one)), (a_t_other, .inl (cy 2, 65, .inl f_t_other)), (a_t_sum, .inl (cy 2, 65, .inl R.2.2)), (a_t_rest, .inl (cy 2, 65, .inl f_t_rest))] : va_W) ++ (rowsW (cy 2) rw_t R.2.1 ++ ([] : va_W))) (some (.long R.1)) := by
  refine Con.of (by decide +kernel) (Nat.le_of_ble_eq_true rfl) ?_
  intro p e RM s m ar below meth c A Qc ls hx hb hr hml hown hlocks hnm ht hK hP hD hS hA hR hC hQc hl
  have hown : s.vm.findClass RX12 = some m.cls := hown
  have hl : lv_has ls 3 [(0, .ref a_t), (1, .int p1)] := hl
  rw [mX12_reverses] at hm
  refine lv_iconst (v := 0) hx hb dX12_reverses_0 (by decide) ?_
  refine lv_istore_n (lv' := [(2, .int 0), (0, .ref a_t), (1, .int p1)]) hx hb dX12_reverses_1 rfl hl (by decide) rfl (fun ls hl => ?_)
  have L2 : ∀ (rr : (Nat → Int32)) (kk : ∀ (H : Heap) (locs : List Loc) (ls : Array Slot), va_P D classes (([(a_t, .inr (8, [.int v_t_isWide, .ref a_t_cells, .ref a_t_page, .int v_t_pageMany, .ref a_t_digits, .int v_t_many, .int v_t_isMinus, .ref a_t_found, .ref a_t_one, .ref a_t_other, .ref a_t_sum, .ref a_t_rest])), (a_t_cells, .inl (cy 5, 8, .inr (.inr (.inr (.inr (fun j => some (rw_t j))))))), (a_t_page, .inl (cy 0, 66, .inl f_t_page)), (a_t_digits, .inl (cy 0, 64, .inl f_t_digits)), (a_t_found, .inl (cy 2, 64, .inl f_t_found)), (a_t_one, .inl (cy 2, 65, .inl f_t_one)), (a_t_other, .inl (cy 2, 65, .inl f_t_other)), (a_t_sum, .inl (cy 2, 65, .inl rr)), (a_t_rest, .inl (cy 2, 65, .inl f_t_rest))] : va_W) ++ (rowsW (cy 2) rw_t B_t ++ ([] : va_W))) H → va_D A (([(a_t, .inr (8, [.int v_t_isWide, .ref a_t_cells, .ref a_t_page, .int v_t_pageMany, .ref a_t_digits, .int v_t_many, .int v_t_isMinus, .ref a_t_found, .ref a_t_one, .ref a_t_other, .ref a_t_sum, .ref a_t_rest])), (a_t_cells, .inl (cy 5, 8, .inr (.inr (.inr (.inr (fun j => some (rw_t j))))))), (a_t_page, .inl (cy 0, 66, .inl f_t_page)), (a_t_digits, .inl (cy 0, 64, .inl f_t_digits)), (a_t_found, .inl (cy 2, 64, .inl f_t_found)), (a_t_one, .inl (cy 2, 65, .inl f_t_one)), (a_t_other, .inl (cy 2, 65, .inl f_t_other)), (a_t_sum, .inl (cy 2, 65, .inl rr)), (a_t_rest, .inl (cy 2, 65, .inl f_t_rest))] : va_W) ++ (rowsW (cy 2) rw_t B_t ++ ([] : va_W))) → va_S A s.heap H locs → lv_has ls 3 [(0, .ref a_t), (1, .int p1)] → W p l e RM s m ar below meth c H locs 0 0 (MQ below Qc ar s 0 0 A) (F0 m 37 ls [])) (n_ : Nat), ∀ (y_11 : Int32) (y_12 : Nat → Int32), mX12_reverses_L2 v_t_isWide p1 B_t n_ y_11 y_12 = some rr → ∀ (H : Heap) (locs : List Loc) (ls : Array Slot), va_P D classes (([(a_t, .inr (8, [.int v_t_isWide, .ref a_t_cells, .ref a_t_page, .int v_t_pageMany, .ref a_t_digits, .int v_t_many, .int v_t_isMinus, .ref a_t_found, .ref a_t_one, .ref a_t_other, .ref a_t_sum, .ref a_t_rest])), (a_t_cells, .inl (cy 5, 8, .inr (.inr (.inr (.inr (fun j => some (rw_t j))))))), (a_t_page, .inl (cy 0, 66, .inl f_t_page)), (a_t_digits, .inl (cy 0, 64, .inl f_t_digits)), (a_t_found, .inl (cy 2, 64, .inl f_t_found)), (a_t_one, .inl (cy 2, 65, .inl f_t_one)), (a_t_other, .inl (cy 2, 65, .inl f_t_other)), (a_t_sum, .inl (cy 2, 65, .inl y_12)), (a_t_rest, .inl (cy 2, 65, .inl f_t_rest))] : va_W) ++ (rowsW (cy 2) rw_t B_t ++ ([] : va_W))) H → va_D A (([(a_t, .inr (8, [.int v_t_isWide, .ref a_t_cells, .ref a_t_page, .int v_t_pageMany, .ref a_t_digits, .int v_t_many, .int v_t_isMinus, .ref a_t_found, .ref a_t_one, .ref a_t_other, .ref a_t_sum, .ref a_t_rest])), (a_t_cells, .inl (cy 5, 8, .inr (.inr (.inr (.inr (fun j => some (rw_t j))))))), (a_t_page, .inl (cy 0, 66, .inl f_t_page)), (a_t_digits, .inl (cy 0, 64, .inl f_t_digits)), (a_t_found, .inl (cy 2, 64, .inl f_t_found)), (a_t_one, .inl (cy 2, 65, .inl f_t_one)), (a_t_other, .inl (cy 2, 65, .inl f_t_other)), (a_t_sum, .inl (cy 2, 65, .inl y_12)), (a_t_rest, .inl (cy 2, 65, .inl f_t_rest))] : va_W) ++ (rowsW (cy 2) rw_t B_t ++ ([] : va_W))) → va_S A s.heap H locs → lv_has ls 3 [(2, .int y_11), (0, .ref a_t), (1, .int p1)] → W p l e RM s m ar below meth c H locs 0 0 (MQ below Qc ar s 0 0 A) (F0 m 2 ls []) := by
    intro rr kk n_
    induction n_ with
    | zero => intro y_11 y_12 hm; rw [mX12_reverses_L2] at hm; cases hm
    | succ n_ ih =>
      intro y_11 y_12 hm H locs ls hP hD hS hl
      rw [mX12_reverses_L2] at hm
      refine lv_iload_n hx hb dX12_reverses_2 rfl (lv_at hl 0 rfl) ?_
      refine lv_aload_n hx hb dX12_reverses_3 rfl (lv_at hl 1 rfl) ?_
      obtain ⟨r_13, hr_13, hm⟩ := hm_b hm
      refine k_V (as := []) (rest := [.int y_11]) (ws' := (([(a_t, .inr (8, [.int v_t_isWide, .ref a_t_cells, .ref a_t_page, .int v_t_pageMany, .ref a_t_digits, .int v_t_many, .int v_t_isMinus, .ref a_t_found, .ref a_t_one, .ref a_t_other, .ref a_t_sum, .ref a_t_rest])), (a_t_cells, .inl (cy 5, 8, .inr (.inr (.inr (.inr (fun j => some (rw_t j))))))), (a_t_page, .inl (cy 0, 66, .inl f_t_page)), (a_t_digits, .inl (cy 0, 64, .inl f_t_digits)), (a_t_found, .inl (cy 2, 64, .inl f_t_found)), (a_t_one, .inl (cy 2, 65, .inl f_t_one)), (a_t_other, .inl (cy 2, 65, .inl f_t_other)), (a_t_sum, .inl (cy 2, 65, .inl y_12)), (a_t_rest, .inl (cy 2, 65, .inl f_t_rest))] : va_W) ++ (rowsW (cy 2) rw_t B_t ++ ([] : va_W)))) (st2 := [.int r_13, .int y_11]) (i0 := 0) hx hb hml hown ht hK hP hD hS hA hC hR hl (kcX12_bits l D cy g a_t a_t_cells a_t_page a_t_digits a_t_found a_t_one a_t_other a_t_sum a_t_rest rw_t v_t_isWide B_t f_t_page v_t_pageMany f_t_digits v_t_many v_t_isMinus f_t_found f_t_one f_t_other y_12 f_t_rest r_13 hr_13) (isZ [0, 1, 2, 3, 4, 5, 6, 7, 8] 9 8) q_1354 q_1355 q_1356 q_55 q_1357 hyX12_bits ⟨rfl, rfl, rfl⟩ ⟨Nat.le_of_ble_eq_true rfl, Nat.le_of_ble_eq_true rfl, Nat.le_of_ble_eq_true rfl, Nat.le_of_ble_eq_true rfl⟩ rfl (zcT rfl rfl rfl) (zeT rfl rfl) rfl (Nat.le_of_ble_eq_true rfl) dX12_reverses_4 (zwT (cx := [(a_t, .inr (8, [.int v_t_isWide, .ref a_t_cells, .ref a_t_page, .int v_t_pageMany, .ref a_t_digits, .int v_t_many, .int v_t_isMinus, .ref a_t_found, .ref a_t_one, .ref a_t_other, .ref a_t_sum, .ref a_t_rest])), (a_t_cells, .inl (cy 5, 8, .inr (.inr (.inr (.inr (fun j => some (rw_t j))))))), (a_t_page, .inl (cy 0, 66, .inl f_t_page)), (a_t_digits, .inl (cy 0, 64, .inl f_t_digits)), (a_t_found, .inl (cy 2, 64, .inl f_t_found)), (a_t_one, .inl (cy 2, 65, .inl f_t_one)), (a_t_other, .inl (cy 2, 65, .inl f_t_other)), (a_t_sum, .inl (cy 2, 65, .inl y_12)), (a_t_rest, .inl (cy 2, 65, .inl f_t_rest))]) rfl rfl rfl rfl rfl rfl) rfl (fun H locs hP hD hS => ?_)
      refine lv_icmp_ge (tgt := 37) hx hb dX12_reverses_7 (by decide) (fun c_14 => ?_) (fun c_14 => ?_)
      · replace hm := hm_t c_14 hm
        obtain rfl := Option.some.inj hm
        exact kk _ _ _ hP hD hS (lv_sub hl [1, 2] rfl)
      · replace hm := hm_f c_14 hm
        refine lv_aload_n hx hb dX12_reverses_10 rfl (lv_at hl 1 rfl) ?_
        refine va_get (D := D) (cl := classes) (ci := 8) (v := .ref a_t_sum) (C := RX12) (T := TX12) (N := 12) hx hb ht in_RX12 hown hK.1 hP 0 rfl rfl 10 (by decide) (ht _ q_1260) (fun _ h9 => h9) rfl dX12_reverses_11 ?_
        refine lv_iload_n hx hb dX12_reverses_14 rfl (lv_at hl 0 rfl) ?_
        refine lv_aload_n hx hb dX12_reverses_15 rfl (lv_at hl 1 rfl) ?_
        refine va_get (D := D) (cl := classes) (ci := 8) (v := .ref a_t_cells) (C := RX12) (T := TX12) (N := 12) hx hb ht in_RX12 hown hK.1 hP 0 rfl rfl 1 (by decide) (ht _ q_1245) (fun _ h9 => h9) rfl dX12_reverses_16 ?_
        refine lv_iload_n hx hb dX12_reverses_19 rfl (lv_at hl 2 rfl) ?_
        obtain ⟨hin, hm⟩ := hm_g hm
        have hi_15 : p1.toNatClampNeg < 8 := Nat.not_le.mp (fun q => hin (Or.inr q))
        refine k_aldA hx hb hK.1 hP 1 5 rfl rfl hin dX12_reverses_20 ?_
        refine lv_aload_n hx hb dX12_reverses_21 rfl (lv_at hl 1 rfl) ?_
        obtain ⟨r_16, hr_16, hm⟩ := hm_b hm
        refine k_V (as := []) (rest := [.ref (rw_t p1.toNatClampNeg), .int y_11, .ref a_t_sum]) (ws' := (([(a_t, .inr (8, [.int v_t_isWide, .ref a_t_cells, .ref a_t_page, .int v_t_pageMany, .ref a_t_digits, .int v_t_many, .int v_t_isMinus, .ref a_t_found, .ref a_t_one, .ref a_t_other, .ref a_t_sum, .ref a_t_rest])), (a_t_cells, .inl (cy 5, 8, .inr (.inr (.inr (.inr (fun j => some (rw_t j))))))), (a_t_page, .inl (cy 0, 66, .inl f_t_page)), (a_t_digits, .inl (cy 0, 64, .inl f_t_digits)), (a_t_found, .inl (cy 2, 64, .inl f_t_found)), (a_t_one, .inl (cy 2, 65, .inl f_t_one)), (a_t_other, .inl (cy 2, 65, .inl f_t_other)), (a_t_sum, .inl (cy 2, 65, .inl y_12)), (a_t_rest, .inl (cy 2, 65, .inl f_t_rest))] : va_W) ++ (rowsW (cy 2) rw_t B_t ++ ([] : va_W)))) (st2 := [.int r_16, .ref (rw_t p1.toNatClampNeg), .int y_11, .ref a_t_sum]) (i0 := 0) hx hb hml hown ht hK hP hD hS hA hC hR hl (kcX12_bits l D cy g a_t a_t_cells a_t_page a_t_digits a_t_found a_t_one a_t_other a_t_sum a_t_rest rw_t v_t_isWide B_t f_t_page v_t_pageMany f_t_digits v_t_many v_t_isMinus f_t_found f_t_one f_t_other y_12 f_t_rest r_16 hr_16) (isZ [0, 1, 2, 3, 4, 5, 6, 7, 8] 9 8) q_1354 q_1355 q_1356 q_55 q_1357 hyX12_bits ⟨rfl, rfl, rfl⟩ ⟨Nat.le_of_ble_eq_true rfl, Nat.le_of_ble_eq_true rfl, Nat.le_of_ble_eq_true rfl, Nat.le_of_ble_eq_true rfl⟩ rfl (zcT rfl rfl rfl) (zeT rfl rfl) rfl (Nat.le_of_ble_eq_true rfl) dX12_reverses_22 (zwT (cx := [(a_t, .inr (8, [.int v_t_isWide, .ref a_t_cells, .ref a_t_page, .int v_t_pageMany, .ref a_t_digits, .int v_t_many, .int v_t_isMinus, .ref a_t_found, .ref a_t_one, .ref a_t_other, .ref a_t_sum, .ref a_t_rest])), (a_t_cells, .inl (cy 5, 8, .inr (.inr (.inr (.inr (fun j => some (rw_t j))))))), (a_t_page, .inl (cy 0, 66, .inl f_t_page)), (a_t_digits, .inl (cy 0, 64, .inl f_t_digits)), (a_t_found, .inl (cy 2, 64, .inl f_t_found)), (a_t_one, .inl (cy 2, 65, .inl f_t_one)), (a_t_other, .inl (cy 2, 65, .inl f_t_other)), (a_t_sum, .inl (cy 2, 65, .inl y_12)), (a_t_rest, .inl (cy 2, 65, .inl f_t_rest))]) rfl rfl rfl rfl rfl rfl) rfl (fun H locs hP hD hS => ?_)
        refine lv_iconst (v := 1) hx hb dX12_reverses_25 (by decide) ?_
        refine lv_isub hx hb dX12_reverses_26 ?_
        refine lv_iload_n hx hb dX12_reverses_27 rfl (lv_at hl 0 rfl) ?_
        refine lv_isub hx hb dX12_reverses_28 ?_
        obtain ⟨hin, hm⟩ := hm_g hm
        refine va_zald hx hb hK.1 hP (9 + p1.toNatClampNeg) 2 (row_get0 rfl hi_15) rfl hin dX12_reverses_29 ?_
        obtain ⟨hin, hm⟩ := hm_g hm
        refine va_zast hx hb hK.1 hP hD hS 7 2 rfl rfl hin dX12_reverses_30 (fun H locs hP hD hS => ?_)
        have hP : va_P D classes (([(a_t, .inr (8, [.int v_t_isWide, .ref a_t_cells, .ref a_t_page, .int v_t_pageMany, .ref a_t_digits, .int v_t_many, .int v_t_isMinus, .ref a_t_found, .ref a_t_one, .ref a_t_other, .ref a_t_sum, .ref a_t_rest])), (a_t_cells, .inl (cy 5, 8, .inr (.inr (.inr (.inr (fun j => some (rw_t j))))))), (a_t_page, .inl (cy 0, 66, .inl f_t_page)), (a_t_digits, .inl (cy 0, 64, .inl f_t_digits)), (a_t_found, .inl (cy 2, 64, .inl f_t_found)), (a_t_one, .inl (cy 2, 65, .inl f_t_one)), (a_t_other, .inl (cy 2, 65, .inl f_t_other)), (a_t_sum, .inl (cy 2, 65, .inl (upd y_12 y_11.toNatClampNeg (vp_nar .boolean ((B_t p1.toNatClampNeg) ((r_16 - 1) - y_11).toNatClampNeg))))), (a_t_rest, .inl (cy 2, 65, .inl f_t_rest))] : va_W) ++ (rowsW (cy 2) rw_t B_t ++ ([] : va_W))) H := hP
        have hD : va_D A (([(a_t, .inr (8, [.int v_t_isWide, .ref a_t_cells, .ref a_t_page, .int v_t_pageMany, .ref a_t_digits, .int v_t_many, .int v_t_isMinus, .ref a_t_found, .ref a_t_one, .ref a_t_other, .ref a_t_sum, .ref a_t_rest])), (a_t_cells, .inl (cy 5, 8, .inr (.inr (.inr (.inr (fun j => some (rw_t j))))))), (a_t_page, .inl (cy 0, 66, .inl f_t_page)), (a_t_digits, .inl (cy 0, 64, .inl f_t_digits)), (a_t_found, .inl (cy 2, 64, .inl f_t_found)), (a_t_one, .inl (cy 2, 65, .inl f_t_one)), (a_t_other, .inl (cy 2, 65, .inl f_t_other)), (a_t_sum, .inl (cy 2, 65, .inl (upd y_12 y_11.toNatClampNeg (vp_nar .boolean ((B_t p1.toNatClampNeg) ((r_16 - 1) - y_11).toNatClampNeg))))), (a_t_rest, .inl (cy 2, 65, .inl f_t_rest))] : va_W) ++ (rowsW (cy 2) rw_t B_t ++ ([] : va_W))) := hD
        refine lv_iinc (v := (y_11 + 1)) (lv' := [(2, .int (y_11 + 1)), (0, .ref a_t), (1, .int p1)]) hx hb dX12_reverses_31 hl (k := 0) rfl rfl (by decide) rfl (fun ls hl => ?_)
        refine lv_goto (tgt := 2) hx hb dX12_reverses_34 (by decide) ?_
        exact ih (y_11 + 1) (upd y_12 y_11.toNatClampNeg (vp_nar .boolean ((B_t p1.toNatClampNeg) ((r_16 - 1) - y_11).toNatClampNeg))) hm _ _ _ hP hD hS (lv_sub hl [0, 1, 2] rfl)
  obtain ⟨r_17, hL, hm⟩ := hm_b hm
  refine L2 r_17 ?_ k 0 f_t_sum hL _ _ _ hP hD hS (lv_sub hl [0, 1, 2] rfl)
  intro H locs ls hP hD hS hl
  refine lv_aload_n hx hb dX12_reverses_37 rfl (lv_at hl 0 rfl) ?_
  refine lv_iload_n hx hb dX12_reverses_38 rfl (lv_at hl 1 rfl) ?_
  refine lv_aload_n hx hb dX12_reverses_39 rfl (lv_at hl 0 rfl) ?_
  refine va_get (D := D) (cl := classes) (ci := 8) (v := .ref a_t_sum) (C := RX12) (T := TX12) (N := 12) hx hb ht in_RX12 hown hK.1 hP 0 rfl rfl 10 (by decide) (ht _ q_1260) (fun _ h9 => h9) rfl dX12_reverses_40 ?_
  obtain ⟨r_18, hr_18, hm⟩ := hm_b hm
  refine k_V (as := [.int p1, .ref a_t_sum]) (rest := []) (ws' := (([(a_t, .inr (8, [.int v_t_isWide, .ref a_t_cells, .ref a_t_page, .int v_t_pageMany, .ref a_t_digits, .int v_t_many, .int v_t_isMinus, .ref a_t_found, .ref a_t_one, .ref a_t_other, .ref a_t_sum, .ref a_t_rest])), (a_t_cells, .inl (cy 5, 8, .inr (.inr (.inr (.inr (fun j => some (rw_t j))))))), (a_t_page, .inl (cy 0, 66, .inl f_t_page)), (a_t_digits, .inl (cy 0, 64, .inl f_t_digits)), (a_t_found, .inl (cy 2, 64, .inl f_t_found)), (a_t_one, .inl (cy 2, 65, .inl f_t_one)), (a_t_other, .inl (cy 2, 65, .inl f_t_other)), (a_t_sum, .inl (cy 2, 65, .inl r_17)), (a_t_rest, .inl (cy 2, 65, .inl f_t_rest))] : va_W) ++ (rowsW (cy 2) rw_t r_18.2 ++ ([] : va_W)))) (st2 := [.long r_18.1]) (i0 := 0) hx hb hml hown ht hK hP hD hS hA hC hR hl (kcX12_puts_sum l D cy g a_t a_t_cells a_t_page a_t_digits a_t_found a_t_one a_t_other a_t_sum a_t_rest rw_t v_t_isWide B_t f_t_page v_t_pageMany f_t_digits v_t_many v_t_isMinus f_t_found f_t_one f_t_other r_17 f_t_rest p1 k r_18 hr_18) (isZ [0, 1, 2, 3, 4, 5, 6, 7, 8] 9 8) q_1433 q_1435 q_18 q_55 q_1436 hyX12_puts ⟨rfl, rfl, rfl⟩ ⟨Nat.le_of_ble_eq_true rfl, Nat.le_of_ble_eq_true rfl, Nat.le_of_ble_eq_true rfl, Nat.le_of_ble_eq_true rfl⟩ rfl (zcT rfl rfl rfl) (zeT rfl rfl) rfl (Nat.le_of_ble_eq_true rfl) dX12_reverses_43 (zwT (cx := [(a_t, .inr (8, [.int v_t_isWide, .ref a_t_cells, .ref a_t_page, .int v_t_pageMany, .ref a_t_digits, .int v_t_many, .int v_t_isMinus, .ref a_t_found, .ref a_t_one, .ref a_t_other, .ref a_t_sum, .ref a_t_rest])), (a_t_cells, .inl (cy 5, 8, .inr (.inr (.inr (.inr (fun j => some (rw_t j))))))), (a_t_page, .inl (cy 0, 66, .inl f_t_page)), (a_t_digits, .inl (cy 0, 64, .inl f_t_digits)), (a_t_found, .inl (cy 2, 64, .inl f_t_found)), (a_t_one, .inl (cy 2, 65, .inl f_t_one)), (a_t_other, .inl (cy 2, 65, .inl f_t_other)), (a_t_sum, .inl (cy 2, 65, .inl r_17)), (a_t_rest, .inl (cy 2, 65, .inl f_t_rest))]) rfl rfl rfl rfl rfl rfl) rfl (fun H locs hP hD hS => ?_)
  obtain rfl := Option.some.inj hm
  exact k_lret hx hb hr hlocks hQc hP hS rfl rfl dX12_reverses_46
theorem dX12_reversesBytes_0 : decode cX12_reversesBytes 0 = .ok (.iconst 0, 1) := by decide +kernel
theorem dX12_reversesBytes_1 : decode cX12_reversesBytes 1 = .ok (.istore_n 2, 1) := by decide +kernel
theorem dX12_reversesBytes_2 : decode cX12_reversesBytes 2 = .ok (.iload_n 2, 1) := by decide +kernel
theorem dX12_reversesBytes_3 : decode cX12_reversesBytes 3 = .ok (.aload_n 0, 1) := by decide +kernel
theorem dX12_reversesBytes_4 : decode cX12_reversesBytes 4 = .ok (.invokevirtual 59, 3) := by decide +kernel
theorem dX12_reversesBytes_7 : decode cX12_reversesBytes 7 = .ok (.if_icmp .ge 42, 3) := by decide +kernel
theorem dX12_reversesBytes_10 : decode cX12_reversesBytes 10 = .ok (.aload_n 0, 1) := by decide +kernel
theorem dX12_reversesBytes_11 : decode cX12_reversesBytes 11 = .ok (.getfield 33, 3) := by decide +kernel
theorem dX12_reversesBytes_14 : decode cX12_reversesBytes 14 = .ok (.iload_n 2, 1) := by decide +kernel
theorem dX12_reversesBytes_15 : decode cX12_reversesBytes 15 = .ok (.aload_n 0, 1) := by decide +kernel
theorem dX12_reversesBytes_16 : decode cX12_reversesBytes 16 = .ok (.getfield 11, 3) := by decide +kernel
theorem dX12_reversesBytes_19 : decode cX12_reversesBytes 19 = .ok (.iload_n 1, 1) := by decide +kernel
theorem dX12_reversesBytes_20 : decode cX12_reversesBytes 20 = .ok (.aaload, 1) := by decide +kernel
theorem dX12_reversesBytes_21 : decode cX12_reversesBytes 21 = .ok (.aload_n 0, 1) := by decide +kernel
theorem dX12_reversesBytes_22 : decode cX12_reversesBytes 22 = .ok (.invokevirtual 59, 3) := by decide +kernel
theorem dX12_reversesBytes_25 : decode cX12_reversesBytes 25 = .ok (.bipush 8, 2) := by decide +kernel
theorem dX12_reversesBytes_27 : decode cX12_reversesBytes 27 = .ok (.isub, 1) := by decide +kernel
theorem dX12_reversesBytes_28 : decode cX12_reversesBytes 28 = .ok (.iload_n 2, 1) := by decide +kernel
theorem dX12_reversesBytes_29 : decode cX12_reversesBytes 29 = .ok (.bipush 8, 2) := by decide +kernel
theorem dX12_reversesBytes_31 : decode cX12_reversesBytes 31 = .ok (.idiv, 1) := by decide +kernel
theorem dX12_reversesBytes_32 : decode cX12_reversesBytes 32 = .ok (.bipush 8, 2) := by decide +kernel
theorem dX12_reversesBytes_34 : decode cX12_reversesBytes 34 = .ok (.imul, 1) := by decide +kernel
theorem dX12_reversesBytes_35 : decode cX12_reversesBytes 35 = .ok (.isub, 1) := by decide +kernel
theorem dX12_reversesBytes_36 : decode cX12_reversesBytes 36 = .ok (.iload_n 2, 1) := by decide +kernel
theorem dX12_reversesBytes_37 : decode cX12_reversesBytes 37 = .ok (.bipush 8, 2) := by decide +kernel
theorem dX12_reversesBytes_39 : decode cX12_reversesBytes 39 = .ok (.irem, 1) := by decide +kernel
theorem dX12_reversesBytes_40 : decode cX12_reversesBytes 40 = .ok (.iadd, 1) := by decide +kernel
theorem dX12_reversesBytes_41 : decode cX12_reversesBytes 41 = .ok (.baload, 1) := by decide +kernel
theorem dX12_reversesBytes_42 : decode cX12_reversesBytes 42 = .ok (.bastore, 1) := by decide +kernel
theorem dX12_reversesBytes_43 : decode cX12_reversesBytes 43 = .ok (.iinc 2 1, 3) := by decide +kernel
theorem dX12_reversesBytes_46 : decode cX12_reversesBytes 46 = .ok (.goto (-44), 3) := by decide +kernel
theorem dX12_reversesBytes_49 : decode cX12_reversesBytes 49 = .ok (.aload_n 0, 1) := by decide +kernel
theorem dX12_reversesBytes_50 : decode cX12_reversesBytes 50 = .ok (.iload_n 1, 1) := by decide +kernel
theorem dX12_reversesBytes_51 : decode cX12_reversesBytes 51 = .ok (.aload_n 0, 1) := by decide +kernel
theorem dX12_reversesBytes_52 : decode cX12_reversesBytes 52 = .ok (.getfield 33, 3) := by decide +kernel
theorem dX12_reversesBytes_55 : decode cX12_reversesBytes 55 = .ok (.invokevirtual 75, 3) := by decide +kernel
theorem dX12_reversesBytes_58 : decode cX12_reversesBytes 58 = .ok (.lreturn, 1) := by decide +kernel
def mX12_reversesBytes_L2 (v_t_isWide : Int32) (p1 : Int32) (B_t : Nat → Nat → Int32) : Nat → Int32 → (Nat → Int32) → Option ((Nat → Int32))
  | 0, _, _ => none
  | n_ + 1, y_11, y_12 => ((mX12_bits v_t_isWide).bind (fun r_13 => (if r_13 ≤ y_11 then some y_12 else (if p1 < 0 ∨ 8 ≤ p1.toNatClampNeg then none else ((mX12_bits v_t_isWide).bind (fun r_16 => (if (((r_16 - 8) - ((y_11 / 8) * 8)) + (y_11 - y_11 / 8 * 8)) < 0 ∨ 64 ≤ (((r_16 - 8) - ((y_11 / 8) * 8)) + (y_11 - y_11 / 8 * 8)).toNatClampNeg then none else (if y_11 < 0 ∨ 65 ≤ y_11.toNatClampNeg then none else (mX12_reversesBytes_L2 v_t_isWide p1 B_t n_ (y_11 + 1) (upd y_12 y_11.toNatClampNeg (vp_nar .boolean ((B_t p1.toNatClampNeg) (((r_16 - 8) - ((y_11 / 8) * 8)) + (y_11 - y_11 / 8 * 8)).toNatClampNeg))))))))))))
def mX12_reversesBytes (k : Nat) (v_t_isWide : Int32) (B_t : Nat → Nat → Int32) (f_t_sum : Nat → Int32) (p1 : Int32) : Option (Int64 × (Nat → Nat → Int32) × (Nat → Int32)) := ((mX12_reversesBytes_L2 v_t_isWide p1 B_t k 0 f_t_sum).bind (fun r_17 => ((mX12_puts_sum k v_t_isWide B_t r_17 p1).bind (fun r_18 => some (r_18.1, r_18.2, r_17)))))
set_option maxHeartbeats 4000000 in
set_option maxRecDepth 100000 in
theorem kcX12_reversesBytes (l : Launch) (D : va_G) (cy : Nat → ClassId) (g : Nat → Nat) (a_t : Nat) (a_t_cells : Nat) (a_t_page : Nat) (a_t_digits : Nat) (a_t_found : Nat) (a_t_one : Nat) (a_t_other : Nat) (a_t_sum : Nat) (a_t_rest : Nat) (rw_t : Nat → Nat) (v_t_isWide : Int32) (B_t : Nat → Nat → Int32) (f_t_page : Nat → Int32) (v_t_pageMany : Int32) (f_t_digits : Nat → Int32) (v_t_many : Int32) (v_t_isMinus : Int32) (f_t_found : Nat → Int32) (f_t_one : Nat → Int32) (f_t_other : Nat → Int32) (f_t_sum : Nat → Int32) (f_t_rest : Nat → Int32) (p1 : Int32) (k : Nat) (R : Int64 × (Nat → Nat → Int32) × (Nat → Int32)) (hm : mX12_reversesBytes k v_t_isWide B_t f_t_sum p1 = some R) : Con l D cy g yX12_reversesBytes cX12_reversesBytes 3 (some .long) 4 85 0 0 [.ref a_t, .int p1] (([(a_t, .inr (8, [.int v_t_isWide, .ref a_t_cells, .ref a_t_page, .int v_t_pageMany, .ref a_t_digits, .int v_t_many, .int v_t_isMinus, .ref a_t_found, .ref a_t_one, .ref a_t_other, .ref a_t_sum, .ref a_t_rest])), (a_t_cells, .inl (cy 5, 8, .inr (.inr (.inr (.inr (fun j => some (rw_t j))))))), (a_t_page, .inl (cy 0, 66, .inl f_t_page)), (a_t_digits, .inl (cy 0, 64, .inl f_t_digits)), (a_t_found, .inl (cy 2, 64, .inl f_t_found)), (a_t_one, .inl (cy 2, 65, .inl f_t_one)), (a_t_other, .inl (cy 2, 65, .inl f_t_other)), (a_t_sum, .inl (cy 2, 65, .inl f_t_sum)), (a_t_rest, .inl (cy 2, 65, .inl f_t_rest))] : va_W) ++ (rowsW (cy 2) rw_t B_t ++ ([] : va_W))) (([(a_t, .inr (8, [.int v_t_isWide, .ref a_t_cells, .ref a_t_page, .int v_t_pageMany, .ref a_t_digits, .int v_t_many, .int v_t_isMinus, .ref a_t_found, .ref a_t_one, .ref a_t_other, .ref a_t_sum, .ref a_t_rest])), (a_t_cells, .inl (cy 5, 8, .inr (.inr (.inr (.inr (fun j => some (rw_t j))))))), (a_t_page, .inl (cy 0, 66, .inl f_t_page)), (a_t_digits, .inl (cy 0, 64, .inl f_t_digits)), (a_t_found, .inl (cy 2, 64, .inl f_t_found)), (a_t_one, .inl (cy 2, 65, .inl f_t_one)), (a_t_other, .inl (cy 2, 65, .inl f_t_other)), (a_t_sum, .inl (cy 2, 65, .inl R.2.2)), (a_t_rest, .inl (cy 2, 65, .inl f_t_rest))] : va_W) ++ (rowsW (cy 2) rw_t R.2.1 ++ ([] : va_W))) (some (.long R.1)) := by
  refine Con.of (by decide +kernel) (Nat.le_of_ble_eq_true rfl) ?_
  intro p e RM s m ar below meth c A Qc ls hx hb hr hml hown hlocks hnm ht hK hP hD hS hA hR hC hQc hl
  have hown : s.vm.findClass RX12 = some m.cls := hown
  have hl : lv_has ls 3 [(0, .ref a_t), (1, .int p1)] := hl
  rw [mX12_reversesBytes] at hm
  refine lv_iconst (v := 0) hx hb dX12_reversesBytes_0 (by decide) ?_
  refine lv_istore_n (lv' := [(2, .int 0), (0, .ref a_t), (1, .int p1)]) hx hb dX12_reversesBytes_1 rfl hl (by decide) rfl (fun ls hl => ?_)
  have L2 : ∀ (rr : (Nat → Int32)) (kk : ∀ (H : Heap) (locs : List Loc) (ls : Array Slot), va_P D classes (([(a_t, .inr (8, [.int v_t_isWide, .ref a_t_cells, .ref a_t_page, .int v_t_pageMany, .ref a_t_digits, .int v_t_many, .int v_t_isMinus, .ref a_t_found, .ref a_t_one, .ref a_t_other, .ref a_t_sum, .ref a_t_rest])), (a_t_cells, .inl (cy 5, 8, .inr (.inr (.inr (.inr (fun j => some (rw_t j))))))), (a_t_page, .inl (cy 0, 66, .inl f_t_page)), (a_t_digits, .inl (cy 0, 64, .inl f_t_digits)), (a_t_found, .inl (cy 2, 64, .inl f_t_found)), (a_t_one, .inl (cy 2, 65, .inl f_t_one)), (a_t_other, .inl (cy 2, 65, .inl f_t_other)), (a_t_sum, .inl (cy 2, 65, .inl rr)), (a_t_rest, .inl (cy 2, 65, .inl f_t_rest))] : va_W) ++ (rowsW (cy 2) rw_t B_t ++ ([] : va_W))) H → va_D A (([(a_t, .inr (8, [.int v_t_isWide, .ref a_t_cells, .ref a_t_page, .int v_t_pageMany, .ref a_t_digits, .int v_t_many, .int v_t_isMinus, .ref a_t_found, .ref a_t_one, .ref a_t_other, .ref a_t_sum, .ref a_t_rest])), (a_t_cells, .inl (cy 5, 8, .inr (.inr (.inr (.inr (fun j => some (rw_t j))))))), (a_t_page, .inl (cy 0, 66, .inl f_t_page)), (a_t_digits, .inl (cy 0, 64, .inl f_t_digits)), (a_t_found, .inl (cy 2, 64, .inl f_t_found)), (a_t_one, .inl (cy 2, 65, .inl f_t_one)), (a_t_other, .inl (cy 2, 65, .inl f_t_other)), (a_t_sum, .inl (cy 2, 65, .inl rr)), (a_t_rest, .inl (cy 2, 65, .inl f_t_rest))] : va_W) ++ (rowsW (cy 2) rw_t B_t ++ ([] : va_W))) → va_S A s.heap H locs → lv_has ls 3 [(0, .ref a_t), (1, .int p1)] → W p l e RM s m ar below meth c H locs 0 0 (MQ below Qc ar s 0 0 A) (F0 m 49 ls [])) (n_ : Nat), ∀ (y_11 : Int32) (y_12 : Nat → Int32), mX12_reversesBytes_L2 v_t_isWide p1 B_t n_ y_11 y_12 = some rr → ∀ (H : Heap) (locs : List Loc) (ls : Array Slot), va_P D classes (([(a_t, .inr (8, [.int v_t_isWide, .ref a_t_cells, .ref a_t_page, .int v_t_pageMany, .ref a_t_digits, .int v_t_many, .int v_t_isMinus, .ref a_t_found, .ref a_t_one, .ref a_t_other, .ref a_t_sum, .ref a_t_rest])), (a_t_cells, .inl (cy 5, 8, .inr (.inr (.inr (.inr (fun j => some (rw_t j))))))), (a_t_page, .inl (cy 0, 66, .inl f_t_page)), (a_t_digits, .inl (cy 0, 64, .inl f_t_digits)), (a_t_found, .inl (cy 2, 64, .inl f_t_found)), (a_t_one, .inl (cy 2, 65, .inl f_t_one)), (a_t_other, .inl (cy 2, 65, .inl f_t_other)), (a_t_sum, .inl (cy 2, 65, .inl y_12)), (a_t_rest, .inl (cy 2, 65, .inl f_t_rest))] : va_W) ++ (rowsW (cy 2) rw_t B_t ++ ([] : va_W))) H → va_D A (([(a_t, .inr (8, [.int v_t_isWide, .ref a_t_cells, .ref a_t_page, .int v_t_pageMany, .ref a_t_digits, .int v_t_many, .int v_t_isMinus, .ref a_t_found, .ref a_t_one, .ref a_t_other, .ref a_t_sum, .ref a_t_rest])), (a_t_cells, .inl (cy 5, 8, .inr (.inr (.inr (.inr (fun j => some (rw_t j))))))), (a_t_page, .inl (cy 0, 66, .inl f_t_page)), (a_t_digits, .inl (cy 0, 64, .inl f_t_digits)), (a_t_found, .inl (cy 2, 64, .inl f_t_found)), (a_t_one, .inl (cy 2, 65, .inl f_t_one)), (a_t_other, .inl (cy 2, 65, .inl f_t_other)), (a_t_sum, .inl (cy 2, 65, .inl y_12)), (a_t_rest, .inl (cy 2, 65, .inl f_t_rest))] : va_W) ++ (rowsW (cy 2) rw_t B_t ++ ([] : va_W))) → va_S A s.heap H locs → lv_has ls 3 [(2, .int y_11), (0, .ref a_t), (1, .int p1)] → W p l e RM s m ar below meth c H locs 0 0 (MQ below Qc ar s 0 0 A) (F0 m 2 ls []) := by
    intro rr kk n_
    induction n_ with
    | zero => intro y_11 y_12 hm; rw [mX12_reversesBytes_L2] at hm; cases hm
    | succ n_ ih =>
      intro y_11 y_12 hm H locs ls hP hD hS hl
      rw [mX12_reversesBytes_L2] at hm
      refine lv_iload_n hx hb dX12_reversesBytes_2 rfl (lv_at hl 0 rfl) ?_
      refine lv_aload_n hx hb dX12_reversesBytes_3 rfl (lv_at hl 1 rfl) ?_
      obtain ⟨r_13, hr_13, hm⟩ := hm_b hm
      refine k_V (as := []) (rest := [.int y_11]) (ws' := (([(a_t, .inr (8, [.int v_t_isWide, .ref a_t_cells, .ref a_t_page, .int v_t_pageMany, .ref a_t_digits, .int v_t_many, .int v_t_isMinus, .ref a_t_found, .ref a_t_one, .ref a_t_other, .ref a_t_sum, .ref a_t_rest])), (a_t_cells, .inl (cy 5, 8, .inr (.inr (.inr (.inr (fun j => some (rw_t j))))))), (a_t_page, .inl (cy 0, 66, .inl f_t_page)), (a_t_digits, .inl (cy 0, 64, .inl f_t_digits)), (a_t_found, .inl (cy 2, 64, .inl f_t_found)), (a_t_one, .inl (cy 2, 65, .inl f_t_one)), (a_t_other, .inl (cy 2, 65, .inl f_t_other)), (a_t_sum, .inl (cy 2, 65, .inl y_12)), (a_t_rest, .inl (cy 2, 65, .inl f_t_rest))] : va_W) ++ (rowsW (cy 2) rw_t B_t ++ ([] : va_W)))) (st2 := [.int r_13, .int y_11]) (i0 := 0) hx hb hml hown ht hK hP hD hS hA hC hR hl (kcX12_bits l D cy g a_t a_t_cells a_t_page a_t_digits a_t_found a_t_one a_t_other a_t_sum a_t_rest rw_t v_t_isWide B_t f_t_page v_t_pageMany f_t_digits v_t_many v_t_isMinus f_t_found f_t_one f_t_other y_12 f_t_rest r_13 hr_13) (isZ [0, 1, 2, 3, 4, 5, 6, 7, 8] 9 8) q_1354 q_1355 q_1356 q_55 q_1357 hyX12_bits ⟨rfl, rfl, rfl⟩ ⟨Nat.le_of_ble_eq_true rfl, Nat.le_of_ble_eq_true rfl, Nat.le_of_ble_eq_true rfl, Nat.le_of_ble_eq_true rfl⟩ rfl (zcT rfl rfl rfl) (zeT rfl rfl) rfl (Nat.le_of_ble_eq_true rfl) dX12_reversesBytes_4 (zwT (cx := [(a_t, .inr (8, [.int v_t_isWide, .ref a_t_cells, .ref a_t_page, .int v_t_pageMany, .ref a_t_digits, .int v_t_many, .int v_t_isMinus, .ref a_t_found, .ref a_t_one, .ref a_t_other, .ref a_t_sum, .ref a_t_rest])), (a_t_cells, .inl (cy 5, 8, .inr (.inr (.inr (.inr (fun j => some (rw_t j))))))), (a_t_page, .inl (cy 0, 66, .inl f_t_page)), (a_t_digits, .inl (cy 0, 64, .inl f_t_digits)), (a_t_found, .inl (cy 2, 64, .inl f_t_found)), (a_t_one, .inl (cy 2, 65, .inl f_t_one)), (a_t_other, .inl (cy 2, 65, .inl f_t_other)), (a_t_sum, .inl (cy 2, 65, .inl y_12)), (a_t_rest, .inl (cy 2, 65, .inl f_t_rest))]) rfl rfl rfl rfl rfl rfl) rfl (fun H locs hP hD hS => ?_)
      refine lv_icmp_ge (tgt := 49) hx hb dX12_reversesBytes_7 (by decide) (fun c_14 => ?_) (fun c_14 => ?_)
      · replace hm := hm_t c_14 hm
        obtain rfl := Option.some.inj hm
        exact kk _ _ _ hP hD hS (lv_sub hl [1, 2] rfl)
      · replace hm := hm_f c_14 hm
        refine lv_aload_n hx hb dX12_reversesBytes_10 rfl (lv_at hl 1 rfl) ?_
        refine va_get (D := D) (cl := classes) (ci := 8) (v := .ref a_t_sum) (C := RX12) (T := TX12) (N := 12) hx hb ht in_RX12 hown hK.1 hP 0 rfl rfl 10 (by decide) (ht _ q_1260) (fun _ h9 => h9) rfl dX12_reversesBytes_11 ?_
        refine lv_iload_n hx hb dX12_reversesBytes_14 rfl (lv_at hl 0 rfl) ?_
        refine lv_aload_n hx hb dX12_reversesBytes_15 rfl (lv_at hl 1 rfl) ?_
        refine va_get (D := D) (cl := classes) (ci := 8) (v := .ref a_t_cells) (C := RX12) (T := TX12) (N := 12) hx hb ht in_RX12 hown hK.1 hP 0 rfl rfl 1 (by decide) (ht _ q_1245) (fun _ h9 => h9) rfl dX12_reversesBytes_16 ?_
        refine lv_iload_n hx hb dX12_reversesBytes_19 rfl (lv_at hl 2 rfl) ?_
        obtain ⟨hin, hm⟩ := hm_g hm
        have hi_15 : p1.toNatClampNeg < 8 := Nat.not_le.mp (fun q => hin (Or.inr q))
        refine k_aldA hx hb hK.1 hP 1 5 rfl rfl hin dX12_reversesBytes_20 ?_
        refine lv_aload_n hx hb dX12_reversesBytes_21 rfl (lv_at hl 1 rfl) ?_
        obtain ⟨r_16, hr_16, hm⟩ := hm_b hm
        refine k_V (as := []) (rest := [.ref (rw_t p1.toNatClampNeg), .int y_11, .ref a_t_sum]) (ws' := (([(a_t, .inr (8, [.int v_t_isWide, .ref a_t_cells, .ref a_t_page, .int v_t_pageMany, .ref a_t_digits, .int v_t_many, .int v_t_isMinus, .ref a_t_found, .ref a_t_one, .ref a_t_other, .ref a_t_sum, .ref a_t_rest])), (a_t_cells, .inl (cy 5, 8, .inr (.inr (.inr (.inr (fun j => some (rw_t j))))))), (a_t_page, .inl (cy 0, 66, .inl f_t_page)), (a_t_digits, .inl (cy 0, 64, .inl f_t_digits)), (a_t_found, .inl (cy 2, 64, .inl f_t_found)), (a_t_one, .inl (cy 2, 65, .inl f_t_one)), (a_t_other, .inl (cy 2, 65, .inl f_t_other)), (a_t_sum, .inl (cy 2, 65, .inl y_12)), (a_t_rest, .inl (cy 2, 65, .inl f_t_rest))] : va_W) ++ (rowsW (cy 2) rw_t B_t ++ ([] : va_W)))) (st2 := [.int r_16, .ref (rw_t p1.toNatClampNeg), .int y_11, .ref a_t_sum]) (i0 := 0) hx hb hml hown ht hK hP hD hS hA hC hR hl (kcX12_bits l D cy g a_t a_t_cells a_t_page a_t_digits a_t_found a_t_one a_t_other a_t_sum a_t_rest rw_t v_t_isWide B_t f_t_page v_t_pageMany f_t_digits v_t_many v_t_isMinus f_t_found f_t_one f_t_other y_12 f_t_rest r_16 hr_16) (isZ [0, 1, 2, 3, 4, 5, 6, 7, 8] 9 8) q_1354 q_1355 q_1356 q_55 q_1357 hyX12_bits ⟨rfl, rfl, rfl⟩ ⟨Nat.le_of_ble_eq_true rfl, Nat.le_of_ble_eq_true rfl, Nat.le_of_ble_eq_true rfl, Nat.le_of_ble_eq_true rfl⟩ rfl (zcT rfl rfl rfl) (zeT rfl rfl) rfl (Nat.le_of_ble_eq_true rfl) dX12_reversesBytes_22 (zwT (cx := [(a_t, .inr (8, [.int v_t_isWide, .ref a_t_cells, .ref a_t_page, .int v_t_pageMany, .ref a_t_digits, .int v_t_many, .int v_t_isMinus, .ref a_t_found, .ref a_t_one, .ref a_t_other, .ref a_t_sum, .ref a_t_rest])), (a_t_cells, .inl (cy 5, 8, .inr (.inr (.inr (.inr (fun j => some (rw_t j))))))), (a_t_page, .inl (cy 0, 66, .inl f_t_page)), (a_t_digits, .inl (cy 0, 64, .inl f_t_digits)), (a_t_found, .inl (cy 2, 64, .inl f_t_found)), (a_t_one, .inl (cy 2, 65, .inl f_t_one)), (a_t_other, .inl (cy 2, 65, .inl f_t_other)), (a_t_sum, .inl (cy 2, 65, .inl y_12)), (a_t_rest, .inl (cy 2, 65, .inl f_t_rest))]) rfl rfl rfl rfl rfl rfl) rfl (fun H locs hP hD hS => ?_)
        refine lv_bipush (v := 8) hx hb dX12_reversesBytes_25 (by decide) ?_
        refine lv_isub hx hb dX12_reversesBytes_27 ?_
        refine lv_iload_n hx hb dX12_reversesBytes_28 rfl (lv_at hl 0 rfl) ?_
        refine lv_bipush (v := 8) hx hb dX12_reversesBytes_29 (by decide) ?_
        refine lv_idiv hx hb dX12_reversesBytes_31 (by decide) ?_
        refine lv_bipush (v := 8) hx hb dX12_reversesBytes_32 (by decide) ?_
        refine lv_imul hx hb dX12_reversesBytes_34 ?_
        refine lv_isub hx hb dX12_reversesBytes_35 ?_
        refine lv_iload_n hx hb dX12_reversesBytes_36 rfl (lv_at hl 0 rfl) ?_
        refine lv_bipush (v := 8) hx hb dX12_reversesBytes_37 (by decide) ?_
        refine lv_irem hx hb dX12_reversesBytes_39 (by decide) ?_
        refine lv_iadd hx hb dX12_reversesBytes_40 ?_
        obtain ⟨hin, hm⟩ := hm_g hm
        refine va_zald hx hb hK.1 hP (9 + p1.toNatClampNeg) 2 (row_get0 rfl hi_15) rfl hin dX12_reversesBytes_41 ?_
        obtain ⟨hin, hm⟩ := hm_g hm
        refine va_zast hx hb hK.1 hP hD hS 7 2 rfl rfl hin dX12_reversesBytes_42 (fun H locs hP hD hS => ?_)
        have hP : va_P D classes (([(a_t, .inr (8, [.int v_t_isWide, .ref a_t_cells, .ref a_t_page, .int v_t_pageMany, .ref a_t_digits, .int v_t_many, .int v_t_isMinus, .ref a_t_found, .ref a_t_one, .ref a_t_other, .ref a_t_sum, .ref a_t_rest])), (a_t_cells, .inl (cy 5, 8, .inr (.inr (.inr (.inr (fun j => some (rw_t j))))))), (a_t_page, .inl (cy 0, 66, .inl f_t_page)), (a_t_digits, .inl (cy 0, 64, .inl f_t_digits)), (a_t_found, .inl (cy 2, 64, .inl f_t_found)), (a_t_one, .inl (cy 2, 65, .inl f_t_one)), (a_t_other, .inl (cy 2, 65, .inl f_t_other)), (a_t_sum, .inl (cy 2, 65, .inl (upd y_12 y_11.toNatClampNeg (vp_nar .boolean ((B_t p1.toNatClampNeg) (((r_16 - 8) - ((y_11 / 8) * 8)) + (y_11 - y_11 / 8 * 8)).toNatClampNeg))))), (a_t_rest, .inl (cy 2, 65, .inl f_t_rest))] : va_W) ++ (rowsW (cy 2) rw_t B_t ++ ([] : va_W))) H := hP
        have hD : va_D A (([(a_t, .inr (8, [.int v_t_isWide, .ref a_t_cells, .ref a_t_page, .int v_t_pageMany, .ref a_t_digits, .int v_t_many, .int v_t_isMinus, .ref a_t_found, .ref a_t_one, .ref a_t_other, .ref a_t_sum, .ref a_t_rest])), (a_t_cells, .inl (cy 5, 8, .inr (.inr (.inr (.inr (fun j => some (rw_t j))))))), (a_t_page, .inl (cy 0, 66, .inl f_t_page)), (a_t_digits, .inl (cy 0, 64, .inl f_t_digits)), (a_t_found, .inl (cy 2, 64, .inl f_t_found)), (a_t_one, .inl (cy 2, 65, .inl f_t_one)), (a_t_other, .inl (cy 2, 65, .inl f_t_other)), (a_t_sum, .inl (cy 2, 65, .inl (upd y_12 y_11.toNatClampNeg (vp_nar .boolean ((B_t p1.toNatClampNeg) (((r_16 - 8) - ((y_11 / 8) * 8)) + (y_11 - y_11 / 8 * 8)).toNatClampNeg))))), (a_t_rest, .inl (cy 2, 65, .inl f_t_rest))] : va_W) ++ (rowsW (cy 2) rw_t B_t ++ ([] : va_W))) := hD
        refine lv_iinc (v := (y_11 + 1)) (lv' := [(2, .int (y_11 + 1)), (0, .ref a_t), (1, .int p1)]) hx hb dX12_reversesBytes_43 hl (k := 0) rfl rfl (by decide) rfl (fun ls hl => ?_)
        refine lv_goto (tgt := 2) hx hb dX12_reversesBytes_46 (by decide) ?_
        exact ih (y_11 + 1) (upd y_12 y_11.toNatClampNeg (vp_nar .boolean ((B_t p1.toNatClampNeg) (((r_16 - 8) - ((y_11 / 8) * 8)) + (y_11 - y_11 / 8 * 8)).toNatClampNeg))) hm _ _ _ hP hD hS (lv_sub hl [0, 1, 2] rfl)
  obtain ⟨r_17, hL, hm⟩ := hm_b hm
  refine L2 r_17 ?_ k 0 f_t_sum hL _ _ _ hP hD hS (lv_sub hl [0, 1, 2] rfl)
  intro H locs ls hP hD hS hl
  refine lv_aload_n hx hb dX12_reversesBytes_49 rfl (lv_at hl 0 rfl) ?_
  refine lv_iload_n hx hb dX12_reversesBytes_50 rfl (lv_at hl 1 rfl) ?_
  refine lv_aload_n hx hb dX12_reversesBytes_51 rfl (lv_at hl 0 rfl) ?_
  refine va_get (D := D) (cl := classes) (ci := 8) (v := .ref a_t_sum) (C := RX12) (T := TX12) (N := 12) hx hb ht in_RX12 hown hK.1 hP 0 rfl rfl 10 (by decide) (ht _ q_1260) (fun _ h9 => h9) rfl dX12_reversesBytes_52 ?_
  obtain ⟨r_18, hr_18, hm⟩ := hm_b hm
  refine k_V (as := [.int p1, .ref a_t_sum]) (rest := []) (ws' := (([(a_t, .inr (8, [.int v_t_isWide, .ref a_t_cells, .ref a_t_page, .int v_t_pageMany, .ref a_t_digits, .int v_t_many, .int v_t_isMinus, .ref a_t_found, .ref a_t_one, .ref a_t_other, .ref a_t_sum, .ref a_t_rest])), (a_t_cells, .inl (cy 5, 8, .inr (.inr (.inr (.inr (fun j => some (rw_t j))))))), (a_t_page, .inl (cy 0, 66, .inl f_t_page)), (a_t_digits, .inl (cy 0, 64, .inl f_t_digits)), (a_t_found, .inl (cy 2, 64, .inl f_t_found)), (a_t_one, .inl (cy 2, 65, .inl f_t_one)), (a_t_other, .inl (cy 2, 65, .inl f_t_other)), (a_t_sum, .inl (cy 2, 65, .inl r_17)), (a_t_rest, .inl (cy 2, 65, .inl f_t_rest))] : va_W) ++ (rowsW (cy 2) rw_t r_18.2 ++ ([] : va_W)))) (st2 := [.long r_18.1]) (i0 := 0) hx hb hml hown ht hK hP hD hS hA hC hR hl (kcX12_puts_sum l D cy g a_t a_t_cells a_t_page a_t_digits a_t_found a_t_one a_t_other a_t_sum a_t_rest rw_t v_t_isWide B_t f_t_page v_t_pageMany f_t_digits v_t_many v_t_isMinus f_t_found f_t_one f_t_other r_17 f_t_rest p1 k r_18 hr_18) (isZ [0, 1, 2, 3, 4, 5, 6, 7, 8] 9 8) q_1433 q_1435 q_18 q_55 q_1436 hyX12_puts ⟨rfl, rfl, rfl⟩ ⟨Nat.le_of_ble_eq_true rfl, Nat.le_of_ble_eq_true rfl, Nat.le_of_ble_eq_true rfl, Nat.le_of_ble_eq_true rfl⟩ rfl (zcT rfl rfl rfl) (zeT rfl rfl) rfl (Nat.le_of_ble_eq_true rfl) dX12_reversesBytes_55 (zwT (cx := [(a_t, .inr (8, [.int v_t_isWide, .ref a_t_cells, .ref a_t_page, .int v_t_pageMany, .ref a_t_digits, .int v_t_many, .int v_t_isMinus, .ref a_t_found, .ref a_t_one, .ref a_t_other, .ref a_t_sum, .ref a_t_rest])), (a_t_cells, .inl (cy 5, 8, .inr (.inr (.inr (.inr (fun j => some (rw_t j))))))), (a_t_page, .inl (cy 0, 66, .inl f_t_page)), (a_t_digits, .inl (cy 0, 64, .inl f_t_digits)), (a_t_found, .inl (cy 2, 64, .inl f_t_found)), (a_t_one, .inl (cy 2, 65, .inl f_t_one)), (a_t_other, .inl (cy 2, 65, .inl f_t_other)), (a_t_sum, .inl (cy 2, 65, .inl r_17)), (a_t_rest, .inl (cy 2, 65, .inl f_t_rest))]) rfl rfl rfl rfl rfl rfl) rfl (fun H locs hP hD hS => ?_)
  obtain rfl := Option.some.inj hm
  exact k_lret hx hb hr hlocks hQc hP hS rfl rfl dX12_reversesBytes_58
theorem dX12_turns_0 : decode cX12_turns 0 = .ok (.iload_n 3, 1) := by decide +kernel
theorem dX12_turns_1 : decode cX12_turns 1 = .ok (.ifCond .eq 12, 3) := by decide +kernel
theorem dX12_turns_4 : decode cX12_turns 4 = .ok (.iload_n 2, 1) := by decide +kernel
theorem dX12_turns_5 : decode cX12_turns 5 = .ok (.aload_n 0, 1) := by decide +kernel
theorem dX12_turns_6 : decode cX12_turns 6 = .ok (.invokevirtual 59, 3) := by decide +kernel
theorem dX12_turns_9 : decode cX12_turns 9 = .ok (.irem, 1) := by decide +kernel
theorem dX12_turns_10 : decode cX12_turns 10 = .ok (.goto 10, 3) := by decide +kernel
theorem dX12_turns_13 : decode cX12_turns 13 = .ok (.iload_n 2, 1) := by decide +kernel
theorem dX12_turns_14 : decode cX12_turns 14 = .ok (.aload_n 0, 1) := by decide +kernel
theorem dX12_turns_15 : decode cX12_turns 15 = .ok (.invokevirtual 59, 3) := by decide +kernel
theorem dX12_turns_18 : decode cX12_turns 18 = .ok (.irem, 1) := by decide +kernel
theorem dX12_turns_19 : decode cX12_turns 19 = .ok (.ineg, 1) := by decide +kernel
theorem dX12_turns_20 : decode cX12_turns 20 = .ok (.aload_n 0, 1) := by decide +kernel
theorem dX12_turns_21 : decode cX12_turns 21 = .ok (.invokevirtual 59, 3) := by decide +kernel
theorem dX12_turns_24 : decode cX12_turns 24 = .ok (.iadd, 1) := by decide +kernel
theorem dX12_turns_25 : decode cX12_turns 25 = .ok (.istore 4, 2) := by decide +kernel
theorem dX12_turns_27 : decode cX12_turns 27 = .ok (.iconst 0, 1) := by decide +kernel
theorem dX12_turns_28 : decode cX12_turns 28 = .ok (.istore 5, 2) := by decide +kernel
theorem dX12_turns_30 : decode cX12_turns 30 = .ok (.iload 5, 2) := by decide +kernel
theorem dX12_turns_32 : decode cX12_turns 32 = .ok (.aload_n 0, 1) := by decide +kernel
theorem dX12_turns_33 : decode cX12_turns 33 = .ok (.invokevirtual 59, 3) := by decide +kernel
theorem dX12_turns_36 : decode cX12_turns 36 = .ok (.if_icmp .ge 33, 3) := by decide +kernel
theorem dX12_turns_39 : decode cX12_turns 39 = .ok (.aload_n 0, 1) := by decide +kernel
theorem dX12_turns_40 : decode cX12_turns 40 = .ok (.getfield 33, 3) := by decide +kernel
theorem dX12_turns_43 : decode cX12_turns 43 = .ok (.iload 5, 2) := by decide +kernel
theorem dX12_turns_45 : decode cX12_turns 45 = .ok (.iload 4, 2) := by decide +kernel
theorem dX12_turns_47 : decode cX12_turns 47 = .ok (.iadd, 1) := by decide +kernel
theorem dX12_turns_48 : decode cX12_turns 48 = .ok (.aload_n 0, 1) := by decide +kernel
theorem dX12_turns_49 : decode cX12_turns 49 = .ok (.invokevirtual 59, 3) := by decide +kernel
theorem dX12_turns_52 : decode cX12_turns 52 = .ok (.irem, 1) := by decide +kernel
theorem dX12_turns_53 : decode cX12_turns 53 = .ok (.aload_n 0, 1) := by decide +kernel
theorem dX12_turns_54 : decode cX12_turns 54 = .ok (.getfield 11, 3) := by decide +kernel
theorem dX12_turns_57 : decode cX12_turns 57 = .ok (.iload_n 1, 1) := by decide +kernel
theorem dX12_turns_58 : decode cX12_turns 58 = .ok (.aaload, 1) := by decide +kernel
theorem dX12_turns_59 : decode cX12_turns 59 = .ok (.iload 5, 2) := by decide +kernel
theorem dX12_turns_61 : decode cX12_turns 61 = .ok (.baload, 1) := by decide +kernel
theorem dX12_turns_62 : decode cX12_turns 62 = .ok (.bastore, 1) := by decide +kernel
theorem dX12_turns_63 : decode cX12_turns 63 = .ok (.iinc 5 1, 3) := by decide +kernel
theorem dX12_turns_66 : decode cX12_turns 66 = .ok (.goto (-36), 3) := by decide +kernel
theorem dX12_turns_69 : decode cX12_turns 69 = .ok (.aload_n 0, 1) := by decide +kernel
theorem dX12_turns_70 : decode cX12_turns 70 = .ok (.iload_n 1, 1) := by decide +kernel
theorem dX12_turns_71 : decode cX12_turns 71 = .ok (.aload_n 0, 1) := by decide +kernel
theorem dX12_turns_72 : decode cX12_turns 72 = .ok (.getfield 33, 3) := by decide +kernel
theorem dX12_turns_75 : decode cX12_turns 75 = .ok (.invokevirtual 75, 3) := by decide +kernel
theorem dX12_turns_78 : decode cX12_turns 78 = .ok (.lreturn, 1) := by decide +kernel
def mX12_turns_L30 (v_t_isWide : Int32) (p1 : Int32) (x_4 : Int32) (r_5 : Int32) (B_t : Nat → Nat → Int32) : Nat → Int32 → (Nat → Int32) → Option ((Nat → Int32))
  | 0, _, _ => none
  | n_ + 1, y_16, y_17 => ((mX12_bits v_t_isWide).bind (fun r_18 => (if r_18 ≤ y_16 then some y_17 else ((mX12_bits v_t_isWide).bind (fun r_20 => (if r_20 = 0 then none else (if p1 < 0 ∨ 8 ≤ p1.toNatClampNeg then none else (if y_16 < 0 ∨ 64 ≤ y_16.toNatClampNeg then none else (if ((y_16 + (x_4 + r_5)) - (y_16 + (x_4 + r_5)) / r_20 * r_20) < 0 ∨ 65 ≤ ((y_16 + (x_4 + r_5)) - (y_16 + (x_4 + r_5)) / r_20 * r_20).toNatClampNeg then none else (mX12_turns_L30 v_t_isWide p1 x_4 r_5 B_t n_ (y_16 + 1) (upd y_17 ((y_16 + (x_4 + r_5)) - (y_16 + (x_4 + r_5)) / r_20 * r_20).toNatClampNeg (vp_nar .boolean ((B_t p1.toNatClampNeg) y_16.toNatClampNeg)))))))))))))
def mX12_turns (k : Nat) (v_t_isWide : Int32) (B_t : Nat → Nat → Int32) (f_t_sum : Nat → Int32) (p1 : Int32) (p2 : Int32) (p3 : Int32) : Option (Int64 × (Nat → Nat → Int32) × (Nat → Int32)) := (((if p3 = 0 then ((mX12_bits v_t_isWide).bind (fun r_24 => (if r_24 = 0 then none else some (-(p2 - p2 / r_24 * r_24))))) else ((mX12_bits v_t_isWide).bind (fun r_25 => (if r_25 = 0 then none else some (p2 - p2 / r_25 * r_25))))) : Option (Int32)).bind (fun x_4 => ((mX12_bits v_t_isWide).bind (fun r_5 => ((mX12_turns_L30 v_t_isWide p1 x_4 r_5 B_t k 0 f_t_sum).bind (fun r_22 => ((mX12_puts_sum k v_t_isWide B_t r_22 p1).bind (fun r_23 => some (r_23.1, r_23.2, r_22)))))))))
set_option maxHeartbeats 4000000 in
set_option maxRecDepth 100000 in
theorem kcX12_turns (l : Launch) (D : va_G) (cy : Nat → ClassId) (g : Nat → Nat) (a_t : Nat) (a_t_cells : Nat) (a_t_page : Nat) (a_t_digits : Nat) (a_t_found : Nat) (a_t_one : Nat) (a_t_other : Nat) (a_t_sum : Nat) (a_t_rest : Nat) (rw_t : Nat → Nat) (v_t_isWide : Int32) (B_t : Nat → Nat → Int32) (f_t_page : Nat → Int32) (v_t_pageMany : Int32) (f_t_digits : Nat → Int32) (v_t_many : Int32) (v_t_isMinus : Int32) (f_t_found : Nat → Int32) (f_t_one : Nat → Int32) (f_t_other : Nat → Int32) (f_t_sum : Nat → Int32) (f_t_rest : Nat → Int32) (p1 : Int32) (p2 : Int32) (p3 : Int32) (k : Nat) (R : Int64 × (Nat → Nat → Int32) × (Nat → Int32)) (hm : mX12_turns k v_t_isWide B_t f_t_sum p1 p2 p3 = some R) : Con l D cy g yX12_turns cX12_turns 6 (some .long) 4 85 0 0 [.ref a_t, .int p1, .int p2, .int p3] (([(a_t, .inr (8, [.int v_t_isWide, .ref a_t_cells, .ref a_t_page, .int v_t_pageMany, .ref a_t_digits, .int v_t_many, .int v_t_isMinus, .ref a_t_found, .ref a_t_one, .ref a_t_other, .ref a_t_sum, .ref a_t_rest])), (a_t_cells, .inl (cy 5, 8, .inr (.inr (.inr (.inr (fun j => some (rw_t j))))))), (a_t_page, .inl (cy 0, 66, .inl f_t_page)), (a_t_digits, .inl (cy 0, 64, .inl f_t_digits)), (a_t_found, .inl (cy 2, 64, .inl f_t_found)), (a_t_one, .inl (cy 2, 65, .inl f_t_one)), (a_t_other, .inl (cy 2, 65, .inl f_t_other)), (a_t_sum, .inl (cy 2, 65, .inl f_t_sum)), (a_t_rest, .inl (cy 2, 65, .inl f_t_rest))] : va_W) ++ (rowsW (cy 2) rw_t B_t ++ ([] : va_W))) (([(a_t, .inr (8, [.int v_t_isWide, .ref a_t_cells, .ref a_t_page, .int v_t_pageMany, .ref a_t_digits, .int v_t_many, .int v_t_isMinus, .ref a_t_found, .ref a_t_one, .ref a_t_other, .ref a_t_sum, .ref a_t_rest])), (a_t_cells, .inl (cy 5, 8, .inr (.inr (.inr (.inr (fun j => some (rw_t j))))))), (a_t_page, .inl (cy 0, 66, .inl f_t_page)), (a_t_digits, .inl (cy 0, 64, .inl f_t_digits)), (a_t_found, .inl (cy 2, 64, .inl f_t_found)), (a_t_one, .inl (cy 2, 65, .inl f_t_one)), (a_t_other, .inl (cy 2, 65, .inl f_t_other)), (a_t_sum, .inl (cy 2, 65, .inl R.2.2)), (a_t_rest, .inl (cy 2, 65, .inl f_t_rest))] : va_W) ++ (rowsW (cy 2) rw_t R.2.1 ++ ([] : va_W))) (some (.long R.1)) := by
  refine Con.of (by decide +kernel) (Nat.le_of_ble_eq_true rfl) ?_
  intro p e RM s m ar below meth c A Qc ls hx hb hr hml hown hlocks hnm ht hK hP hD hS hA hR hC hQc hl
  have hown : s.vm.findClass RX12 = some m.cls := hown
  have hl : lv_has ls 6 [(0, .ref a_t), (1, .int p1), (2, .int p2), (3, .int p3)] := hl
  rw [mX12_turns] at hm
  refine lv_iload_n hx hb dX12_turns_0 rfl (lv_at hl 3 rfl) ?_
  obtain ⟨x_4, hreg, hm⟩ := hm_b hm
  have J20 : ∀ (H : Heap) (locs : List Loc) (ls : Array Slot), va_P D classes (([(a_t, .inr (8, [.int v_t_isWide, .ref a_t_cells, .ref a_t_page, .int v_t_pageMany, .ref a_t_digits, .int v_t_many, .int v_t_isMinus, .ref a_t_found, .ref a_t_one, .ref a_t_other, .ref a_t_sum, .ref a_t_rest])), (a_t_cells, .inl (cy 5, 8, .inr (.inr (.inr (.inr (fun j => some (rw_t j))))))), (a_t_page, .inl (cy 0, 66, .inl f_t_page)), (a_t_digits, .inl (cy 0, 64, .inl f_t_digits)), (a_t_found, .inl (cy 2, 64, .inl f_t_found)), (a_t_one, .inl (cy 2, 65, .inl f_t_one)), (a_t_other, .inl (cy 2, 65, .inl f_t_other)), (a_t_sum, .inl (cy 2, 65, .inl f_t_sum)), (a_t_rest, .inl (cy 2, 65, .inl f_t_rest))] : va_W) ++ (rowsW (cy 2) rw_t B_t ++ ([] : va_W))) H → va_D A (([(a_t, .inr (8, [.int v_t_isWide, .ref a_t_cells, .ref a_t_page, .int v_t_pageMany, .ref a_t_digits, .int v_t_many, .int v_t_isMinus, .ref a_t_found, .ref a_t_one, .ref a_t_other, .ref a_t_sum, .ref a_t_rest])), (a_t_cells, .inl (cy 5, 8, .inr (.inr (.inr (.inr (fun j => some (rw_t j))))))), (a_t_page, .inl (cy 0, 66, .inl f_t_page)), (a_t_digits, .inl (cy 0, 64, .inl f_t_digits)), (a_t_found, .inl (cy 2, 64, .inl f_t_found)), (a_t_one, .inl (cy 2, 65, .inl f_t_one)), (a_t_other, .inl (cy 2, 65, .inl f_t_other)), (a_t_sum, .inl (cy 2, 65, .inl f_t_sum)), (a_t_rest, .inl (cy 2, 65, .inl f_t_rest))] : va_W) ++ (rowsW (cy 2) rw_t B_t ++ ([] : va_W))) → va_S A s.heap H locs → lv_has ls 6 [(0, .ref a_t), (1, .int p1)] → W p l e RM s m ar below meth c H locs 0 0 (MQ below Qc ar s 0 0 A) (F0 m 20 ls [.int x_4]) := by
    intro H locs ls hP hD hS hl
    refine lv_aload_n hx hb dX12_turns_20 rfl (lv_at hl 0 rfl) ?_
    obtain ⟨r_5, hr_5, hm⟩ := hm_b hm
    refine k_V (as := []) (rest := [.int x_4]) (ws' := (([(a_t, .inr (8, [.int v_t_isWide, .ref a_t_cells, .ref a_t_page, .int v_t_pageMany, .ref a_t_digits, .int v_t_many, .int v_t_isMinus, .ref a_t_found, .ref a_t_one, .ref a_t_other, .ref a_t_sum, .ref a_t_rest])), (a_t_cells, .inl (cy 5, 8, .inr (.inr (.inr (.inr (fun j => some (rw_t j))))))), (a_t_page, .inl (cy 0, 66, .inl f_t_page)), (a_t_digits, .inl (cy 0, 64, .inl f_t_digits)), (a_t_found, .inl (cy 2, 64, .inl f_t_found)), (a_t_one, .inl (cy 2, 65, .inl f_t_one)), (a_t_other, .inl (cy 2, 65, .inl f_t_other)), (a_t_sum, .inl (cy 2, 65, .inl f_t_sum)), (a_t_rest, .inl (cy 2, 65, .inl f_t_rest))] : va_W) ++ (rowsW (cy 2) rw_t B_t ++ ([] : va_W)))) (st2 := [.int r_5, .int x_4]) (i0 := 0) hx hb hml hown ht hK hP hD hS hA hC hR hl (kcX12_bits l D cy g a_t a_t_cells a_t_page a_t_digits a_t_found a_t_one a_t_other a_t_sum a_t_rest rw_t v_t_isWide B_t f_t_page v_t_pageMany f_t_digits v_t_many v_t_isMinus f_t_found f_t_one f_t_other f_t_sum f_t_rest r_5 hr_5) (isZ [0, 1, 2, 3, 4, 5, 6, 7, 8] 9 8) q_1354 q_1355 q_1356 q_55 q_1357 hyX12_bits ⟨rfl, rfl, rfl⟩ ⟨Nat.le_of_ble_eq_true rfl, Nat.le_of_ble_eq_true rfl, Nat.le_of_ble_eq_true rfl, Nat.le_of_ble_eq_true rfl⟩ rfl (zcT rfl rfl rfl) (zeT rfl rfl) rfl (Nat.le_of_ble_eq_true rfl) dX12_turns_21 (zwT (cx := [(a_t, .inr (8, [.int v_t_isWide, .ref a_t_cells, .ref a_t_page, .int v_t_pageMany, .ref a_t_digits, .int v_t_many, .int v_t_isMinus, .ref a_t_found, .ref a_t_one, .ref a_t_other, .ref a_t_sum, .ref a_t_rest])), (a_t_cells, .inl (cy 5, 8, .inr (.inr (.inr (.inr (fun j => some (rw_t j))))))), (a_t_page, .inl (cy 0, 66, .inl f_t_page)), (a_t_digits, .inl (cy 0, 64, .inl f_t_digits)), (a_t_found, .inl (cy 2, 64, .inl f_t_found)), (a_t_one, .inl (cy 2, 65, .inl f_t_one)), (a_t_other, .inl (cy 2, 65, .inl f_t_other)), (a_t_sum, .inl (cy 2, 65, .inl f_t_sum)), (a_t_rest, .inl (cy 2, 65, .inl f_t_rest))]) rfl rfl rfl rfl rfl rfl) rfl (fun H locs hP hD hS => ?_)
    refine lv_iadd hx hb dX12_turns_24 ?_
    refine lv_istore (lv' := [(4, .int (x_4 + r_5)), (0, .ref a_t), (1, .int p1)]) hx hb dX12_turns_25 hl (by decide) rfl (fun ls hl => ?_)
    refine lv_iconst (v := 0) hx hb dX12_turns_27 (by decide) ?_
    refine lv_istore (lv' := [(5, .int 0), (4, .int (x_4 + r_5)), (0, .ref a_t), (1, .int p1)]) hx hb dX12_turns_28 hl (by decide) rfl (fun ls hl => ?_)
    have L30 : ∀ (rr : (Nat → Int32)) (kk : ∀ (H : Heap) (locs : List Loc) (ls : Array Slot), va_P D classes (([(a_t, .inr (8, [.int v_t_isWide, .ref a_t_cells, .ref a_t_page, .int v_t_pageMany, .ref a_t_digits, .int v_t_many, .int v_t_isMinus, .ref a_t_found, .ref a_t_one, .ref a_t_other, .ref a_t_sum, .ref a_t_rest])), (a_t_cells, .inl (cy 5, 8, .inr (.inr (.inr (.inr (fun j => some (rw_t j))))))), (a_t_page, .inl (cy 0, 66, .inl f_t_page)), (a_t_digits, .inl (cy 0, 64, .inl f_t_digits)), (a_t_found, .inl (cy 2, 64, .inl f_t_found)), (a_t_one, .inl (cy 2, 65, .inl f_t_one)), (a_t_other, .inl (cy 2, 65, .inl f_t_other)), (a_t_sum, .inl (cy 2, 65, .inl rr)), (a_t_rest, .inl (cy 2, 65, .inl f_t_rest))] : va_W) ++ (rowsW (cy 2) rw_t B_t ++ ([] : va_W))) H → va_D A (([(a_t, .inr (8, [.int v_t_isWide, .ref a_t_cells, .ref a_t_page, .int v_t_pageMany, .ref a_t_digits, .int v_t_many, .int v_t_isMinus, .ref a_t_found, .ref a_t_one, .ref a_t_other, .ref a_t_sum, .ref a_t_rest])), (a_t_cells, .inl (cy 5, 8, .inr (.inr (.inr (.inr (fun j => some (rw_t j))))))), (a_t_page, .inl (cy 0, 66, .inl f_t_page)), (a_t_digits, .inl (cy 0, 64, .inl f_t_digits)), (a_t_found, .inl (cy 2, 64, .inl f_t_found)), (a_t_one, .inl (cy 2, 65, .inl f_t_one)), (a_t_other, .inl (cy 2, 65, .inl f_t_other)), (a_t_sum, .inl (cy 2, 65, .inl rr)), (a_t_rest, .inl (cy 2, 65, .inl f_t_rest))] : va_W) ++ (rowsW (cy 2) rw_t B_t ++ ([] : va_W))) → va_S A s.heap H locs → lv_has ls 6 [(0, .ref a_t), (1, .int p1)] → W p l e RM s m ar below meth c H locs 0 0 (MQ below Qc ar s 0 0 A) (F0 m 69 ls [])) (n_ : Nat), ∀ (y_16 : Int32) (y_17 : Nat → Int32), mX12_turns_L30 v_t_isWide p1 x_4 r_5 B_t n_ y_16 y_17 = some rr → ∀ (H : Heap) (locs : List Loc) (ls : Array Slot), va_P D classes (([(a_t, .inr (8, [.int v_t_isWide, .ref a_t_cells, .ref a_t_page, .int v_t_pageMany, .ref a_t_digits, .int v_t_many, .int v_t_isMinus, .ref a_t_found, .ref a_t_one, .ref a_t_other, .ref a_t_sum, .ref a_t_rest])), (a_t_cells, .inl (cy 5, 8, .inr (.inr (.inr (.inr (fun j => some (rw_t j))))))), (a_t_page, .inl (cy 0, 66, .inl f_t_page)), (a_t_digits, .inl (cy 0, 64, .inl f_t_digits)), (a_t_found, .inl (cy 2, 64, .inl f_t_found)), (a_t_one, .inl (cy 2, 65, .inl f_t_one)), (a_t_other, .inl (cy 2, 65, .inl f_t_other)), (a_t_sum, .inl (cy 2, 65, .inl y_17)), (a_t_rest, .inl (cy 2, 65, .inl f_t_rest))] : va_W) ++ (rowsW (cy 2) rw_t B_t ++ ([] : va_W))) H → va_D A (([(a_t, .inr (8, [.int v_t_isWide, .ref a_t_cells, .ref a_t_page, .int v_t_pageMany, .ref a_t_digits, .int v_t_many, .int v_t_isMinus, .ref a_t_found, .ref a_t_one, .ref a_t_other, .ref a_t_sum, .ref a_t_rest])), (a_t_cells, .inl (cy 5, 8, .inr (.inr (.inr (.inr (fun j => some (rw_t j))))))), (a_t_page, .inl (cy 0, 66, .inl f_t_page)), (a_t_digits, .inl (cy 0, 64, .inl f_t_digits)), (a_t_found, .inl (cy 2, 64, .inl f_t_found)), (a_t_one, .inl (cy 2, 65, .inl f_t_one)), (a_t_other, .inl (cy 2, 65, .inl f_t_other)), (a_t_sum, .inl (cy 2, 65, .inl y_17)), (a_t_rest, .inl (cy 2, 65, .inl f_t_rest))] : va_W) ++ (rowsW (cy 2) rw_t B_t ++ ([] : va_W))) → va_S A s.heap H locs → lv_has ls 6 [(5, .int y_16), (4, .int (x_4 + r_5)), (0, .ref a_t), (1, .int p1)] → W p l e RM s m ar below meth c H locs 0 0 (MQ below Qc ar s 0 0 A) (F0 m 30 ls []) := by
      intro rr kk n_
      induction n_ with
      | zero => intro y_16 y_17 hm; rw [mX12_turns_L30] at hm; cases hm
      | succ n_ ih =>
        intro y_16 y_17 hm H locs ls hP hD hS hl
        rw [mX12_turns_L30] at hm
        refine lv_iload hx hb dX12_turns_30 (lv_at hl 0 rfl) ?_
        refine lv_aload_n hx hb dX12_turns_32 rfl (lv_at hl 2 rfl) ?_
        obtain ⟨r_18, hr_18, hm⟩ := hm_b hm
        refine k_V (as := []) (rest := [.int y_16]) (ws' := (([(a_t, .inr (8, [.int v_t_isWide, .ref a_t_cells, .ref a_t_page, .int v_t_pageMany, .ref a_t_digits, .int v_t_many, .int v_t_isMinus, .ref a_t_found, .ref a_t_one, .ref a_t_other, .ref a_t_sum, .ref a_t_rest])), (a_t_cells, .inl (cy 5, 8, .inr (.inr (.inr (.inr (fun j => some (rw_t j))))))), (a_t_page, .inl (cy 0, 66, .inl f_t_page)), (a_t_digits, .inl (cy 0, 64, .inl f_t_digits)), (a_t_found, .inl (cy 2, 64, .inl f_t_found)), (a_t_one, .inl (cy 2, 65, .inl f_t_one)), (a_t_other, .inl (cy 2, 65, .inl f_t_other)), (a_t_sum, .inl (cy 2, 65, .inl y_17)), (a_t_rest, .inl (cy 2, 65, .inl f_t_rest))] : va_W) ++ (rowsW (cy 2) rw_t B_t ++ ([] : va_W)))) (st2 := [.int r_18, .int y_16]) (i0 := 0) hx hb hml hown ht hK hP hD hS hA hC hR hl (kcX12_bits l D cy g a_t a_t_cells a_t_page a_t_digits a_t_found a_t_one a_t_other a_t_sum a_t_rest rw_t v_t_isWide B_t f_t_page v_t_pageMany f_t_digits v_t_many v_t_isMinus f_t_found f_t_one f_t_other y_17 f_t_rest r_18 hr_18) (isZ [0, 1, 2, 3, 4, 5, 6, 7, 8] 9 8) q_1354 q_1355 q_1356 q_55 q_1357 hyX12_bits ⟨rfl, rfl, rfl⟩ ⟨Nat.le_of_ble_eq_true rfl, Nat.le_of_ble_eq_true rfl, Nat.le_of_ble_eq_true rfl, Nat.le_of_ble_eq_true rfl⟩ rfl (zcT rfl rfl rfl) (zeT rfl rfl) rfl (Nat.le_of_ble_eq_true rfl) dX12_turns_33 (zwT (cx := [(a_t, .inr (8, [.int v_t_isWide, .ref a_t_cells, .ref a_t_page, .int v_t_pageMany, .ref a_t_digits, .int v_t_many, .int v_t_isMinus, .ref a_t_found, .ref a_t_one, .ref a_t_other, .ref a_t_sum, .ref a_t_rest])), (a_t_cells, .inl (cy 5, 8, .inr (.inr (.inr (.inr (fun j => some (rw_t j))))))), (a_t_page, .inl (cy 0, 66, .inl f_t_page)), (a_t_digits, .inl (cy 0, 64, .inl f_t_digits)), (a_t_found, .inl (cy 2, 64, .inl f_t_found)), (a_t_one, .inl (cy 2, 65, .inl f_t_one)), (a_t_other, .inl (cy 2, 65, .inl f_t_other)), (a_t_sum, .inl (cy 2, 65, .inl y_17)), (a_t_rest, .inl (cy 2, 65, .inl f_t_rest))]) rfl rfl rfl rfl rfl rfl) rfl (fun H locs hP hD hS => ?_)
        refine lv_icmp_ge (tgt := 69) hx hb dX12_turns_36 (by decide) (fun c_19 => ?_) (fun c_19 => ?_)
        · replace hm := hm_t c_19 hm
          obtain rfl := Option.some.inj hm
          exact kk _ _ _ hP hD hS (lv_sub hl [2, 3] rfl)
        · replace hm := hm_f c_19 hm
          refine lv_aload_n hx hb dX12_turns_39 rfl (lv_at hl 2 rfl) ?_
          refine va_get (D := D) (cl := classes) (ci := 8) (v := .ref a_t_sum) (C := RX12) (T := TX12) (N := 12) hx hb ht in_RX12 hown hK.1 hP 0 rfl rfl 10 (by decide) (ht _ q_1260) (fun _ h9 => h9) rfl dX12_turns_40 ?_
          refine lv_iload hx hb dX12_turns_43 (lv_at hl 0 rfl) ?_
          refine lv_iload hx hb dX12_turns_45 (lv_at hl 1 rfl) ?_
          refine lv_iadd hx hb dX12_turns_47 ?_
          refine lv_aload_n hx hb dX12_turns_48 rfl (lv_at hl 2 rfl) ?_
          obtain ⟨r_20, hr_20, hm⟩ := hm_b hm
          refine k_V (as := []) (rest := [.int (y_16 + (x_4 + r_5)), .ref a_t_sum]) (ws' := (([(a_t, .inr (8, [.int v_t_isWide, .ref a_t_cells, .ref a_t_page, .int v_t_pageMany, .ref a_t_digits, .int v_t_many, .int v_t_isMinus, .ref a_t_found, .ref a_t_one, .ref a_t_other, .ref a_t_sum, .ref a_t_rest])), (a_t_cells, .inl (cy 5, 8, .inr (.inr (.inr (.inr (fun j => some (rw_t j))))))), (a_t_page, .inl (cy 0, 66, .inl f_t_page)), (a_t_digits, .inl (cy 0, 64, .inl f_t_digits)), (a_t_found, .inl (cy 2, 64, .inl f_t_found)), (a_t_one, .inl (cy 2, 65, .inl f_t_one)), (a_t_other, .inl (cy 2, 65, .inl f_t_other)), (a_t_sum, .inl (cy 2, 65, .inl y_17)), (a_t_rest, .inl (cy 2, 65, .inl f_t_rest))] : va_W) ++ (rowsW (cy 2) rw_t B_t ++ ([] : va_W)))) (st2 := [.int r_20, .int (y_16 + (x_4 + r_5)), .ref a_t_sum]) (i0 := 0) hx hb hml hown ht hK hP hD hS hA hC hR hl (kcX12_bits l D cy g a_t a_t_cells a_t_page a_t_digits a_t_found a_t_one a_t_other a_t_sum a_t_rest rw_t v_t_isWide B_t f_t_page v_t_pageMany f_t_digits v_t_many v_t_isMinus f_t_found f_t_one f_t_other y_17 f_t_rest r_20 hr_20) (isZ [0, 1, 2, 3, 4, 5, 6, 7, 8] 9 8) q_1354 q_1355 q_1356 q_55 q_1357 hyX12_bits ⟨rfl, rfl, rfl⟩ ⟨Nat.le_of_ble_eq_true rfl, Nat.le_of_ble_eq_true rfl, Nat.le_of_ble_eq_true rfl, Nat.le_of_ble_eq_true rfl⟩ rfl (zcT rfl rfl rfl) (zeT rfl rfl) rfl (Nat.le_of_ble_eq_true rfl) dX12_turns_49 (zwT (cx := [(a_t, .inr (8, [.int v_t_isWide, .ref a_t_cells, .ref a_t_page, .int v_t_pageMany, .ref a_t_digits, .int v_t_many, .int v_t_isMinus, .ref a_t_found, .ref a_t_one, .ref a_t_other, .ref a_t_sum, .ref a_t_rest])), (a_t_cells, .inl (cy 5, 8, .inr (.inr (.inr (.inr (fun j => some (rw_t j))))))), (a_t_page, .inl (cy 0, 66, .inl f_t_page)), (a_t_digits, .inl (cy 0, 64, .inl f_t_digits)), (a_t_found, .inl (cy 2, 64, .inl f_t_found)), (a_t_one, .inl (cy 2, 65, .inl f_t_one)), (a_t_other, .inl (cy 2, 65, .inl f_t_other)), (a_t_sum, .inl (cy 2, 65, .inl y_17)), (a_t_rest, .inl (cy 2, 65, .inl f_t_rest))]) rfl rfl rfl rfl rfl rfl) rfl (fun H locs hP hD hS => ?_)
          obtain ⟨hne, hm⟩ := hm_g hm
          refine lv_irem hx hb dX12_turns_52 hne ?_
          refine lv_aload_n hx hb dX12_turns_53 rfl (lv_at hl 2 rfl) ?_
          refine va_get (D := D) (cl := classes) (ci := 8) (v := .ref a_t_cells) (C := RX12) (T := TX12) (N := 12) hx hb ht in_RX12 hown hK.1 hP 0 rfl rfl 1 (by decide) (ht _ q_1245) (fun _ h9 => h9) rfl dX12_turns_54 ?_
          refine lv_iload_n hx hb dX12_turns_57 rfl (lv_at hl 3 rfl) ?_
          obtain ⟨hin, hm⟩ := hm_g hm
          have hi_21 : p1.toNatClampNeg < 8 := Nat.not_le.mp (fun q => hin (Or.inr q))
          refine k_aldA hx hb hK.1 hP 1 5 rfl rfl hin dX12_turns_58 ?_
          refine lv_iload hx hb dX12_turns_59 (lv_at hl 0 rfl) ?_
          obtain ⟨hin, hm⟩ := hm_g hm
          refine va_zald hx hb hK.1 hP (9 + p1.toNatClampNeg) 2 (row_get0 rfl hi_21) rfl hin dX12_turns_61 ?_
          obtain ⟨hin, hm⟩ := hm_g hm
          refine va_zast hx hb hK.1 hP hD hS 7 2 rfl rfl hin dX12_turns_62 (fun H locs hP hD hS => ?_)
          have hP : va_P D classes (([(a_t, .inr (8, [.int v_t_isWide, .ref a_t_cells, .ref a_t_page, .int v_t_pageMany, .ref a_t_digits, .int v_t_many, .int v_t_isMinus, .ref a_t_found, .ref a_t_one, .ref a_t_other, .ref a_t_sum, .ref a_t_rest])), (a_t_cells, .inl (cy 5, 8, .inr (.inr (.inr (.inr (fun j => some (rw_t j))))))), (a_t_page, .inl (cy 0, 66, .inl f_t_page)), (a_t_digits, .inl (cy 0, 64, .inl f_t_digits)), (a_t_found, .inl (cy 2, 64, .inl f_t_found)), (a_t_one, .inl (cy 2, 65, .inl f_t_one)), (a_t_other, .inl (cy 2, 65, .inl f_t_other)), (a_t_sum, .inl (cy 2, 65, .inl (upd y_17 ((y_16 + (x_4 + r_5)) - (y_16 + (x_4 + r_5)) / r_20 * r_20).toNatClampNeg (vp_nar .boolean ((B_t p1.toNatClampNeg) y_16.toNatClampNeg))))), (a_t_rest, .inl (cy 2, 65, .inl f_t_rest))] : va_W) ++ (rowsW (cy 2) rw_t B_t ++ ([] : va_W))) H := hP
          have hD : va_D A (([(a_t, .inr (8, [.int v_t_isWide, .ref a_t_cells, .ref a_t_page, .int v_t_pageMany, .ref a_t_digits, .int v_t_many, .int v_t_isMinus, .ref a_t_found, .ref a_t_one, .ref a_t_other, .ref a_t_sum, .ref a_t_rest])), (a_t_cells, .inl (cy 5, 8, .inr (.inr (.inr (.inr (fun j => some (rw_t j))))))), (a_t_page, .inl (cy 0, 66, .inl f_t_page)), (a_t_digits, .inl (cy 0, 64, .inl f_t_digits)), (a_t_found, .inl (cy 2, 64, .inl f_t_found)), (a_t_one, .inl (cy 2, 65, .inl f_t_one)), (a_t_other, .inl (cy 2, 65, .inl f_t_other)), (a_t_sum, .inl (cy 2, 65, .inl (upd y_17 ((y_16 + (x_4 + r_5)) - (y_16 + (x_4 + r_5)) / r_20 * r_20).toNatClampNeg (vp_nar .boolean ((B_t p1.toNatClampNeg) y_16.toNatClampNeg))))), (a_t_rest, .inl (cy 2, 65, .inl f_t_rest))] : va_W) ++ (rowsW (cy 2) rw_t B_t ++ ([] : va_W))) := hD
          refine lv_iinc (v := (y_16 + 1)) (lv' := [(5, .int (y_16 + 1)), (4, .int (x_4 + r_5)), (0, .ref a_t), (1, .int p1)]) hx hb dX12_turns_63 hl (k := 0) rfl rfl (by decide) rfl (fun ls hl => ?_)
          refine lv_goto (tgt := 30) hx hb dX12_turns_66 (by decide) ?_
          exact ih (y_16 + 1) (upd y_17 ((y_16 + (x_4 + r_5)) - (y_16 + (x_4 + r_5)) / r_20 * r_20).toNatClampNeg (vp_nar .boolean ((B_t p1.toNatClampNeg) y_16.toNatClampNeg))) hm _ _ _ hP hD hS (lv_sub hl [0, 1, 2, 3] rfl)
    obtain ⟨r_22, hL, hm⟩ := hm_b hm
    refine L30 r_22 ?_ k 0 f_t_sum hL _ _ _ hP hD hS (lv_sub hl [0, 1, 2, 3] rfl)
    intro H locs ls hP hD hS hl
    refine lv_aload_n hx hb dX12_turns_69 rfl (lv_at hl 0 rfl) ?_
    refine lv_iload_n hx hb dX12_turns_70 rfl (lv_at hl 1 rfl) ?_
    refine lv_aload_n hx hb dX12_turns_71 rfl (lv_at hl 0 rfl) ?_
    refine va_get (D := D) (cl := classes) (ci := 8) (v := .ref a_t_sum) (C := RX12) (T := TX12) (N := 12) hx hb ht in_RX12 hown hK.1 hP 0 rfl rfl 10 (by decide) (ht _ q_1260) (fun _ h9 => h9) rfl dX12_turns_72 ?_
    obtain ⟨r_23, hr_23, hm⟩ := hm_b hm
    refine k_V (as := [.int p1, .ref a_t_sum]) (rest := []) (ws' := (([(a_t, .inr (8, [.int v_t_isWide, .ref a_t_cells, .ref a_t_page, .int v_t_pageMany, .ref a_t_digits, .int v_t_many, .int v_t_isMinus, .ref a_t_found, .ref a_t_one, .ref a_t_other, .ref a_t_sum, .ref a_t_rest])), (a_t_cells, .inl (cy 5, 8, .inr (.inr (.inr (.inr (fun j => some (rw_t j))))))), (a_t_page, .inl (cy 0, 66, .inl f_t_page)), (a_t_digits, .inl (cy 0, 64, .inl f_t_digits)), (a_t_found, .inl (cy 2, 64, .inl f_t_found)), (a_t_one, .inl (cy 2, 65, .inl f_t_one)), (a_t_other, .inl (cy 2, 65, .inl f_t_other)), (a_t_sum, .inl (cy 2, 65, .inl r_22)), (a_t_rest, .inl (cy 2, 65, .inl f_t_rest))] : va_W) ++ (rowsW (cy 2) rw_t r_23.2 ++ ([] : va_W)))) (st2 := [.long r_23.1]) (i0 := 0) hx hb hml hown ht hK hP hD hS hA hC hR hl (kcX12_puts_sum l D cy g a_t a_t_cells a_t_page a_t_digits a_t_found a_t_one a_t_other a_t_sum a_t_rest rw_t v_t_isWide B_t f_t_page v_t_pageMany f_t_digits v_t_many v_t_isMinus f_t_found f_t_one f_t_other r_22 f_t_rest p1 k r_23 hr_23) (isZ [0, 1, 2, 3, 4, 5, 6, 7, 8] 9 8) q_1433 q_1435 q_18 q_55 q_1436 hyX12_puts ⟨rfl, rfl, rfl⟩ ⟨Nat.le_of_ble_eq_true rfl, Nat.le_of_ble_eq_true rfl, Nat.le_of_ble_eq_true rfl, Nat.le_of_ble_eq_true rfl⟩ rfl (zcT rfl rfl rfl) (zeT rfl rfl) rfl (Nat.le_of_ble_eq_true rfl) dX12_turns_75 (zwT (cx := [(a_t, .inr (8, [.int v_t_isWide, .ref a_t_cells, .ref a_t_page, .int v_t_pageMany, .ref a_t_digits, .int v_t_many, .int v_t_isMinus, .ref a_t_found, .ref a_t_one, .ref a_t_other, .ref a_t_sum, .ref a_t_rest])), (a_t_cells, .inl (cy 5, 8, .inr (.inr (.inr (.inr (fun j => some (rw_t j))))))), (a_t_page, .inl (cy 0, 66, .inl f_t_page)), (a_t_digits, .inl (cy 0, 64, .inl f_t_digits)), (a_t_found, .inl (cy 2, 64, .inl f_t_found)), (a_t_one, .inl (cy 2, 65, .inl f_t_one)), (a_t_other, .inl (cy 2, 65, .inl f_t_other)), (a_t_sum, .inl (cy 2, 65, .inl r_22)), (a_t_rest, .inl (cy 2, 65, .inl f_t_rest))]) rfl rfl rfl rfl rfl rfl) rfl (fun H locs hP hD hS => ?_)
    obtain rfl := Option.some.inj hm
    exact k_lret hx hb hr hlocks hQc hP hS rfl rfl dX12_turns_78
  replace hm := hreg
  refine lv_if_eq (tgt := 13) hx hb dX12_turns_1 (by decide) (fun c_1 => ?_) (fun c_1 => ?_)
  · replace hm := hm_t c_1 hm
    refine lv_iload_n hx hb dX12_turns_13 rfl (lv_at hl 2 rfl) ?_
    refine lv_aload_n hx hb dX12_turns_14 rfl (lv_at hl 0 rfl) ?_
    obtain ⟨r_24, hr_24, hm⟩ := hm_b hm
    refine k_V (as := []) (rest := [.int p2]) (ws' := (([(a_t, .inr (8, [.int v_t_isWide, .ref a_t_cells, .ref a_t_page, .int v_t_pageMany, .ref a_t_digits, .int v_t_many, .int v_t_isMinus, .ref a_t_found, .ref a_t_one, .ref a_t_other, .ref a_t_sum, .ref a_t_rest])), (a_t_cells, .inl (cy 5, 8, .inr (.inr (.inr (.inr (fun j => some (rw_t j))))))), (a_t_page, .inl (cy 0, 66, .inl f_t_page)), (a_t_digits, .inl (cy 0, 64, .inl f_t_digits)), (a_t_found, .inl (cy 2, 64, .inl f_t_found)), (a_t_one, .inl (cy 2, 65, .inl f_t_one)), (a_t_other, .inl (cy 2, 65, .inl f_t_other)), (a_t_sum, .inl (cy 2, 65, .inl f_t_sum)), (a_t_rest, .inl (cy 2, 65, .inl f_t_rest))] : va_W) ++ (rowsW (cy 2) rw_t B_t ++ ([] : va_W)))) (st2 := [.int r_24, .int p2]) (i0 := 0) hx hb hml hown ht hK hP hD hS hA hC hR hl (kcX12_bits l D cy g a_t a_t_cells a_t_page a_t_digits a_t_found a_t_one a_t_other a_t_sum a_t_rest rw_t v_t_isWide B_t f_t_page v_t_pageMany f_t_digits v_t_many v_t_isMinus f_t_found f_t_one f_t_other f_t_sum f_t_rest r_24 hr_24) (isZ [0, 1, 2, 3, 4, 5, 6, 7, 8] 9 8) q_1354 q_1355 q_1356 q_55 q_1357 hyX12_bits ⟨rfl, rfl, rfl⟩ ⟨Nat.le_of_ble_eq_true rfl, Nat.le_of_ble_eq_true rfl, Nat.le_of_ble_eq_true rfl, Nat.le_of_ble_eq_true rfl⟩ rfl (zcT rfl rfl rfl) (zeT rfl rfl) rfl (Nat.le_of_ble_eq_true rfl) dX12_turns_15 (zwT (cx := [(a_t, .inr (8, [.int v_t_isWide, .ref a_t_cells, .ref a_t_page, .int v_t_pageMany, .ref a_t_digits, .int v_t_many, .int v_t_isMinus, .ref a_t_found, .ref a_t_one, .ref a_t_other, .ref a_t_sum, .ref a_t_rest])), (a_t_cells, .inl (cy 5, 8, .inr (.inr (.inr (.inr (fun j => some (rw_t j))))))), (a_t_page, .inl (cy 0, 66, .inl f_t_page)), (a_t_digits, .inl (cy 0, 64, .inl f_t_digits)), (a_t_found, .inl (cy 2, 64, .inl f_t_found)), (a_t_one, .inl (cy 2, 65, .inl f_t_one)), (a_t_other, .inl (cy 2, 65, .inl f_t_other)), (a_t_sum, .inl (cy 2, 65, .inl f_t_sum)), (a_t_rest, .inl (cy 2, 65, .inl f_t_rest))]) rfl rfl rfl rfl rfl rfl) rfl (fun H locs hP hD hS => ?_)
    obtain ⟨hne, hm⟩ := hm_g hm
    refine lv_irem hx hb dX12_turns_18 hne ?_
    refine lv_ineg hx hb dX12_turns_19 ?_
    obtain rfl := Option.some.inj hm
    exact J20 _ _ _ hP hD hS (lv_sub hl [0, 1] rfl)
  · replace hm := hm_f c_1 hm
    refine lv_iload_n hx hb dX12_turns_4 rfl (lv_at hl 2 rfl) ?_
    refine lv_aload_n hx hb dX12_turns_5 rfl (lv_at hl 0 rfl) ?_
    obtain ⟨r_25, hr_25, hm⟩ := hm_b hm
    refine k_V (as := []) (rest := [.int p2]) (ws' := (([(a_t, .inr (8, [.int v_t_isWide, .ref a_t_cells, .ref a_t_page, .int v_t_pageMany, .ref a_t_digits, .int v_t_many, .int v_t_isMinus, .ref a_t_found, .ref a_t_one, .ref a_t_other, .ref a_t_sum, .ref a_t_rest])), (a_t_cells, .inl (cy 5, 8, .inr (.inr (.inr (.inr (fun j => some (rw_t j))))))), (a_t_page, .inl (cy 0, 66, .inl f_t_page)), (a_t_digits, .inl (cy 0, 64, .inl f_t_digits)), (a_t_found, .inl (cy 2, 64, .inl f_t_found)), (a_t_one, .inl (cy 2, 65, .inl f_t_one)), (a_t_other, .inl (cy 2, 65, .inl f_t_other)), (a_t_sum, .inl (cy 2, 65, .inl f_t_sum)), (a_t_rest, .inl (cy 2, 65, .inl f_t_rest))] : va_W) ++ (rowsW (cy 2) rw_t B_t ++ ([] : va_W)))) (st2 := [.int r_25, .int p2]) (i0 := 0) hx hb hml hown ht hK hP hD hS hA hC hR hl (kcX12_bits l D cy g a_t a_t_cells a_t_page a_t_digits a_t_found a_t_one a_t_other a_t_sum a_t_rest rw_t v_t_isWide B_t f_t_page v_t_pageMany f_t_digits v_t_many v_t_isMinus f_t_found f_t_one f_t_other f_t_sum f_t_rest r_25 hr_25) (isZ [0, 1, 2, 3, 4, 5, 6, 7, 8] 9 8) q_1354 q_1355 q_1356 q_55 q_1357 hyX12_bits ⟨rfl, rfl, rfl⟩ ⟨Nat.le_of_ble_eq_true rfl, Nat.le_of_ble_eq_true rfl, Nat.le_of_ble_eq_true rfl, Nat.le_of_ble_eq_true rfl⟩ rfl (zcT rfl rfl rfl) (zeT rfl rfl) rfl (Nat.le_of_ble_eq_true rfl) dX12_turns_6 (zwT (cx := [(a_t, .inr (8, [.int v_t_isWide, .ref a_t_cells, .ref a_t_page, .int v_t_pageMany, .ref a_t_digits, .int v_t_many, .int v_t_isMinus, .ref a_t_found, .ref a_t_one, .ref a_t_other, .ref a_t_sum, .ref a_t_rest])), (a_t_cells, .inl (cy 5, 8, .inr (.inr (.inr (.inr (fun j => some (rw_t j))))))), (a_t_page, .inl (cy 0, 66, .inl f_t_page)), (a_t_digits, .inl (cy 0, 64, .inl f_t_digits)), (a_t_found, .inl (cy 2, 64, .inl f_t_found)), (a_t_one, .inl (cy 2, 65, .inl f_t_one)), (a_t_other, .inl (cy 2, 65, .inl f_t_other)), (a_t_sum, .inl (cy 2, 65, .inl f_t_sum)), (a_t_rest, .inl (cy 2, 65, .inl f_t_rest))]) rfl rfl rfl rfl rfl rfl) rfl (fun H locs hP hD hS => ?_)
    obtain ⟨hne, hm⟩ := hm_g hm
    refine lv_irem hx hb dX12_turns_9 hne ?_
    refine lv_goto (tgt := 20) hx hb dX12_turns_10 (by decide) ?_
    obtain rfl := Option.some.inj hm
    exact J20 _ _ _ hP hD hS (lv_sub hl [0, 1] rfl)
theorem dX12_leaves_0 : decode cX12_leaves 0 = .ok (.aload_n 0, 1) := by decide +kernel
theorem dX12_leaves_1 : decode cX12_leaves 1 = .ok (.iload_n 1, 1) := by decide +kernel
theorem dX12_leaves_2 : decode cX12_leaves 2 = .ok (.iconst 0, 1) := by decide +kernel
theorem dX12_leaves_3 : decode cX12_leaves 3 = .ok (.iload_n 2, 1) := by decide +kernel
theorem dX12_leaves_4 : decode cX12_leaves 4 = .ok (.invokevirtual 123, 3) := by decide +kernel
theorem dX12_leaves_7 : decode cX12_leaves 7 = .ok (.istore_n 3, 1) := by decide +kernel
theorem dX12_leaves_8 : decode cX12_leaves 8 = .ok (.aload_n 0, 1) := by decide +kernel
theorem dX12_leaves_9 : decode cX12_leaves 9 = .ok (.getfield 33, 3) := by decide +kernel
theorem dX12_leaves_12 : decode cX12_leaves 12 = .ok (.invokestatic 79, 3) := by decide +kernel
theorem dX12_leaves_15 : decode cX12_leaves 15 = .ok (.iload_n 3, 1) := by decide +kernel
theorem dX12_leaves_16 : decode cX12_leaves 16 = .ok (.aload_n 0, 1) := by decide +kernel
theorem dX12_leaves_17 : decode cX12_leaves 17 = .ok (.invokevirtual 59, 3) := by decide +kernel
theorem dX12_leaves_20 : decode cX12_leaves 20 = .ok (.if_icmp .ge 25, 3) := by decide +kernel
theorem dX12_leaves_23 : decode cX12_leaves 23 = .ok (.aload_n 0, 1) := by decide +kernel
theorem dX12_leaves_24 : decode cX12_leaves 24 = .ok (.getfield 33, 3) := by decide +kernel
theorem dX12_leaves_27 : decode cX12_leaves 27 = .ok (.iload_n 2, 1) := by decide +kernel
theorem dX12_leaves_28 : decode cX12_leaves 28 = .ok (.ifCond .eq 14, 3) := by decide +kernel
theorem dX12_leaves_31 : decode cX12_leaves 31 = .ok (.aload_n 0, 1) := by decide +kernel
theorem dX12_leaves_32 : decode cX12_leaves 32 = .ok (.invokevirtual 59, 3) := by decide +kernel
theorem dX12_leaves_35 : decode cX12_leaves 35 = .ok (.iconst 1, 1) := by decide +kernel
theorem dX12_leaves_36 : decode cX12_leaves 36 = .ok (.isub, 1) := by decide +kernel
theorem dX12_leaves_37 : decode cX12_leaves 37 = .ok (.iload_n 3, 1) := by decide +kernel
theorem dX12_leaves_38 : decode cX12_leaves 38 = .ok (.isub, 1) := by decide +kernel
theorem dX12_leaves_39 : decode cX12_leaves 39 = .ok (.goto 4, 3) := by decide +kernel
theorem dX12_leaves_42 : decode cX12_leaves 42 = .ok (.iload_n 3, 1) := by decide +kernel
theorem dX12_leaves_43 : decode cX12_leaves 43 = .ok (.iconst 1, 1) := by decide +kernel
theorem dX12_leaves_44 : decode cX12_leaves 44 = .ok (.bastore, 1) := by decide +kernel
theorem dX12_leaves_45 : decode cX12_leaves 45 = .ok (.aload_n 0, 1) := by decide +kernel
theorem dX12_leaves_46 : decode cX12_leaves 46 = .ok (.iload_n 1, 1) := by decide +kernel
theorem dX12_leaves_47 : decode cX12_leaves 47 = .ok (.aload_n 0, 1) := by decide +kernel
theorem dX12_leaves_48 : decode cX12_leaves 48 = .ok (.getfield 33, 3) := by decide +kernel
theorem dX12_leaves_51 : decode cX12_leaves 51 = .ok (.invokevirtual 75, 3) := by decide +kernel
theorem dX12_leaves_54 : decode cX12_leaves 54 = .ok (.lreturn, 1) := by decide +kernel
def mX12_leaves (k : Nat) (v_t_isWide : Int32) (B_t : Nat → Nat → Int32) (f_t_sum : Nat → Int32) (p1 : Int32) (p2 : Int32) : Option (Int64 × (Nat → Nat → Int32) × (Nat → Int32)) := ((mX12_alike k v_t_isWide B_t p1 0 p2).bind (fun r_1 => ((mX13_clear k 65 f_t_sum).bind (fun r_2 => ((mX12_bits v_t_isWide).bind (fun r_3 => (((if r_3 ≤ r_1 then some r_2 else (((if p2 = 0 then some r_1 else ((mX12_bits v_t_isWide).bind (fun r_14 => some ((r_14 - 1) - r_1)))) : Option (Int32)).bind (fun x_13 => (if x_13 < 0 ∨ 65 ≤ x_13.toNatClampNeg then none else some (upd r_2 x_13.toNatClampNeg (vp_nar .boolean 1)))))) : Option ((Nat → Int32))).bind (fun x_9 => ((mX12_puts_sum k v_t_isWide B_t x_9 p1).bind (fun r_10 => some (r_10.1, r_10.2, x_9)))))))))))
set_option maxHeartbeats 4000000 in
set_option maxRecDepth 100000 in
theorem kcX12_leaves (l : Launch) (D : va_G) (cy : Nat → ClassId) (g : Nat → Nat) (a_t : Nat) (a_t_cells : Nat) (a_t_page : Nat) (a_t_digits : Nat) (a_t_found : Nat) (a_t_one : Nat) (a_t_other : Nat) (a_t_sum : Nat) (a_t_rest : Nat) (rw_t : Nat → Nat) (v_t_isWide : Int32) (B_t : Nat → Nat → Int32) (f_t_page : Nat → Int32) (v_t_pageMany : Int32) (f_t_digits : Nat → Int32) (v_t_many : Int32) (v_t_isMinus : Int32) (f_t_found : Nat → Int32) (f_t_one : Nat → Int32) (f_t_other : Nat → Int32) (f_t_sum : Nat → Int32) (f_t_rest : Nat → Int32) (p1 : Int32) (p2 : Int32) (k : Nat) (R : Int64 × (Nat → Nat → Int32) × (Nat → Int32)) (hm : mX12_leaves k v_t_isWide B_t f_t_sum p1 p2 = some R) : Con l D cy g yX12_leaves cX12_leaves 4 (some .long) 4 85 0 0 [.ref a_t, .int p1, .int p2] (([(a_t, .inr (8, [.int v_t_isWide, .ref a_t_cells, .ref a_t_page, .int v_t_pageMany, .ref a_t_digits, .int v_t_many, .int v_t_isMinus, .ref a_t_found, .ref a_t_one, .ref a_t_other, .ref a_t_sum, .ref a_t_rest])), (a_t_cells, .inl (cy 5, 8, .inr (.inr (.inr (.inr (fun j => some (rw_t j))))))), (a_t_page, .inl (cy 0, 66, .inl f_t_page)), (a_t_digits, .inl (cy 0, 64, .inl f_t_digits)), (a_t_found, .inl (cy 2, 64, .inl f_t_found)), (a_t_one, .inl (cy 2, 65, .inl f_t_one)), (a_t_other, .inl (cy 2, 65, .inl f_t_other)), (a_t_sum, .inl (cy 2, 65, .inl f_t_sum)), (a_t_rest, .inl (cy 2, 65, .inl f_t_rest))] : va_W) ++ (rowsW (cy 2) rw_t B_t ++ ([] : va_W))) (([(a_t, .inr (8, [.int v_t_isWide, .ref a_t_cells, .ref a_t_page, .int v_t_pageMany, .ref a_t_digits, .int v_t_many, .int v_t_isMinus, .ref a_t_found, .ref a_t_one, .ref a_t_other, .ref a_t_sum, .ref a_t_rest])), (a_t_cells, .inl (cy 5, 8, .inr (.inr (.inr (.inr (fun j => some (rw_t j))))))), (a_t_page, .inl (cy 0, 66, .inl f_t_page)), (a_t_digits, .inl (cy 0, 64, .inl f_t_digits)), (a_t_found, .inl (cy 2, 64, .inl f_t_found)), (a_t_one, .inl (cy 2, 65, .inl f_t_one)), (a_t_other, .inl (cy 2, 65, .inl f_t_other)), (a_t_sum, .inl (cy 2, 65, .inl R.2.2)), (a_t_rest, .inl (cy 2, 65, .inl f_t_rest))] : va_W) ++ (rowsW (cy 2) rw_t R.2.1 ++ ([] : va_W))) (some (.long R.1)) := by
  refine Con.of (by decide +kernel) (Nat.le_of_ble_eq_true rfl) ?_
  intro p e RM s m ar below meth c A Qc ls hx hb hr hml hown hlocks hnm ht hK hP hD hS hA hR hC hQc hl
  have hown : s.vm.findClass RX12 = some m.cls := hown
  have hl : lv_has ls 4 [(0, .ref a_t), (1, .int p1), (2, .int p2)] := hl
  rw [mX12_leaves] at hm
  refine lv_aload_n hx hb dX12_leaves_0 rfl (lv_at hl 0 rfl) ?_
  refine lv_iload_n hx hb dX12_leaves_1 rfl (lv_at hl 1 rfl) ?_
  refine lv_iconst (v := 0) hx hb dX12_leaves_2 (by decide) ?_
  refine lv_iload_n hx hb dX12_leaves_3 rfl (lv_at hl 2 rfl) ?_
  obtain ⟨r_1, hr_1, hm⟩ := hm_b hm
  refine k_V (as := [.int p1, .int 0, .int p2]) (rest := []) (ws' := (([(a_t, .inr (8, [.int v_t_isWide, .ref a_t_cells, .ref a_t_page, .int v_t_pageMany, .ref a_t_digits, .int v_t_many, .int v_t_isMinus, .ref a_t_found, .ref a_t_one, .ref a_t_other, .ref a_t_sum, .ref a_t_rest])), (a_t_cells, .inl (cy 5, 8, .inr (.inr (.inr (.inr (fun j => some (rw_t j))))))), (a_t_page, .inl (cy 0, 66, .inl f_t_page)), (a_t_digits, .inl (cy 0, 64, .inl f_t_digits)), (a_t_found, .inl (cy 2, 64, .inl f_t_found)), (a_t_one, .inl (cy 2, 65, .inl f_t_one)), (a_t_other, .inl (cy 2, 65, .inl f_t_other)), (a_t_sum, .inl (cy 2, 65, .inl f_t_sum)), (a_t_rest, .inl (cy 2, 65, .inl f_t_rest))] : va_W) ++ (rowsW (cy 2) rw_t B_t ++ ([] : va_W)))) (st2 := [.int r_1]) (i0 := 0) hx hb hml hown ht hK hP hD hS hA hC hR hl (kcX12_alike l D cy g a_t a_t_cells a_t_page a_t_digits a_t_found a_t_one a_t_other a_t_sum a_t_rest rw_t v_t_isWide B_t f_t_page v_t_pageMany f_t_digits v_t_many v_t_isMinus f_t_found f_t_one f_t_other f_t_sum f_t_rest p1 0 p2 k r_1 hr_1) (isZ [0, 1, 2, 3, 4, 5, 6, 7, 8] 9 8) q_1575 q_1523 q_1524 q_55 q_1525 hyX12_alike ⟨rfl, rfl, rfl⟩ ⟨Nat.le_of_ble_eq_true rfl, Nat.le_of_ble_eq_true rfl, Nat.le_of_ble_eq_true rfl, Nat.le_of_ble_eq_true rfl⟩ rfl (zcT rfl rfl rfl) (zeT rfl rfl) rfl (Nat.le_of_ble_eq_true rfl) dX12_leaves_4 (zwT (cx := [(a_t, .inr (8, [.int v_t_isWide, .ref a_t_cells, .ref a_t_page, .int v_t_pageMany, .ref a_t_digits, .int v_t_many, .int v_t_isMinus, .ref a_t_found, .ref a_t_one, .ref a_t_other, .ref a_t_sum, .ref a_t_rest])), (a_t_cells, .inl (cy 5, 8, .inr (.inr (.inr (.inr (fun j => some (rw_t j))))))), (a_t_page, .inl (cy 0, 66, .inl f_t_page)), (a_t_digits, .inl (cy 0, 64, .inl f_t_digits)), (a_t_found, .inl (cy 2, 64, .inl f_t_found)), (a_t_one, .inl (cy 2, 65, .inl f_t_one)), (a_t_other, .inl (cy 2, 65, .inl f_t_other)), (a_t_sum, .inl (cy 2, 65, .inl f_t_sum)), (a_t_rest, .inl (cy 2, 65, .inl f_t_rest))]) rfl rfl rfl rfl rfl rfl) rfl (fun H locs hP hD hS => ?_)
  refine lv_istore_n (lv' := [(3, .int r_1), (0, .ref a_t), (1, .int p1), (2, .int p2)]) hx hb dX12_leaves_7 rfl hl (by decide) rfl (fun ls hl => ?_)
  refine lv_aload_n hx hb dX12_leaves_8 rfl (lv_at hl 1 rfl) ?_
  refine va_get (D := D) (cl := classes) (ci := 8) (v := .ref a_t_sum) (C := RX12) (T := TX12) (N := 12) hx hb ht in_RX12 hown hK.1 hP 0 rfl rfl 10 (by decide) (ht _ q_1260) (fun _ h9 => h9) rfl dX12_leaves_9 ?_
  obtain ⟨r_2, hr_2, hm⟩ := hm_b hm
  refine k_SN (as := [.ref a_t_sum]) (rest := []) (ws' := (([(a_t, .inr (8, [.int v_t_isWide, .ref a_t_cells, .ref a_t_page, .int v_t_pageMany, .ref a_t_digits, .int v_t_many, .int v_t_isMinus, .ref a_t_found, .ref a_t_one, .ref a_t_other, .ref a_t_sum, .ref a_t_rest])), (a_t_cells, .inl (cy 5, 8, .inr (.inr (.inr (.inr (fun j => some (rw_t j))))))), (a_t_page, .inl (cy 0, 66, .inl f_t_page)), (a_t_digits, .inl (cy 0, 64, .inl f_t_digits)), (a_t_found, .inl (cy 2, 64, .inl f_t_found)), (a_t_one, .inl (cy 2, 65, .inl f_t_one)), (a_t_other, .inl (cy 2, 65, .inl f_t_other)), (a_t_sum, .inl (cy 2, 65, .inl r_2)), (a_t_rest, .inl (cy 2, 65, .inl f_t_rest))] : va_W) ++ (rowsW (cy 2) rw_t B_t ++ ([] : va_W)))) (st2 := []) hx hb hml hown ht hK hP hD hS hA hC hR hl (kcX13_clear l D cy g a_t_sum 65 f_t_sum k r_2 hr_2) [7] qn_1379 q_1422 q_54 q_1423 hyX13_clear ⟨Nat.le_of_ble_eq_true rfl, Nat.le_of_ble_eq_true rfl, Nat.le_of_ble_eq_true rfl, Nat.le_of_ble_eq_true rfl⟩ rfl (zq rfl) rfl rfl (Nat.le_of_ble_eq_true rfl) dX12_leaves_12 (zqw (cx := [(a_t_sum, .inl (cy 2, 65, .inl f_t_sum))]) rfl rfl) rfl (fun H locs hP hD hS => ?_)
  refine lv_iload_n hx hb dX12_leaves_15 rfl (lv_at hl 0 rfl) ?_
  refine lv_aload_n hx hb dX12_leaves_16 rfl (lv_at hl 1 rfl) ?_
  obtain ⟨r_3, hr_3, hm⟩ := hm_b hm
  refine k_V (as := []) (rest := [.int r_1]) (ws' := (([(a_t, .inr (8, [.int v_t_isWide, .ref a_t_cells, .ref a_t_page, .int v_t_pageMany, .ref a_t_digits, .int v_t_many, .int v_t_isMinus, .ref a_t_found, .ref a_t_one, .ref a_t_other, .ref a_t_sum, .ref a_t_rest])), (a_t_cells, .inl (cy 5, 8, .inr (.inr (.inr (.inr (fun j => some (rw_t j))))))), (a_t_page, .inl (cy 0, 66, .inl f_t_page)), (a_t_digits, .inl (cy 0, 64, .inl f_t_digits)), (a_t_found, .inl (cy 2, 64, .inl f_t_found)), (a_t_one, .inl (cy 2, 65, .inl f_t_one)), (a_t_other, .inl (cy 2, 65, .inl f_t_other)), (a_t_sum, .inl (cy 2, 65, .inl r_2)), (a_t_rest, .inl (cy 2, 65, .inl f_t_rest))] : va_W) ++ (rowsW (cy 2) rw_t B_t ++ ([] : va_W)))) (st2 := [.int r_3, .int r_1]) (i0 := 0) hx hb hml hown ht hK hP hD hS hA hC hR hl (kcX12_bits l D cy g a_t a_t_cells a_t_page a_t_digits a_t_found a_t_one a_t_other a_t_sum a_t_rest rw_t v_t_isWide B_t f_t_page v_t_pageMany f_t_digits v_t_many v_t_isMinus f_t_found f_t_one f_t_other r_2 f_t_rest r_3 hr_3) (isZ [0, 1, 2, 3, 4, 5, 6, 7, 8] 9 8) q_1354 q_1355 q_1356 q_55 q_1357 hyX12_bits ⟨rfl, rfl, rfl⟩ ⟨Nat.le_of_ble_eq_true rfl, Nat.le_of_ble_eq_true rfl, Nat.le_of_ble_eq_true rfl, Nat.le_of_ble_eq_true rfl⟩ rfl (zcT rfl rfl rfl) (zeT rfl rfl) rfl (Nat.le_of_ble_eq_true rfl) dX12_leaves_17 (zwT (cx := [(a_t, .inr (8, [.int v_t_isWide, .ref a_t_cells, .ref a_t_page, .int v_t_pageMany, .ref a_t_digits, .int v_t_many, .int v_t_isMinus, .ref a_t_found, .ref a_t_one, .ref a_t_other, .ref a_t_sum, .ref a_t_rest])), (a_t_cells, .inl (cy 5, 8, .inr (.inr (.inr (.inr (fun j => some (rw_t j))))))), (a_t_page, .inl (cy 0, 66, .inl f_t_page)), (a_t_digits, .inl (cy 0, 64, .inl f_t_digits)), (a_t_found, .inl (cy 2, 64, .inl f_t_found)), (a_t_one, .inl (cy 2, 65, .inl f_t_one)), (a_t_other, .inl (cy 2, 65, .inl f_t_other)), (a_t_sum, .inl (cy 2, 65, .inl r_2)), (a_t_rest, .inl (cy 2, 65, .inl f_t_rest))]) rfl rfl rfl rfl rfl rfl) rfl (fun H locs hP hD hS => ?_)
  obtain ⟨x_9, hreg, hm⟩ := hm_b hm
  have J45 : ∀ (H : Heap) (locs : List Loc) (ls : Array Slot), va_P D classes (([(a_t, .inr (8, [.int v_t_isWide, .ref a_t_cells, .ref a_t_page, .int v_t_pageMany, .ref a_t_digits, .int v_t_many, .int v_t_isMinus, .ref a_t_found, .ref a_t_one, .ref a_t_other, .ref a_t_sum, .ref a_t_rest])), (a_t_cells, .inl (cy 5, 8, .inr (.inr (.inr (.inr (fun j => some (rw_t j))))))), (a_t_page, .inl (cy 0, 66, .inl f_t_page)), (a_t_digits, .inl (cy 0, 64, .inl f_t_digits)), (a_t_found, .inl (cy 2, 64, .inl f_t_found)), (a_t_one, .inl (cy 2, 65, .inl f_t_one)), (a_t_other, .inl (cy 2, 65, .inl f_t_other)), (a_t_sum, .inl (cy 2, 65, .inl x_9)), (a_t_rest, .inl (cy 2, 65, .inl f_t_rest))] : va_W) ++ (rowsW (cy 2) rw_t B_t ++ ([] : va_W))) H → va_D A (([(a_t, .inr (8, [.int v_t_isWide, .ref a_t_cells, .ref a_t_page, .int v_t_pageMany, .ref a_t_digits, .int v_t_many, .int v_t_isMinus, .ref a_t_found, .ref a_t_one, .ref a_t_other, .ref a_t_sum, .ref a_t_rest])), (a_t_cells, .inl (cy 5, 8, .inr (.inr (.inr (.inr (fun j => some (rw_t j))))))), (a_t_page, .inl (cy 0, 66, .inl f_t_page)), (a_t_digits, .inl (cy 0, 64, .inl f_t_digits)), (a_t_found, .inl (cy 2, 64, .inl f_t_found)), (a_t_one, .inl (cy 2, 65, .inl f_t_one)), (a_t_other, .inl (cy 2, 65, .inl f_t_other)), (a_t_sum, .inl (cy 2, 65, .inl x_9)), (a_t_rest, .inl (cy 2, 65, .inl f_t_rest))] : va_W) ++ (rowsW (cy 2) rw_t B_t ++ ([] : va_W))) → va_S A s.heap H locs → lv_has ls 4 [(0, .ref a_t), (1, .int p1)] → W p l e RM s m ar below meth c H locs 0 0 (MQ below Qc ar s 0 0 A) (F0 m 45 ls []) := by
    intro H locs ls hP hD hS hl
    refine lv_aload_n hx hb dX12_leaves_45 rfl (lv_at hl 0 rfl) ?_
    refine lv_iload_n hx hb dX12_leaves_46 rfl (lv_at hl 1 rfl) ?_
    refine lv_aload_n hx hb dX12_leaves_47 rfl (lv_at hl 0 rfl) ?_
    refine va_get (D := D) (cl := classes) (ci := 8) (v := .ref a_t_sum) (C := RX12) (T := TX12) (N := 12) hx hb ht in_RX12 hown hK.1 hP 0 rfl rfl 10 (by decide) (ht _ q_1260) (fun _ h9 => h9) rfl dX12_leaves_48 ?_
    obtain ⟨r_10, hr_10, hm⟩ := hm_b hm
    refine k_V (as := [.int p1, .ref a_t_sum]) (rest := []) (ws' := (([(a_t, .inr (8, [.int v_t_isWide, .ref a_t_cells, .ref a_t_page, .int v_t_pageMany, .ref a_t_digits, .int v_t_many, .int v_t_isMinus, .ref a_t_found, .ref a_t_one, .ref a_t_other, .ref a_t_sum, .ref a_t_rest])), (a_t_cells, .inl (cy 5, 8, .inr (.inr (.inr (.inr (fun j => some (rw_t j))))))), (a_t_page, .inl (cy 0, 66, .inl f_t_page)), (a_t_digits, .inl (cy 0, 64, .inl f_t_digits)), (a_t_found, .inl (cy 2, 64, .inl f_t_found)), (a_t_one, .inl (cy 2, 65, .inl f_t_one)), (a_t_other, .inl (cy 2, 65, .inl f_t_other)), (a_t_sum, .inl (cy 2, 65, .inl x_9)), (a_t_rest, .inl (cy 2, 65, .inl f_t_rest))] : va_W) ++ (rowsW (cy 2) rw_t r_10.2 ++ ([] : va_W)))) (st2 := [.long r_10.1]) (i0 := 0) hx hb hml hown ht hK hP hD hS hA hC hR hl (kcX12_puts_sum l D cy g a_t a_t_cells a_t_page a_t_digits a_t_found a_t_one a_t_other a_t_sum a_t_rest rw_t v_t_isWide B_t f_t_page v_t_pageMany f_t_digits v_t_many v_t_isMinus f_t_found f_t_one f_t_other x_9 f_t_rest p1 k r_10 hr_10) (isZ [0, 1, 2, 3, 4, 5, 6, 7, 8] 9 8) q_1433 q_1435 q_18 q_55 q_1436 hyX12_puts ⟨rfl, rfl, rfl⟩ ⟨Nat.le_of_ble_eq_true rfl, Nat.le_of_ble_eq_true rfl, Nat.le_of_ble_eq_true rfl, Nat.le_of_ble_eq_true rfl⟩ rfl (zcT rfl rfl rfl) (zeT rfl rfl) rfl (Nat.le_of_ble_eq_true rfl) dX12_leaves_51 (zwT (cx := [(a_t, .inr (8, [.int v_t_isWide, .ref a_t_cells, .ref a_t_page, .int v_t_pageMany, .ref a_t_digits, .int v_t_many, .int v_t_isMinus, .ref a_t_found, .ref a_t_one, .ref a_t_other, .ref a_t_sum, .ref a_t_rest])), (a_t_cells, .inl (cy 5, 8, .inr (.inr (.inr (.inr (fun j => some (rw_t j))))))), (a_t_page, .inl (cy 0, 66, .inl f_t_page)), (a_t_digits, .inl (cy 0, 64, .inl f_t_digits)), (a_t_found, .inl (cy 2, 64, .inl f_t_found)), (a_t_one, .inl (cy 2, 65, .inl f_t_one)), (a_t_other, .inl (cy 2, 65, .inl f_t_other)), (a_t_sum, .inl (cy 2, 65, .inl x_9)), (a_t_rest, .inl (cy 2, 65, .inl f_t_rest))]) rfl rfl rfl rfl rfl rfl) rfl (fun H locs hP hD hS => ?_)
    obtain rfl := Option.some.inj hm
    exact k_lret hx hb hr hlocks hQc hP hS rfl rfl dX12_leaves_54
  replace hm := hreg
  refine lv_icmp_ge (tgt := 45) hx hb dX12_leaves_20 (by decide) (fun c_4 => ?_) (fun c_4 => ?_)
  · replace hm := hm_t c_4 hm
    obtain rfl := Option.some.inj hm
    exact J45 _ _ _ hP hD hS (lv_sub hl [1, 2] rfl)
  · replace hm := hm_f c_4 hm
    refine lv_aload_n hx hb dX12_leaves_23 rfl (lv_at hl 1 rfl) ?_
    refine va_get (D := D) (cl := classes) (ci := 8) (v := .ref a_t_sum) (C := RX12) (T := TX12) (N := 12) hx hb ht in_RX12 hown hK.1 hP 0 rfl rfl 10 (by decide) (ht _ q_1260) (fun _ h9 => h9) rfl dX12_leaves_24 ?_
    refine lv_iload_n hx hb dX12_leaves_27 rfl (lv_at hl 3 rfl) ?_
    obtain ⟨x_13, hreg, hm⟩ := hm_b hm
    have J43 : ∀ (H : Heap) (locs : List Loc) (ls : Array Slot), va_P D classes (([(a_t, .inr (8, [.int v_t_isWide, .ref a_t_cells, .ref a_t_page, .int v_t_pageMany, .ref a_t_digits, .int v_t_many, .int v_t_isMinus, .ref a_t_found, .ref a_t_one, .ref a_t_other, .ref a_t_sum, .ref a_t_rest])), (a_t_cells, .inl (cy 5, 8, .inr (.inr (.inr (.inr (fun j => some (rw_t j))))))), (a_t_page, .inl (cy 0, 66, .inl f_t_page)), (a_t_digits, .inl (cy 0, 64, .inl f_t_digits)), (a_t_found, .inl (cy 2, 64, .inl f_t_found)), (a_t_one, .inl (cy 2, 65, .inl f_t_one)), (a_t_other, .inl (cy 2, 65, .inl f_t_other)), (a_t_sum, .inl (cy 2, 65, .inl r_2)), (a_t_rest, .inl (cy 2, 65, .inl f_t_rest))] : va_W) ++ (rowsW (cy 2) rw_t B_t ++ ([] : va_W))) H → va_D A (([(a_t, .inr (8, [.int v_t_isWide, .ref a_t_cells, .ref a_t_page, .int v_t_pageMany, .ref a_t_digits, .int v_t_many, .int v_t_isMinus, .ref a_t_found, .ref a_t_one, .ref a_t_other, .ref a_t_sum, .ref a_t_rest])), (a_t_cells, .inl (cy 5, 8, .inr (.inr (.inr (.inr (fun j => some (rw_t j))))))), (a_t_page, .inl (cy 0, 66, .inl f_t_page)), (a_t_digits, .inl (cy 0, 64, .inl f_t_digits)), (a_t_found, .inl (cy 2, 64, .inl f_t_found)), (a_t_one, .inl (cy 2, 65, .inl f_t_one)), (a_t_other, .inl (cy 2, 65, .inl f_t_other)), (a_t_sum, .inl (cy 2, 65, .inl r_2)), (a_t_rest, .inl (cy 2, 65, .inl f_t_rest))] : va_W) ++ (rowsW (cy 2) rw_t B_t ++ ([] : va_W))) → va_S A s.heap H locs → lv_has ls 4 [(0, .ref a_t), (1, .int p1)] → W p l e RM s m ar below meth c H locs 0 0 (MQ below Qc ar s 0 0 A) (F0 m 43 ls [.int x_13, .ref a_t_sum]) := by
      intro H locs ls hP hD hS hl
      refine lv_iconst (v := 1) hx hb dX12_leaves_43 (by decide) ?_
      obtain ⟨hin, hm⟩ := hm_g hm
      refine va_zast hx hb hK.1 hP hD hS 7 2 rfl rfl hin dX12_leaves_44 (fun H locs hP hD hS => ?_)
      have hP : va_P D classes (([(a_t, .inr (8, [.int v_t_isWide, .ref a_t_cells, .ref a_t_page, .int v_t_pageMany, .ref a_t_digits, .int v_t_many, .int v_t_isMinus, .ref a_t_found, .ref a_t_one, .ref a_t_other, .ref a_t_sum, .ref a_t_rest])), (a_t_cells, .inl (cy 5, 8, .inr (.inr (.inr (.inr (fun j => some (rw_t j))))))), (a_t_page, .inl (cy 0, 66, .inl f_t_page)), (a_t_digits, .inl (cy 0, 64, .inl f_t_digits)), (a_t_found, .inl (cy 2, 64, .inl f_t_found)), (a_t_one, .inl (cy 2, 65, .inl f_t_one)), (a_t_other, .inl (cy 2, 65, .inl f_t_other)), (a_t_sum, .inl (cy 2, 65, .inl (upd r_2 x_13.toNatClampNeg (vp_nar .boolean 1)))), (a_t_rest, .inl (cy 2, 65, .inl f_t_rest))] : va_W) ++ (rowsW (cy 2) rw_t B_t ++ ([] : va_W))) H := hP
      have hD : va_D A (([(a_t, .inr (8, [.int v_t_isWide, .ref a_t_cells, .ref a_t_page, .int v_t_pageMany, .ref a_t_digits, .int v_t_many, .int v_t_isMinus, .ref a_t_found, .ref a_t_one, .ref a_t_other, .ref a_t_sum, .ref a_t_rest])), (a_t_cells, .inl (cy 5, 8, .inr (.inr (.inr (.inr (fun j => some (rw_t j))))))), (a_t_page, .inl (cy 0, 66, .inl f_t_page)), (a_t_digits, .inl (cy 0, 64, .inl f_t_digits)), (a_t_found, .inl (cy 2, 64, .inl f_t_found)), (a_t_one, .inl (cy 2, 65, .inl f_t_one)), (a_t_other, .inl (cy 2, 65, .inl f_t_other)), (a_t_sum, .inl (cy 2, 65, .inl (upd r_2 x_13.toNatClampNeg (vp_nar .boolean 1)))), (a_t_rest, .inl (cy 2, 65, .inl f_t_rest))] : va_W) ++ (rowsW (cy 2) rw_t B_t ++ ([] : va_W))) := hD
      obtain rfl := Option.some.inj hm
      exact J45 _ _ _ hP hD hS (lv_sub hl [0, 1] rfl)
    replace hm := hreg
    refine lv_if_eq (tgt := 42) hx hb dX12_leaves_28 (by decide) (fun c_11 => ?_) (fun c_11 => ?_)
    · replace hm := hm_t c_11 hm
      refine lv_iload_n hx hb dX12_leaves_42 rfl (lv_at hl 0 rfl) ?_
      obtain rfl := Option.some.inj hm
      exact J43 _ _ _ hP hD hS (lv_sub hl [1, 2] rfl)
    · replace hm := hm_f c_11 hm
      refine lv_aload_n hx hb dX12_leaves_31 rfl (lv_at hl 1 rfl) ?_
      obtain ⟨r_14, hr_14, hm⟩ := hm_b hm
      refine k_V (as := []) (rest := [.ref a_t_sum]) (ws' := (([(a_t, .inr (8, [.int v_t_isWide, .ref a_t_cells, .ref a_t_page, .int v_t_pageMany, .ref a_t_digits, .int v_t_many, .int v_t_isMinus, .ref a_t_found, .ref a_t_one, .ref a_t_other, .ref a_t_sum, .ref a_t_rest])), (a_t_cells, .inl (cy 5, 8, .inr (.inr (.inr (.inr (fun j => some (rw_t j))))))), (a_t_page, .inl (cy 0, 66, .inl f_t_page)), (a_t_digits, .inl (cy 0, 64, .inl f_t_digits)), (a_t_found, .inl (cy 2, 64, .inl f_t_found)), (a_t_one, .inl (cy 2, 65, .inl f_t_one)), (a_t_other, .inl (cy 2, 65, .inl f_t_other)), (a_t_sum, .inl (cy 2, 65, .inl r_2)), (a_t_rest, .inl (cy 2, 65, .inl f_t_rest))] : va_W) ++ (rowsW (cy 2) rw_t B_t ++ ([] : va_W)))) (st2 := [.int r_14, .ref a_t_sum]) (i0 := 0) hx hb hml hown ht hK hP hD hS hA hC hR hl (kcX12_bits l D cy g a_t a_t_cells a_t_page a_t_digits a_t_found a_t_one a_t_other a_t_sum a_t_rest rw_t v_t_isWide B_t f_t_page v_t_pageMany f_t_digits v_t_many v_t_isMinus f_t_found f_t_one f_t_other r_2 f_t_rest r_14 hr_14) (isZ [0, 1, 2, 3, 4, 5, 6, 7, 8] 9 8) q_1354 q_1355 q_1356 q_55 q_1357 hyX12_bits ⟨rfl, rfl, rfl⟩ ⟨Nat.le_of_ble_eq_true rfl, Nat.le_of_ble_eq_true rfl, Nat.le_of_ble_eq_true rfl, Nat.le_of_ble_eq_true rfl⟩ rfl (zcT rfl rfl rfl) (zeT rfl rfl) rfl (Nat.le_of_ble_eq_true rfl) dX12_leaves_32 (zwT (cx := [(a_t, .inr (8, [.int v_t_isWide, .ref a_t_cells, .ref a_t_page, .int v_t_pageMany, .ref a_t_digits, .int v_t_many, .int v_t_isMinus, .ref a_t_found, .ref a_t_one, .ref a_t_other, .ref a_t_sum, .ref a_t_rest])), (a_t_cells, .inl (cy 5, 8, .inr (.inr (.inr (.inr (fun j => some (rw_t j))))))), (a_t_page, .inl (cy 0, 66, .inl f_t_page)), (a_t_digits, .inl (cy 0, 64, .inl f_t_digits)), (a_t_found, .inl (cy 2, 64, .inl f_t_found)), (a_t_one, .inl (cy 2, 65, .inl f_t_one)), (a_t_other, .inl (cy 2, 65, .inl f_t_other)), (a_t_sum, .inl (cy 2, 65, .inl r_2)), (a_t_rest, .inl (cy 2, 65, .inl f_t_rest))]) rfl rfl rfl rfl rfl rfl) rfl (fun H locs hP hD hS => ?_)
      refine lv_iconst (v := 1) hx hb dX12_leaves_35 (by decide) ?_
      refine lv_isub hx hb dX12_leaves_36 ?_
      refine lv_iload_n hx hb dX12_leaves_37 rfl (lv_at hl 0 rfl) ?_
      refine lv_isub hx hb dX12_leaves_38 ?_
      refine lv_goto (tgt := 43) hx hb dX12_leaves_39 (by decide) ?_
      obtain rfl := Option.some.inj hm
      exact J43 _ _ _ hP hD hS (lv_sub hl [1, 2] rfl)
theorem dX12_spreads_0 : decode cX12_spreads 0 = .ok (.bipush 32, 2) := by decide +kernel
theorem dX12_spreads_2 : decode cX12_spreads 2 = .ok (.istore_n 2, 1) := by decide +kernel
theorem dX12_spreads_3 : decode cX12_spreads 3 = .ok (.iload_n 2, 1) := by decide +kernel
theorem dX12_spreads_4 : decode cX12_spreads 4 = .ok (.bipush 64, 2) := by decide +kernel
theorem dX12_spreads_6 : decode cX12_spreads 6 = .ok (.if_icmp .ge 18, 3) := by decide +kernel
theorem dX12_spreads_9 : decode cX12_spreads 9 = .ok (.aload_n 0, 1) := by decide +kernel
theorem dX12_spreads_10 : decode cX12_spreads 10 = .ok (.getfield 11, 3) := by decide +kernel
theorem dX12_spreads_13 : decode cX12_spreads 13 = .ok (.iload_n 1, 1) := by decide +kernel
theorem dX12_spreads_14 : decode cX12_spreads 14 = .ok (.aaload, 1) := by decide +kernel
theorem dX12_spreads_15 : decode cX12_spreads 15 = .ok (.iload_n 2, 1) := by decide +kernel
theorem dX12_spreads_16 : decode cX12_spreads 16 = .ok (.iconst 0, 1) := by decide +kernel
theorem dX12_spreads_17 : decode cX12_spreads 17 = .ok (.bastore, 1) := by decide +kernel
theorem dX12_spreads_18 : decode cX12_spreads 18 = .ok (.iinc 2 1, 3) := by decide +kernel
theorem dX12_spreads_21 : decode cX12_spreads 21 = .ok (.goto (-18), 3) := by decide +kernel
theorem dX12_spreads_24 : decode cX12_spreads 24 = .ok (.aload_n 0, 1) := by decide +kernel
theorem dX12_spreads_25 : decode cX12_spreads 25 = .ok (.iload_n 1, 1) := by decide +kernel
theorem dX12_spreads_26 : decode cX12_spreads 26 = .ok (.invokevirtual 67, 3) := by decide +kernel
theorem dX12_spreads_29 : decode cX12_spreads 29 = .ok (.lreturn, 1) := by decide +kernel
def mX12_spreads_L3 (p1 : Int32) : Nat → Int32 → (Nat → Nat → Int32) → Option ((Nat → Nat → Int32))
  | 0, _, _ => none
  | n_ + 1, y_7, y_8 => (if (64 : Int32) ≤ y_7 then some y_8 else (if p1 < 0 ∨ 8 ≤ p1.toNatClampNeg then none else (if y_7 < 0 ∨ 64 ≤ y_7.toNatClampNeg then none else (mX12_spreads_L3 p1 n_ (y_7 + 1) (upR y_8 p1.toNatClampNeg (upd (y_8 p1.toNatClampNeg) y_7.toNatClampNeg (vp_nar .boolean 0)))))))
def mX12_spreads (k : Nat) (v_t_isWide : Int32) (B_t : Nat → Nat → Int32) (p1 : Int32) : Option (Int64 × (Nat → Nat → Int32)) := ((mX12_spreads_L3 p1 k 32 B_t).bind (fun r_11 => ((mX12_number k v_t_isWide r_11 p1).bind (fun r_12 => some (r_12, r_11)))))
set_option maxHeartbeats 4000000 in
set_option maxRecDepth 100000 in
theorem kcX12_spreads (l : Launch) (D : va_G) (cy : Nat → ClassId) (g : Nat → Nat) (a_t : Nat) (a_t_cells : Nat) (a_t_page : Nat) (a_t_digits : Nat) (a_t_found : Nat) (a_t_one : Nat) (a_t_other : Nat) (a_t_sum : Nat) (a_t_rest : Nat) (rw_t : Nat → Nat) (v_t_isWide : Int32) (B_t : Nat → Nat → Int32) (f_t_page : Nat → Int32) (v_t_pageMany : Int32) (f_t_digits : Nat → Int32) (v_t_many : Int32) (v_t_isMinus : Int32) (f_t_found : Nat → Int32) (f_t_one : Nat → Int32) (f_t_other : Nat → Int32) (f_t_sum : Nat → Int32) (f_t_rest : Nat → Int32) (p1 : Int32) (k : Nat) (R : Int64 × (Nat → Nat → Int32)) (hm : mX12_spreads k v_t_isWide B_t p1 = some R) : Con l D cy g yX12_spreads cX12_spreads 3 (some .long) 3 62 0 0 [.ref a_t, .int p1] (([(a_t, .inr (8, [.int v_t_isWide, .ref a_t_cells, .ref a_t_page, .int v_t_pageMany, .ref a_t_digits, .int v_t_many, .int v_t_isMinus, .ref a_t_found, .ref a_t_one, .ref a_t_other, .ref a_t_sum, .ref a_t_rest])), (a_t_cells, .inl (cy 5, 8, .inr (.inr (.inr (.inr (fun j => some (rw_t j))))))), (a_t_page, .inl (cy 0, 66, .inl f_t_page)), (a_t_digits, .inl (cy 0, 64, .inl f_t_digits)), (a_t_found, .inl (cy 2, 64, .inl f_t_found)), (a_t_one, .inl (cy 2, 65, .inl f_t_one)), (a_t_other, .inl (cy 2, 65, .inl f_t_other)), (a_t_sum, .inl (cy 2, 65, .inl f_t_sum)), (a_t_rest, .inl (cy 2, 65, .inl f_t_rest))] : va_W) ++ (rowsW (cy 2) rw_t B_t ++ ([] : va_W))) (([(a_t, .inr (8, [.int v_t_isWide, .ref a_t_cells, .ref a_t_page, .int v_t_pageMany, .ref a_t_digits, .int v_t_many, .int v_t_isMinus, .ref a_t_found, .ref a_t_one, .ref a_t_other, .ref a_t_sum, .ref a_t_rest])), (a_t_cells, .inl (cy 5, 8, .inr (.inr (.inr (.inr (fun j => some (rw_t j))))))), (a_t_page, .inl (cy 0, 66, .inl f_t_page)), (a_t_digits, .inl (cy 0, 64, .inl f_t_digits)), (a_t_found, .inl (cy 2, 64, .inl f_t_found)), (a_t_one, .inl (cy 2, 65, .inl f_t_one)), (a_t_other, .inl (cy 2, 65, .inl f_t_other)), (a_t_sum, .inl (cy 2, 65, .inl f_t_sum)), (a_t_rest, .inl (cy 2, 65, .inl f_t_rest))] : va_W) ++ (rowsW (cy 2) rw_t R.2 ++ ([] : va_W))) (some (.long R.1)) := by
  refine Con.of (by decide +kernel) (Nat.le_of_ble_eq_true rfl) ?_
  intro p e RM s m ar below meth c A Qc ls hx hb hr hml hown hlocks hnm ht hK hP hD hS hA hR hC hQc hl
  have hown : s.vm.findClass RX12 = some m.cls := hown
  have hl : lv_has ls 3 [(0, .ref a_t), (1, .int p1)] := hl
  rw [mX12_spreads] at hm
  refine lv_bipush (v := 32) hx hb dX12_spreads_0 (by decide) ?_
  refine lv_istore_n (lv' := [(2, .int 32), (0, .ref a_t), (1, .int p1)]) hx hb dX12_spreads_2 rfl hl (by decide) rfl (fun ls hl => ?_)
  have L3 : ∀ (rr : (Nat → Nat → Int32)) (kk : ∀ (H : Heap) (locs : List Loc) (ls : Array Slot), va_P D classes (([(a_t, .inr (8, [.int v_t_isWide, .ref a_t_cells, .ref a_t_page, .int v_t_pageMany, .ref a_t_digits, .int v_t_many, .int v_t_isMinus, .ref a_t_found, .ref a_t_one, .ref a_t_other, .ref a_t_sum, .ref a_t_rest])), (a_t_cells, .inl (cy 5, 8, .inr (.inr (.inr (.inr (fun j => some (rw_t j))))))), (a_t_page, .inl (cy 0, 66, .inl f_t_page)), (a_t_digits, .inl (cy 0, 64, .inl f_t_digits)), (a_t_found, .inl (cy 2, 64, .inl f_t_found)), (a_t_one, .inl (cy 2, 65, .inl f_t_one)), (a_t_other, .inl (cy 2, 65, .inl f_t_other)), (a_t_sum, .inl (cy 2, 65, .inl f_t_sum)), (a_t_rest, .inl (cy 2, 65, .inl f_t_rest))] : va_W) ++ (rowsW (cy 2) rw_t rr ++ ([] : va_W))) H → va_D A (([(a_t, .inr (8, [.int v_t_isWide, .ref a_t_cells, .ref a_t_page, .int v_t_pageMany, .ref a_t_digits, .int v_t_many, .int v_t_isMinus, .ref a_t_found, .ref a_t_one, .ref a_t_other, .ref a_t_sum, .ref a_t_rest])), (a_t_cells, .inl (cy 5, 8, .inr (.inr (.inr (.inr (fun j => some (rw_t j))))))), (a_t_page, .inl (cy 0, 66, .inl f_t_page)), (a_t_digits, .inl (cy 0, 64, .inl f_t_digits)), (a_t_found, .inl (cy 2, 64, .inl f_t_found)), (a_t_one, .inl (cy 2, 65, .inl f_t_one)), (a_t_other, .inl (cy 2, 65, .inl f_t_other)), (a_t_sum, .inl (cy 2, 65, .inl f_t_sum)), (a_t_rest, .inl (cy 2, 65, .inl f_t_rest))] : va_W) ++ (rowsW (cy 2) rw_t rr ++ ([] : va_W))) → va_S A s.heap H locs → lv_has ls 3 [(0, .ref a_t), (1, .int p1)] → W p l e RM s m ar below meth c H locs 0 0 (MQ below Qc ar s 0 0 A) (F0 m 24 ls [])) (n_ : Nat), ∀ (y_7 : Int32) (y_8 : Nat → Nat → Int32), mX12_spreads_L3 p1 n_ y_7 y_8 = some rr → ∀ (H : Heap) (locs : List Loc) (ls : Array Slot), va_P D classes (([(a_t, .inr (8, [.int v_t_isWide, .ref a_t_cells, .ref a_t_page, .int v_t_pageMany, .ref a_t_digits, .int v_t_many, .int v_t_isMinus, .ref a_t_found, .ref a_t_one, .ref a_t_other, .ref a_t_sum, .ref a_t_rest])), (a_t_cells, .inl (cy 5, 8, .inr (.inr (.inr (.inr (fun j => some (rw_t j))))))), (a_t_page, .inl (cy 0, 66, .inl f_t_page)), (a_t_digits, .inl (cy 0, 64, .inl f_t_digits)), (a_t_found, .inl (cy 2, 64, .inl f_t_found)), (a_t_one, .inl (cy 2, 65, .inl f_t_one)), (a_t_other, .inl (cy 2, 65, .inl f_t_other)), (a_t_sum, .inl (cy 2, 65, .inl f_t_sum)), (a_t_rest, .inl (cy 2, 65, .inl f_t_rest))] : va_W) ++ (rowsW (cy 2) rw_t y_8 ++ ([] : va_W))) H → va_D A (([(a_t, .inr (8, [.int v_t_isWide, .ref a_t_cells, .ref a_t_page, .int v_t_pageMany, .ref a_t_digits, .int v_t_many, .int v_t_isMinus, .ref a_t_found, .ref a_t_one, .ref a_t_other, .ref a_t_sum, .ref a_t_rest])), (a_t_cells, .inl (cy 5, 8, .inr (.inr (.inr (.inr (fun j => some (rw_t j))))))), (a_t_page, .inl (cy 0, 66, .inl f_t_page)), (a_t_digits, .inl (cy 0, 64, .inl f_t_digits)), (a_t_found, .inl (cy 2, 64, .inl f_t_found)), (a_t_one, .inl (cy 2, 65, .inl f_t_one)), (a_t_other, .inl (cy 2, 65, .inl f_t_other)), (a_t_sum, .inl (cy 2, 65, .inl f_t_sum)), (a_t_rest, .inl (cy 2, 65, .inl f_t_rest))] : va_W) ++ (rowsW (cy 2) rw_t y_8 ++ ([] : va_W))) → va_S A s.heap H locs → lv_has ls 3 [(2, .int y_7), (0, .ref a_t), (1, .int p1)] → W p l e RM s m ar below meth c H locs 0 0 (MQ below Qc ar s 0 0 A) (F0 m 3 ls []) := by
    intro rr kk n_
    induction n_ with
    | zero => intro y_7 y_8 hm; rw [mX12_spreads_L3] at hm; cases hm
    | succ n_ ih =>
      intro y_7 y_8 hm H locs ls hP hD hS hl
      rw [mX12_spreads_L3] at hm
      refine lv_iload_n hx hb dX12_spreads_3 rfl (lv_at hl 0 rfl) ?_
      refine lv_bipush (v := 64) hx hb dX12_spreads_4 (by decide) ?_
      refine lv_icmp_ge (tgt := 24) hx hb dX12_spreads_6 (by decide) (fun c_9 => ?_) (fun c_9 => ?_)
      · replace hm := hm_t c_9 hm
        obtain rfl := Option.some.inj hm
        exact kk _ _ _ hP hD hS (lv_sub hl [1, 2] rfl)
      · replace hm := hm_f c_9 hm
        refine lv_aload_n hx hb dX12_spreads_9 rfl (lv_at hl 1 rfl) ?_
        refine va_get (D := D) (cl := classes) (ci := 8) (v := .ref a_t_cells) (C := RX12) (T := TX12) (N := 12) hx hb ht in_RX12 hown hK.1 hP 0 rfl rfl 1 (by decide) (ht _ q_1245) (fun _ h9 => h9) rfl dX12_spreads_10 ?_
        refine lv_iload_n hx hb dX12_spreads_13 rfl (lv_at hl 2 rfl) ?_
        obtain ⟨hin, hm⟩ := hm_g hm
        have hi_10 : p1.toNatClampNeg < 8 := Nat.not_le.mp (fun q => hin (Or.inr q))
        refine k_aldA hx hb hK.1 hP 1 5 rfl rfl hin dX12_spreads_14 ?_
        refine lv_iload_n hx hb dX12_spreads_15 rfl (lv_at hl 0 rfl) ?_
        refine lv_iconst (v := 0) hx hb dX12_spreads_16 (by decide) ?_
        obtain ⟨hin, hm⟩ := hm_g hm
        refine va_zast hx hb hK.1 hP hD hS (9 + p1.toNatClampNeg) 2 (row_get0 rfl hi_10) rfl hin dX12_spreads_17 (fun H locs hP hD hS => ?_)
        have hP : va_P D classes (([(a_t, .inr (8, [.int v_t_isWide, .ref a_t_cells, .ref a_t_page, .int v_t_pageMany, .ref a_t_digits, .int v_t_many, .int v_t_isMinus, .ref a_t_found, .ref a_t_one, .ref a_t_other, .ref a_t_sum, .ref a_t_rest])), (a_t_cells, .inl (cy 5, 8, .inr (.inr (.inr (.inr (fun j => some (rw_t j))))))), (a_t_page, .inl (cy 0, 66, .inl f_t_page)), (a_t_digits, .inl (cy 0, 64, .inl f_t_digits)), (a_t_found, .inl (cy 2, 64, .inl f_t_found)), (a_t_one, .inl (cy 2, 65, .inl f_t_one)), (a_t_other, .inl (cy 2, 65, .inl f_t_other)), (a_t_sum, .inl (cy 2, 65, .inl f_t_sum)), (a_t_rest, .inl (cy 2, 65, .inl f_t_rest))] : va_W) ++ (rowsW (cy 2) rw_t (upR y_8 p1.toNatClampNeg (upd (y_8 p1.toNatClampNeg) y_7.toNatClampNeg (vp_nar .boolean 0))) ++ ([] : va_W))) H := P_eq (row_set0 rfl hi_10) hP
        have hD : va_D A (([(a_t, .inr (8, [.int v_t_isWide, .ref a_t_cells, .ref a_t_page, .int v_t_pageMany, .ref a_t_digits, .int v_t_many, .int v_t_isMinus, .ref a_t_found, .ref a_t_one, .ref a_t_other, .ref a_t_sum, .ref a_t_rest])), (a_t_cells, .inl (cy 5, 8, .inr (.inr (.inr (.inr (fun j => some (rw_t j))))))), (a_t_page, .inl (cy 0, 66, .inl f_t_page)), (a_t_digits, .inl (cy 0, 64, .inl f_t_digits)), (a_t_found, .inl (cy 2, 64, .inl f_t_found)), (a_t_one, .inl (cy 2, 65, .inl f_t_one)), (a_t_other, .inl (cy 2, 65, .inl f_t_other)), (a_t_sum, .inl (cy 2, 65, .inl f_t_sum)), (a_t_rest, .inl (cy 2, 65, .inl f_t_rest))] : va_W) ++ (rowsW (cy 2) rw_t (upR y_8 p1.toNatClampNeg (upd (y_8 p1.toNatClampNeg) y_7.toNatClampNeg (vp_nar .boolean 0))) ++ ([] : va_W))) := D_eq (row_set0 rfl hi_10) hD
        refine lv_iinc (v := (y_7 + 1)) (lv' := [(2, .int (y_7 + 1)), (0, .ref a_t), (1, .int p1)]) hx hb dX12_spreads_18 hl (k := 0) rfl rfl (by decide) rfl (fun ls hl => ?_)
        refine lv_goto (tgt := 3) hx hb dX12_spreads_21 (by decide) ?_
        exact ih (y_7 + 1) (upR y_8 p1.toNatClampNeg (upd (y_8 p1.toNatClampNeg) y_7.toNatClampNeg (vp_nar .boolean 0))) hm _ _ _ hP hD hS (lv_sub hl [0, 1, 2] rfl)
  obtain ⟨r_11, hL, hm⟩ := hm_b hm
  refine L3 r_11 ?_ k 32 B_t hL _ _ _ hP hD hS (lv_sub hl [0, 1, 2] rfl)
  intro H locs ls hP hD hS hl
  refine lv_aload_n hx hb dX12_spreads_24 rfl (lv_at hl 0 rfl) ?_
  refine lv_iload_n hx hb dX12_spreads_25 rfl (lv_at hl 1 rfl) ?_
  obtain ⟨r_12, hr_12, hm⟩ := hm_b hm
  refine k_V (as := [.int p1]) (rest := []) (ws' := (([(a_t, .inr (8, [.int v_t_isWide, .ref a_t_cells, .ref a_t_page, .int v_t_pageMany, .ref a_t_digits, .int v_t_many, .int v_t_isMinus, .ref a_t_found, .ref a_t_one, .ref a_t_other, .ref a_t_sum, .ref a_t_rest])), (a_t_cells, .inl (cy 5, 8, .inr (.inr (.inr (.inr (fun j => some (rw_t j))))))), (a_t_page, .inl (cy 0, 66, .inl f_t_page)), (a_t_digits, .inl (cy 0, 64, .inl f_t_digits)), (a_t_found, .inl (cy 2, 64, .inl f_t_found)), (a_t_one, .inl (cy 2, 65, .inl f_t_one)), (a_t_other, .inl (cy 2, 65, .inl f_t_other)), (a_t_sum, .inl (cy 2, 65, .inl f_t_sum)), (a_t_rest, .inl (cy 2, 65, .inl f_t_rest))] : va_W) ++ (rowsW (cy 2) rw_t r_11 ++ ([] : va_W)))) (st2 := [.long r_12]) (i0 := 0) hx hb hml hown ht hK hP hD hS hA hC hR hl (kcX12_number l D cy g a_t a_t_cells a_t_page a_t_digits a_t_found a_t_one a_t_other a_t_sum a_t_rest rw_t v_t_isWide r_11 f_t_page v_t_pageMany f_t_digits v_t_many v_t_isMinus f_t_found f_t_one f_t_other f_t_sum f_t_rest p1 k r_12 hr_12) (isZ [0, 1, 2, 3, 4, 5, 6, 7, 8] 9 8) q_1437 q_1351 q_1352 q_55 q_1353 hyX12_number ⟨rfl, rfl, rfl⟩ ⟨Nat.le_of_ble_eq_true rfl, Nat.le_of_ble_eq_true rfl, Nat.le_of_ble_eq_true rfl, Nat.le_of_ble_eq_true rfl⟩ rfl (zcT rfl rfl rfl) (zeT rfl rfl) rfl (Nat.le_of_ble_eq_true rfl) dX12_spreads_26 (zwT (cx := [(a_t, .inr (8, [.int v_t_isWide, .ref a_t_cells, .ref a_t_page, .int v_t_pageMany, .ref a_t_digits, .int v_t_many, .int v_t_isMinus, .ref a_t_found, .ref a_t_one, .ref a_t_other, .ref a_t_sum, .ref a_t_rest])), (a_t_cells, .inl (cy 5, 8, .inr (.inr (.inr (.inr (fun j => some (rw_t j))))))), (a_t_page, .inl (cy 0, 66, .inl f_t_page)), (a_t_digits, .inl (cy 0, 64, .inl f_t_digits)), (a_t_found, .inl (cy 2, 64, .inl f_t_found)), (a_t_one, .inl (cy 2, 65, .inl f_t_one)), (a_t_other, .inl (cy 2, 65, .inl f_t_other)), (a_t_sum, .inl (cy 2, 65, .inl f_t_sum)), (a_t_rest, .inl (cy 2, 65, .inl f_t_rest))]) rfl rfl rfl rfl rfl rfl) rfl (fun H locs hP hD hS => ?_)
  obtain rfl := Option.some.inj hm
  exact k_lret hx hb hr hlocks hQc hP hS rfl rfl dX12_spreads_29
theorem dX12_multiplies_0 : decode cX12_multiplies 0 = .ok (.aload_n 0, 1) := by decide +kernel
theorem dX12_multiplies_1 : decode cX12_multiplies 1 = .ok (.getfield 33, 3) := by decide +kernel
theorem dX12_multiplies_4 : decode cX12_multiplies 4 = .ok (.invokestatic 79, 3) := by decide +kernel
theorem dX12_multiplies_7 : decode cX12_multiplies 7 = .ok (.iconst 0, 1) := by decide +kernel
theorem dX12_multiplies_8 : decode cX12_multiplies 8 = .ok (.istore_n 3, 1) := by decide +kernel
theorem dX12_multiplies_9 : decode cX12_multiplies 9 = .ok (.iload_n 3, 1) := by decide +kernel
theorem dX12_multiplies_10 : decode cX12_multiplies 10 = .ok (.aload_n 0, 1) := by decide +kernel
theorem dX12_multiplies_11 : decode cX12_multiplies 11 = .ok (.invokevirtual 59, 3) := by decide +kernel
theorem dX12_multiplies_14 : decode cX12_multiplies 14 = .ok (.if_icmp .ge 69, 3) := by decide +kernel
theorem dX12_multiplies_17 : decode cX12_multiplies 17 = .ok (.aload_n 2, 1) := by decide +kernel
theorem dX12_multiplies_18 : decode cX12_multiplies 18 = .ok (.iload_n 3, 1) := by decide +kernel
theorem dX12_multiplies_19 : decode cX12_multiplies 19 = .ok (.baload, 1) := by decide +kernel
theorem dX12_multiplies_20 : decode cX12_multiplies 20 = .ok (.ifCond .eq 57, 3) := by decide +kernel
theorem dX12_multiplies_23 : decode cX12_multiplies 23 = .ok (.aload_n 0, 1) := by decide +kernel
theorem dX12_multiplies_24 : decode cX12_multiplies 24 = .ok (.getfield 27, 3) := by decide +kernel
theorem dX12_multiplies_27 : decode cX12_multiplies 27 = .ok (.invokestatic 79, 3) := by decide +kernel
theorem dX12_multiplies_30 : decode cX12_multiplies 30 = .ok (.iload_n 3, 1) := by decide +kernel
theorem dX12_multiplies_31 : decode cX12_multiplies 31 = .ok (.istore 4, 2) := by decide +kernel
theorem dX12_multiplies_33 : decode cX12_multiplies 33 = .ok (.iload 4, 2) := by decide +kernel
theorem dX12_multiplies_35 : decode cX12_multiplies 35 = .ok (.aload_n 0, 1) := by decide +kernel
theorem dX12_multiplies_36 : decode cX12_multiplies 36 = .ok (.invokevirtual 59, 3) := by decide +kernel
theorem dX12_multiplies_39 : decode cX12_multiplies 39 = .ok (.if_icmp .ge 22, 3) := by decide +kernel
theorem dX12_multiplies_42 : decode cX12_multiplies 42 = .ok (.aload_n 0, 1) := by decide +kernel
theorem dX12_multiplies_43 : decode cX12_multiplies 43 = .ok (.getfield 27, 3) := by decide +kernel
theorem dX12_multiplies_46 : decode cX12_multiplies 46 = .ok (.iload 4, 2) := by decide +kernel
theorem dX12_multiplies_48 : decode cX12_multiplies 48 = .ok (.aload_n 1, 1) := by decide +kernel
theorem dX12_multiplies_49 : decode cX12_multiplies 49 = .ok (.iload 4, 2) := by decide +kernel
theorem dX12_multiplies_51 : decode cX12_multiplies 51 = .ok (.iload_n 3, 1) := by decide +kernel
theorem dX12_multiplies_52 : decode cX12_multiplies 52 = .ok (.isub, 1) := by decide +kernel
theorem dX12_multiplies_53 : decode cX12_multiplies 53 = .ok (.baload, 1) := by decide +kernel
theorem dX12_multiplies_54 : decode cX12_multiplies 54 = .ok (.bastore, 1) := by decide +kernel
theorem dX12_multiplies_55 : decode cX12_multiplies 55 = .ok (.iinc 4 1, 3) := by decide +kernel
theorem dX12_multiplies_58 : decode cX12_multiplies 58 = .ok (.goto (-25), 3) := by decide +kernel
theorem dX12_multiplies_61 : decode cX12_multiplies 61 = .ok (.aload_n 0, 1) := by decide +kernel
theorem dX12_multiplies_62 : decode cX12_multiplies 62 = .ok (.getfield 33, 3) := by decide +kernel
theorem dX12_multiplies_65 : decode cX12_multiplies 65 = .ok (.aload_n 0, 1) := by decide +kernel
theorem dX12_multiplies_66 : decode cX12_multiplies 66 = .ok (.getfield 27, 3) := by decide +kernel
theorem dX12_multiplies_69 : decode cX12_multiplies 69 = .ok (.aload_n 0, 1) := by decide +kernel
theorem dX12_multiplies_70 : decode cX12_multiplies 70 = .ok (.invokevirtual 59, 3) := by decide +kernel
theorem dX12_multiplies_73 : decode cX12_multiplies 73 = .ok (.iconst 0, 1) := by decide +kernel
theorem dX12_multiplies_74 : decode cX12_multiplies 74 = .ok (.invokestatic 127, 3) := by decide +kernel
theorem dX12_multiplies_77 : decode cX12_multiplies 77 = .ok (.iinc 3 1, 3) := by decide +kernel
theorem dX12_multiplies_80 : decode cX12_multiplies 80 = .ok (.goto (-71), 3) := by decide +kernel
theorem dX12_multiplies_83 : decode cX12_multiplies 83 = .ok (.return_, 1) := by decide +kernel
def mX12_multiplies_L33 (v_t_isWide : Int32) (y_39 : Int32) (B_t : Nat → Nat → Int32) (i1 : Nat) : Nat → Int32 → (Nat → Int32) → Option ((Nat → Int32))
  | 0, _, _ => none
  | n_ + 1, y_52, y_53 => ((mX12_bits v_t_isWide).bind (fun r_54 => (if r_54 ≤ y_52 then some y_53 else (if (y_52 - y_39) < 0 ∨ 64 ≤ (y_52 - y_39).toNatClampNeg then none else (if y_52 < 0 ∨ 65 ≤ y_52.toNatClampNeg then none else (mX12_multiplies_L33 v_t_isWide y_39 B_t i1 n_ (y_52 + 1) (upd y_53 y_52.toNatClampNeg (vp_nar .boolean ((B_t i1) (y_52 - y_39).toNatClampNeg)))))))))
def mX12_multiplies_L9 (v_t_isWide : Int32) (B_t : Nat → Nat → Int32) (i2 : Nat) (k : Nat) (i1 : Nat) : Nat → Int32 → (Nat → Int32) → (Nat → Int32) → Option ((Nat → Int32) × (Nat → Int32))
  | 0, _, _, _ => none
  | n_ + 1, y_39, y_40, y_41 => ((mX12_bits v_t_isWide).bind (fun r_42 => (if r_42 ≤ y_39 then some (y_40, y_41) else (if y_39 < 0 ∨ 64 ≤ y_39.toNatClampNeg then none else (if ((B_t i2) y_39.toNatClampNeg) = 0 then (mX12_multiplies_L9 v_t_isWide B_t i2 k i1 n_ (y_39 + 1) y_40 y_41) else ((mX13_clear k 65 y_40).bind (fun r_45 => ((mX12_multiplies_L33 v_t_isWide y_39 B_t i1 k y_39 r_45).bind (fun r_56 => ((mX12_bits v_t_isWide).bind (fun r_57 => ((mX13_adds k 65 65 y_41 r_56 r_57 0).bind (fun r_58 => (mX12_multiplies_L9 v_t_isWide B_t i2 k i1 n_ (y_39 + 1) r_56 r_58))))))))))))))
def mX12_multiplies (k : Nat) (v_t_isWide : Int32) (B_t : Nat → Nat → Int32) (f_t_one : Nat → Int32) (f_t_sum : Nat → Int32) (i1 : Nat) (i2 : Nat) : Option ((Nat → Int32) × (Nat → Int32)) := ((mX13_clear k 65 f_t_sum).bind (fun r_1 => ((mX12_multiplies_L9 v_t_isWide B_t i2 k i1 k 0 f_t_one r_1).bind (fun r_59 => some (r_59.1, r_59.2)))))
set_option maxHeartbeats 4000000 in
set_option maxRecDepth 100000 in
theorem kcX12_multiplies (l : Launch) (D : va_G) (cy : Nat → ClassId) (g : Nat → Nat) (a_t : Nat) (a_t_cells : Nat) (a_t_page : Nat) (a_t_digits : Nat) (a_t_found : Nat) (a_t_one : Nat) (a_t_other : Nat) (a_t_sum : Nat) (a_t_rest : Nat) (rw_t : Nat → Nat) (v_t_isWide : Int32) (B_t : Nat → Nat → Int32) (f_t_page : Nat → Int32) (v_t_pageMany : Int32) (f_t_digits : Nat → Int32) (v_t_many : Int32) (v_t_isMinus : Int32) (f_t_found : Nat → Int32) (f_t_one : Nat → Int32) (f_t_other : Nat → Int32) (f_t_sum : Nat → Int32) (f_t_rest : Nat → Int32) (i1 : Nat) (h_i1 : i1 < 8) (i2 : Nat) (h_i2 : i2 < 8) (k : Nat) (R : (Nat → Int32) × (Nat → Int32)) (hm : mX12_multiplies k v_t_isWide B_t f_t_one f_t_sum i1 i2 = some R) : Con l D cy g yX12_multiplies cX12_multiplies 5 none 1 27 0 0 [.ref a_t, .ref (rw_t i1), .ref (rw_t i2)] (([(a_t, .inr (8, [.int v_t_isWide, .ref a_t_cells, .ref a_t_page, .int v_t_pageMany, .ref a_t_digits, .int v_t_many, .int v_t_isMinus, .ref a_t_found, .ref a_t_one, .ref a_t_other, .ref a_t_sum, .ref a_t_rest])), (a_t_cells, .inl (cy 5, 8, .inr (.inr (.inr (.inr (fun j => some (rw_t j))))))), (a_t_page, .inl (cy 0, 66, .inl f_t_page)), (a_t_digits, .inl (cy 0, 64, .inl f_t_digits)), (a_t_found, .inl (cy 2, 64, .inl f_t_found)), (a_t_one, .inl (cy 2, 65, .inl f_t_one)), (a_t_other, .inl (cy 2, 65, .inl f_t_other)), (a_t_sum, .inl (cy 2, 65, .inl f_t_sum)), (a_t_rest, .inl (cy 2, 65, .inl f_t_rest))] : va_W) ++ (rowsW (cy 2) rw_t B_t ++ ([] : va_W))) (([(a_t, .inr (8, [.int v_t_isWide, .ref a_t_cells, .ref a_t_page, .int v_t_pageMany, .ref a_t_digits, .int v_t_many, .int v_t_isMinus, .ref a_t_found, .ref a_t_one, .ref a_t_other, .ref a_t_sum, .ref a_t_rest])), (a_t_cells, .inl (cy 5, 8, .inr (.inr (.inr (.inr (fun j => some (rw_t j))))))), (a_t_page, .inl (cy 0, 66, .inl f_t_page)), (a_t_digits, .inl (cy 0, 64, .inl f_t_digits)), (a_t_found, .inl (cy 2, 64, .inl f_t_found)), (a_t_one, .inl (cy 2, 65, .inl R.1)), (a_t_other, .inl (cy 2, 65, .inl f_t_other)), (a_t_sum, .inl (cy 2, 65, .inl R.2)), (a_t_rest, .inl (cy 2, 65, .inl f_t_rest))] : va_W) ++ (rowsW (cy 2) rw_t B_t ++ ([] : va_W))) none := by
  refine Con.of (by decide +kernel) (Nat.le_of_ble_eq_true rfl) ?_
  intro p e RM s m ar below meth c A Qc ls hx hb hr hml hown hlocks hnm ht hK hP hD hS hA hR hC hQc hl
  have hown : s.vm.findClass RX12 = some m.cls := hown
  have hl : lv_has ls 5 [(0, .ref a_t), (1, .ref (rw_t i1)), (2, .ref (rw_t i2))] := hl
  rw [mX12_multiplies] at hm
  refine lv_aload_n hx hb dX12_multiplies_0 rfl (lv_at hl 0 rfl) ?_
  refine va_get (D := D) (cl := classes) (ci := 8) (v := .ref a_t_sum) (C := RX12) (T := TX12) (N := 12) hx hb ht in_RX12 hown hK.1 hP 0 rfl rfl 10 (by decide) (ht _ q_1260) (fun _ h9 => h9) rfl dX12_multiplies_1 ?_
  obtain ⟨r_1, hr_1, hm⟩ := hm_b hm
  refine k_SN (as := [.ref a_t_sum]) (rest := []) (ws' := (([(a_t, .inr (8, [.int v_t_isWide, .ref a_t_cells, .ref a_t_page, .int v_t_pageMany, .ref a_t_digits, .int v_t_many, .int v_t_isMinus, .ref a_t_found, .ref a_t_one, .ref a_t_other, .ref a_t_sum, .ref a_t_rest])), (a_t_cells, .inl (cy 5, 8, .inr (.inr (.inr (.inr (fun j => some (rw_t j))))))), (a_t_page, .inl (cy 0, 66, .inl f_t_page)), (a_t_digits, .inl (cy 0, 64, .inl f_t_digits)), (a_t_found, .inl (cy 2, 64, .inl f_t_found)), (a_t_one, .inl (cy 2, 65, .inl f_t_one)), (a_t_other, .inl (cy 2, 65, .inl f_t_other)), (a_t_sum, .inl (cy 2, 65, .inl r_1)), (a_t_rest, .inl (cy 2, 65, .inl f_t_rest))] : va_W) ++ (rowsW (cy 2) rw_t B_t ++ ([] : va_W)))) (st2 := []) hx hb hml hown ht hK hP hD hS hA hC hR hl (kcX13_clear l D cy g a_t_sum 65 f_t_sum k r_1 hr_1) [7] qn_1379 q_1422 q_54 q_1423 hyX13_clear ⟨Nat.le_of_ble_eq_true rfl, Nat.le_of_ble_eq_true rfl, Nat.le_of_ble_eq_true rfl, Nat.le_of_ble_eq_true rfl⟩ rfl (zq rfl) rfl rfl (Nat.le_of_ble_eq_true rfl) dX12_multiplies_4 (zqw (cx := [(a_t_sum, .inl (cy 2, 65, .inl f_t_sum))]) rfl rfl) rfl (fun H locs hP hD hS => ?_)
  refine lv_iconst (v := 0) hx hb dX12_multiplies_7 (by decide) ?_
  refine lv_istore_n (lv' := [(3, .int 0), (0, .ref a_t), (1, .ref (rw_t i1)), (2, .ref (rw_t i2))]) hx hb dX12_multiplies_8 rfl hl (by decide) rfl (fun ls hl => ?_)
  have L9 : ∀ (rr : (Nat → Int32) × (Nat → Int32)) (kk : ∀ (H : Heap) (locs : List Loc) (ls : Array Slot), va_P D classes (([(a_t, .inr (8, [.int v_t_isWide, .ref a_t_cells, .ref a_t_page, .int v_t_pageMany, .ref a_t_digits, .int v_t_many, .int v_t_isMinus, .ref a_t_found, .ref a_t_one, .ref a_t_other, .ref a_t_sum, .ref a_t_rest])), (a_t_cells, .inl (cy 5, 8, .inr (.inr (.inr (.inr (fun j => some (rw_t j))))))), (a_t_page, .inl (cy 0, 66, .inl f_t_page)), (a_t_digits, .inl (cy 0, 64, .inl f_t_digits)), (a_t_found, .inl (cy 2, 64, .inl f_t_found)), (a_t_one, .inl (cy 2, 65, .inl rr.1)), (a_t_other, .inl (cy 2, 65, .inl f_t_other)), (a_t_sum, .inl (cy 2, 65, .inl rr.2)), (a_t_rest, .inl (cy 2, 65, .inl f_t_rest))] : va_W) ++ (rowsW (cy 2) rw_t B_t ++ ([] : va_W))) H → va_D A (([(a_t, .inr (8, [.int v_t_isWide, .ref a_t_cells, .ref a_t_page, .int v_t_pageMany, .ref a_t_digits, .int v_t_many, .int v_t_isMinus, .ref a_t_found, .ref a_t_one, .ref a_t_other, .ref a_t_sum, .ref a_t_rest])), (a_t_cells, .inl (cy 5, 8, .inr (.inr (.inr (.inr (fun j => some (rw_t j))))))), (a_t_page, .inl (cy 0, 66, .inl f_t_page)), (a_t_digits, .inl (cy 0, 64, .inl f_t_digits)), (a_t_found, .inl (cy 2, 64, .inl f_t_found)), (a_t_one, .inl (cy 2, 65, .inl rr.1)), (a_t_other, .inl (cy 2, 65, .inl f_t_other)), (a_t_sum, .inl (cy 2, 65, .inl rr.2)), (a_t_rest, .inl (cy 2, 65, .inl f_t_rest))] : va_W) ++ (rowsW (cy 2) rw_t B_t ++ ([] : va_W))) → va_S A s.heap H locs → lv_has ls 5 [] → W p l e RM s m ar below meth c H locs 0 0 (MQ below Qc ar s 0 0 A) (F0 m 83 ls [])) (n_ : Nat), ∀ (y_39 : Int32) (y_40 : Nat → Int32) (y_41 : Nat → Int32), mX12_multiplies_L9 v_t_isWide B_t i2 k i1 n_ y_39 y_40 y_41 = some rr → ∀ (H : Heap) (locs : List Loc) (ls : Array Slot), va_P D classes (([(a_t, .inr (8, [.int v_t_isWide, .ref a_t_cells, .ref a_t_page, .int v_t_pageMany, .ref a_t_digits, .int v_t_many, .int v_t_isMinus, .ref a_t_found, .ref a_t_one, .ref a_t_other, .ref a_t_sum, .ref a_t_rest])), (a_t_cells, .inl (cy 5, 8, .inr (.inr (.inr (.inr (fun j => some (rw_t j))))))), (a_t_page, .inl (cy 0, 66, .inl f_t_page)), (a_t_digits, .inl (cy 0, 64, .inl f_t_digits)), (a_t_found, .inl (cy 2, 64, .inl f_t_found)), (a_t_one, .inl (cy 2, 65, .inl y_40)), (a_t_other, .inl (cy 2, 65, .inl f_t_other)), (a_t_sum, .inl (cy 2, 65, .inl y_41)), (a_t_rest, .inl (cy 2, 65, .inl f_t_rest))] : va_W) ++ (rowsW (cy 2) rw_t B_t ++ ([] : va_W))) H → va_D A (([(a_t, .inr (8, [.int v_t_isWide, .ref a_t_cells, .ref a_t_page, .int v_t_pageMany, .ref a_t_digits, .int v_t_many, .int v_t_isMinus, .ref a_t_found, .ref a_t_one, .ref a_t_other, .ref a_t_sum, .ref a_t_rest])), (a_t_cells, .inl (cy 5, 8, .inr (.inr (.inr (.inr (fun j => some (rw_t j))))))), (a_t_page, .inl (cy 0, 66, .inl f_t_page)), (a_t_digits, .inl (cy 0, 64, .inl f_t_digits)), (a_t_found, .inl (cy 2, 64, .inl f_t_found)), (a_t_one, .inl (cy 2, 65, .inl y_40)), (a_t_other, .inl (cy 2, 65, .inl f_t_other)), (a_t_sum, .inl (cy 2, 65, .inl y_41)), (a_t_rest, .inl (cy 2, 65, .inl f_t_rest))] : va_W) ++ (rowsW (cy 2) rw_t B_t ++ ([] : va_W))) → va_S A s.heap H locs → lv_has ls 5 [(3, .int y_39), (0, .ref a_t), (1, .ref (rw_t i1)), (2, .ref (rw_t i2))] → W p l e RM s m ar below meth c H locs 0 0 (MQ below Qc ar s 0 0 A) (F0 m 9 ls []) := by
    intro rr kk n_
    induction n_ with
    | zero => intro y_39 y_40 y_41 hm; rw [mX12_multiplies_L9] at hm; cases hm
    | succ n_ ih =>
      intro y_39 y_40 y_41 hm H locs ls hP hD hS hl
      rw [mX12_multiplies_L9] at hm
      refine lv_iload_n hx hb dX12_multiplies_9 rfl (lv_at hl 0 rfl) ?_
      refine lv_aload_n hx hb dX12_multiplies_10 rfl (lv_at hl 1 rfl) ?_
      obtain ⟨r_42, hr_42, hm⟩ := hm_b hm
      refine k_V (as := []) (rest := [.int y_39]) (ws' := (([(a_t, .inr (8, [.int v_t_isWide, .ref a_t_cells, .ref a_t_page, .int v_t_pageMany, .ref a_t_digits, .int v_t_many, .int v_t_isMinus, .ref a_t_found, .ref a_t_one, .ref a_t_other, .ref a_t_sum, .ref a_t_rest])), (a_t_cells, .inl (cy 5, 8, .inr (.inr (.inr (.inr (fun j => some (rw_t j))))))), (a_t_page, .inl (cy 0, 66, .inl f_t_page)), (a_t_digits, .inl (cy 0, 64, .inl f_t_digits)), (a_t_found, .inl (cy 2, 64, .inl f_t_found)), (a_t_one, .inl (cy 2, 65, .inl y_40)), (a_t_other, .inl (cy 2, 65, .inl f_t_other)), (a_t_sum, .inl (cy 2, 65, .inl y_41)), (a_t_rest, .inl (cy 2, 65, .inl f_t_rest))] : va_W) ++ (rowsW (cy 2) rw_t B_t ++ ([] : va_W)))) (st2 := [.int r_42, .int y_39]) (i0 := 0) hx hb hml hown ht hK hP hD hS hA hC hR hl (kcX12_bits l D cy g a_t a_t_cells a_t_page a_t_digits a_t_found a_t_one a_t_other a_t_sum a_t_rest rw_t v_t_isWide B_t f_t_page v_t_pageMany f_t_digits v_t_many v_t_isMinus f_t_found y_40 f_t_other y_41 f_t_rest r_42 hr_42) (isZ [0, 1, 2, 3, 4, 5, 6, 7, 8] 9 8) q_1354 q_1355 q_1356 q_55 q_1357 hyX12_bits ⟨rfl, rfl, rfl⟩ ⟨Nat.le_of_ble_eq_true rfl, Nat.le_of_ble_eq_true rfl, Nat.le_of_ble_eq_true rfl, Nat.le_of_ble_eq_true rfl⟩ rfl (zcT rfl rfl rfl) (zeT rfl rfl) rfl (Nat.le_of_ble_eq_true rfl) dX12_multiplies_11 (zwT (cx := [(a_t, .inr (8, [.int v_t_isWide, .ref a_t_cells, .ref a_t_page, .int v_t_pageMany, .ref a_t_digits, .int v_t_many, .int v_t_isMinus, .ref a_t_found, .ref a_t_one, .ref a_t_other, .ref a_t_sum, .ref a_t_rest])), (a_t_cells, .inl (cy 5, 8, .inr (.inr (.inr (.inr (fun j => some (rw_t j))))))), (a_t_page, .inl (cy 0, 66, .inl f_t_page)), (a_t_digits, .inl (cy 0, 64, .inl f_t_digits)), (a_t_found, .inl (cy 2, 64, .inl f_t_found)), (a_t_one, .inl (cy 2, 65, .inl y_40)), (a_t_other, .inl (cy 2, 65, .inl f_t_other)), (a_t_sum, .inl (cy 2, 65, .inl y_41)), (a_t_rest, .inl (cy 2, 65, .inl f_t_rest))]) rfl rfl rfl rfl rfl rfl) rfl (fun H locs hP hD hS => ?_)
      refine lv_icmp_ge (tgt := 83) hx hb dX12_multiplies_14 (by decide) (fun c_43 => ?_) (fun c_43 => ?_)
      · replace hm := hm_t c_43 hm
        obtain rfl := Option.some.inj hm
        exact kk _ _ _ hP hD hS (lv_sub hl [] rfl)
      · replace hm := hm_f c_43 hm
        refine lv_aload_n hx hb dX12_multiplies_17 rfl (lv_at hl 3 rfl) ?_
        refine lv_iload_n hx hb dX12_multiplies_18 rfl (lv_at hl 0 rfl) ?_
        obtain ⟨hin, hm⟩ := hm_g hm
        refine va_zald hx hb hK.1 hP (9 + i2) 2 (row_get0 rfl h_i2) rfl hin dX12_multiplies_19 ?_
        refine lv_if_eq (tgt := 77) hx hb dX12_multiplies_20 (by decide) (fun c_44 => ?_) (fun c_44 => ?_)
        · replace hm := hm_t c_44 hm
          refine lv_iinc (v := (y_39 + 1)) (lv' := [(3, .int (y_39 + 1)), (0, .ref a_t), (1, .ref (rw_t i1)), (2, .ref (rw_t i2))]) hx hb dX12_multiplies_77 hl (k := 0) rfl rfl (by decide) rfl (fun ls hl => ?_)
          refine lv_goto (tgt := 9) hx hb dX12_multiplies_80 (by decide) ?_
          exact ih (y_39 + 1) y_40 y_41 hm _ _ _ hP hD hS (lv_sub hl [0, 1, 2, 3] rfl)
        · replace hm := hm_f c_44 hm
          refine lv_aload_n hx hb dX12_multiplies_23 rfl (lv_at hl 1 rfl) ?_
          refine va_get (D := D) (cl := classes) (ci := 8) (v := .ref a_t_one) (C := RX12) (T := TX12) (N := 12) hx hb ht in_RX12 hown hK.1 hP 0 rfl rfl 8 (by decide) (ht _ q_1258) (fun _ h9 => h9) rfl dX12_multiplies_24 ?_
          obtain ⟨r_45, hr_45, hm⟩ := hm_b hm
          refine k_SN (as := [.ref a_t_one]) (rest := []) (ws' := (([(a_t, .inr (8, [.int v_t_isWide, .ref a_t_cells, .ref a_t_page, .int v_t_pageMany, .ref a_t_digits, .int v_t_many, .int v_t_isMinus, .ref a_t_found, .ref a_t_one, .ref a_t_other, .ref a_t_sum, .ref a_t_rest])), (a_t_cells, .inl (cy 5, 8, .inr (.inr (.inr (.inr (fun j => some (rw_t j))))))), (a_t_page, .inl (cy 0, 66, .inl f_t_page)), (a_t_digits, .inl (cy 0, 64, .inl f_t_digits)), (a_t_found, .inl (cy 2, 64, .inl f_t_found)), (a_t_one, .inl (cy 2, 65, .inl r_45)), (a_t_other, .inl (cy 2, 65, .inl f_t_other)), (a_t_sum, .inl (cy 2, 65, .inl y_41)), (a_t_rest, .inl (cy 2, 65, .inl f_t_rest))] : va_W) ++ (rowsW (cy 2) rw_t B_t ++ ([] : va_W)))) (st2 := []) hx hb hml hown ht hK hP hD hS hA hC hR hl (kcX13_clear l D cy g a_t_one 65 y_40 k r_45 hr_45) [5] qn_1379 q_1422 q_54 q_1423 hyX13_clear ⟨Nat.le_of_ble_eq_true rfl, Nat.le_of_ble_eq_true rfl, Nat.le_of_ble_eq_true rfl, Nat.le_of_ble_eq_true rfl⟩ rfl (zq rfl) rfl rfl (Nat.le_of_ble_eq_true rfl) dX12_multiplies_27 (zqw (cx := [(a_t_one, .inl (cy 2, 65, .inl y_40))]) rfl rfl) rfl (fun H locs hP hD hS => ?_)
          refine lv_iload_n hx hb dX12_multiplies_30 rfl (lv_at hl 0 rfl) ?_
          refine lv_istore (lv' := [(4, .int y_39), (3, .int y_39), (0, .ref a_t), (1, .ref (rw_t i1)), (2, .ref (rw_t i2))]) hx hb dX12_multiplies_31 hl (by decide) rfl (fun ls hl => ?_)
          have L33 : ∀ (rr : (Nat → Int32)) (kk : ∀ (H : Heap) (locs : List Loc) (ls : Array Slot), va_P D classes (([(a_t, .inr (8, [.int v_t_isWide, .ref a_t_cells, .ref a_t_page, .int v_t_pageMany, .ref a_t_digits, .int v_t_many, .int v_t_isMinus, .ref a_t_found, .ref a_t_one, .ref a_t_other, .ref a_t_sum, .ref a_t_rest])), (a_t_cells, .inl (cy 5, 8, .inr (.inr (.inr (.inr (fun j => some (rw_t j))))))), (a_t_page, .inl (cy 0, 66, .inl f_t_page)), (a_t_digits, .inl (cy 0, 64, .inl f_t_digits)), (a_t_found, .inl (cy 2, 64, .inl f_t_found)), (a_t_one, .inl (cy 2, 65, .inl rr)), (a_t_other, .inl (cy 2, 65, .inl f_t_other)), (a_t_sum, .inl (cy 2, 65, .inl y_41)), (a_t_rest, .inl (cy 2, 65, .inl f_t_rest))] : va_W) ++ (rowsW (cy 2) rw_t B_t ++ ([] : va_W))) H → va_D A (([(a_t, .inr (8, [.int v_t_isWide, .ref a_t_cells, .ref a_t_page, .int v_t_pageMany, .ref a_t_digits, .int v_t_many, .int v_t_isMinus, .ref a_t_found, .ref a_t_one, .ref a_t_other, .ref a_t_sum, .ref a_t_rest])), (a_t_cells, .inl (cy 5, 8, .inr (.inr (.inr (.inr (fun j => some (rw_t j))))))), (a_t_page, .inl (cy 0, 66, .inl f_t_page)), (a_t_digits, .inl (cy 0, 64, .inl f_t_digits)), (a_t_found, .inl (cy 2, 64, .inl f_t_found)), (a_t_one, .inl (cy 2, 65, .inl rr)), (a_t_other, .inl (cy 2, 65, .inl f_t_other)), (a_t_sum, .inl (cy 2, 65, .inl y_41)), (a_t_rest, .inl (cy 2, 65, .inl f_t_rest))] : va_W) ++ (rowsW (cy 2) rw_t B_t ++ ([] : va_W))) → va_S A s.heap H locs → lv_has ls 5 [(3, .int y_39), (0, .ref a_t), (1, .ref (rw_t i1)), (2, .ref (rw_t i2))] → W p l e RM s m ar below meth c H locs 0 0 (MQ below Qc ar s 0 0 A) (F0 m 61 ls [])) (n_ : Nat), ∀ (y_52 : Int32) (y_53 : Nat → Int32), mX12_multiplies_L33 v_t_isWide y_39 B_t i1 n_ y_52 y_53 = some rr → ∀ (H : Heap) (locs : List Loc) (ls : Array Slot), va_P D classes (([(a_t, .inr (8, [.int v_t_isWide, .ref a_t_cells, .ref a_t_page, .int v_t_pageMany, .ref a_t_digits, .int v_t_many, .int v_t_isMinus, .ref a_t_found, .ref a_t_one, .ref a_t_other, .ref a_t_sum, .ref a_t_rest])), (a_t_cells, .inl (cy 5, 8, .inr (.inr (.inr (.inr (fun j => some (rw_t j))))))), (a_t_page, .inl (cy 0, 66, .inl f_t_page)), (a_t_digits, .inl (cy 0, 64, .inl f_t_digits)), (a_t_found, .inl (cy 2, 64, .inl f_t_found)), (a_t_one, .inl (cy 2, 65, .inl y_53)), (a_t_other, .inl (cy 2, 65, .inl f_t_other)), (a_t_sum, .inl (cy 2, 65, .inl y_41)), (a_t_rest, .inl (cy 2, 65, .inl f_t_rest))] : va_W) ++ (rowsW (cy 2) rw_t B_t ++ ([] : va_W))) H → va_D A (([(a_t, .inr (8, [.int v_t_isWide, .ref a_t_cells, .ref a_t_page, .int v_t_pageMany, .ref a_t_digits, .int v_t_many, .int v_t_isMinus, .ref a_t_found, .ref a_t_one, .ref a_t_other, .ref a_t_sum, .ref a_t_rest])), (a_t_cells, .inl (cy 5, 8, .inr (.inr (.inr (.inr (fun j => some (rw_t j))))))), (a_t_page, .inl (cy 0, 66, .inl f_t_page)), (a_t_digits, .inl (cy 0, 64, .inl f_t_digits)), (a_t_found, .inl (cy 2, 64, .inl f_t_found)), (a_t_one, .inl (cy 2, 65, .inl y_53)), (a_t_other, .inl (cy 2, 65, .inl f_t_other)), (a_t_sum, .inl (cy 2, 65, .inl y_41)), (a_t_rest, .inl (cy 2, 65, .inl f_t_rest))] : va_W) ++ (rowsW (cy 2) rw_t B_t ++ ([] : va_W))) → va_S A s.heap H locs → lv_has ls 5 [(4, .int y_52), (3, .int y_39), (0, .ref a_t), (1, .ref (rw_t i1)), (2, .ref (rw_t i2))] → W p l e RM s m ar below meth c H locs 0 0 (MQ below Qc ar s 0 0 A) (F0 m 33 ls []) := by
            intro rr kk n_
            induction n_ with
            | zero => intro y_52 y_53 hm; rw [mX12_multiplies_L33] at hm; cases hm
            | succ n_ ih =>
              intro y_52 y_53 hm H locs ls hP hD hS hl
              rw [mX12_multiplies_L33] at hm
              refine lv_iload hx hb dX12_multiplies_33 (lv_at hl 0 rfl) ?_
              refine lv_aload_n hx hb dX12_multiplies_35 rfl (lv_at hl 2 rfl) ?_
              obtain ⟨r_54, hr_54, hm⟩ := hm_b hm
              refine k_V (as := []) (rest := [.int y_52]) (ws' := (([(a_t, .inr (8, [.int v_t_isWide, .ref a_t_cells, .ref a_t_page, .int v_t_pageMany, .ref a_t_digits, .int v_t_many, .int v_t_isMinus, .ref a_t_found, .ref a_t_one, .ref a_t_other, .ref a_t_sum, .ref a_t_rest])), (a_t_cells, .inl (cy 5, 8, .inr (.inr (.inr (.inr (fun j => some (rw_t j))))))), (a_t_page, .inl (cy 0, 66, .inl f_t_page)), (a_t_digits, .inl (cy 0, 64, .inl f_t_digits)), (a_t_found, .inl (cy 2, 64, .inl f_t_found)), (a_t_one, .inl (cy 2, 65, .inl y_53)), (a_t_other, .inl (cy 2, 65, .inl f_t_other)), (a_t_sum, .inl (cy 2, 65, .inl y_41)), (a_t_rest, .inl (cy 2, 65, .inl f_t_rest))] : va_W) ++ (rowsW (cy 2) rw_t B_t ++ ([] : va_W)))) (st2 := [.int r_54, .int y_52]) (i0 := 0) hx hb hml hown ht hK hP hD hS hA hC hR hl (kcX12_bits l D cy g a_t a_t_cells a_t_page a_t_digits a_t_found a_t_one a_t_other a_t_sum a_t_rest rw_t v_t_isWide B_t f_t_page v_t_pageMany f_t_digits v_t_many v_t_isMinus f_t_found y_53 f_t_other y_41 f_t_rest r_54 hr_54) (isZ [0, 1, 2, 3, 4, 5, 6, 7, 8] 9 8) q_1354 q_1355 q_1356 q_55 q_1357 hyX12_bits ⟨rfl, rfl, rfl⟩ ⟨Nat.le_of_ble_eq_true rfl, Nat.le_of_ble_eq_true rfl, Nat.le_of_ble_eq_true rfl, Nat.le_of_ble_eq_true rfl⟩ rfl (zcT rfl rfl rfl) (zeT rfl rfl) rfl (Nat.le_of_ble_eq_true rfl) dX12_multiplies_36 (zwT (cx := [(a_t, .inr (8, [.int v_t_isWide, .ref a_t_cells, .ref a_t_page, .int v_t_pageMany, .ref a_t_digits, .int v_t_many, .int v_t_isMinus, .ref a_t_found, .ref a_t_one, .ref a_t_other, .ref a_t_sum, .ref a_t_rest])), (a_t_cells, .inl (cy 5, 8, .inr (.inr (.inr (.inr (fun j => some (rw_t j))))))), (a_t_page, .inl (cy 0, 66, .inl f_t_page)), (a_t_digits, .inl (cy 0, 64, .inl f_t_digits)), (a_t_found, .inl (cy 2, 64, .inl f_t_found)), (a_t_one, .inl (cy 2, 65, .inl y_53)), (a_t_other, .inl (cy 2, 65, .inl f_t_other)), (a_t_sum, .inl (cy 2, 65, .inl y_41)), (a_t_rest, .inl (cy 2, 65, .inl f_t_rest))]) rfl rfl rfl rfl rfl rfl) rfl (fun H locs hP hD hS => ?_)
              refine lv_icmp_ge (tgt := 61) hx hb dX12_multiplies_39 (by decide) (fun c_55 => ?_) (fun c_55 => ?_)
              · replace hm := hm_t c_55 hm
                obtain rfl := Option.some.inj hm
                exact kk _ _ _ hP hD hS (lv_sub hl [1, 2, 3, 4] rfl)
              · replace hm := hm_f c_55 hm
                refine lv_aload_n hx hb dX12_multiplies_42 rfl (lv_at hl 2 rfl) ?_
                refine va_get (D := D) (cl := classes) (ci := 8) (v := .ref a_t_one) (C := RX12) (T := TX12) (N := 12) hx hb ht in_RX12 hown hK.1 hP 0 rfl rfl 8 (by decide) (ht _ q_1258) (fun _ h9 => h9) rfl dX12_multiplies_43 ?_
                refine lv_iload hx hb dX12_multiplies_46 (lv_at hl 0 rfl) ?_
                refine lv_aload_n hx hb dX12_multiplies_48 rfl (lv_at hl 3 rfl) ?_
                refine lv_iload hx hb dX12_multiplies_49 (lv_at hl 0 rfl) ?_
                refine lv_iload_n hx hb dX12_multiplies_51 rfl (lv_at hl 1 rfl) ?_
                refine lv_isub hx hb dX12_multiplies_52 ?_
                obtain ⟨hin, hm⟩ := hm_g hm
                refine va_zald hx hb hK.1 hP (9 + i1) 2 (row_get0 rfl h_i1) rfl hin dX12_multiplies_53 ?_
                obtain ⟨hin, hm⟩ := hm_g hm
                refine va_zast hx hb hK.1 hP hD hS 5 2 rfl rfl hin dX12_multiplies_54 (fun H locs hP hD hS => ?_)
                have hP : va_P D classes (([(a_t, .inr (8, [.int v_t_isWide, .ref a_t_cells, .ref a_t_page, .int v_t_pageMany, .ref a_t_digits, .int v_t_many, .int v_t_isMinus, .ref a_t_found, .ref a_t_one, .ref a_t_other, .ref a_t_sum, .ref a_t_rest])), (a_t_cells, .inl (cy 5, 8, .inr (.inr (.inr (.inr (fun j => some (rw_t j))))))), (a_t_page, .inl (cy 0, 66, .inl f_t_page)), (a_t_digits, .inl (cy 0, 64, .inl f_t_digits)), (a_t_found, .inl (cy 2, 64, .inl f_t_found)), (a_t_one, .inl (cy 2, 65, .inl (upd y_53 y_52.toNatClampNeg (vp_nar .boolean ((B_t i1) (y_52 - y_39).toNatClampNeg))))), (a_t_other, .inl (cy 2, 65, .inl f_t_other)), (a_t_sum, .inl (cy 2, 65, .inl y_41)), (a_t_rest, .inl (cy 2, 65, .inl f_t_rest))] : va_W) ++ (rowsW (cy 2) rw_t B_t ++ ([] : va_W))) H := hP
                have hD : va_D A (([(a_t, .inr (8, [.int v_t_isWide, .ref a_t_cells, .ref a_t_page, .int v_t_pageMany, .ref a_t_digits, .int v_t_many, .int v_t_isMinus, .ref a_t_found, .ref a_t_one, .ref a_t_other, .ref a_t_sum, .ref a_t_rest])), (a_t_cells, .inl (cy 5, 8, .inr (.inr (.inr (.inr (fun j => some (rw_t j))))))), (a_t_page, .inl (cy 0, 66, .inl f_t_page)), (a_t_digits, .inl (cy 0, 64, .inl f_t_digits)), (a_t_found, .inl (cy 2, 64, .inl f_t_found)), (a_t_one, .inl (cy 2, 65, .inl (upd y_53 y_52.toNatClampNeg (vp_nar .boolean ((B_t i1) (y_52 - y_39).toNatClampNeg))))), (a_t_other, .inl (cy 2, 65, .inl f_t_other)), (a_t_sum, .inl (cy 2, 65, .inl y_41)), (a_t_rest, .inl (cy 2, 65, .inl f_t_rest))] : va_W) ++ (rowsW (cy 2) rw_t B_t ++ ([] : va_W))) := hD
                refine lv_iinc (v := (y_52 + 1)) (lv' := [(4, .int (y_52 + 1)), (3, .int y_39), (0, .ref a_t), (1, .ref (rw_t i1)), (2, .ref (rw_t i2))]) hx hb dX12_multiplies_55 hl (k := 0) rfl rfl (by decide) rfl (fun ls hl => ?_)
                refine lv_goto (tgt := 33) hx hb dX12_multiplies_58 (by decide) ?_
                exact ih (y_52 + 1) (upd y_53 y_52.toNatClampNeg (vp_nar .boolean ((B_t i1) (y_52 - y_39).toNatClampNeg))) hm _ _ _ hP hD hS (lv_sub hl [0, 1, 2, 3, 4] rfl)
          obtain ⟨r_56, hL, hm⟩ := hm_b hm
          refine L33 r_56 ?_ k y_39 r_45 hL _ _ _ hP hD hS (lv_sub hl [0, 1, 2, 3, 4] rfl)
          intro H locs ls hP hD hS hl
          refine lv_aload_n hx hb dX12_multiplies_61 rfl (lv_at hl 1 rfl) ?_
          refine va_get (D := D) (cl := classes) (ci := 8) (v := .ref a_t_sum) (C := RX12) (T := TX12) (N := 12) hx hb ht in_RX12 hown hK.1 hP 0 rfl rfl 10 (by decide) (ht _ q_1260) (fun _ h9 => h9) rfl dX12_multiplies_62 ?_
          refine lv_aload_n hx hb dX12_multiplies_65 rfl (lv_at hl 1 rfl) ?_
          refine va_get (D := D) (cl := classes) (ci := 8) (v := .ref a_t_one) (C := RX12) (T := TX12) (N := 12) hx hb ht in_RX12 hown hK.1 hP 0 rfl rfl 8 (by decide) (ht _ q_1258) (fun _ h9 => h9) rfl dX12_multiplies_66 ?_
          refine lv_aload_n hx hb dX12_multiplies_69 rfl (lv_at hl 1 rfl) ?_
          obtain ⟨r_57, hr_57, hm⟩ := hm_b hm
          refine k_V (as := []) (rest := [.ref a_t_one, .ref a_t_sum]) (ws' := (([(a_t, .inr (8, [.int v_t_isWide, .ref a_t_cells, .ref a_t_page, .int v_t_pageMany, .ref a_t_digits, .int v_t_many, .int v_t_isMinus, .ref a_t_found, .ref a_t_one, .ref a_t_other, .ref a_t_sum, .ref a_t_rest])), (a_t_cells, .inl (cy 5, 8, .inr (.inr (.inr (.inr (fun j => some (rw_t j))))))), (a_t_page, .inl (cy 0, 66, .inl f_t_page)), (a_t_digits, .inl (cy 0, 64, .inl f_t_digits)), (a_t_found, .inl (cy 2, 64, .inl f_t_found)), (a_t_one, .inl (cy 2, 65, .inl r_56)), (a_t_other, .inl (cy 2, 65, .inl f_t_other)), (a_t_sum, .inl (cy 2, 65, .inl y_41)), (a_t_rest, .inl (cy 2, 65, .inl f_t_rest))] : va_W) ++ (rowsW (cy 2) rw_t B_t ++ ([] : va_W)))) (st2 := [.int r_57, .ref a_t_one, .ref a_t_sum]) (i0 := 0) hx hb hml hown ht hK hP hD hS hA hC hR hl (kcX12_bits l D cy g a_t a_t_cells a_t_page a_t_digits a_t_found a_t_one a_t_other a_t_sum a_t_rest rw_t v_t_isWide B_t f_t_page v_t_pageMany f_t_digits v_t_many v_t_isMinus f_t_found r_56 f_t_other y_41 f_t_rest r_57 hr_57) (isZ [0, 1, 2, 3, 4, 5, 6, 7, 8] 9 8) q_1354 q_1355 q_1356 q_55 q_1357 hyX12_bits ⟨rfl, rfl, rfl⟩ ⟨Nat.le_of_ble_eq_true rfl, Nat.le_of_ble_eq_true rfl, Nat.le_of_ble_eq_true rfl, Nat.le_of_ble_eq_true rfl⟩ rfl (zcT rfl rfl rfl) (zeT rfl rfl) rfl (Nat.le_of_ble_eq_true rfl) dX12_multiplies_70 (zwT (cx := [(a_t, .inr (8, [.int v_t_isWide, .ref a_t_cells, .ref a_t_page, .int v_t_pageMany, .ref a_t_digits, .int v_t_many, .int v_t_isMinus, .ref a_t_found, .ref a_t_one, .ref a_t_other, .ref a_t_sum, .ref a_t_rest])), (a_t_cells, .inl (cy 5, 8, .inr (.inr (.inr (.inr (fun j => some (rw_t j))))))), (a_t_page, .inl (cy 0, 66, .inl f_t_page)), (a_t_digits, .inl (cy 0, 64, .inl f_t_digits)), (a_t_found, .inl (cy 2, 64, .inl f_t_found)), (a_t_one, .inl (cy 2, 65, .inl r_56)), (a_t_other, .inl (cy 2, 65, .inl f_t_other)), (a_t_sum, .inl (cy 2, 65, .inl y_41)), (a_t_rest, .inl (cy 2, 65, .inl f_t_rest))]) rfl rfl rfl rfl rfl rfl) rfl (fun H locs hP hD hS => ?_)
          refine lv_iconst (v := 0) hx hb dX12_multiplies_73 (by decide) ?_
          obtain ⟨r_58, hr_58, hm⟩ := hm_b hm
          refine k_SN (as := [.ref a_t_sum, .ref a_t_one, .int r_57, .int 0]) (rest := []) (ws' := (([(a_t, .inr (8, [.int v_t_isWide, .ref a_t_cells, .ref a_t_page, .int v_t_pageMany, .ref a_t_digits, .int v_t_many, .int v_t_isMinus, .ref a_t_found, .ref a_t_one, .ref a_t_other, .ref a_t_sum, .ref a_t_rest])), (a_t_cells, .inl (cy 5, 8, .inr (.inr (.inr (.inr (fun j => some (rw_t j))))))), (a_t_page, .inl (cy 0, 66, .inl f_t_page)), (a_t_digits, .inl (cy 0, 64, .inl f_t_digits)), (a_t_found, .inl (cy 2, 64, .inl f_t_found)), (a_t_one, .inl (cy 2, 65, .inl r_56)), (a_t_other, .inl (cy 2, 65, .inl f_t_other)), (a_t_sum, .inl (cy 2, 65, .inl r_58)), (a_t_rest, .inl (cy 2, 65, .inl f_t_rest))] : va_W) ++ (rowsW (cy 2) rw_t B_t ++ ([] : va_W)))) (st2 := []) hx hb hml hown ht hK hP hD hS hA hC hR hl (kcX13_adds l D cy g a_t_sum a_t_one 65 65 y_41 r_56 r_57 0 k r_58 hr_58) [7, 5] qn_1554 q_1597 q_54 q_1598 hyX13_adds ⟨Nat.le_of_ble_eq_true rfl, Nat.le_of_ble_eq_true rfl, Nat.le_of_ble_eq_true rfl, Nat.le_of_ble_eq_true rfl⟩ rfl (zq rfl) rfl rfl (Nat.le_of_ble_eq_true rfl) dX12_multiplies_74 (zqw (cx := [(a_t_sum, .inl (cy 2, 65, .inl y_41)), (a_t_one, .inl (cy 2, 65, .inl r_56))]) rfl rfl) rfl (fun H locs hP hD hS => ?_)
          refine lv_iinc (v := (y_39 + 1)) (lv' := [(3, .int (y_39 + 1)), (0, .ref a_t), (1, .ref (rw_t i1)), (2, .ref (rw_t i2))]) hx hb dX12_multiplies_77 hl (k := 0) rfl rfl (by decide) rfl (fun ls hl => ?_)
          refine lv_goto (tgt := 9) hx hb dX12_multiplies_80 (by decide) ?_
          exact ih (y_39 + 1) r_56 r_58 hm _ _ _ hP hD hS (lv_sub hl [0, 1, 2, 3] rfl)
  obtain ⟨r_59, hL, hm⟩ := hm_b hm
  refine L9 r_59 ?_ k 0 f_t_one r_1 hL _ _ _ hP hD hS (lv_sub hl [0, 1, 2, 3] rfl)
  intro H locs ls hP hD hS hl
  obtain rfl := Option.some.inj hm
  exact k_vret hx hb hr hlocks hQc hP hS rfl rfl dX12_multiplies_83
theorem dX12_combines_0 : decode cX12_combines 0 = .ok (.aload_n 0, 1) := by decide +kernel
theorem dX12_combines_1 : decode cX12_combines 1 = .ok (.getfield 11, 3) := by decide +kernel
theorem dX12_combines_4 : decode cX12_combines 4 = .ok (.iload_n 1, 1) := by decide +kernel
theorem dX12_combines_5 : decode cX12_combines 5 = .ok (.aaload, 1) := by decide +kernel
theorem dX12_combines_6 : decode cX12_combines 6 = .ok (.astore 4, 2) := by decide +kernel
theorem dX12_combines_8 : decode cX12_combines 8 = .ok (.aload_n 0, 1) := by decide +kernel
theorem dX12_combines_9 : decode cX12_combines 9 = .ok (.getfield 11, 3) := by decide +kernel
theorem dX12_combines_12 : decode cX12_combines 12 = .ok (.iload_n 2, 1) := by decide +kernel
theorem dX12_combines_13 : decode cX12_combines 13 = .ok (.aaload, 1) := by decide +kernel
theorem dX12_combines_14 : decode cX12_combines 14 = .ok (.astore 5, 2) := by decide +kernel
theorem dX12_combines_16 : decode cX12_combines 16 = .ok (.aload 4, 2) := by decide +kernel
theorem dX12_combines_18 : decode cX12_combines 18 = .ok (.aload_n 0, 1) := by decide +kernel
theorem dX12_combines_19 : decode cX12_combines 19 = .ok (.getfield 33, 3) := by decide +kernel
theorem dX12_combines_22 : decode cX12_combines 22 = .ok (.aload_n 0, 1) := by decide +kernel
theorem dX12_combines_23 : decode cX12_combines 23 = .ok (.invokevirtual 59, 3) := by decide +kernel
theorem dX12_combines_26 : decode cX12_combines 26 = .ok (.invokestatic 43, 3) := by decide +kernel
theorem dX12_combines_29 : decode cX12_combines 29 = .ok (.iload_n 3, 1) := by decide +kernel
theorem dX12_combines_30 : decode cX12_combines 30 = .ok (.ifCond .eq 8, 3) := by decide +kernel
theorem dX12_combines_33 : decode cX12_combines 33 = .ok (.iload_n 3, 1) := by decide +kernel
theorem dX12_combines_34 : decode cX12_combines 34 = .ok (.iconst 1, 1) := by decide +kernel
theorem dX12_combines_35 : decode cX12_combines 35 = .ok (.if_icmp .ne 29, 3) := by decide +kernel
theorem dX12_combines_38 : decode cX12_combines 38 = .ok (.aload_n 0, 1) := by decide +kernel
theorem dX12_combines_39 : decode cX12_combines 39 = .ok (.getfield 33, 3) := by decide +kernel
theorem dX12_combines_42 : decode cX12_combines 42 = .ok (.aload 5, 2) := by decide +kernel
theorem dX12_combines_44 : decode cX12_combines 44 = .ok (.aload_n 0, 1) := by decide +kernel
theorem dX12_combines_45 : decode cX12_combines 45 = .ok (.invokevirtual 59, 3) := by decide +kernel
theorem dX12_combines_48 : decode cX12_combines 48 = .ok (.iload_n 3, 1) := by decide +kernel
theorem dX12_combines_49 : decode cX12_combines 49 = .ok (.iconst 1, 1) := by decide +kernel
theorem dX12_combines_50 : decode cX12_combines 50 = .ok (.if_icmp .ne 7, 3) := by decide +kernel
theorem dX12_combines_53 : decode cX12_combines 53 = .ok (.iconst 1, 1) := by decide +kernel
theorem dX12_combines_54 : decode cX12_combines 54 = .ok (.goto 4, 3) := by decide +kernel
theorem dX12_combines_57 : decode cX12_combines 57 = .ok (.iconst 0, 1) := by decide +kernel
theorem dX12_combines_58 : decode cX12_combines 58 = .ok (.invokestatic 127, 3) := by decide +kernel
theorem dX12_combines_61 : decode cX12_combines 61 = .ok (.goto 120, 3) := by decide +kernel
theorem dX12_combines_64 : decode cX12_combines 64 = .ok (.iload_n 3, 1) := by decide +kernel
theorem dX12_combines_65 : decode cX12_combines 65 = .ok (.iconst 2, 1) := by decide +kernel
theorem dX12_combines_66 : decode cX12_combines 66 = .ok (.if_icmp .ne 14, 3) := by decide +kernel
theorem dX12_combines_69 : decode cX12_combines 69 = .ok (.aload_n 0, 1) := by decide +kernel
theorem dX12_combines_70 : decode cX12_combines 70 = .ok (.aload 4, 2) := by decide +kernel
theorem dX12_combines_72 : decode cX12_combines 72 = .ok (.aload 5, 2) := by decide +kernel
theorem dX12_combines_74 : decode cX12_combines 74 = .ok (.invokevirtual 131, 3) := by decide +kernel
theorem dX12_combines_77 : decode cX12_combines 77 = .ok (.goto 104, 3) := by decide +kernel
theorem dX12_combines_80 : decode cX12_combines 80 = .ok (.iconst 0, 1) := by decide +kernel
theorem dX12_combines_81 : decode cX12_combines 81 = .ok (.istore 6, 2) := by decide +kernel
theorem dX12_combines_83 : decode cX12_combines 83 = .ok (.iload 6, 2) := by decide +kernel
theorem dX12_combines_85 : decode cX12_combines 85 = .ok (.aload_n 0, 1) := by decide +kernel
theorem dX12_combines_86 : decode cX12_combines 86 = .ok (.invokevirtual 59, 3) := by decide +kernel
theorem dX12_combines_89 : decode cX12_combines 89 = .ok (.if_icmp .ge 92, 3) := by decide +kernel
theorem dX12_combines_92 : decode cX12_combines 92 = .ok (.aload_n 0, 1) := by decide +kernel
theorem dX12_combines_93 : decode cX12_combines 93 = .ok (.getfield 33, 3) := by decide +kernel
theorem dX12_combines_96 : decode cX12_combines 96 = .ok (.iload 6, 2) := by decide +kernel
theorem dX12_combines_98 : decode cX12_combines 98 = .ok (.iload_n 3, 1) := by decide +kernel
theorem dX12_combines_99 : decode cX12_combines 99 = .ok (.iconst 3, 1) := by decide +kernel
theorem dX12_combines_100 : decode cX12_combines 100 = .ok (.if_icmp .ne 27, 3) := by decide +kernel
theorem dX12_combines_103 : decode cX12_combines 103 = .ok (.aload 4, 2) := by decide +kernel
theorem dX12_combines_105 : decode cX12_combines 105 = .ok (.iload 6, 2) := by decide +kernel
theorem dX12_combines_107 : decode cX12_combines 107 = .ok (.baload, 1) := by decide +kernel
theorem dX12_combines_108 : decode cX12_combines 108 = .ok (.ifCond .eq 15, 3) := by decide +kernel
theorem dX12_combines_111 : decode cX12_combines 111 = .ok (.aload 5, 2) := by decide +kernel
theorem dX12_combines_113 : decode cX12_combines 113 = .ok (.iload 6, 2) := by decide +kernel
theorem dX12_combines_115 : decode cX12_combines 115 = .ok (.baload, 1) := by decide +kernel
theorem dX12_combines_116 : decode cX12_combines 116 = .ok (.ifCond .eq 7, 3) := by decide +kernel
theorem dX12_combines_119 : decode cX12_combines 119 = .ok (.iconst 1, 1) := by decide +kernel
theorem dX12_combines_120 : decode cX12_combines 120 = .ok (.goto 54, 3) := by decide +kernel
theorem dX12_combines_123 : decode cX12_combines 123 = .ok (.iconst 0, 1) := by decide +kernel
theorem dX12_combines_124 : decode cX12_combines 124 = .ok (.goto 50, 3) := by decide +kernel
theorem dX12_combines_127 : decode cX12_combines 127 = .ok (.iload_n 3, 1) := by decide +kernel
theorem dX12_combines_128 : decode cX12_combines 128 = .ok (.iconst 4, 1) := by decide +kernel
theorem dX12_combines_129 : decode cX12_combines 129 = .ok (.if_icmp .ne 27, 3) := by decide +kernel
theorem dX12_combines_132 : decode cX12_combines 132 = .ok (.aload 4, 2) := by decide +kernel
theorem dX12_combines_134 : decode cX12_combines 134 = .ok (.iload 6, 2) := by decide +kernel
theorem dX12_combines_136 : decode cX12_combines 136 = .ok (.baload, 1) := by decide +kernel
theorem dX12_combines_137 : decode cX12_combines 137 = .ok (.ifCond .ne 11, 3) := by decide +kernel
theorem dX12_combines_140 : decode cX12_combines 140 = .ok (.aload 5, 2) := by decide +kernel
theorem dX12_combines_142 : decode cX12_combines 142 = .ok (.iload 6, 2) := by decide +kernel
theorem dX12_combines_144 : decode cX12_combines 144 = .ok (.baload, 1) := by decide +kernel
theorem dX12_combines_145 : decode cX12_combines 145 = .ok (.ifCond .eq 7, 3) := by decide +kernel
theorem dX12_combines_148 : decode cX12_combines 148 = .ok (.iconst 1, 1) := by decide +kernel
theorem dX12_combines_149 : decode cX12_combines 149 = .ok (.goto 25, 3) := by decide +kernel
theorem dX12_combines_152 : decode cX12_combines 152 = .ok (.iconst 0, 1) := by decide +kernel
theorem dX12_combines_153 : decode cX12_combines 153 = .ok (.goto 21, 3) := by decide +kernel
theorem dX12_combines_156 : decode cX12_combines 156 = .ok (.aload 4, 2) := by decide +kernel
theorem dX12_combines_158 : decode cX12_combines 158 = .ok (.iload 6, 2) := by decide +kernel
theorem dX12_combines_160 : decode cX12_combines 160 = .ok (.baload, 1) := by decide +kernel
theorem dX12_combines_161 : decode cX12_combines 161 = .ok (.aload 5, 2) := by decide +kernel
theorem dX12_combines_163 : decode cX12_combines 163 = .ok (.iload 6, 2) := by decide +kernel
theorem dX12_combines_165 : decode cX12_combines 165 = .ok (.baload, 1) := by decide +kernel
theorem dX12_combines_166 : decode cX12_combines 166 = .ok (.if_icmp .eq 7, 3) := by decide +kernel
theorem dX12_combines_169 : decode cX12_combines 169 = .ok (.iconst 1, 1) := by decide +kernel
theorem dX12_combines_170 : decode cX12_combines 170 = .ok (.goto 4, 3) := by decide +kernel
theorem dX12_combines_173 : decode cX12_combines 173 = .ok (.iconst 0, 1) := by decide +kernel
theorem dX12_combines_174 : decode cX12_combines 174 = .ok (.bastore, 1) := by decide +kernel
theorem dX12_combines_175 : decode cX12_combines 175 = .ok (.iinc 6 1, 3) := by decide +kernel
theorem dX12_combines_178 : decode cX12_combines 178 = .ok (.goto (-95), 3) := by decide +kernel
theorem dX12_combines_181 : decode cX12_combines 181 = .ok (.aload_n 0, 1) := by decide +kernel
theorem dX12_combines_182 : decode cX12_combines 182 = .ok (.iload_n 1, 1) := by decide +kernel
theorem dX12_combines_183 : decode cX12_combines 183 = .ok (.aload_n 0, 1) := by decide +kernel
theorem dX12_combines_184 : decode cX12_combines 184 = .ok (.getfield 33, 3) := by decide +kernel
theorem dX12_combines_187 : decode cX12_combines 187 = .ok (.invokevirtual 75, 3) := by decide +kernel
theorem dX12_combines_190 : decode cX12_combines 190 = .ok (.lreturn, 1) := by decide +kernel
def mX12_combines_L83 (v_t_isWide : Int32) (p3 : Int32) (B_t : Nat → Nat → Int32) (p1 : Int32) (p2 : Int32) : Nat → Int32 → (Nat → Int32) → Option ((Nat → Int32))
  | 0, _, _ => none
  | n_ + 1, y_112, y_113 => ((mX12_bits v_t_isWide).bind (fun r_114 => (if r_114 ≤ y_112 then some y_113 else (((if p3 = 3 then (if y_112 < 0 ∨ 64 ≤ y_112.toNatClampNeg then none else (if ((B_t p1.toNatClampNeg) y_112.toNatClampNeg) = 0 then some 0 else (if y_112 < 0 ∨ 64 ≤ y_112.toNatClampNeg then none else (if ((B_t p2.toNatClampNeg) y_112.toNatClampNeg) = 0 then some 0 else some 1)))) else (if p3 = 4 then (if y_112 < 0 ∨ 64 ≤ y_112.toNatClampNeg then none else (if ((B_t p1.toNatClampNeg) y_112.toNatClampNeg) = 0 then (if y_112 < 0 ∨ 64 ≤ y_112.toNatClampNeg then none else (if ((B_t p2.toNatClampNeg) y_112.toNatClampNeg) = 0 then some 0 else some 1)) else some 1)) else (if y_112 < 0 ∨ 64 ≤ y_112.toNatClampNeg then none else (if y_112 < 0 ∨ 64 ≤ y_112.toNatClampNeg then none else (if ((B_t p1.toNatClampNeg) y_112.toNatClampNeg) = ((B_t p2.toNatClampNeg) y_112.toNatClampNeg) then some 0 else some 1))))) : Option (Int32)).bind (fun x_123 => (if y_112 < 0 ∨ 65 ≤ y_112.toNatClampNeg then none else (mX12_combines_L83 v_t_isWide p3 B_t p1 p2 n_ (y_112 + 1) (upd y_113 y_112.toNatClampNeg (vp_nar .boolean x_123)))))))))
def mX12_combines (k : Nat) (v_t_isWide : Int32) (B_t : Nat → Nat → Int32) (f_t_one : Nat → Int32) (f_t_sum : Nat → Int32) (p1 : Int32) (p2 : Int32) (p3 : Int32) : Option (Int64 × (Nat → Nat → Int32) × (Nat → Int32) × (Nat → Int32)) := (if p1 < 0 ∨ 8 ≤ p1.toNatClampNeg then none else (if p2 < 0 ∨ 8 ≤ p2.toNatClampNeg then none else ((mX12_bits v_t_isWide).bind (fun r_3 => ((mX13_copy k 64 65 (B_t p1.toNatClampNeg) f_t_sum r_3).bind (fun r_4 => (((if p3 = 0 then ((mX12_bits v_t_isWide).bind (fun r_72 => (((if p3 = 1 then some 1 else some 0) : Option (Int32)).bind (fun x_74 => ((mX13_adds k 65 64 r_4 (B_t p2.toNatClampNeg) r_72 x_74).bind (fun r_75 => some (f_t_one, r_75))))))) else (if p3 = 1 then ((mX12_bits v_t_isWide).bind (fun r_132 => (((if p3 = 1 then some 1 else some 0) : Option (Int32)).bind (fun x_134 => ((mX13_adds k 65 64 r_4 (B_t p2.toNatClampNeg) r_132 x_134).bind (fun r_135 => some (f_t_one, r_135))))))) else (if p3 = 2 then ((mX12_multiplies k v_t_isWide B_t f_t_one r_4 p1.toNatClampNeg p2.toNatClampNeg).bind (fun r_131 => some (r_131.1, r_131.2))) else ((mX12_combines_L83 v_t_isWide p3 B_t p1 p2 k 0 r_4).bind (fun r_130 => some (f_t_one, r_130)))))) : Option ((Nat → Int32) × (Nat → Int32))).bind (fun x_70 => ((mX12_puts_sum k v_t_isWide B_t x_70.2 p1).bind (fun r_71 => some (r_71.1, r_71.2, x_70.1, x_70.2)))))))))))
set_option maxHeartbeats 4000000 in
set_option maxRecDepth 100000 in
theorem kcX12_combines (l : Launch) (D : va_G) (cy : Nat → ClassId) (g : Nat → Nat) (a_t : Nat) (a_t_cells : Nat) (a_t_page : Nat) (a_t_digits : Nat) (a_t_found : Nat) (a_t_one : Nat) (a_t_other : Nat) (a_t_sum : Nat) (a_t_rest : Nat) (rw_t : Nat → Nat) (v_t_isWide : Int32) (B_t : Nat → Nat → Int32) (f_t_page : Nat → Int32) (v_t_pageMany : Int32) (f_t_digits : Nat → Int32) (v_t_many : Int32) (v_t_isMinus : Int32) (f_t_found : Nat → Int32) (f_t_one : Nat → Int32) (f_t_other : Nat → Int32) (f_t_sum : Nat → Int32) (f_t_rest : Nat → Int32) (p1 : Int32) (p2 : Int32) (p3 : Int32) (k : Nat) (R : Int64 × (Nat → Nat → Int32) × (Nat → Int32) × (Nat → Int32)) (hm : mX12_combines k v_t_isWide B_t f_t_one f_t_sum p1 p2 p3 = some R) : Con l D cy g yX12_combines cX12_combines 7 (some .long) 4 85 0 0 [.ref a_t, .int p1, .int p2, .int p3] (([(a_t, .inr (8, [.int v_t_isWide, .ref a_t_cells, .ref a_t_page, .int v_t_pageMany, .ref a_t_digits, .int v_t_many, .int v_t_isMinus, .ref a_t_found, .ref a_t_one, .ref a_t_other, .ref a_t_sum, .ref a_t_rest])), (a_t_cells, .inl (cy 5, 8, .inr (.inr (.inr (.inr (fun j => some (rw_t j))))))), (a_t_page, .inl (cy 0, 66, .inl f_t_page)), (a_t_digits, .inl (cy 0, 64, .inl f_t_digits)), (a_t_found, .inl (cy 2, 64, .inl f_t_found)), (a_t_one, .inl (cy 2, 65, .inl f_t_one)), (a_t_other, .inl (cy 2, 65, .inl f_t_other)), (a_t_sum, .inl (cy 2, 65, .inl f_t_sum)), (a_t_rest, .inl (cy 2, 65, .inl f_t_rest))] : va_W) ++ (rowsW (cy 2) rw_t B_t ++ ([] : va_W))) (([(a_t, .inr (8, [.int v_t_isWide, .ref a_t_cells, .ref a_t_page, .int v_t_pageMany, .ref a_t_digits, .int v_t_many, .int v_t_isMinus, .ref a_t_found, .ref a_t_one, .ref a_t_other, .ref a_t_sum, .ref a_t_rest])), (a_t_cells, .inl (cy 5, 8, .inr (.inr (.inr (.inr (fun j => some (rw_t j))))))), (a_t_page, .inl (cy 0, 66, .inl f_t_page)), (a_t_digits, .inl (cy 0, 64, .inl f_t_digits)), (a_t_found, .inl (cy 2, 64, .inl f_t_found)), (a_t_one, .inl (cy 2, 65, .inl R.2.2.1)), (a_t_other, .inl (cy 2, 65, .inl f_t_other)), (a_t_sum, .inl (cy 2, 65, .inl R.2.2.2)), (a_t_rest, .inl (cy 2, 65, .inl f_t_rest))] : va_W) ++ (rowsW (cy 2) rw_t R.2.1 ++ ([] : va_W))) (some (.long R.1)) := by
  refine Con.of (by decide +kernel) (Nat.le_of_ble_eq_true rfl) ?_
  intro p e RM s m ar below meth c A Qc ls hx hb hr hml hown hlocks hnm ht hK hP hD hS hA hR hC hQc hl
  have hown : s.vm.findClass RX12 = some m.cls := hown
  have hl : lv_has ls 7 [(0, .ref a_t), (1, .int p1), (2, .int p2), (3, .int p3)] := hl
  rw [mX12_combines] at hm
  refine lv_aload_n hx hb dX12_combines_0 rfl (lv_at hl 0 rfl) ?_
  refine va_get (D := D) (cl := classes) (ci := 8) (v := .ref a_t_cells) (C := RX12) (T := TX12) (N := 12) hx hb ht in_RX12 hown hK.1 hP 0 rfl rfl 1 (by decide) (ht _ q_1245) (fun _ h9 => h9) rfl dX12_combines_1 ?_
  refine lv_iload_n hx hb dX12_combines_4 rfl (lv_at hl 1 rfl) ?_
  obtain ⟨hin, hm⟩ := hm_g hm
  have hi_1 : p1.toNatClampNeg < 8 := Nat.not_le.mp (fun q => hin (Or.inr q))
  refine k_aldA hx hb hK.1 hP 1 5 rfl rfl hin dX12_combines_5 ?_
  refine lv_astore (lv' := [(4, .ref (rw_t p1.toNatClampNeg)), (0, .ref a_t), (1, .int p1), (2, .int p2), (3, .int p3)]) hx hb dX12_combines_6 hl (by decide) rfl (fun ls hl => ?_)
  refine lv_aload_n hx hb dX12_combines_8 rfl (lv_at hl 1 rfl) ?_
  refine va_get (D := D) (cl := classes) (ci := 8) (v := .ref a_t_cells) (C := RX12) (T := TX12) (N := 12) hx hb ht in_RX12 hown hK.1 hP 0 rfl rfl 1 (by decide) (ht _ q_1245) (fun _ h9 => h9) rfl dX12_combines_9 ?_
  refine lv_iload_n hx hb dX12_combines_12 rfl (lv_at hl 3 rfl) ?_
  obtain ⟨hin, hm⟩ := hm_g hm
  have hi_2 : p2.toNatClampNeg < 8 := Nat.not_le.mp (fun q => hin (Or.inr q))
  refine k_aldA hx hb hK.1 hP 1 5 rfl rfl hin dX12_combines_13 ?_
  refine lv_astore (lv' := [(5, .ref (rw_t p2.toNatClampNeg)), (4, .ref (rw_t p1.toNatClampNeg)), (0, .ref a_t), (1, .int p1), (2, .int p2), (3, .int p3)]) hx hb dX12_combines_14 hl (by decide) rfl (fun ls hl => ?_)
  refine lv_aload hx hb dX12_combines_16 (lv_at hl 1 rfl) ?_
  refine lv_aload_n hx hb dX12_combines_18 rfl (lv_at hl 2 rfl) ?_
  refine va_get (D := D) (cl := classes) (ci := 8) (v := .ref a_t_sum) (C := RX12) (T := TX12) (N := 12) hx hb ht in_RX12 hown hK.1 hP 0 rfl rfl 10 (by decide) (ht _ q_1260) (fun _ h9 => h9) rfl dX12_combines_19 ?_
  refine lv_aload_n hx hb dX12_combines_22 rfl (lv_at hl 2 rfl) ?_
  obtain ⟨r_3, hr_3, hm⟩ := hm_b hm
  refine k_V (as := []) (rest := [.ref a_t_sum, .ref (rw_t p1.toNatClampNeg)]) (ws' := (([(a_t, .inr (8, [.int v_t_isWide, .ref a_t_cells, .ref a_t_page, .int v_t_pageMany, .ref a_t_digits, .int v_t_many, .int v_t_isMinus, .ref a_t_found, .ref a_t_one, .ref a_t_other, .ref a_t_sum, .ref a_t_rest])), (a_t_cells, .inl (cy 5, 8, .inr (.inr (.inr (.inr (fun j => some (rw_t j))))))), (a_t_page, .inl (cy 0, 66, .inl f_t_page)), (a_t_digits, .inl (cy 0, 64, .inl f_t_digits)), (a_t_found, .inl (cy 2, 64, .inl f_t_found)), (a_t_one, .inl (cy 2, 65, .inl f_t_one)), (a_t_other, .inl (cy 2, 65, .inl f_t_other)), (a_t_sum, .inl (cy 2, 65, .inl f_t_sum)), (a_t_rest, .inl (cy 2, 65, .inl f_t_rest))] : va_W) ++ (rowsW (cy 2) rw_t B_t ++ ([] : va_W)))) (st2 := [.int r_3, .ref a_t_sum, .ref (rw_t p1.toNatClampNeg)]) (i0 := 0) hx hb hml hown ht hK hP hD hS hA hC hR hl (kcX12_bits l D cy g a_t a_t_cells a_t_page a_t_digits a_t_found a_t_one a_t_other a_t_sum a_t_rest rw_t v_t_isWide B_t f_t_page v_t_pageMany f_t_digits v_t_many v_t_isMinus f_t_found f_t_one f_t_other f_t_sum f_t_rest r_3 hr_3) (isZ [0, 1, 2, 3, 4, 5, 6, 7, 8] 9 8) q_1354 q_1355 q_1356 q_55 q_1357 hyX12_bits ⟨rfl, rfl, rfl⟩ ⟨Nat.le_of_ble_eq_true rfl, Nat.le_of_ble_eq_true rfl, Nat.le_of_ble_eq_true rfl, Nat.le_of_ble_eq_true rfl⟩ rfl (zcT rfl rfl rfl) (zeT rfl rfl) rfl (Nat.le_of_ble_eq_true rfl) dX12_combines_23 (zwT (cx := [(a_t, .inr (8, [.int v_t_isWide, .ref a_t_cells, .ref a_t_page, .int v_t_pageMany, .ref a_t_digits, .int v_t_many, .int v_t_isMinus, .ref a_t_found, .ref a_t_one, .ref a_t_other, .ref a_t_sum, .ref a_t_rest])), (a_t_cells, .inl (cy 5, 8, .inr (.inr (.inr (.inr (fun j => some (rw_t j))))))), (a_t_page, .inl (cy 0, 66, .inl f_t_page)), (a_t_digits, .inl (cy 0, 64, .inl f_t_digits)), (a_t_found, .inl (cy 2, 64, .inl f_t_found)), (a_t_one, .inl (cy 2, 65, .inl f_t_one)), (a_t_other, .inl (cy 2, 65, .inl f_t_other)), (a_t_sum, .inl (cy 2, 65, .inl f_t_sum)), (a_t_rest, .inl (cy 2, 65, .inl f_t_rest))]) rfl rfl rfl rfl rfl rfl) rfl (fun H locs hP hD hS => ?_)
  obtain ⟨r_4, hr_4, hm⟩ := hm_b hm
  refine k_SN (as := [.ref (rw_t p1.toNatClampNeg), .ref a_t_sum, .int r_3]) (rest := []) (ws' := (([(a_t, .inr (8, [.int v_t_isWide, .ref a_t_cells, .ref a_t_page, .int v_t_pageMany, .ref a_t_digits, .int v_t_many, .int v_t_isMinus, .ref a_t_found, .ref a_t_one, .ref a_t_other, .ref a_t_sum, .ref a_t_rest])), (a_t_cells, .inl (cy 5, 8, .inr (.inr (.inr (.inr (fun j => some (rw_t j))))))), (a_t_page, .inl (cy 0, 66, .inl f_t_page)), (a_t_digits, .inl (cy 0, 64, .inl f_t_digits)), (a_t_found, .inl (cy 2, 64, .inl f_t_found)), (a_t_one, .inl (cy 2, 65, .inl f_t_one)), (a_t_other, .inl (cy 2, 65, .inl f_t_other)), (a_t_sum, .inl (cy 2, 65, .inl r_4)), (a_t_rest, .inl (cy 2, 65, .inl f_t_rest))] : va_W) ++ (rowsW (cy 2) rw_t B_t ++ ([] : va_W)))) (st2 := []) hx hb hml hown ht hK hP hD hS hA hC hR hl (kcX13_copy l D cy g (rw_t p1.toNatClampNeg) a_t_sum 64 65 (B_t p1.toNatClampNeg) f_t_sum r_3 k r_4 hr_4) [9 + p1.toNatClampNeg, 7] qn_1412 q_1455 q_54 q_1456 hyX13_copy ⟨Nat.le_of_ble_eq_true rfl, Nat.le_of_ble_eq_true rfl, Nat.le_of_ble_eq_true rfl, Nat.le_of_ble_eq_true rfl⟩ (nd2 (by omega)) (cs_cons (row_get0 rfl hi_1) (cs_cons rfl cs_nil)) rfl rfl (Nat.le_of_ble_eq_true rfl) dX12_combines_26 (ps_cons (set_same (row_get0 rfl hi_1)) (ps_cons (show ((([(a_t, .inr (8, [.int v_t_isWide, .ref a_t_cells, .ref a_t_page, .int v_t_pageMany, .ref a_t_digits, .int v_t_many, .int v_t_isMinus, .ref a_t_found, .ref a_t_one, .ref a_t_other, .ref a_t_sum, .ref a_t_rest])), (a_t_cells, .inl (cy 5, 8, .inr (.inr (.inr (.inr (fun j => some (rw_t j))))))), (a_t_page, .inl (cy 0, 66, .inl f_t_page)), (a_t_digits, .inl (cy 0, 64, .inl f_t_digits)), (a_t_found, .inl (cy 2, 64, .inl f_t_found)), (a_t_one, .inl (cy 2, 65, .inl f_t_one)), (a_t_other, .inl (cy 2, 65, .inl f_t_other)), (a_t_sum, .inl (cy 2, 65, .inl f_t_sum)), (a_t_rest, .inl (cy 2, 65, .inl f_t_rest))] : va_W) ++ (rowsW (cy 2) rw_t B_t ++ ([] : va_W)))).set 7 (a_t_sum, .inl (cy 2, 65, .inl r_4)) = (([(a_t, .inr (8, [.int v_t_isWide, .ref a_t_cells, .ref a_t_page, .int v_t_pageMany, .ref a_t_digits, .int v_t_many, .int v_t_isMinus, .ref a_t_found, .ref a_t_one, .ref a_t_other, .ref a_t_sum, .ref a_t_rest])), (a_t_cells, .inl (cy 5, 8, .inr (.inr (.inr (.inr (fun j => some (rw_t j))))))), (a_t_page, .inl (cy 0, 66, .inl f_t_page)), (a_t_digits, .inl (cy 0, 64, .inl f_t_digits)), (a_t_found, .inl (cy 2, 64, .inl f_t_found)), (a_t_one, .inl (cy 2, 65, .inl f_t_one)), (a_t_other, .inl (cy 2, 65, .inl f_t_other)), (a_t_sum, .inl (cy 2, 65, .inl r_4)), (a_t_rest, .inl (cy 2, 65, .inl f_t_rest))] : va_W) ++ (rowsW (cy 2) rw_t B_t ++ ([] : va_W))) from rfl) ps_nil)) rfl (fun H locs hP hD hS => ?_)
  refine lv_iload_n hx hb dX12_combines_29 rfl (lv_at hl 5 rfl) ?_
  obtain ⟨x_70, hreg, hm⟩ := hm_b hm
  have J181 : ∀ (H : Heap) (locs : List Loc) (ls : Array Slot), va_P D classes (([(a_t, .inr (8, [.int v_t_isWide, .ref a_t_cells, .ref a_t_page, .int v_t_pageMany, .ref a_t_digits, .int v_t_many, .int v_t_isMinus, .ref a_t_found, .ref a_t_one, .ref a_t_other, .ref a_t_sum, .ref a_t_rest])), (a_t_cells, .inl (cy 5, 8, .inr (.inr (.inr (.inr (fun j => some (rw_t j))))))), (a_t_page, .inl (cy 0, 66, .inl f_t_page)), (a_t_digits, .inl (cy 0, 64, .inl f_t_digits)), (a_t_found, .inl (cy 2, 64, .inl f_t_found)), (a_t_one, .inl (cy 2, 65, .inl x_70.1)), (a_t_other, .inl (cy 2, 65, .inl f_t_other)), (a_t_sum, .inl (cy 2, 65, .inl x_70.2)), (a_t_rest, .inl (cy 2, 65, .inl f_t_rest))] : va_W) ++ (rowsW (cy 2) rw_t B_t ++ ([] : va_W))) H → va_D A (([(a_t, .inr (8, [.int v_t_isWide, .ref a_t_cells, .ref a_t_page, .int v_t_pageMany, .ref a_t_digits, .int v_t_many, .int v_t_isMinus, .ref a_t_found, .ref a_t_one, .ref a_t_other, .ref a_t_sum, .ref a_t_rest])), (a_t_cells, .inl (cy 5, 8, .inr (.inr (.inr (.inr (fun j => some (rw_t j))))))), (a_t_page, .inl (cy 0, 66, .inl f_t_page)), (a_t_digits, .inl (cy 0, 64, .inl f_t_digits)), (a_t_found, .inl (cy 2, 64, .inl f_t_found)), (a_t_one, .inl (cy 2, 65, .inl x_70.1)), (a_t_other, .inl (cy 2, 65, .inl f_t_other)), (a_t_sum, .inl (cy 2, 65, .inl x_70.2)), (a_t_rest, .inl (cy 2, 65, .inl f_t_rest))] : va_W) ++ (rowsW (cy 2) rw_t B_t ++ ([] : va_W))) → va_S A s.heap H locs → lv_has ls 7 [(0, .ref a_t), (1, .int p1)] → W p l e RM s m ar below meth c H locs 0 0 (MQ below Qc ar s 0 0 A) (F0 m 181 ls []) := by
    intro H locs ls hP hD hS hl
    refine lv_aload_n hx hb dX12_combines_181 rfl (lv_at hl 0 rfl) ?_
    refine lv_iload_n hx hb dX12_combines_182 rfl (lv_at hl 1 rfl) ?_
    refine lv_aload_n hx hb dX12_combines_183 rfl (lv_at hl 0 rfl) ?_
    refine va_get (D := D) (cl := classes) (ci := 8) (v := .ref a_t_sum) (C := RX12) (T := TX12) (N := 12) hx hb ht in_RX12 hown hK.1 hP 0 rfl rfl 10 (by decide) (ht _ q_1260) (fun _ h9 => h9) rfl dX12_combines_184 ?_
    obtain ⟨r_71, hr_71, hm⟩ := hm_b hm
    refine k_V (as := [.int p1, .ref a_t_sum]) (rest := []) (ws' := (([(a_t, .inr (8, [.int v_t_isWide, .ref a_t_cells, .ref a_t_page, .int v_t_pageMany, .ref a_t_digits, .int v_t_many, .int v_t_isMinus, .ref a_t_found, .ref a_t_one, .ref a_t_other, .ref a_t_sum, .ref a_t_rest])), (a_t_cells, .inl (cy 5, 8, .inr (.inr (.inr (.inr (fun j => some (rw_t j))))))), (a_t_page, .inl (cy 0, 66, .inl f_t_page)), (a_t_digits, .inl (cy 0, 64, .inl f_t_digits)), (a_t_found, .inl (cy 2, 64, .inl f_t_found)), (a_t_one, .inl (cy 2, 65, .inl x_70.1)), (a_t_other, .inl (cy 2, 65, .inl f_t_other)), (a_t_sum, .inl (cy 2, 65, .inl x_70.2)), (a_t_rest, .inl (cy 2, 65, .inl f_t_rest))] : va_W) ++ (rowsW (cy 2) rw_t r_71.2 ++ ([] : va_W)))) (st2 := [.long r_71.1]) (i0 := 0) hx hb hml hown ht hK hP hD hS hA hC hR hl (kcX12_puts_sum l D cy g a_t a_t_cells a_t_page a_t_digits a_t_found a_t_one a_t_other a_t_sum a_t_rest rw_t v_t_isWide B_t f_t_page v_t_pageMany f_t_digits v_t_many v_t_isMinus f_t_found x_70.1 f_t_other x_70.2 f_t_rest p1 k r_71 hr_71) (isZ [0, 1, 2, 3, 4, 5, 6, 7, 8] 9 8) q_1433 q_1435 q_18 q_55 q_1436 hyX12_puts ⟨rfl, rfl, rfl⟩ ⟨Nat.le_of_ble_eq_true rfl, Nat.le_of_ble_eq_true rfl, Nat.le_of_ble_eq_true rfl, Nat.le_of_ble_eq_true rfl⟩ rfl (zcT rfl rfl rfl) (zeT rfl rfl) rfl (Nat.le_of_ble_eq_true rfl) dX12_combines_187 (zwT (cx := [(a_t, .inr (8, [.int v_t_isWide, .ref a_t_cells, .ref a_t_page, .int v_t_pageMany, .ref a_t_digits, .int v_t_many, .int v_t_isMinus, .ref a_t_found, .ref a_t_one, .ref a_t_other, .ref a_t_sum, .ref a_t_rest])), (a_t_cells, .inl (cy 5, 8, .inr (.inr (.inr (.inr (fun j => some (rw_t j))))))), (a_t_page, .inl (cy 0, 66, .inl f_t_page)), (a_t_digits, .inl (cy 0, 64, .inl f_t_digits)), (a_t_found, .inl (cy 2, 64, .inl f_t_found)), (a_t_one, .inl (cy 2, 65, .inl x_70.1)), (a_t_other, .inl (cy 2, 65, .inl f_t_other)), (a_t_sum, .inl (cy 2, 65, .inl x_70.2)), (a_t_rest, .inl (cy 2, 65, .inl f_t_rest))]) rfl rfl rfl rfl rfl rfl) rfl (fun H locs hP hD hS => ?_)
    obtain rfl := Option.some.inj hm
    exact k_lret hx hb hr hlocks hQc hP hS rfl rfl dX12_combines_190
  replace hm := hreg
  refine lv_if_eq (tgt := 38) hx hb dX12_combines_30 (by decide) (fun c_5 => ?_) (fun c_5 => ?_)
  · replace hm := hm_t c_5 hm
    refine lv_aload_n hx hb dX12_combines_38 rfl (lv_at hl 2 rfl) ?_
    refine va_get (D := D) (cl := classes) (ci := 8) (v := .ref a_t_sum) (C := RX12) (T := TX12) (N := 12) hx hb ht in_RX12 hown hK.1 hP 0 rfl rfl 10 (by decide) (ht _ q_1260) (fun _ h9 => h9) rfl dX12_combines_39 ?_
    refine lv_aload hx hb dX12_combines_42 (lv_at hl 0 rfl) ?_
    refine lv_aload_n hx hb dX12_combines_44 rfl (lv_at hl 2 rfl) ?_
    obtain ⟨r_72, hr_72, hm⟩ := hm_b hm
    refine k_V (as := []) (rest := [.ref (rw_t p2.toNatClampNeg), .ref a_t_sum]) (ws' := (([(a_t, .inr (8, [.int v_t_isWide, .ref a_t_cells, .ref a_t_page, .int v_t_pageMany, .ref a_t_digits, .int v_t_many, .int v_t_isMinus, .ref a_t_found, .ref a_t_one, .ref a_t_other, .ref a_t_sum, .ref a_t_rest])), (a_t_cells, .inl (cy 5, 8, .inr (.inr (.inr (.inr (fun j => some (rw_t j))))))), (a_t_page, .inl (cy 0, 66, .inl f_t_page)), (a_t_digits, .inl (cy 0, 64, .inl f_t_digits)), (a_t_found, .inl (cy 2, 64, .inl f_t_found)), (a_t_one, .inl (cy 2, 65, .inl f_t_one)), (a_t_other, .inl (cy 2, 65, .inl f_t_other)), (a_t_sum, .inl (cy 2, 65, .inl r_4)), (a_t_rest, .inl (cy 2, 65, .inl f_t_rest))] : va_W) ++ (rowsW (cy 2) rw_t B_t ++ ([] : va_W)))) (st2 := [.int r_72, .ref (rw_t p2.toNatClampNeg), .ref a_t_sum]) (i0 := 0) hx hb hml hown ht hK hP hD hS hA hC hR hl (kcX12_bits l D cy g a_t a_t_cells a_t_page a_t_digits a_t_found a_t_one a_t_other a_t_sum a_t_rest rw_t v_t_isWide B_t f_t_page v_t_pageMany f_t_digits v_t_many v_t_isMinus f_t_found f_t_one f_t_other r_4 f_t_rest r_72 hr_72) (isZ [0, 1, 2, 3, 4, 5, 6, 7, 8] 9 8) q_1354 q_1355 q_1356 q_55 q_1357 hyX12_bits ⟨rfl, rfl, rfl⟩ ⟨Nat.le_of_ble_eq_true rfl, Nat.le_of_ble_eq_true rfl, Nat.le_of_ble_eq_true rfl, Nat.le_of_ble_eq_true rfl⟩ rfl (zcT rfl rfl rfl) (zeT rfl rfl) rfl (Nat.le_of_ble_eq_true rfl) dX12_combines_45 (zwT (cx := [(a_t, .inr (8, [.int v_t_isWide, .ref a_t_cells, .ref a_t_page, .int v_t_pageMany, .ref a_t_digits, .int v_t_many, .int v_t_isMinus, .ref a_t_found, .ref a_t_one, .ref a_t_other, .ref a_t_sum, .ref a_t_rest])), (a_t_cells, .inl (cy 5, 8, .inr (.inr (.inr (.inr (fun j => some (rw_t j))))))), (a_t_page, .inl (cy 0, 66, .inl f_t_page)), (a_t_digits, .inl (cy 0, 64, .inl f_t_digits)), (a_t_found, .inl (cy 2, 64, .inl f_t_found)), (a_t_one, .inl (cy 2, 65, .inl f_t_one)), (a_t_other, .inl (cy 2, 65, .inl f_t_other)), (a_t_sum, .inl (cy 2, 65, .inl r_4)), (a_t_rest, .inl (cy 2, 65, .inl f_t_rest))]) rfl rfl rfl rfl rfl rfl) rfl (fun H locs hP hD hS => ?_)
    refine lv_iload_n hx hb dX12_combines_48 rfl (lv_at hl 5 rfl) ?_
    refine lv_iconst (v := 1) hx hb dX12_combines_49 (by decide) ?_
    obtain ⟨x_74, hreg, hm⟩ := hm_b hm
    have J58 : ∀ (H : Heap) (locs : List Loc) (ls : Array Slot), va_P D classes (([(a_t, .inr (8, [.int v_t_isWide, .ref a_t_cells, .ref a_t_page, .int v_t_pageMany, .ref a_t_digits, .int v_t_many, .int v_t_isMinus, .ref a_t_found, .ref a_t_one, .ref a_t_other, .ref a_t_sum, .ref a_t_rest])), (a_t_cells, .inl (cy 5, 8, .inr (.inr (.inr (.inr (fun j => some (rw_t j))))))), (a_t_page, .inl (cy 0, 66, .inl f_t_page)), (a_t_digits, .inl (cy 0, 64, .inl f_t_digits)), (a_t_found, .inl (cy 2, 64, .inl f_t_found)), (a_t_one, .inl (cy 2, 65, .inl f_t_one)), (a_t_other, .inl (cy 2, 65, .inl f_t_other)), (a_t_sum, .inl (cy 2, 65, .inl r_4)), (a_t_rest, .inl (cy 2, 65, .inl f_t_rest))] : va_W) ++ (rowsW (cy 2) rw_t B_t ++ ([] : va_W))) H → va_D A (([(a_t, .inr (8, [.int v_t_isWide, .ref a_t_cells, .ref a_t_page, .int v_t_pageMany, .ref a_t_digits, .int v_t_many, .int v_t_isMinus, .ref a_t_found, .ref a_t_one, .ref a_t_other, .ref a_t_sum, .ref a_t_rest])), (a_t_cells, .inl (cy 5, 8, .inr (.inr (.inr (.inr (fun j => some (rw_t j))))))), (a_t_page, .inl (cy 0, 66, .inl f_t_page)), (a_t_digits, .inl (cy 0, 64, .inl f_t_digits)), (a_t_found, .inl (cy 2, 64, .inl f_t_found)), (a_t_one, .inl (cy 2, 65, .inl f_t_one)), (a_t_other, .inl (cy 2, 65, .inl f_t_other)), (a_t_sum, .inl (cy 2, 65, .inl r_4)), (a_t_rest, .inl (cy 2, 65, .inl f_t_rest))] : va_W) ++ (rowsW (cy 2) rw_t B_t ++ ([] : va_W))) → va_S A s.heap H locs → lv_has ls 7 [(0, .ref a_t), (1, .int p1)] → W p l e RM s m ar below meth c H locs 0 0 (MQ below Qc ar s 0 0 A) (F0 m 58 ls [.int x_74, .int r_72, .ref (rw_t p2.toNatClampNeg), .ref a_t_sum]) := by
      intro H locs ls hP hD hS hl
      obtain ⟨r_75, hr_75, hm⟩ := hm_b hm
      refine k_SN (as := [.ref a_t_sum, .ref (rw_t p2.toNatClampNeg), .int r_72, .int x_74]) (rest := []) (ws' := (([(a_t, .inr (8, [.int v_t_isWide, .ref a_t_cells, .ref a_t_page, .int v_t_pageMany, .ref a_t_digits, .int v_t_many, .int v_t_isMinus, .ref a_t_found, .ref a_t_one, .ref a_t_other, .ref a_t_sum, .ref a_t_rest])), (a_t_cells, .inl (cy 5, 8, .inr (.inr (.inr (.inr (fun j => some (rw_t j))))))), (a_t_page, .inl (cy 0, 66, .inl f_t_page)), (a_t_digits, .inl (cy 0, 64, .inl f_t_digits)), (a_t_found, .inl (cy 2, 64, .inl f_t_found)), (a_t_one, .inl (cy 2, 65, .inl f_t_one)), (a_t_other, .inl (cy 2, 65, .inl f_t_other)), (a_t_sum, .inl (cy 2, 65, .inl r_75)), (a_t_rest, .inl (cy 2, 65, .inl f_t_rest))] : va_W) ++ (rowsW (cy 2) rw_t B_t ++ ([] : va_W)))) (st2 := []) hx hb hml hown ht hK hP hD hS hA hC hR hl (kcX13_adds l D cy g a_t_sum (rw_t p2.toNatClampNeg) 65 64 r_4 (B_t p2.toNatClampNeg) r_72 x_74 k r_75 hr_75) [7, 9 + p2.toNatClampNeg] qn_1554 q_1597 q_54 q_1598 hyX13_adds ⟨Nat.le_of_ble_eq_true rfl, Nat.le_of_ble_eq_true rfl, Nat.le_of_ble_eq_true rfl, Nat.le_of_ble_eq_true rfl⟩ (nd2 (by omega)) (cs_cons rfl (cs_cons (row_get0 rfl hi_2) cs_nil)) rfl rfl (Nat.le_of_ble_eq_true rfl) dX12_combines_58 (ps_cons (show ((([(a_t, .inr (8, [.int v_t_isWide, .ref a_t_cells, .ref a_t_page, .int v_t_pageMany, .ref a_t_digits, .int v_t_many, .int v_t_isMinus, .ref a_t_found, .ref a_t_one, .ref a_t_other, .ref a_t_sum, .ref a_t_rest])), (a_t_cells, .inl (cy 5, 8, .inr (.inr (.inr (.inr (fun j => some (rw_t j))))))), (a_t_page, .inl (cy 0, 66, .inl f_t_page)), (a_t_digits, .inl (cy 0, 64, .inl f_t_digits)), (a_t_found, .inl (cy 2, 64, .inl f_t_found)), (a_t_one, .inl (cy 2, 65, .inl f_t_one)), (a_t_other, .inl (cy 2, 65, .inl f_t_other)), (a_t_sum, .inl (cy 2, 65, .inl r_4)), (a_t_rest, .inl (cy 2, 65, .inl f_t_rest))] : va_W) ++ (rowsW (cy 2) rw_t B_t ++ ([] : va_W)))).set 7 (a_t_sum, .inl (cy 2, 65, .inl r_75)) = (([(a_t, .inr (8, [.int v_t_isWide, .ref a_t_cells, .ref a_t_page, .int v_t_pageMany, .ref a_t_digits, .int v_t_many, .int v_t_isMinus, .ref a_t_found, .ref a_t_one, .ref a_t_other, .ref a_t_sum, .ref a_t_rest])), (a_t_cells, .inl (cy 5, 8, .inr (.inr (.inr (.inr (fun j => some (rw_t j))))))), (a_t_page, .inl (cy 0, 66, .inl f_t_page)), (a_t_digits, .inl (cy 0, 64, .inl f_t_digits)), (a_t_found, .inl (cy 2, 64, .inl f_t_found)), (a_t_one, .inl (cy 2, 65, .inl f_t_one)), (a_t_other, .inl (cy 2, 65, .inl f_t_other)), (a_t_sum, .inl (cy 2, 65, .inl r_75)), (a_t_rest, .inl (cy 2, 65, .inl f_t_rest))] : va_W) ++ (rowsW (cy 2) rw_t B_t ++ ([] : va_W))) from rfl) (ps_cons (set_same (row_get0 rfl hi_2)) ps_nil)) rfl (fun H locs hP hD hS => ?_)
      refine lv_goto (tgt := 181) hx hb dX12_combines_61 (by decide) ?_
      obtain rfl := Option.some.inj hm
      exact J181 _ _ _ hP hD hS (lv_sub hl [0, 1] rfl)
    replace hm := hreg
    refine lv_icmp_ne (tgt := 57) hx hb dX12_combines_50 (by decide) (fun c_73 => ?_) (fun c_73 => ?_)
    · replace hm := hm_f c_73 hm
      refine lv_iconst (v := 0) hx hb dX12_combines_57 (by decide) ?_
      obtain rfl := Option.some.inj hm
      exact J58 _ _ _ hP hD hS (lv_sub hl [2, 3] rfl)
    · replace hm := hm_t c_73 hm
      refine lv_iconst (v := 1) hx hb dX12_combines_53 (by decide) ?_
      refine lv_goto (tgt := 58) hx hb dX12_combines_54 (by decide) ?_
      obtain rfl := Option.some.inj hm
      exact J58 _ _ _ hP hD hS (lv_sub hl [2, 3] rfl)
  · replace hm := hm_f c_5 hm
    refine lv_iload_n hx hb dX12_combines_33 rfl (lv_at hl 5 rfl) ?_
    refine lv_iconst (v := 1) hx hb dX12_combines_34 (by decide) ?_
    refine lv_icmp_ne (tgt := 64) hx hb dX12_combines_35 (by decide) (fun c_76 => ?_) (fun c_76 => ?_)
    · replace hm := hm_f c_76 hm
      refine lv_iload_n hx hb dX12_combines_64 rfl (lv_at hl 5 rfl) ?_
      refine lv_iconst (v := 2) hx hb dX12_combines_65 (by decide) ?_
      refine lv_icmp_ne (tgt := 80) hx hb dX12_combines_66 (by decide) (fun c_77 => ?_) (fun c_77 => ?_)
      · replace hm := hm_f c_77 hm
        refine lv_iconst (v := 0) hx hb dX12_combines_80 (by decide) ?_
        refine lv_istore (lv' := [(6, .int 0), (5, .ref (rw_t p2.toNatClampNeg)), (4, .ref (rw_t p1.toNatClampNeg)), (0, .ref a_t), (1, .int p1), (2, .int p2), (3, .int p3)]) hx hb dX12_combines_81 hl (by decide) rfl (fun ls hl => ?_)
        have L83 : ∀ (rr : (Nat → Int32)) (kk : ∀ (H : Heap) (locs : List Loc) (ls : Array Slot), va_P D classes (([(a_t, .inr (8, [.int v_t_isWide, .ref a_t_cells, .ref a_t_page, .int v_t_pageMany, .ref a_t_digits, .int v_t_many, .int v_t_isMinus, .ref a_t_found, .ref a_t_one, .ref a_t_other, .ref a_t_sum, .ref a_t_rest])), (a_t_cells, .inl (cy 5, 8, .inr (.inr (.inr (.inr (fun j => some (rw_t j))))))), (a_t_page, .inl (cy 0, 66, .inl f_t_page)), (a_t_digits, .inl (cy 0, 64, .inl f_t_digits)), (a_t_found, .inl (cy 2, 64, .inl f_t_found)), (a_t_one, .inl (cy 2, 65, .inl f_t_one)), (a_t_other, .inl (cy 2, 65, .inl f_t_other)), (a_t_sum, .inl (cy 2, 65, .inl rr)), (a_t_rest, .inl (cy 2, 65, .inl f_t_rest))] : va_W) ++ (rowsW (cy 2) rw_t B_t ++ ([] : va_W))) H → va_D A (([(a_t, .inr (8, [.int v_t_isWide, .ref a_t_cells, .ref a_t_page, .int v_t_pageMany, .ref a_t_digits, .int v_t_many, .int v_t_isMinus, .ref a_t_found, .ref a_t_one, .ref a_t_other, .ref a_t_sum, .ref a_t_rest])), (a_t_cells, .inl (cy 5, 8, .inr (.inr (.inr (.inr (fun j => some (rw_t j))))))), (a_t_page, .inl (cy 0, 66, .inl f_t_page)), (a_t_digits, .inl (cy 0, 64, .inl f_t_digits)), (a_t_found, .inl (cy 2, 64, .inl f_t_found)), (a_t_one, .inl (cy 2, 65, .inl f_t_one)), (a_t_other, .inl (cy 2, 65, .inl f_t_other)), (a_t_sum, .inl (cy 2, 65, .inl rr)), (a_t_rest, .inl (cy 2, 65, .inl f_t_rest))] : va_W) ++ (rowsW (cy 2) rw_t B_t ++ ([] : va_W))) → va_S A s.heap H locs → lv_has ls 7 [(0, .ref a_t), (1, .int p1)] → W p l e RM s m ar below meth c H locs 0 0 (MQ below Qc ar s 0 0 A) (F0 m 181 ls [])) (n_ : Nat), ∀ (y_112 : Int32) (y_113 : Nat → Int32), mX12_combines_L83 v_t_isWide p3 B_t p1 p2 n_ y_112 y_113 = some rr → ∀ (H : Heap) (locs : List Loc) (ls : Array Slot), va_P D classes (([(a_t, .inr (8, [.int v_t_isWide, .ref a_t_cells, .ref a_t_page, .int v_t_pageMany, .ref a_t_digits, .int v_t_many, .int v_t_isMinus, .ref a_t_found, .ref a_t_one, .ref a_t_other, .ref a_t_sum, .ref a_t_rest])), (a_t_cells, .inl (cy 5, 8, .inr (.inr (.inr (.inr (fun j => some (rw_t j))))))), (a_t_page, .inl (cy 0, 66, .inl f_t_page)), (a_t_digits, .inl (cy 0, 64, .inl f_t_digits)), (a_t_found, .inl (cy 2, 64, .inl f_t_found)), (a_t_one, .inl (cy 2, 65, .inl f_t_one)), (a_t_other, .inl (cy 2, 65, .inl f_t_other)), (a_t_sum, .inl (cy 2, 65, .inl y_113)), (a_t_rest, .inl (cy 2, 65, .inl f_t_rest))] : va_W) ++ (rowsW (cy 2) rw_t B_t ++ ([] : va_W))) H → va_D A (([(a_t, .inr (8, [.int v_t_isWide, .ref a_t_cells, .ref a_t_page, .int v_t_pageMany, .ref a_t_digits, .int v_t_many, .int v_t_isMinus, .ref a_t_found, .ref a_t_one, .ref a_t_other, .ref a_t_sum, .ref a_t_rest])), (a_t_cells, .inl (cy 5, 8, .inr (.inr (.inr (.inr (fun j => some (rw_t j))))))), (a_t_page, .inl (cy 0, 66, .inl f_t_page)), (a_t_digits, .inl (cy 0, 64, .inl f_t_digits)), (a_t_found, .inl (cy 2, 64, .inl f_t_found)), (a_t_one, .inl (cy 2, 65, .inl f_t_one)), (a_t_other, .inl (cy 2, 65, .inl f_t_other)), (a_t_sum, .inl (cy 2, 65, .inl y_113)), (a_t_rest, .inl (cy 2, 65, .inl f_t_rest))] : va_W) ++ (rowsW (cy 2) rw_t B_t ++ ([] : va_W))) → va_S A s.heap H locs → lv_has ls 7 [(6, .int y_112), (5, .ref (rw_t p2.toNatClampNeg)), (4, .ref (rw_t p1.toNatClampNeg)), (0, .ref a_t), (1, .int p1), (3, .int p3)] → W p l e RM s m ar below meth c H locs 0 0 (MQ below Qc ar s 0 0 A) (F0 m 83 ls []) := by
          intro rr kk n_
          induction n_ with
          | zero => intro y_112 y_113 hm; rw [mX12_combines_L83] at hm; cases hm
          | succ n_ ih =>
            intro y_112 y_113 hm H locs ls hP hD hS hl
            rw [mX12_combines_L83] at hm
            refine lv_iload hx hb dX12_combines_83 (lv_at hl 0 rfl) ?_
            refine lv_aload_n hx hb dX12_combines_85 rfl (lv_at hl 3 rfl) ?_
            obtain ⟨r_114, hr_114, hm⟩ := hm_b hm
            refine k_V (as := []) (rest := [.int y_112]) (ws' := (([(a_t, .inr (8, [.int v_t_isWide, .ref a_t_cells, .ref a_t_page, .int v_t_pageMany, .ref a_t_digits, .int v_t_many, .int v_t_isMinus, .ref a_t_found, .ref a_t_one, .ref a_t_other, .ref a_t_sum, .ref a_t_rest])), (a_t_cells, .inl (cy 5, 8, .inr (.inr (.inr (.inr (fun j => some (rw_t j))))))), (a_t_page, .inl (cy 0, 66, .inl f_t_page)), (a_t_digits, .inl (cy 0, 64, .inl f_t_digits)), (a_t_found, .inl (cy 2, 64, .inl f_t_found)), (a_t_one, .inl (cy 2, 65, .inl f_t_one)), (a_t_other, .inl (cy 2, 65, .inl f_t_other)), (a_t_sum, .inl (cy 2, 65, .inl y_113)), (a_t_rest, .inl (cy 2, 65, .inl f_t_rest))] : va_W) ++ (rowsW (cy 2) rw_t B_t ++ ([] : va_W)))) (st2 := [.int r_114, .int y_112]) (i0 := 0) hx hb hml hown ht hK hP hD hS hA hC hR hl (kcX12_bits l D cy g a_t a_t_cells a_t_page a_t_digits a_t_found a_t_one a_t_other a_t_sum a_t_rest rw_t v_t_isWide B_t f_t_page v_t_pageMany f_t_digits v_t_many v_t_isMinus f_t_found f_t_one f_t_other y_113 f_t_rest r_114 hr_114) (isZ [0, 1, 2, 3, 4, 5, 6, 7, 8] 9 8) q_1354 q_1355 q_1356 q_55 q_1357 hyX12_bits ⟨rfl, rfl, rfl⟩ ⟨Nat.le_of_ble_eq_true rfl, Nat.le_of_ble_eq_true rfl, Nat.le_of_ble_eq_true rfl, Nat.le_of_ble_eq_true rfl⟩ rfl (zcT rfl rfl rfl) (zeT rfl rfl) rfl (Nat.le_of_ble_eq_true rfl) dX12_combines_86 (zwT (cx := [(a_t, .inr (8, [.int v_t_isWide, .ref a_t_cells, .ref a_t_page, .int v_t_pageMany, .ref a_t_digits, .int v_t_many, .int v_t_isMinus, .ref a_t_found, .ref a_t_one, .ref a_t_other, .ref a_t_sum, .ref a_t_rest])), (a_t_cells, .inl (cy 5, 8, .inr (.inr (.inr (.inr (fun j => some (rw_t j))))))), (a_t_page, .inl (cy 0, 66, .inl f_t_page)), (a_t_digits, .inl (cy 0, 64, .inl f_t_digits)), (a_t_found, .inl (cy 2, 64, .inl f_t_found)), (a_t_one, .inl (cy 2, 65, .inl f_t_one)), (a_t_other, .inl (cy 2, 65, .inl f_t_other)), (a_t_sum, .inl (cy 2, 65, .inl y_113)), (a_t_rest, .inl (cy 2, 65, .inl f_t_rest))]) rfl rfl rfl rfl rfl rfl) rfl (fun H locs hP hD hS => ?_)
            refine lv_icmp_ge (tgt := 181) hx hb dX12_combines_89 (by decide) (fun c_115 => ?_) (fun c_115 => ?_)
            · replace hm := hm_t c_115 hm
              obtain rfl := Option.some.inj hm
              exact kk _ _ _ hP hD hS (lv_sub hl [3, 4] rfl)
            · replace hm := hm_f c_115 hm
              refine lv_aload_n hx hb dX12_combines_92 rfl (lv_at hl 3 rfl) ?_
              refine va_get (D := D) (cl := classes) (ci := 8) (v := .ref a_t_sum) (C := RX12) (T := TX12) (N := 12) hx hb ht in_RX12 hown hK.1 hP 0 rfl rfl 10 (by decide) (ht _ q_1260) (fun _ h9 => h9) rfl dX12_combines_93 ?_
              refine lv_iload hx hb dX12_combines_96 (lv_at hl 0 rfl) ?_
              refine lv_iload_n hx hb dX12_combines_98 rfl (lv_at hl 5 rfl) ?_
              refine lv_iconst (v := 3) hx hb dX12_combines_99 (by decide) ?_
              obtain ⟨x_123, hreg, hm⟩ := hm_b hm
              have J174 : ∀ (H : Heap) (locs : List Loc) (ls : Array Slot), va_P D classes (([(a_t, .inr (8, [.int v_t_isWide, .ref a_t_cells, .ref a_t_page, .int v_t_pageMany, .ref a_t_digits, .int v_t_many, .int v_t_isMinus, .ref a_t_found, .ref a_t_one, .ref a_t_other, .ref a_t_sum, .ref a_t_rest])), (a_t_cells, .inl (cy 5, 8, .inr (.inr (.inr (.inr (fun j => some (rw_t j))))))), (a_t_page, .inl (cy 0, 66, .inl f_t_page)), (a_t_digits, .inl (cy 0, 64, .inl f_t_digits)), (a_t_found, .inl (cy 2, 64, .inl f_t_found)), (a_t_one, .inl (cy 2, 65, .inl f_t_one)), (a_t_other, .inl (cy 2, 65, .inl f_t_other)), (a_t_sum, .inl (cy 2, 65, .inl y_113)), (a_t_rest, .inl (cy 2, 65, .inl f_t_rest))] : va_W) ++ (rowsW (cy 2) rw_t B_t ++ ([] : va_W))) H → va_D A (([(a_t, .inr (8, [.int v_t_isWide, .ref a_t_cells, .ref a_t_page, .int v_t_pageMany, .ref a_t_digits, .int v_t_many, .int v_t_isMinus, .ref a_t_found, .ref a_t_one, .ref a_t_other, .ref a_t_sum, .ref a_t_rest])), (a_t_cells, .inl (cy 5, 8, .inr (.inr (.inr (.inr (fun j => some (rw_t j))))))), (a_t_page, .inl (cy 0, 66, .inl f_t_page)), (a_t_digits, .inl (cy 0, 64, .inl f_t_digits)), (a_t_found, .inl (cy 2, 64, .inl f_t_found)), (a_t_one, .inl (cy 2, 65, .inl f_t_one)), (a_t_other, .inl (cy 2, 65, .inl f_t_other)), (a_t_sum, .inl (cy 2, 65, .inl y_113)), (a_t_rest, .inl (cy 2, 65, .inl f_t_rest))] : va_W) ++ (rowsW (cy 2) rw_t B_t ++ ([] : va_W))) → va_S A s.heap H locs → lv_has ls 7 [(6, .int y_112), (5, .ref (rw_t p2.toNatClampNeg)), (4, .ref (rw_t p1.toNatClampNeg)), (0, .ref a_t), (1, .int p1), (3, .int p3)] → W p l e RM s m ar below meth c H locs 0 0 (MQ below Qc ar s 0 0 A) (F0 m 174 ls [.int x_123, .int y_112, .ref a_t_sum]) := by
                intro H locs ls hP hD hS hl
                obtain ⟨hin, hm⟩ := hm_g hm
                refine va_zast hx hb hK.1 hP hD hS 7 2 rfl rfl hin dX12_combines_174 (fun H locs hP hD hS => ?_)
                have hP : va_P D classes (([(a_t, .inr (8, [.int v_t_isWide, .ref a_t_cells, .ref a_t_page, .int v_t_pageMany, .ref a_t_digits, .int v_t_many, .int v_t_isMinus, .ref a_t_found, .ref a_t_one, .ref a_t_other, .ref a_t_sum, .ref a_t_rest])), (a_t_cells, .inl (cy 5, 8, .inr (.inr (.inr (.inr (fun j => some (rw_t j))))))), (a_t_page, .inl (cy 0, 66, .inl f_t_page)), (a_t_digits, .inl (cy 0, 64, .inl f_t_digits)), (a_t_found, .inl (cy 2, 64, .inl f_t_found)), (a_t_one, .inl (cy 2, 65, .inl f_t_one)), (a_t_other, .inl (cy 2, 65, .inl f_t_other)), (a_t_sum, .inl (cy 2, 65, .inl (upd y_113 y_112.toNatClampNeg (vp_nar .boolean x_123)))), (a_t_rest, .inl (cy 2, 65, .inl f_t_rest))] : va_W) ++ (rowsW (cy 2) rw_t B_t ++ ([] : va_W))) H := hP
                have hD : va_D A (([(a_t, .inr (8, [.int v_t_isWide, .ref a_t_cells, .ref a_t_page, .int v_t_pageMany, .ref a_t_digits, .int v_t_many, .int v_t_isMinus, .ref a_t_found, .ref a_t_one, .ref a_t_other, .ref a_t_sum, .ref a_t_rest])), (a_t_cells, .inl (cy 5, 8, .inr (.inr (.inr (.inr (fun j => some (rw_t j))))))), (a_t_page, .inl (cy 0, 66, .inl f_t_page)), (a_t_digits, .inl (cy 0, 64, .inl f_t_digits)), (a_t_found, .inl (cy 2, 64, .inl f_t_found)), (a_t_one, .inl (cy 2, 65, .inl f_t_one)), (a_t_other, .inl (cy 2, 65, .inl f_t_other)), (a_t_sum, .inl (cy 2, 65, .inl (upd y_113 y_112.toNatClampNeg (vp_nar .boolean x_123)))), (a_t_rest, .inl (cy 2, 65, .inl f_t_rest))] : va_W) ++ (rowsW (cy 2) rw_t B_t ++ ([] : va_W))) := hD
                refine lv_iinc (v := (y_112 + 1)) (lv' := [(6, .int (y_112 + 1)), (5, .ref (rw_t p2.toNatClampNeg)), (4, .ref (rw_t p1.toNatClampNeg)), (0, .ref a_t), (1, .int p1), (3, .int p3)]) hx hb dX12_combines_175 hl (k := 0) rfl rfl (by decide) rfl (fun ls hl => ?_)
                refine lv_goto (tgt := 83) hx hb dX12_combines_178 (by decide) ?_
                exact ih (y_112 + 1) (upd y_113 y_112.toNatClampNeg (vp_nar .boolean x_123)) hm _ _ _ hP hD hS (lv_sub hl [0, 1, 2, 3, 4, 5] rfl)
              replace hm := hreg
              refine lv_icmp_ne (tgt := 127) hx hb dX12_combines_100 (by decide) (fun c_116 => ?_) (fun c_116 => ?_)
              · replace hm := hm_f c_116 hm
                refine lv_iload_n hx hb dX12_combines_127 rfl (lv_at hl 5 rfl) ?_
                refine lv_iconst (v := 4) hx hb dX12_combines_128 (by decide) ?_
                refine lv_icmp_ne (tgt := 156) hx hb dX12_combines_129 (by decide) (fun c_124 => ?_) (fun c_124 => ?_)
                · replace hm := hm_f c_124 hm
                  refine lv_aload hx hb dX12_combines_156 (lv_at hl 2 rfl) ?_
                  refine lv_iload hx hb dX12_combines_158 (lv_at hl 0 rfl) ?_
                  obtain ⟨hin, hm⟩ := hm_g hm
                  refine va_zald hx hb hK.1 hP (9 + p1.toNatClampNeg) 2 (row_get0 rfl hi_1) rfl hin dX12_combines_160 ?_
                  refine lv_aload hx hb dX12_combines_161 (lv_at hl 1 rfl) ?_
                  refine lv_iload hx hb dX12_combines_163 (lv_at hl 0 rfl) ?_
                  obtain ⟨hin, hm⟩ := hm_g hm
                  refine va_zald hx hb hK.1 hP (9 + p2.toNatClampNeg) 2 (row_get0 rfl hi_2) rfl hin dX12_combines_165 ?_
                  refine lv_icmp_eq (tgt := 173) hx hb dX12_combines_166 (by decide) (fun c_125 => ?_) (fun c_125 => ?_)
                  · replace hm := hm_t c_125 hm
                    refine lv_iconst (v := 0) hx hb dX12_combines_173 (by decide) ?_
                    obtain rfl := Option.some.inj hm
                    exact J174 _ _ _ hP hD hS (lv_sub hl [0, 1, 2, 3, 4, 5] rfl)
                  · replace hm := hm_f c_125 hm
                    refine lv_iconst (v := 1) hx hb dX12_combines_169 (by decide) ?_
                    refine lv_goto (tgt := 174) hx hb dX12_combines_170 (by decide) ?_
                    obtain rfl := Option.some.inj hm
                    exact J174 _ _ _ hP hD hS (lv_sub hl [0, 1, 2, 3, 4, 5] rfl)
                · replace hm := hm_t c_124 hm
                  refine lv_aload hx hb dX12_combines_132 (lv_at hl 2 rfl) ?_
                  refine lv_iload hx hb dX12_combines_134 (lv_at hl 0 rfl) ?_
                  obtain ⟨hin, hm⟩ := hm_g hm
                  refine va_zald hx hb hK.1 hP (9 + p1.toNatClampNeg) 2 (row_get0 rfl hi_1) rfl hin dX12_combines_136 ?_
                  refine lv_if_ne (tgt := 148) hx hb dX12_combines_137 (by decide) (fun c_126 => ?_) (fun c_126 => ?_)
                  · replace hm := hm_f c_126 hm
                    refine lv_iconst (v := 1) hx hb dX12_combines_148 (by decide) ?_
                    refine lv_goto (tgt := 174) hx hb dX12_combines_149 (by decide) ?_
                    obtain rfl := Option.some.inj hm
                    exact J174 _ _ _ hP hD hS (lv_sub hl [0, 1, 2, 3, 4, 5] rfl)
                  · replace hm := hm_t c_126 hm
                    refine lv_aload hx hb dX12_combines_140 (lv_at hl 1 rfl) ?_
                    refine lv_iload hx hb dX12_combines_142 (lv_at hl 0 rfl) ?_
                    obtain ⟨hin, hm⟩ := hm_g hm
                    refine va_zald hx hb hK.1 hP (9 + p2.toNatClampNeg) 2 (row_get0 rfl hi_2) rfl hin dX12_combines_144 ?_
                    refine lv_if_eq (tgt := 152) hx hb dX12_combines_145 (by decide) (fun c_127 => ?_) (fun c_127 => ?_)
                    · replace hm := hm_t c_127 hm
                      refine lv_iconst (v := 0) hx hb dX12_combines_152 (by decide) ?_
                      refine lv_goto (tgt := 174) hx hb dX12_combines_153 (by decide) ?_
                      obtain rfl := Option.some.inj hm
                      exact J174 _ _ _ hP hD hS (lv_sub hl [0, 1, 2, 3, 4, 5] rfl)
                    · replace hm := hm_f c_127 hm
                      refine lv_iconst (v := 1) hx hb dX12_combines_148 (by decide) ?_
                      refine lv_goto (tgt := 174) hx hb dX12_combines_149 (by decide) ?_
                      obtain rfl := Option.some.inj hm
                      exact J174 _ _ _ hP hD hS (lv_sub hl [0, 1, 2, 3, 4, 5] rfl)
              · replace hm := hm_t c_116 hm
                refine lv_aload hx hb dX12_combines_103 (lv_at hl 2 rfl) ?_
                refine lv_iload hx hb dX12_combines_105 (lv_at hl 0 rfl) ?_
                obtain ⟨hin, hm⟩ := hm_g hm
                refine va_zald hx hb hK.1 hP (9 + p1.toNatClampNeg) 2 (row_get0 rfl hi_1) rfl hin dX12_combines_107 ?_
                refine lv_if_eq (tgt := 123) hx hb dX12_combines_108 (by decide) (fun c_128 => ?_) (fun c_128 => ?_)
                · replace hm := hm_t c_128 hm
                  refine lv_iconst (v := 0) hx hb dX12_combines_123 (by decide) ?_
                  refine lv_goto (tgt := 174) hx hb dX12_combines_124 (by decide) ?_
                  obtain rfl := Option.some.inj hm
                  exact J174 _ _ _ hP hD hS (lv_sub hl [0, 1, 2, 3, 4, 5] rfl)
                · replace hm := hm_f c_128 hm
                  refine lv_aload hx hb dX12_combines_111 (lv_at hl 1 rfl) ?_
                  refine lv_iload hx hb dX12_combines_113 (lv_at hl 0 rfl) ?_
                  obtain ⟨hin, hm⟩ := hm_g hm
                  refine va_zald hx hb hK.1 hP (9 + p2.toNatClampNeg) 2 (row_get0 rfl hi_2) rfl hin dX12_combines_115 ?_
                  refine lv_if_eq (tgt := 123) hx hb dX12_combines_116 (by decide) (fun c_129 => ?_) (fun c_129 => ?_)
                  · replace hm := hm_t c_129 hm
                    refine lv_iconst (v := 0) hx hb dX12_combines_123 (by decide) ?_
                    refine lv_goto (tgt := 174) hx hb dX12_combines_124 (by decide) ?_
                    obtain rfl := Option.some.inj hm
                    exact J174 _ _ _ hP hD hS (lv_sub hl [0, 1, 2, 3, 4, 5] rfl)
                  · replace hm := hm_f c_129 hm
                    refine lv_iconst (v := 1) hx hb dX12_combines_119 (by decide) ?_
                    refine lv_goto (tgt := 174) hx hb dX12_combines_120 (by decide) ?_
                    obtain rfl := Option.some.inj hm
                    exact J174 _ _ _ hP hD hS (lv_sub hl [0, 1, 2, 3, 4, 5] rfl)
        obtain ⟨r_130, hL, hm⟩ := hm_b hm
        refine L83 r_130 ?_ k 0 r_4 hL _ _ _ hP hD hS (lv_sub hl [0, 1, 2, 3, 4, 6] rfl)
        intro H locs ls hP hD hS hl
        obtain rfl := Option.some.inj hm
        exact J181 _ _ _ hP hD hS (lv_sub hl [0, 1] rfl)
      · replace hm := hm_t c_77 hm
        refine lv_aload_n hx hb dX12_combines_69 rfl (lv_at hl 2 rfl) ?_
        refine lv_aload hx hb dX12_combines_70 (lv_at hl 1 rfl) ?_
        refine lv_aload hx hb dX12_combines_72 (lv_at hl 0 rfl) ?_
        obtain ⟨r_131, hr_131, hm⟩ := hm_b hm
        refine k_V (as := [.ref (rw_t p1.toNatClampNeg), .ref (rw_t p2.toNatClampNeg)]) (rest := []) (ws' := (([(a_t, .inr (8, [.int v_t_isWide, .ref a_t_cells, .ref a_t_page, .int v_t_pageMany, .ref a_t_digits, .int v_t_many, .int v_t_isMinus, .ref a_t_found, .ref a_t_one, .ref a_t_other, .ref a_t_sum, .ref a_t_rest])), (a_t_cells, .inl (cy 5, 8, .inr (.inr (.inr (.inr (fun j => some (rw_t j))))))), (a_t_page, .inl (cy 0, 66, .inl f_t_page)), (a_t_digits, .inl (cy 0, 64, .inl f_t_digits)), (a_t_found, .inl (cy 2, 64, .inl f_t_found)), (a_t_one, .inl (cy 2, 65, .inl r_131.1)), (a_t_other, .inl (cy 2, 65, .inl f_t_other)), (a_t_sum, .inl (cy 2, 65, .inl r_131.2)), (a_t_rest, .inl (cy 2, 65, .inl f_t_rest))] : va_W) ++ (rowsW (cy 2) rw_t B_t ++ ([] : va_W)))) (st2 := []) (i0 := 0) hx hb hml hown ht hK hP hD hS hA hC hR hl (kcX12_multiplies l D cy g a_t a_t_cells a_t_page a_t_digits a_t_found a_t_one a_t_other a_t_sum a_t_rest rw_t v_t_isWide B_t f_t_page v_t_pageMany f_t_digits v_t_many v_t_isMinus f_t_found f_t_one f_t_other r_4 f_t_rest p1.toNatClampNeg hi_1 p2.toNatClampNeg hi_2 k r_131 hr_131) (isZ [0, 1, 2, 3, 4, 5, 6, 7, 8] 9 8) q_1599 q_1601 q_20 q_55 q_1602 hyX12_multiplies ⟨rfl, rfl, rfl⟩ ⟨Nat.le_of_ble_eq_true rfl, Nat.le_of_ble_eq_true rfl, Nat.le_of_ble_eq_true rfl, Nat.le_of_ble_eq_true rfl⟩ rfl (zcT rfl rfl rfl) (zeT rfl rfl) rfl (Nat.le_of_ble_eq_true rfl) dX12_combines_74 (zwT (cx := [(a_t, .inr (8, [.int v_t_isWide, .ref a_t_cells, .ref a_t_page, .int v_t_pageMany, .ref a_t_digits, .int v_t_many, .int v_t_isMinus, .ref a_t_found, .ref a_t_one, .ref a_t_other, .ref a_t_sum, .ref a_t_rest])), (a_t_cells, .inl (cy 5, 8, .inr (.inr (.inr (.inr (fun j => some (rw_t j))))))), (a_t_page, .inl (cy 0, 66, .inl f_t_page)), (a_t_digits, .inl (cy 0, 64, .inl f_t_digits)), (a_t_found, .inl (cy 2, 64, .inl f_t_found)), (a_t_one, .inl (cy 2, 65, .inl f_t_one)), (a_t_other, .inl (cy 2, 65, .inl f_t_other)), (a_t_sum, .inl (cy 2, 65, .inl r_4)), (a_t_rest, .inl (cy 2, 65, .inl f_t_rest))]) rfl rfl rfl rfl rfl rfl) rfl (fun H locs hP hD hS => ?_)
        refine lv_goto (tgt := 181) hx hb dX12_combines_77 (by decide) ?_
        obtain rfl := Option.some.inj hm
        exact J181 _ _ _ hP hD hS (lv_sub hl [2, 3] rfl)
    · replace hm := hm_t c_76 hm
      refine lv_aload_n hx hb dX12_combines_38 rfl (lv_at hl 2 rfl) ?_
      refine va_get (D := D) (cl := classes) (ci := 8) (v := .ref a_t_sum) (C := RX12) (T := TX12) (N := 12) hx hb ht in_RX12 hown hK.1 hP 0 rfl rfl 10 (by decide) (ht _ q_1260) (fun _ h9 => h9) rfl dX12_combines_39 ?_
      refine lv_aload hx hb dX12_combines_42 (lv_at hl 0 rfl) ?_
      refine lv_aload_n hx hb dX12_combines_44 rfl (lv_at hl 2 rfl) ?_
      obtain ⟨r_132, hr_132, hm⟩ := hm_b hm
      refine k_V (as := []) (rest := [.ref (rw_t p2.toNatClampNeg), .ref a_t_sum]) (ws' := (([(a_t, .inr (8, [.int v_t_isWide, .ref a_t_cells, .ref a_t_page, .int v_t_pageMany, .ref a_t_digits, .int v_t_many, .int v_t_isMinus, .ref a_t_found, .ref a_t_one, .ref a_t_other, .ref a_t_sum, .ref a_t_rest])), (a_t_cells, .inl (cy 5, 8, .inr (.inr (.inr (.inr (fun j => some (rw_t j))))))), (a_t_page, .inl (cy 0, 66, .inl f_t_page)), (a_t_digits, .inl (cy 0, 64, .inl f_t_digits)), (a_t_found, .inl (cy 2, 64, .inl f_t_found)), (a_t_one, .inl (cy 2, 65, .inl f_t_one)), (a_t_other, .inl (cy 2, 65, .inl f_t_other)), (a_t_sum, .inl (cy 2, 65, .inl r_4)), (a_t_rest, .inl (cy 2, 65, .inl f_t_rest))] : va_W) ++ (rowsW (cy 2) rw_t B_t ++ ([] : va_W)))) (st2 := [.int r_132, .ref (rw_t p2.toNatClampNeg), .ref a_t_sum]) (i0 := 0) hx hb hml hown ht hK hP hD hS hA hC hR hl (kcX12_bits l D cy g a_t a_t_cells a_t_page a_t_digits a_t_found a_t_one a_t_other a_t_sum a_t_rest rw_t v_t_isWide B_t f_t_page v_t_pageMany f_t_digits v_t_many v_t_isMinus f_t_found f_t_one f_t_other r_4 f_t_rest r_132 hr_132) (isZ [0, 1, 2, 3, 4, 5, 6, 7, 8] 9 8) q_1354 q_1355 q_1356 q_55 q_1357 hyX12_bits ⟨rfl, rfl, rfl⟩ ⟨Nat.le_of_ble_eq_true rfl, Nat.le_of_ble_eq_true rfl, Nat.le_of_ble_eq_true rfl, Nat.le_of_ble_eq_true rfl⟩ rfl (zcT rfl rfl rfl) (zeT rfl rfl) rfl (Nat.le_of_ble_eq_true rfl) dX12_combines_45 (zwT (cx := [(a_t, .inr (8, [.int v_t_isWide, .ref a_t_cells, .ref a_t_page, .int v_t_pageMany, .ref a_t_digits, .int v_t_many, .int v_t_isMinus, .ref a_t_found, .ref a_t_one, .ref a_t_other, .ref a_t_sum, .ref a_t_rest])), (a_t_cells, .inl (cy 5, 8, .inr (.inr (.inr (.inr (fun j => some (rw_t j))))))), (a_t_page, .inl (cy 0, 66, .inl f_t_page)), (a_t_digits, .inl (cy 0, 64, .inl f_t_digits)), (a_t_found, .inl (cy 2, 64, .inl f_t_found)), (a_t_one, .inl (cy 2, 65, .inl f_t_one)), (a_t_other, .inl (cy 2, 65, .inl f_t_other)), (a_t_sum, .inl (cy 2, 65, .inl r_4)), (a_t_rest, .inl (cy 2, 65, .inl f_t_rest))]) rfl rfl rfl rfl rfl rfl) rfl (fun H locs hP hD hS => ?_)
      refine lv_iload_n hx hb dX12_combines_48 rfl (lv_at hl 5 rfl) ?_
      refine lv_iconst (v := 1) hx hb dX12_combines_49 (by decide) ?_
      obtain ⟨x_134, hreg, hm⟩ := hm_b hm
      have J58 : ∀ (H : Heap) (locs : List Loc) (ls : Array Slot), va_P D classes (([(a_t, .inr (8, [.int v_t_isWide, .ref a_t_cells, .ref a_t_page, .int v_t_pageMany, .ref a_t_digits, .int v_t_many, .int v_t_isMinus, .ref a_t_found, .ref a_t_one, .ref a_t_other, .ref a_t_sum, .ref a_t_rest])), (a_t_cells, .inl (cy 5, 8, .inr (.inr (.inr (.inr (fun j => some (rw_t j))))))), (a_t_page, .inl (cy 0, 66, .inl f_t_page)), (a_t_digits, .inl (cy 0, 64, .inl f_t_digits)), (a_t_found, .inl (cy 2, 64, .inl f_t_found)), (a_t_one, .inl (cy 2, 65, .inl f_t_one)), (a_t_other, .inl (cy 2, 65, .inl f_t_other)), (a_t_sum, .inl (cy 2, 65, .inl r_4)), (a_t_rest, .inl (cy 2, 65, .inl f_t_rest))] : va_W) ++ (rowsW (cy 2) rw_t B_t ++ ([] : va_W))) H → va_D A (([(a_t, .inr (8, [.int v_t_isWide, .ref a_t_cells, .ref a_t_page, .int v_t_pageMany, .ref a_t_digits, .int v_t_many, .int v_t_isMinus, .ref a_t_found, .ref a_t_one, .ref a_t_other, .ref a_t_sum, .ref a_t_rest])), (a_t_cells, .inl (cy 5, 8, .inr (.inr (.inr (.inr (fun j => some (rw_t j))))))), (a_t_page, .inl (cy 0, 66, .inl f_t_page)), (a_t_digits, .inl (cy 0, 64, .inl f_t_digits)), (a_t_found, .inl (cy 2, 64, .inl f_t_found)), (a_t_one, .inl (cy 2, 65, .inl f_t_one)), (a_t_other, .inl (cy 2, 65, .inl f_t_other)), (a_t_sum, .inl (cy 2, 65, .inl r_4)), (a_t_rest, .inl (cy 2, 65, .inl f_t_rest))] : va_W) ++ (rowsW (cy 2) rw_t B_t ++ ([] : va_W))) → va_S A s.heap H locs → lv_has ls 7 [(0, .ref a_t), (1, .int p1)] → W p l e RM s m ar below meth c H locs 0 0 (MQ below Qc ar s 0 0 A) (F0 m 58 ls [.int x_134, .int r_132, .ref (rw_t p2.toNatClampNeg), .ref a_t_sum]) := by
        intro H locs ls hP hD hS hl
        obtain ⟨r_135, hr_135, hm⟩ := hm_b hm
        refine k_SN (as := [.ref a_t_sum, .ref (rw_t p2.toNatClampNeg), .int r_132, .int x_134]) (rest := []) (ws' := (([(a_t, .inr (8, [.int v_t_isWide, .ref a_t_cells, .ref a_t_page, .int v_t_pageMany, .ref a_t_digits, .int v_t_many, .int v_t_isMinus, .ref a_t_found, .ref a_t_one, .ref a_t_other, .ref a_t_sum, .ref a_t_rest])), (a_t_cells, .inl (cy 5, 8, .inr (.inr (.inr (.inr (fun j => some (rw_t j))))))), (a_t_page, .inl (cy 0, 66, .inl f_t_page)), (a_t_digits, .inl (cy 0, 64, .inl f_t_digits)), (a_t_found, .inl (cy 2, 64, .inl f_t_found)), (a_t_one, .inl (cy 2, 65, .inl f_t_one)), (a_t_other, .inl (cy 2, 65, .inl f_t_other)), (a_t_sum, .inl (cy 2, 65, .inl r_135)), (a_t_rest, .inl (cy 2, 65, .inl f_t_rest))] : va_W) ++ (rowsW (cy 2) rw_t B_t ++ ([] : va_W)))) (st2 := []) hx hb hml hown ht hK hP hD hS hA hC hR hl (kcX13_adds l D cy g a_t_sum (rw_t p2.toNatClampNeg) 65 64 r_4 (B_t p2.toNatClampNeg) r_132 x_134 k r_135 hr_135) [7, 9 + p2.toNatClampNeg] qn_1554 q_1597 q_54 q_1598 hyX13_adds ⟨Nat.le_of_ble_eq_true rfl, Nat.le_of_ble_eq_true rfl, Nat.le_of_ble_eq_true rfl, Nat.le_of_ble_eq_true rfl⟩ (nd2 (by omega)) (cs_cons rfl (cs_cons (row_get0 rfl hi_2) cs_nil)) rfl rfl (Nat.le_of_ble_eq_true rfl) dX12_combines_58 (ps_cons (show ((([(a_t, .inr (8, [.int v_t_isWide, .ref a_t_cells, .ref a_t_page, .int v_t_pageMany, .ref a_t_digits, .int v_t_many, .int v_t_isMinus, .ref a_t_found, .ref a_t_one, .ref a_t_other, .ref a_t_sum, .ref a_t_rest])), (a_t_cells, .inl (cy 5, 8, .inr (.inr (.inr (.inr (fun j => some (rw_t j))))))), (a_t_page, .inl (cy 0, 66, .inl f_t_page)), (a_t_digits, .inl (cy 0, 64, .inl f_t_digits)), (a_t_found, .inl (cy 2, 64, .inl f_t_found)), (a_t_one, .inl (cy 2, 65, .inl f_t_one)), (a_t_other, .inl (cy 2, 65, .inl f_t_other)), (a_t_sum, .inl (cy 2, 65, .inl r_4)), (a_t_rest, .inl (cy 2, 65, .inl f_t_rest))] : va_W) ++ (rowsW (cy 2) rw_t B_t ++ ([] : va_W)))).set 7 (a_t_sum, .inl (cy 2, 65, .inl r_135)) = (([(a_t, .inr (8, [.int v_t_isWide, .ref a_t_cells, .ref a_t_page, .int v_t_pageMany, .ref a_t_digits, .int v_t_many, .int v_t_isMinus, .ref a_t_found, .ref a_t_one, .ref a_t_other, .ref a_t_sum, .ref a_t_rest])), (a_t_cells, .inl (cy 5, 8, .inr (.inr (.inr (.inr (fun j => some (rw_t j))))))), (a_t_page, .inl (cy 0, 66, .inl f_t_page)), (a_t_digits, .inl (cy 0, 64, .inl f_t_digits)), (a_t_found, .inl (cy 2, 64, .inl f_t_found)), (a_t_one, .inl (cy 2, 65, .inl f_t_one)), (a_t_other, .inl (cy 2, 65, .inl f_t_other)), (a_t_sum, .inl (cy 2, 65, .inl r_135)), (a_t_rest, .inl (cy 2, 65, .inl f_t_rest))] : va_W) ++ (rowsW (cy 2) rw_t B_t ++ ([] : va_W))) from rfl) (ps_cons (set_same (row_get0 rfl hi_2)) ps_nil)) rfl (fun H locs hP hD hS => ?_)
        refine lv_goto (tgt := 181) hx hb dX12_combines_61 (by decide) ?_
        obtain rfl := Option.some.inj hm
        exact J181 _ _ _ hP hD hS (lv_sub hl [0, 1] rfl)
      replace hm := hreg
      refine lv_icmp_ne (tgt := 57) hx hb dX12_combines_50 (by decide) (fun c_133 => ?_) (fun c_133 => ?_)
      · replace hm := hm_f c_133 hm
        refine lv_iconst (v := 0) hx hb dX12_combines_57 (by decide) ?_
        obtain rfl := Option.some.inj hm
        exact J58 _ _ _ hP hD hS (lv_sub hl [2, 3] rfl)
      · replace hm := hm_t c_133 hm
        refine lv_iconst (v := 1) hx hb dX12_combines_53 (by decide) ?_
        refine lv_goto (tgt := 58) hx hb dX12_combines_54 (by decide) ?_
        obtain rfl := Option.some.inj hm
        exact J58 _ _ _ hP hD hS (lv_sub hl [2, 3] rfl)
theorem dX12_divides_0 : decode cX12_divides 0 = .ok (.aload_n 0, 1) := by decide +kernel
theorem dX12_divides_1 : decode cX12_divides 1 = .ok (.getfield 11, 3) := by decide +kernel
theorem dX12_divides_4 : decode cX12_divides 4 = .ok (.iload_n 2, 1) := by decide +kernel
theorem dX12_divides_5 : decode cX12_divides 5 = .ok (.aaload, 1) := by decide +kernel
theorem dX12_divides_6 : decode cX12_divides 6 = .ok (.aload_n 0, 1) := by decide +kernel
theorem dX12_divides_7 : decode cX12_divides 7 = .ok (.invokevirtual 59, 3) := by decide +kernel
theorem dX12_divides_10 : decode cX12_divides 10 = .ok (.invokestatic 101, 3) := by decide +kernel
theorem dX12_divides_13 : decode cX12_divides 13 = .ok (.ifCond .eq 5, 3) := by decide +kernel
theorem dX12_divides_16 : decode cX12_divides 16 = .ok (.iconst 0, 1) := by decide +kernel
theorem dX12_divides_17 : decode cX12_divides 17 = .ok (.ireturn, 1) := by decide +kernel
theorem dX12_divides_18 : decode cX12_divides 18 = .ok (.aload_n 0, 1) := by decide +kernel
theorem dX12_divides_19 : decode cX12_divides 19 = .ok (.iload_n 1, 1) := by decide +kernel
theorem dX12_divides_20 : decode cX12_divides 20 = .ok (.iload 4, 2) := by decide +kernel
theorem dX12_divides_22 : decode cX12_divides 22 = .ok (.aload_n 0, 1) := by decide +kernel
theorem dX12_divides_23 : decode cX12_divides 23 = .ok (.getfield 27, 3) := by decide +kernel
theorem dX12_divides_26 : decode cX12_divides 26 = .ok (.invokevirtual 91, 3) := by decide +kernel
theorem dX12_divides_29 : decode cX12_divides 29 = .ok (.istore 5, 2) := by decide +kernel
theorem dX12_divides_31 : decode cX12_divides 31 = .ok (.aload_n 0, 1) := by decide +kernel
theorem dX12_divides_32 : decode cX12_divides 32 = .ok (.iload_n 2, 1) := by decide +kernel
theorem dX12_divides_33 : decode cX12_divides 33 = .ok (.iload 4, 2) := by decide +kernel
theorem dX12_divides_35 : decode cX12_divides 35 = .ok (.aload_n 0, 1) := by decide +kernel
theorem dX12_divides_36 : decode cX12_divides 36 = .ok (.getfield 30, 3) := by decide +kernel
theorem dX12_divides_39 : decode cX12_divides 39 = .ok (.invokevirtual 91, 3) := by decide +kernel
theorem dX12_divides_42 : decode cX12_divides 42 = .ok (.istore 6, 2) := by decide +kernel
theorem dX12_divides_44 : decode cX12_divides 44 = .ok (.aload_n 0, 1) := by decide +kernel
theorem dX12_divides_45 : decode cX12_divides 45 = .ok (.getfield 36, 3) := by decide +kernel
theorem dX12_divides_48 : decode cX12_divides 48 = .ok (.invokestatic 79, 3) := by decide +kernel
theorem dX12_divides_51 : decode cX12_divides 51 = .ok (.aload_n 0, 1) := by decide +kernel
theorem dX12_divides_52 : decode cX12_divides 52 = .ok (.getfield 33, 3) := by decide +kernel
theorem dX12_divides_55 : decode cX12_divides 55 = .ok (.invokestatic 79, 3) := by decide +kernel
theorem dX12_divides_58 : decode cX12_divides 58 = .ok (.aload_n 0, 1) := by decide +kernel
theorem dX12_divides_59 : decode cX12_divides 59 = .ok (.invokevirtual 59, 3) := by decide +kernel
theorem dX12_divides_62 : decode cX12_divides 62 = .ok (.iconst 1, 1) := by decide +kernel
theorem dX12_divides_63 : decode cX12_divides 63 = .ok (.isub, 1) := by decide +kernel
theorem dX12_divides_64 : decode cX12_divides 64 = .ok (.istore 7, 2) := by decide +kernel
theorem dX12_divides_66 : decode cX12_divides 66 = .ok (.iload 7, 2) := by decide +kernel
theorem dX12_divides_68 : decode cX12_divides 68 = .ok (.ifCond .lt 115, 3) := by decide +kernel
theorem dX12_divides_71 : decode cX12_divides 71 = .ok (.aload_n 0, 1) := by decide +kernel
theorem dX12_divides_72 : decode cX12_divides 72 = .ok (.invokevirtual 59, 3) := by decide +kernel
theorem dX12_divides_75 : decode cX12_divides 75 = .ok (.istore 8, 2) := by decide +kernel
theorem dX12_divides_77 : decode cX12_divides 77 = .ok (.iload 8, 2) := by decide +kernel
theorem dX12_divides_79 : decode cX12_divides 79 = .ok (.ifCond .le 25, 3) := by decide +kernel
theorem dX12_divides_82 : decode cX12_divides 82 = .ok (.aload_n 0, 1) := by decide +kernel
theorem dX12_divides_83 : decode cX12_divides 83 = .ok (.getfield 36, 3) := by decide +kernel
theorem dX12_divides_86 : decode cX12_divides 86 = .ok (.iload 8, 2) := by decide +kernel
theorem dX12_divides_88 : decode cX12_divides 88 = .ok (.aload_n 0, 1) := by decide +kernel
theorem dX12_divides_89 : decode cX12_divides 89 = .ok (.getfield 36, 3) := by decide +kernel
theorem dX12_divides_92 : decode cX12_divides 92 = .ok (.iload 8, 2) := by decide +kernel
theorem dX12_divides_94 : decode cX12_divides 94 = .ok (.iconst 1, 1) := by decide +kernel
theorem dX12_divides_95 : decode cX12_divides 95 = .ok (.isub, 1) := by decide +kernel
theorem dX12_divides_96 : decode cX12_divides 96 = .ok (.baload, 1) := by decide +kernel
theorem dX12_divides_97 : decode cX12_divides 97 = .ok (.bastore, 1) := by decide +kernel
theorem dX12_divides_98 : decode cX12_divides 98 = .ok (.iinc 8 (-1), 3) := by decide +kernel
theorem dX12_divides_101 : decode cX12_divides 101 = .ok (.goto (-24), 3) := by decide +kernel
theorem dX12_divides_104 : decode cX12_divides 104 = .ok (.aload_n 0, 1) := by decide +kernel
theorem dX12_divides_105 : decode cX12_divides 105 = .ok (.getfield 36, 3) := by decide +kernel
theorem dX12_divides_108 : decode cX12_divides 108 = .ok (.iconst 0, 1) := by decide +kernel
theorem dX12_divides_109 : decode cX12_divides 109 = .ok (.aload_n 0, 1) := by decide +kernel
theorem dX12_divides_110 : decode cX12_divides 110 = .ok (.getfield 27, 3) := by decide +kernel
theorem dX12_divides_113 : decode cX12_divides 113 = .ok (.iload 7, 2) := by decide +kernel
theorem dX12_divides_115 : decode cX12_divides 115 = .ok (.baload, 1) := by decide +kernel
theorem dX12_divides_116 : decode cX12_divides 116 = .ok (.bastore, 1) := by decide +kernel
theorem dX12_divides_117 : decode cX12_divides 117 = .ok (.aload_n 0, 1) := by decide +kernel
theorem dX12_divides_118 : decode cX12_divides 118 = .ok (.getfield 33, 3) := by decide +kernel
theorem dX12_divides_121 : decode cX12_divides 121 = .ok (.iload 7, 2) := by decide +kernel
theorem dX12_divides_123 : decode cX12_divides 123 = .ok (.aload_n 0, 1) := by decide +kernel
theorem dX12_divides_124 : decode cX12_divides 124 = .ok (.getfield 36, 3) := by decide +kernel
theorem dX12_divides_127 : decode cX12_divides 127 = .ok (.aload_n 0, 1) := by decide +kernel
theorem dX12_divides_128 : decode cX12_divides 128 = .ok (.getfield 30, 3) := by decide +kernel
theorem dX12_divides_131 : decode cX12_divides 131 = .ok (.aload_n 0, 1) := by decide +kernel
theorem dX12_divides_132 : decode cX12_divides 132 = .ok (.invokevirtual 59, 3) := by decide +kernel
theorem dX12_divides_135 : decode cX12_divides 135 = .ok (.iconst 1, 1) := by decide +kernel
theorem dX12_divides_136 : decode cX12_divides 136 = .ok (.iadd, 1) := by decide +kernel
theorem dX12_divides_137 : decode cX12_divides 137 = .ok (.invokestatic 135, 3) := by decide +kernel
theorem dX12_divides_140 : decode cX12_divides 140 = .ok (.ifCond .lt 7, 3) := by decide +kernel
theorem dX12_divides_143 : decode cX12_divides 143 = .ok (.iconst 1, 1) := by decide +kernel
theorem dX12_divides_144 : decode cX12_divides 144 = .ok (.goto 4, 3) := by decide +kernel
theorem dX12_divides_147 : decode cX12_divides 147 = .ok (.iconst 0, 1) := by decide +kernel
theorem dX12_divides_148 : decode cX12_divides 148 = .ok (.bastore, 1) := by decide +kernel
theorem dX12_divides_149 : decode cX12_divides 149 = .ok (.aload_n 0, 1) := by decide +kernel
theorem dX12_divides_150 : decode cX12_divides 150 = .ok (.getfield 33, 3) := by decide +kernel
theorem dX12_divides_153 : decode cX12_divides 153 = .ok (.iload 7, 2) := by decide +kernel
theorem dX12_divides_155 : decode cX12_divides 155 = .ok (.baload, 1) := by decide +kernel
theorem dX12_divides_156 : decode cX12_divides 156 = .ok (.ifCond .eq 21, 3) := by decide +kernel
theorem dX12_divides_159 : decode cX12_divides 159 = .ok (.aload_n 0, 1) := by decide +kernel
theorem dX12_divides_160 : decode cX12_divides 160 = .ok (.getfield 36, 3) := by decide +kernel
theorem dX12_divides_163 : decode cX12_divides 163 = .ok (.aload_n 0, 1) := by decide +kernel
theorem dX12_divides_164 : decode cX12_divides 164 = .ok (.getfield 30, 3) := by decide +kernel
theorem dX12_divides_167 : decode cX12_divides 167 = .ok (.aload_n 0, 1) := by decide +kernel
theorem dX12_divides_168 : decode cX12_divides 168 = .ok (.invokevirtual 59, 3) := by decide +kernel
theorem dX12_divides_171 : decode cX12_divides 171 = .ok (.iconst 1, 1) := by decide +kernel
theorem dX12_divides_172 : decode cX12_divides 172 = .ok (.iadd, 1) := by decide +kernel
theorem dX12_divides_173 : decode cX12_divides 173 = .ok (.iconst 1, 1) := by decide +kernel
theorem dX12_divides_174 : decode cX12_divides 174 = .ok (.invokestatic 127, 3) := by decide +kernel
theorem dX12_divides_177 : decode cX12_divides 177 = .ok (.iinc 7 (-1), 3) := by decide +kernel
theorem dX12_divides_180 : decode cX12_divides 180 = .ok (.goto (-114), 3) := by decide +kernel
theorem dX12_divides_183 : decode cX12_divides 183 = .ok (.iload 5, 2) := by decide +kernel
theorem dX12_divides_185 : decode cX12_divides 185 = .ok (.iload 6, 2) := by decide +kernel
theorem dX12_divides_187 : decode cX12_divides 187 = .ok (.if_icmp .eq 14, 3) := by decide +kernel
theorem dX12_divides_190 : decode cX12_divides 190 = .ok (.aload_n 0, 1) := by decide +kernel
theorem dX12_divides_191 : decode cX12_divides 191 = .ok (.getfield 33, 3) := by decide +kernel
theorem dX12_divides_194 : decode cX12_divides 194 = .ok (.aload_n 0, 1) := by decide +kernel
theorem dX12_divides_195 : decode cX12_divides 195 = .ok (.invokevirtual 59, 3) := by decide +kernel
theorem dX12_divides_198 : decode cX12_divides 198 = .ok (.invokestatic 83, 3) := by decide +kernel
theorem dX12_divides_201 : decode cX12_divides 201 = .ok (.iload 5, 2) := by decide +kernel
theorem dX12_divides_203 : decode cX12_divides 203 = .ok (.ifCond .eq 14, 3) := by decide +kernel
theorem dX12_divides_206 : decode cX12_divides 206 = .ok (.aload_n 0, 1) := by decide +kernel
theorem dX12_divides_207 : decode cX12_divides 207 = .ok (.getfield 36, 3) := by decide +kernel
theorem dX12_divides_210 : decode cX12_divides 210 = .ok (.aload_n 0, 1) := by decide +kernel
theorem dX12_divides_211 : decode cX12_divides 211 = .ok (.invokevirtual 59, 3) := by decide +kernel
theorem dX12_divides_214 : decode cX12_divides 214 = .ok (.invokestatic 83, 3) := by decide +kernel
theorem dX12_divides_217 : decode cX12_divides 217 = .ok (.aload_n 0, 1) := by decide +kernel
theorem dX12_divides_218 : decode cX12_divides 218 = .ok (.iload_n 1, 1) := by decide +kernel
theorem dX12_divides_219 : decode cX12_divides 219 = .ok (.aload_n 0, 1) := by decide +kernel
theorem dX12_divides_220 : decode cX12_divides 220 = .ok (.getfield 33, 3) := by decide +kernel
theorem dX12_divides_223 : decode cX12_divides 223 = .ok (.invokevirtual 75, 3) := by decide +kernel
theorem dX12_divides_226 : decode cX12_divides 226 = .ok (.lstore 7, 2) := by decide +kernel
theorem dX12_divides_228 : decode cX12_divides 228 = .ok (.aload_n 0, 1) := by decide +kernel
theorem dX12_divides_229 : decode cX12_divides 229 = .ok (.iload_n 3, 1) := by decide +kernel
theorem dX12_divides_230 : decode cX12_divides 230 = .ok (.aload_n 0, 1) := by decide +kernel
theorem dX12_divides_231 : decode cX12_divides 231 = .ok (.getfield 36, 3) := by decide +kernel
theorem dX12_divides_234 : decode cX12_divides 234 = .ok (.invokevirtual 75, 3) := by decide +kernel
theorem dX12_divides_237 : decode cX12_divides 237 = .ok (.lstore 9, 2) := by decide +kernel
theorem dX12_divides_239 : decode cX12_divides 239 = .ok (.iconst 1, 1) := by decide +kernel
theorem dX12_divides_240 : decode cX12_divides 240 = .ok (.ireturn, 1) := by decide +kernel
def mX12_divides_L77  : Nat → Int32 → (Nat → Int32) → Option ((Nat → Int32))
  | 0, _, _ => none
  | n_ + 1, y_56, y_57 => (if y_56 ≤ 0 then some y_57 else (if (y_56 - 1) < 0 ∨ 65 ≤ (y_56 - 1).toNatClampNeg then none else (if y_56 < 0 ∨ 65 ≤ y_56.toNatClampNeg then none else (mX12_divides_L77  n_ (y_56 + (-1)) (upd y_57 y_56.toNatClampNeg (vp_nar .boolean (y_57 (y_56 - 1).toNatClampNeg)))))))
def mX12_divides_L66 (v_t_isWide : Int32) (k : Nat) (r_5 : Int32 × (Nat → Int32)) (r_6 : Int32 × (Nat → Int32)) : Nat → Int32 → (Nat → Int32) → (Nat → Int32) → Option ((Nat → Int32) × (Nat → Int32))
  | 0, _, _, _ => none
  | n_ + 1, y_47, y_48, y_49 => (if y_47 < 0 then some (y_48, y_49) else ((mX12_bits v_t_isWide).bind (fun r_51 => ((mX12_divides_L77 k r_51 y_49).bind (fun r_59 => (if y_47 < 0 ∨ 65 ≤ y_47.toNatClampNeg then none else (if (0 : Int32) < 0 ∨ 65 ≤ (0 : Int32).toNatClampNeg then none else ((mX12_bits v_t_isWide).bind (fun r_60 => ((mX13_compared k 65 65 (upd r_59 (0 : Int32).toNatClampNeg (vp_nar .boolean (r_5.2 y_47.toNatClampNeg))) r_6.2 (r_60 + 1)).bind (fun r_61 => (((if r_61 < 0 then some 0 else some 1) : Option (Int32)).bind (fun x_63 => (if y_47 < 0 ∨ 65 ≤ y_47.toNatClampNeg then none else (if y_47 < 0 ∨ 65 ≤ y_47.toNatClampNeg then none else (if ((upd y_48 y_47.toNatClampNeg (vp_nar .boolean x_63)) y_47.toNatClampNeg) = 0 then (mX12_divides_L66 v_t_isWide k r_5 r_6 n_ (y_47 + (-1)) (upd y_48 y_47.toNatClampNeg (vp_nar .boolean x_63)) (upd r_59 (0 : Int32).toNatClampNeg (vp_nar .boolean (r_5.2 y_47.toNatClampNeg)))) else ((mX12_bits v_t_isWide).bind (fun r_65 => ((mX13_adds k 65 65 (upd r_59 (0 : Int32).toNatClampNeg (vp_nar .boolean (r_5.2 y_47.toNatClampNeg))) r_6.2 (r_65 + 1) 1).bind (fun r_66 => (mX12_divides_L66 v_t_isWide k r_5 r_6 n_ (y_47 + (-1)) (upd y_48 y_47.toNatClampNeg (vp_nar .boolean x_63)) r_66)))))))))))))))))))))
def mX12_divides (k : Nat) (v_t_isWide : Int32) (B_t : Nat → Nat → Int32) (f_t_one : Nat → Int32) (f_t_other : Nat → Int32) (f_t_sum : Nat → Int32) (f_t_rest : Nat → Int32) (p1 : Int32) (p2 : Int32) (p3 : Int32) (p4 : Int32) : Option (Int32 × (Nat → Nat → Int32) × (Nat → Int32) × (Nat → Int32) × (Nat → Int32) × (Nat → Int32)) := (if p2 < 0 ∨ 8 ≤ p2.toNatClampNeg then none else ((mX12_bits v_t_isWide).bind (fun r_2 => ((mX13_isNothing k 64 (B_t p2.toNatClampNeg) r_2).bind (fun r_3 => (if r_3 = 0 then ((mX12_sizes_one k v_t_isWide B_t f_t_one p1 p4).bind (fun r_5 => ((mX12_sizes_other k v_t_isWide B_t f_t_other p2 p4).bind (fun r_6 => ((mX13_clear k 65 f_t_rest).bind (fun r_7 => ((mX13_clear k 65 f_t_sum).bind (fun r_8 => ((mX12_bits v_t_isWide).bind (fun r_9 => ((mX12_divides_L66 v_t_isWide k r_5 r_6 k (r_9 - 1) r_8 r_7).bind (fun r_67 => (((if r_5.1 = r_6.1 then some r_67.1 else ((mX12_bits v_t_isWide).bind (fun r_80 => ((mX13_negates k 65 r_67.1 r_80).bind (fun r_81 => some r_81))))) : Option ((Nat → Int32))).bind (fun x_71 => (((if r_5.1 = 0 then some r_67.2 else ((mX12_bits v_t_isWide).bind (fun r_78 => ((mX13_negates k 65 r_67.2 r_78).bind (fun r_79 => some r_79))))) : Option ((Nat → Int32))).bind (fun x_75 => ((mX12_puts_sum k v_t_isWide B_t x_71 p1).bind (fun r_76 => ((mX12_puts_rest k v_t_isWide r_76.2 x_75 p3).bind (fun r_77 => some (1, r_77.2, r_5.2, r_6.2, x_71, x_75))))))))))))))))))))) else some (0, B_t, f_t_one, f_t_other, f_t_sum, f_t_rest)))))))
set_option maxHeartbeats 4000000 in
set_option maxRecDepth 100000 in
theorem kcX12_divides (l : Launch) (D : va_G) (cy : Nat → ClassId) (g : Nat → Nat) (a_t : Nat) (a_t_cells : Nat) (a_t_page : Nat) (a_t_digits : Nat) (a_t_found : Nat) (a_t_one : Nat) (a_t_other : Nat) (a_t_sum : Nat) (a_t_rest : Nat) (rw_t : Nat → Nat) (v_t_isWide : Int32) (B_t : Nat → Nat → Int32) (f_t_page : Nat → Int32) (v_t_pageMany : Int32) (f_t_digits : Nat → Int32) (v_t_many : Int32) (v_t_isMinus : Int32) (f_t_found : Nat → Int32) (f_t_one : Nat → Int32) (f_t_other : Nat → Int32) (f_t_sum : Nat → Int32) (f_t_rest : Nat → Int32) (p1 : Int32) (p2 : Int32) (p3 : Int32) (p4 : Int32) (k : Nat) (R : Int32 × (Nat → Nat → Int32) × (Nat → Int32) × (Nat → Int32) × (Nat → Int32) × (Nat → Int32)) (hm : mX12_divides k v_t_isWide B_t f_t_one f_t_other f_t_sum f_t_rest p1 p2 p3 p4 = some R) : Con l D cy g yX12_divides cX12_divides 11 (some .boolean) 4 85 0 0 [.ref a_t, .int p1, .int p2, .int p3, .int p4] (([(a_t, .inr (8, [.int v_t_isWide, .ref a_t_cells, .ref a_t_page, .int v_t_pageMany, .ref a_t_digits, .int v_t_many, .int v_t_isMinus, .ref a_t_found, .ref a_t_one, .ref a_t_other, .ref a_t_sum, .ref a_t_rest])), (a_t_cells, .inl (cy 5, 8, .inr (.inr (.inr (.inr (fun j => some (rw_t j))))))), (a_t_page, .inl (cy 0, 66, .inl f_t_page)), (a_t_digits, .inl (cy 0, 64, .inl f_t_digits)), (a_t_found, .inl (cy 2, 64, .inl f_t_found)), (a_t_one, .inl (cy 2, 65, .inl f_t_one)), (a_t_other, .inl (cy 2, 65, .inl f_t_other)), (a_t_sum, .inl (cy 2, 65, .inl f_t_sum)), (a_t_rest, .inl (cy 2, 65, .inl f_t_rest))] : va_W) ++ (rowsW (cy 2) rw_t B_t ++ ([] : va_W))) (([(a_t, .inr (8, [.int v_t_isWide, .ref a_t_cells, .ref a_t_page, .int v_t_pageMany, .ref a_t_digits, .int v_t_many, .int v_t_isMinus, .ref a_t_found, .ref a_t_one, .ref a_t_other, .ref a_t_sum, .ref a_t_rest])), (a_t_cells, .inl (cy 5, 8, .inr (.inr (.inr (.inr (fun j => some (rw_t j))))))), (a_t_page, .inl (cy 0, 66, .inl f_t_page)), (a_t_digits, .inl (cy 0, 64, .inl f_t_digits)), (a_t_found, .inl (cy 2, 64, .inl f_t_found)), (a_t_one, .inl (cy 2, 65, .inl R.2.2.1)), (a_t_other, .inl (cy 2, 65, .inl R.2.2.2.1)), (a_t_sum, .inl (cy 2, 65, .inl R.2.2.2.2.1)), (a_t_rest, .inl (cy 2, 65, .inl R.2.2.2.2.2))] : va_W) ++ (rowsW (cy 2) rw_t R.2.1 ++ ([] : va_W))) (some (.int R.1)) := by
  refine Con.of (by decide +kernel) (Nat.le_of_ble_eq_true rfl) ?_
  intro p e RM s m ar below meth c A Qc ls hx hb hr hml hown hlocks hnm ht hK hP hD hS hA hR hC hQc hl
  have hown : s.vm.findClass RX12 = some m.cls := hown
  have hl : lv_has ls 11 [(0, .ref a_t), (1, .int p1), (2, .int p2), (3, .int p3), (4, .int p4)] := hl
  rw [mX12_divides] at hm
  refine lv_aload_n hx hb dX12_divides_0 rfl (lv_at hl 0 rfl) ?_
  refine va_get (D := D) (cl := classes) (ci := 8) (v := .ref a_t_cells) (C := RX12) (T := TX12) (N := 12) hx hb ht in_RX12 hown hK.1 hP 0 rfl rfl 1 (by decide) (ht _ q_1245) (fun _ h9 => h9) rfl dX12_divides_1 ?_
  refine lv_iload_n hx hb dX12_divides_4 rfl (lv_at hl 2 rfl) ?_
  obtain ⟨hin, hm⟩ := hm_g hm
  have hi_1 : p2.toNatClampNeg < 8 := Nat.not_le.mp (fun q => hin (Or.inr q))
  refine k_aldA hx hb hK.1 hP 1 5 rfl rfl hin dX12_divides_5 ?_
  refine lv_aload_n hx hb dX12_divides_6 rfl (lv_at hl 0 rfl) ?_
  obtain ⟨r_2, hr_2, hm⟩ := hm_b hm
  refine k_V (as := []) (rest := [.ref (rw_t p2.toNatClampNeg)]) (ws' := (([(a_t, .inr (8, [.int v_t_isWide, .ref a_t_cells, .ref a_t_page, .int v_t_pageMany, .ref a_t_digits, .int v_t_many, .int v_t_isMinus, .ref a_t_found, .ref a_t_one, .ref a_t_other, .ref a_t_sum, .ref a_t_rest])), (a_t_cells, .inl (cy 5, 8, .inr (.inr (.inr (.inr (fun j => some (rw_t j))))))), (a_t_page, .inl (cy 0, 66, .inl f_t_page)), (a_t_digits, .inl (cy 0, 64, .inl f_t_digits)), (a_t_found, .inl (cy 2, 64, .inl f_t_found)), (a_t_one, .inl (cy 2, 65, .inl f_t_one)), (a_t_other, .inl (cy 2, 65, .inl f_t_other)), (a_t_sum, .inl (cy 2, 65, .inl f_t_sum)), (a_t_rest, .inl (cy 2, 65, .inl f_t_rest))] : va_W) ++ (rowsW (cy 2) rw_t B_t ++ ([] : va_W)))) (st2 := [.int r_2, .ref (rw_t p2.toNatClampNeg)]) (i0 := 0) hx hb hml hown ht hK hP hD hS hA hC hR hl (kcX12_bits l D cy g a_t a_t_cells a_t_page a_t_digits a_t_found a_t_one a_t_other a_t_sum a_t_rest rw_t v_t_isWide B_t f_t_page v_t_pageMany f_t_digits v_t_many v_t_isMinus f_t_found f_t_one f_t_other f_t_sum f_t_rest r_2 hr_2) (isZ [0, 1, 2, 3, 4, 5, 6, 7, 8] 9 8) q_1354 q_1355 q_1356 q_55 q_1357 hyX12_bits ⟨rfl, rfl, rfl⟩ ⟨Nat.le_of_ble_eq_true rfl, Nat.le_of_ble_eq_true rfl, Nat.le_of_ble_eq_true rfl, Nat.le_of_ble_eq_true rfl⟩ rfl (zcT rfl rfl rfl) (zeT rfl rfl) rfl (Nat.le_of_ble_eq_true rfl) dX12_divides_7 (zwT (cx := [(a_t, .inr (8, [.int v_t_isWide, .ref a_t_cells, .ref a_t_page, .int v_t_pageMany, .ref a_t_digits, .int v_t_many, .int v_t_isMinus, .ref a_t_found, .ref a_t_one, .ref a_t_other, .ref a_t_sum, .ref a_t_rest])), (a_t_cells, .inl (cy 5, 8, .inr (.inr (.inr (.inr (fun j => some (rw_t j))))))), (a_t_page, .inl (cy 0, 66, .inl f_t_page)), (a_t_digits, .inl (cy 0, 64, .inl f_t_digits)), (a_t_found, .inl (cy 2, 64, .inl f_t_found)), (a_t_one, .inl (cy 2, 65, .inl f_t_one)), (a_t_other, .inl (cy 2, 65, .inl f_t_other)), (a_t_sum, .inl (cy 2, 65, .inl f_t_sum)), (a_t_rest, .inl (cy 2, 65, .inl f_t_rest))]) rfl rfl rfl rfl rfl rfl) rfl (fun H locs hP hD hS => ?_)
  obtain ⟨r_3, hr_3, hm⟩ := hm_b hm
  refine k_SN (as := [.ref (rw_t p2.toNatClampNeg), .int r_2]) (rest := []) (ws' := (([(a_t, .inr (8, [.int v_t_isWide, .ref a_t_cells, .ref a_t_page, .int v_t_pageMany, .ref a_t_digits, .int v_t_many, .int v_t_isMinus, .ref a_t_found, .ref a_t_one, .ref a_t_other, .ref a_t_sum, .ref a_t_rest])), (a_t_cells, .inl (cy 5, 8, .inr (.inr (.inr (.inr (fun j => some (rw_t j))))))), (a_t_page, .inl (cy 0, 66, .inl f_t_page)), (a_t_digits, .inl (cy 0, 64, .inl f_t_digits)), (a_t_found, .inl (cy 2, 64, .inl f_t_found)), (a_t_one, .inl (cy 2, 65, .inl f_t_one)), (a_t_other, .inl (cy 2, 65, .inl f_t_other)), (a_t_sum, .inl (cy 2, 65, .inl f_t_sum)), (a_t_rest, .inl (cy 2, 65, .inl f_t_rest))] : va_W) ++ (rowsW (cy 2) rw_t B_t ++ ([] : va_W)))) (st2 := [.int r_3]) hx hb hml hown ht hK hP hD hS hA hC hR hl (kcX13_isNothing l D cy g (rw_t p2.toNatClampNeg) 64 (B_t p2.toNatClampNeg) r_2 k r_3 hr_3) [9 + p2.toNatClampNeg] qn_1385 q_1428 q_54 q_1429 hyX13_isNothing ⟨Nat.le_of_ble_eq_true rfl, Nat.le_of_ble_eq_true rfl, Nat.le_of_ble_eq_true rfl, Nat.le_of_ble_eq_true rfl⟩ rfl (cs_cons (row_get0 rfl hi_1) cs_nil) rfl rfl (Nat.le_of_ble_eq_true rfl) dX12_divides_10 (ps_cons (set_same (row_get0 rfl hi_1)) ps_nil) rfl (fun H locs hP hD hS => ?_)
  refine lv_if_eq (tgt := 18) hx hb dX12_divides_13 (by decide) (fun c_4 => ?_) (fun c_4 => ?_)
  · replace hm := hm_t c_4 hm
    refine lv_aload_n hx hb dX12_divides_18 rfl (lv_at hl 0 rfl) ?_
    refine lv_iload_n hx hb dX12_divides_19 rfl (lv_at hl 1 rfl) ?_
    refine lv_iload hx hb dX12_divides_20 (lv_at hl 4 rfl) ?_
    refine lv_aload_n hx hb dX12_divides_22 rfl (lv_at hl 0 rfl) ?_
    refine va_get (D := D) (cl := classes) (ci := 8) (v := .ref a_t_one) (C := RX12) (T := TX12) (N := 12) hx hb ht in_RX12 hown hK.1 hP 0 rfl rfl 8 (by decide) (ht _ q_1258) (fun _ h9 => h9) rfl dX12_divides_23 ?_
    obtain ⟨r_5, hr_5, hm⟩ := hm_b hm
    refine k_V (as := [.int p1, .int p4, .ref a_t_one]) (rest := []) (ws' := (([(a_t, .inr (8, [.int v_t_isWide, .ref a_t_cells, .ref a_t_page, .int v_t_pageMany, .ref a_t_digits, .int v_t_many, .int v_t_isMinus, .ref a_t_found, .ref a_t_one, .ref a_t_other, .ref a_t_sum, .ref a_t_rest])), (a_t_cells, .inl (cy 5, 8, .inr (.inr (.inr (.inr (fun j => some (rw_t j))))))), (a_t_page, .inl (cy 0, 66, .inl f_t_page)), (a_t_digits, .inl (cy 0, 64, .inl f_t_digits)), (a_t_found, .inl (cy 2, 64, .inl f_t_found)), (a_t_one, .inl (cy 2, 65, .inl r_5.2)), (a_t_other, .inl (cy 2, 65, .inl f_t_other)), (a_t_sum, .inl (cy 2, 65, .inl f_t_sum)), (a_t_rest, .inl (cy 2, 65, .inl f_t_rest))] : va_W) ++ (rowsW (cy 2) rw_t B_t ++ ([] : va_W)))) (st2 := [.int r_5.1]) (i0 := 0) hx hb hml hown ht hK hP hD hS hA hC hR hl (kcX12_sizes_one l D cy g a_t a_t_cells a_t_page a_t_digits a_t_found a_t_one a_t_other a_t_sum a_t_rest rw_t v_t_isWide B_t f_t_page v_t_pageMany f_t_digits v_t_many v_t_isMinus f_t_found f_t_one f_t_other f_t_sum f_t_rest p1 p4 k r_5 hr_5) (isZ [0, 1, 2, 3, 4, 5, 6, 7, 8] 9 8) q_1450 q_1452 q_19 q_55 q_1453 hyX12_sizes ⟨rfl, rfl, rfl⟩ ⟨Nat.le_of_ble_eq_true rfl, Nat.le_of_ble_eq_true rfl, Nat.le_of_ble_eq_true rfl, Nat.le_of_ble_eq_true rfl⟩ rfl (zcT rfl rfl rfl) (zeT rfl rfl) rfl (Nat.le_of_ble_eq_true rfl) dX12_divides_26 (zwT (cx := [(a_t, .inr (8, [.int v_t_isWide, .ref a_t_cells, .ref a_t_page, .int v_t_pageMany, .ref a_t_digits, .int v_t_many, .int v_t_isMinus, .ref a_t_found, .ref a_t_one, .ref a_t_other, .ref a_t_sum, .ref a_t_rest])), (a_t_cells, .inl (cy 5, 8, .inr (.inr (.inr (.inr (fun j => some (rw_t j))))))), (a_t_page, .inl (cy 0, 66, .inl f_t_page)), (a_t_digits, .inl (cy 0, 64, .inl f_t_digits)), (a_t_found, .inl (cy 2, 64, .inl f_t_found)), (a_t_one, .inl (cy 2, 65, .inl f_t_one)), (a_t_other, .inl (cy 2, 65, .inl f_t_other)), (a_t_sum, .inl (cy 2, 65, .inl f_t_sum)), (a_t_rest, .inl (cy 2, 65, .inl f_t_rest))]) rfl rfl rfl rfl rfl rfl) rfl (fun H locs hP hD hS => ?_)
    refine lv_istore (lv' := [(5, .int r_5.1), (0, .ref a_t), (1, .int p1), (2, .int p2), (3, .int p3), (4, .int p4)]) hx hb dX12_divides_29 hl (by decide) rfl (fun ls hl => ?_)
    refine lv_aload_n hx hb dX12_divides_31 rfl (lv_at hl 1 rfl) ?_
    refine lv_iload_n hx hb dX12_divides_32 rfl (lv_at hl 3 rfl) ?_
    refine lv_iload hx hb dX12_divides_33 (lv_at hl 5 rfl) ?_
    refine lv_aload_n hx hb dX12_divides_35 rfl (lv_at hl 1 rfl) ?_
    refine va_get (D := D) (cl := classes) (ci := 8) (v := .ref a_t_other) (C := RX12) (T := TX12) (N := 12) hx hb ht in_RX12 hown hK.1 hP 0 rfl rfl 9 (by decide) (ht _ q_1259) (fun _ h9 => h9) rfl dX12_divides_36 ?_
    obtain ⟨r_6, hr_6, hm⟩ := hm_b hm
    refine k_V (as := [.int p2, .int p4, .ref a_t_other]) (rest := []) (ws' := (([(a_t, .inr (8, [.int v_t_isWide, .ref a_t_cells, .ref a_t_page, .int v_t_pageMany, .ref a_t_digits, .int v_t_many, .int v_t_isMinus, .ref a_t_found, .ref a_t_one, .ref a_t_other, .ref a_t_sum, .ref a_t_rest])), (a_t_cells, .inl (cy 5, 8, .inr (.inr (.inr (.inr (fun j => some (rw_t j))))))), (a_t_page, .inl (cy 0, 66, .inl f_t_page)), (a_t_digits, .inl (cy 0, 64, .inl f_t_digits)), (a_t_found, .inl (cy 2, 64, .inl f_t_found)), (a_t_one, .inl (cy 2, 65, .inl r_5.2)), (a_t_other, .inl (cy 2, 65, .inl r_6.2)), (a_t_sum, .inl (cy 2, 65, .inl f_t_sum)), (a_t_rest, .inl (cy 2, 65, .inl f_t_rest))] : va_W) ++ (rowsW (cy 2) rw_t B_t ++ ([] : va_W)))) (st2 := [.int r_6.1]) (i0 := 0) hx hb hml hown ht hK hP hD hS hA hC hR hl (kcX12_sizes_other l D cy g a_t a_t_cells a_t_page a_t_digits a_t_found a_t_one a_t_other a_t_sum a_t_rest rw_t v_t_isWide B_t f_t_page v_t_pageMany f_t_digits v_t_many v_t_isMinus f_t_found r_5.2 f_t_other f_t_sum f_t_rest p2 p4 k r_6 hr_6) (isZ [0, 1, 2, 3, 4, 5, 6, 7, 8] 9 8) q_1450 q_1452 q_19 q_55 q_1453 hyX12_sizes ⟨rfl, rfl, rfl⟩ ⟨Nat.le_of_ble_eq_true rfl, Nat.le_of_ble_eq_true rfl, Nat.le_of_ble_eq_true rfl, Nat.le_of_ble_eq_true rfl⟩ rfl (zcT rfl rfl rfl) (zeT rfl rfl) rfl (Nat.le_of_ble_eq_true rfl) dX12_divides_39 (zwT (cx := [(a_t, .inr (8, [.int v_t_isWide, .ref a_t_cells, .ref a_t_page, .int v_t_pageMany, .ref a_t_digits, .int v_t_many, .int v_t_isMinus, .ref a_t_found, .ref a_t_one, .ref a_t_other, .ref a_t_sum, .ref a_t_rest])), (a_t_cells, .inl (cy 5, 8, .inr (.inr (.inr (.inr (fun j => some (rw_t j))))))), (a_t_page, .inl (cy 0, 66, .inl f_t_page)), (a_t_digits, .inl (cy 0, 64, .inl f_t_digits)), (a_t_found, .inl (cy 2, 64, .inl f_t_found)), (a_t_one, .inl (cy 2, 65, .inl r_5.2)), (a_t_other, .inl (cy 2, 65, .inl f_t_other)), (a_t_sum, .inl (cy 2, 65, .inl f_t_sum)), (a_t_rest, .inl (cy 2, 65, .inl f_t_rest))]) rfl rfl rfl rfl rfl rfl) rfl (fun H locs hP hD hS => ?_)
    refine lv_istore (lv' := [(6, .int r_6.1), (5, .int r_5.1), (0, .ref a_t), (1, .int p1), (2, .int p2), (3, .int p3), (4, .int p4)]) hx hb dX12_divides_42 hl (by decide) rfl (fun ls hl => ?_)
    refine lv_aload_n hx hb dX12_divides_44 rfl (lv_at hl 2 rfl) ?_
    refine va_get (D := D) (cl := classes) (ci := 8) (v := .ref a_t_rest) (C := RX12) (T := TX12) (N := 12) hx hb ht in_RX12 hown hK.1 hP 0 rfl rfl 11 (by decide) (ht _ q_1261) (fun _ h9 => h9) rfl dX12_divides_45 ?_
    obtain ⟨r_7, hr_7, hm⟩ := hm_b hm
    refine k_SN (as := [.ref a_t_rest]) (rest := []) (ws' := (([(a_t, .inr (8, [.int v_t_isWide, .ref a_t_cells, .ref a_t_page, .int v_t_pageMany, .ref a_t_digits, .int v_t_many, .int v_t_isMinus, .ref a_t_found, .ref a_t_one, .ref a_t_other, .ref a_t_sum, .ref a_t_rest])), (a_t_cells, .inl (cy 5, 8, .inr (.inr (.inr (.inr (fun j => some (rw_t j))))))), (a_t_page, .inl (cy 0, 66, .inl f_t_page)), (a_t_digits, .inl (cy 0, 64, .inl f_t_digits)), (a_t_found, .inl (cy 2, 64, .inl f_t_found)), (a_t_one, .inl (cy 2, 65, .inl r_5.2)), (a_t_other, .inl (cy 2, 65, .inl r_6.2)), (a_t_sum, .inl (cy 2, 65, .inl f_t_sum)), (a_t_rest, .inl (cy 2, 65, .inl r_7))] : va_W) ++ (rowsW (cy 2) rw_t B_t ++ ([] : va_W)))) (st2 := []) hx hb hml hown ht hK hP hD hS hA hC hR hl (kcX13_clear l D cy g a_t_rest 65 f_t_rest k r_7 hr_7) [8] qn_1379 q_1422 q_54 q_1423 hyX13_clear ⟨Nat.le_of_ble_eq_true rfl, Nat.le_of_ble_eq_true rfl, Nat.le_of_ble_eq_true rfl, Nat.le_of_ble_eq_true rfl⟩ rfl (zq rfl) rfl rfl (Nat.le_of_ble_eq_true rfl) dX12_divides_48 (zqw (cx := [(a_t_rest, .inl (cy 2, 65, .inl f_t_rest))]) rfl rfl) rfl (fun H locs hP hD hS => ?_)
    refine lv_aload_n hx hb dX12_divides_51 rfl (lv_at hl 2 rfl) ?_
    refine va_get (D := D) (cl := classes) (ci := 8) (v := .ref a_t_sum) (C := RX12) (T := TX12) (N := 12) hx hb ht in_RX12 hown hK.1 hP 0 rfl rfl 10 (by decide) (ht _ q_1260) (fun _ h9 => h9) rfl dX12_divides_52 ?_
    obtain ⟨r_8, hr_8, hm⟩ := hm_b hm
    refine k_SN (as := [.ref a_t_sum]) (rest := []) (ws' := (([(a_t, .inr (8, [.int v_t_isWide, .ref a_t_cells, .ref a_t_page, .int v_t_pageMany, .ref a_t_digits, .int v_t_many, .int v_t_isMinus, .ref a_t_found, .ref a_t_one, .ref a_t_other, .ref a_t_sum, .ref a_t_rest])), (a_t_cells, .inl (cy 5, 8, .inr (.inr (.inr (.inr (fun j => some (rw_t j))))))), (a_t_page, .inl (cy 0, 66, .inl f_t_page)), (a_t_digits, .inl (cy 0, 64, .inl f_t_digits)), (a_t_found, .inl (cy 2, 64, .inl f_t_found)), (a_t_one, .inl (cy 2, 65, .inl r_5.2)), (a_t_other, .inl (cy 2, 65, .inl r_6.2)), (a_t_sum, .inl (cy 2, 65, .inl r_8)), (a_t_rest, .inl (cy 2, 65, .inl r_7))] : va_W) ++ (rowsW (cy 2) rw_t B_t ++ ([] : va_W)))) (st2 := []) hx hb hml hown ht hK hP hD hS hA hC hR hl (kcX13_clear l D cy g a_t_sum 65 f_t_sum k r_8 hr_8) [7] qn_1379 q_1422 q_54 q_1423 hyX13_clear ⟨Nat.le_of_ble_eq_true rfl, Nat.le_of_ble_eq_true rfl, Nat.le_of_ble_eq_true rfl, Nat.le_of_ble_eq_true rfl⟩ rfl (zq rfl) rfl rfl (Nat.le_of_ble_eq_true rfl) dX12_divides_55 (zqw (cx := [(a_t_sum, .inl (cy 2, 65, .inl f_t_sum))]) rfl rfl) rfl (fun H locs hP hD hS => ?_)
    refine lv_aload_n hx hb dX12_divides_58 rfl (lv_at hl 2 rfl) ?_
    obtain ⟨r_9, hr_9, hm⟩ := hm_b hm
    refine k_V (as := []) (rest := []) (ws' := (([(a_t, .inr (8, [.int v_t_isWide, .ref a_t_cells, .ref a_t_page, .int v_t_pageMany, .ref a_t_digits, .int v_t_many, .int v_t_isMinus, .ref a_t_found, .ref a_t_one, .ref a_t_other, .ref a_t_sum, .ref a_t_rest])), (a_t_cells, .inl (cy 5, 8, .inr (.inr (.inr (.inr (fun j => some (rw_t j))))))), (a_t_page, .inl (cy 0, 66, .inl f_t_page)), (a_t_digits, .inl (cy 0, 64, .inl f_t_digits)), (a_t_found, .inl (cy 2, 64, .inl f_t_found)), (a_t_one, .inl (cy 2, 65, .inl r_5.2)), (a_t_other, .inl (cy 2, 65, .inl r_6.2)), (a_t_sum, .inl (cy 2, 65, .inl r_8)), (a_t_rest, .inl (cy 2, 65, .inl r_7))] : va_W) ++ (rowsW (cy 2) rw_t B_t ++ ([] : va_W)))) (st2 := [.int r_9]) (i0 := 0) hx hb hml hown ht hK hP hD hS hA hC hR hl (kcX12_bits l D cy g a_t a_t_cells a_t_page a_t_digits a_t_found a_t_one a_t_other a_t_sum a_t_rest rw_t v_t_isWide B_t f_t_page v_t_pageMany f_t_digits v_t_many v_t_isMinus f_t_found r_5.2 r_6.2 r_8 r_7 r_9 hr_9) (isZ [0, 1, 2, 3, 4, 5, 6, 7, 8] 9 8) q_1354 q_1355 q_1356 q_55 q_1357 hyX12_bits ⟨rfl, rfl, rfl⟩ ⟨Nat.le_of_ble_eq_true rfl, Nat.le_of_ble_eq_true rfl, Nat.le_of_ble_eq_true rfl, Nat.le_of_ble_eq_true rfl⟩ rfl (zcT rfl rfl rfl) (zeT rfl rfl) rfl (Nat.le_of_ble_eq_true rfl) dX12_divides_59 (zwT (cx := [(a_t, .inr (8, [.int v_t_isWide, .ref a_t_cells, .ref a_t_page, .int v_t_pageMany, .ref a_t_digits, .int v_t_many, .int v_t_isMinus, .ref a_t_found, .ref a_t_one, .ref a_t_other, .ref a_t_sum, .ref a_t_rest])), (a_t_cells, .inl (cy 5, 8, .inr (.inr (.inr (.inr (fun j => some (rw_t j))))))), (a_t_page, .inl (cy 0, 66, .inl f_t_page)), (a_t_digits, .inl (cy 0, 64, .inl f_t_digits)), (a_t_found, .inl (cy 2, 64, .inl f_t_found)), (a_t_one, .inl (cy 2, 65, .inl r_5.2)), (a_t_other, .inl (cy 2, 65, .inl r_6.2)), (a_t_sum, .inl (cy 2, 65, .inl r_8)), (a_t_rest, .inl (cy 2, 65, .inl r_7))]) rfl rfl rfl rfl rfl rfl) rfl (fun H locs hP hD hS => ?_)
    refine lv_iconst (v := 1) hx hb dX12_divides_62 (by decide) ?_
    refine lv_isub hx hb dX12_divides_63 ?_
    refine lv_istore (lv' := [(7, .int (r_9 - 1)), (6, .int r_6.1), (5, .int r_5.1), (0, .ref a_t), (1, .int p1), (2, .int p2), (3, .int p3), (4, .int p4)]) hx hb dX12_divides_64 hl (by decide) rfl (fun ls hl => ?_)
    have L66 : ∀ (rr : (Nat → Int32) × (Nat → Int32)) (kk : ∀ (H : Heap) (locs : List Loc) (ls : Array Slot), va_P D classes (([(a_t, .inr (8, [.int v_t_isWide, .ref a_t_cells, .ref a_t_page, .int v_t_pageMany, .ref a_t_digits, .int v_t_many, .int v_t_isMinus, .ref a_t_found, .ref a_t_one, .ref a_t_other, .ref a_t_sum, .ref a_t_rest])), (a_t_cells, .inl (cy 5, 8, .inr (.inr (.inr (.inr (fun j => some (rw_t j))))))), (a_t_page, .inl (cy 0, 66, .inl f_t_page)), (a_t_digits, .inl (cy 0, 64, .inl f_t_digits)), (a_t_found, .inl (cy 2, 64, .inl f_t_found)), (a_t_one, .inl (cy 2, 65, .inl r_5.2)), (a_t_other, .inl (cy 2, 65, .inl r_6.2)), (a_t_sum, .inl (cy 2, 65, .inl rr.1)), (a_t_rest, .inl (cy 2, 65, .inl rr.2))] : va_W) ++ (rowsW (cy 2) rw_t B_t ++ ([] : va_W))) H → va_D A (([(a_t, .inr (8, [.int v_t_isWide, .ref a_t_cells, .ref a_t_page, .int v_t_pageMany, .ref a_t_digits, .int v_t_many, .int v_t_isMinus, .ref a_t_found, .ref a_t_one, .ref a_t_other, .ref a_t_sum, .ref a_t_rest])), (a_t_cells, .inl (cy 5, 8, .inr (.inr (.inr (.inr (fun j => some (rw_t j))))))), (a_t_page, .inl (cy 0, 66, .inl f_t_page)), (a_t_digits, .inl (cy 0, 64, .inl f_t_digits)), (a_t_found, .inl (cy 2, 64, .inl f_t_found)), (a_t_one, .inl (cy 2, 65, .inl r_5.2)), (a_t_other, .inl (cy 2, 65, .inl r_6.2)), (a_t_sum, .inl (cy 2, 65, .inl rr.1)), (a_t_rest, .inl (cy 2, 65, .inl rr.2))] : va_W) ++ (rowsW (cy 2) rw_t B_t ++ ([] : va_W))) → va_S A s.heap H locs → lv_has ls 11 [(6, .int r_6.1), (5, .int r_5.1), (0, .ref a_t), (1, .int p1), (3, .int p3)] → W p l e RM s m ar below meth c H locs 0 0 (MQ below Qc ar s 0 0 A) (F0 m 183 ls [])) (n_ : Nat), ∀ (y_47 : Int32) (y_48 : Nat → Int32) (y_49 : Nat → Int32), mX12_divides_L66 v_t_isWide k r_5 r_6 n_ y_47 y_48 y_49 = some rr → ∀ (H : Heap) (locs : List Loc) (ls : Array Slot), va_P D classes (([(a_t, .inr (8, [.int v_t_isWide, .ref a_t_cells, .ref a_t_page, .int v_t_pageMany, .ref a_t_digits, .int v_t_many, .int v_t_isMinus, .ref a_t_found, .ref a_t_one, .ref a_t_other, .ref a_t_sum, .ref a_t_rest])), (a_t_cells, .inl (cy 5, 8, .inr (.inr (.inr (.inr (fun j => some (rw_t j))))))), (a_t_page, .inl (cy 0, 66, .inl f_t_page)), (a_t_digits, .inl (cy 0, 64, .inl f_t_digits)), (a_t_found, .inl (cy 2, 64, .inl f_t_found)), (a_t_one, .inl (cy 2, 65, .inl r_5.2)), (a_t_other, .inl (cy 2, 65, .inl r_6.2)), (a_t_sum, .inl (cy 2, 65, .inl y_48)), (a_t_rest, .inl (cy 2, 65, .inl y_49))] : va_W) ++ (rowsW (cy 2) rw_t B_t ++ ([] : va_W))) H → va_D A (([(a_t, .inr (8, [.int v_t_isWide, .ref a_t_cells, .ref a_t_page, .int v_t_pageMany, .ref a_t_digits, .int v_t_many, .int v_t_isMinus, .ref a_t_found, .ref a_t_one, .ref a_t_other, .ref a_t_sum, .ref a_t_rest])), (a_t_cells, .inl (cy 5, 8, .inr (.inr (.inr (.inr (fun j => some (rw_t j))))))), (a_t_page, .inl (cy 0, 66, .inl f_t_page)), (a_t_digits, .inl (cy 0, 64, .inl f_t_digits)), (a_t_found, .inl (cy 2, 64, .inl f_t_found)), (a_t_one, .inl (cy 2, 65, .inl r_5.2)), (a_t_other, .inl (cy 2, 65, .inl r_6.2)), (a_t_sum, .inl (cy 2, 65, .inl y_48)), (a_t_rest, .inl (cy 2, 65, .inl y_49))] : va_W) ++ (rowsW (cy 2) rw_t B_t ++ ([] : va_W))) → va_S A s.heap H locs → lv_has ls 11 [(7, .int y_47), (6, .int r_6.1), (5, .int r_5.1), (0, .ref a_t), (1, .int p1), (3, .int p3)] → W p l e RM s m ar below meth c H locs 0 0 (MQ below Qc ar s 0 0 A) (F0 m 66 ls []) := by
      intro rr kk n_
      induction n_ with
      | zero => intro y_47 y_48 y_49 hm; rw [mX12_divides_L66] at hm; cases hm
      | succ n_ ih =>
        intro y_47 y_48 y_49 hm H locs ls hP hD hS hl
        rw [mX12_divides_L66] at hm
        refine lv_iload hx hb dX12_divides_66 (lv_at hl 0 rfl) ?_
        refine lv_if_lt (tgt := 183) hx hb dX12_divides_68 (by decide) (fun c_50 => ?_) (fun c_50 => ?_)
        · replace hm := hm_t c_50 hm
          obtain rfl := Option.some.inj hm
          exact kk _ _ _ hP hD hS (lv_sub hl [1, 2, 3, 4, 5] rfl)
        · replace hm := hm_f c_50 hm
          refine lv_aload_n hx hb dX12_divides_71 rfl (lv_at hl 3 rfl) ?_
          obtain ⟨r_51, hr_51, hm⟩ := hm_b hm
          refine k_V (as := []) (rest := []) (ws' := (([(a_t, .inr (8, [.int v_t_isWide, .ref a_t_cells, .ref a_t_page, .int v_t_pageMany, .ref a_t_digits, .int v_t_many, .int v_t_isMinus, .ref a_t_found, .ref a_t_one, .ref a_t_other, .ref a_t_sum, .ref a_t_rest])), (a_t_cells, .inl (cy 5, 8, .inr (.inr (.inr (.inr (fun j => some (rw_t j))))))), (a_t_page, .inl (cy 0, 66, .inl f_t_page)), (a_t_digits, .inl (cy 0, 64, .inl f_t_digits)), (a_t_found, .inl (cy 2, 64, .inl f_t_found)), (a_t_one, .inl (cy 2, 65, .inl r_5.2)), (a_t_other, .inl (cy 2, 65, .inl r_6.2)), (a_t_sum, .inl (cy 2, 65, .inl y_48)), (a_t_rest, .inl (cy 2, 65, .inl y_49))] : va_W) ++ (rowsW (cy 2) rw_t B_t ++ ([] : va_W)))) (st2 := [.int r_51]) (i0 := 0) hx hb hml hown ht hK hP hD hS hA hC hR hl (kcX12_bits l D cy g a_t a_t_cells a_t_page a_t_digits a_t_found a_t_one a_t_other a_t_sum a_t_rest rw_t v_t_isWide B_t f_t_page v_t_pageMany f_t_digits v_t_many v_t_isMinus f_t_found r_5.2 r_6.2 y_48 y_49 r_51 hr_51) (isZ [0, 1, 2, 3, 4, 5, 6, 7, 8] 9 8) q_1354 q_1355 q_1356 q_55 q_1357 hyX12_bits ⟨rfl, rfl, rfl⟩ ⟨Nat.le_of_ble_eq_true rfl, Nat.le_of_ble_eq_true rfl, Nat.le_of_ble_eq_true rfl, Nat.le_of_ble_eq_true rfl⟩ rfl (zcT rfl rfl rfl) (zeT rfl rfl) rfl (Nat.le_of_ble_eq_true rfl) dX12_divides_72 (zwT (cx := [(a_t, .inr (8, [.int v_t_isWide, .ref a_t_cells, .ref a_t_page, .int v_t_pageMany, .ref a_t_digits, .int v_t_many, .int v_t_isMinus, .ref a_t_found, .ref a_t_one, .ref a_t_other, .ref a_t_sum, .ref a_t_rest])), (a_t_cells, .inl (cy 5, 8, .inr (.inr (.inr (.inr (fun j => some (rw_t j))))))), (a_t_page, .inl (cy 0, 66, .inl f_t_page)), (a_t_digits, .inl (cy 0, 64, .inl f_t_digits)), (a_t_found, .inl (cy 2, 64, .inl f_t_found)), (a_t_one, .inl (cy 2, 65, .inl r_5.2)), (a_t_other, .inl (cy 2, 65, .inl r_6.2)), (a_t_sum, .inl (cy 2, 65, .inl y_48)), (a_t_rest, .inl (cy 2, 65, .inl y_49))]) rfl rfl rfl rfl rfl rfl) rfl (fun H locs hP hD hS => ?_)
          refine lv_istore (lv' := [(8, .int r_51), (7, .int y_47), (6, .int r_6.1), (5, .int r_5.1), (0, .ref a_t), (1, .int p1), (3, .int p3)]) hx hb dX12_divides_75 hl (by decide) rfl (fun ls hl => ?_)
          have L77 : ∀ (rr : (Nat → Int32)) (kk : ∀ (H : Heap) (locs : List Loc) (ls : Array Slot), va_P D classes (([(a_t, .inr (8, [.int v_t_isWide, .ref a_t_cells, .ref a_t_page, .int v_t_pageMany, .ref a_t_digits, .int v_t_many, .int v_t_isMinus, .ref a_t_found, .ref a_t_one, .ref a_t_other, .ref a_t_sum, .ref a_t_rest])), (a_t_cells, .inl (cy 5, 8, .inr (.inr (.inr (.inr (fun j => some (rw_t j))))))), (a_t_page, .inl (cy 0, 66, .inl f_t_page)), (a_t_digits, .inl (cy 0, 64, .inl f_t_digits)), (a_t_found, .inl (cy 2, 64, .inl f_t_found)), (a_t_one, .inl (cy 2, 65, .inl r_5.2)), (a_t_other, .inl (cy 2, 65, .inl r_6.2)), (a_t_sum, .inl (cy 2, 65, .inl y_48)), (a_t_rest, .inl (cy 2, 65, .inl rr))] : va_W) ++ (rowsW (cy 2) rw_t B_t ++ ([] : va_W))) H → va_D A (([(a_t, .inr (8, [.int v_t_isWide, .ref a_t_cells, .ref a_t_page, .int v_t_pageMany, .ref a_t_digits, .int v_t_many, .int v_t_isMinus, .ref a_t_found, .ref a_t_one, .ref a_t_other, .ref a_t_sum, .ref a_t_rest])), (a_t_cells, .inl (cy 5, 8, .inr (.inr (.inr (.inr (fun j => some (rw_t j))))))), (a_t_page, .inl (cy 0, 66, .inl f_t_page)), (a_t_digits, .inl (cy 0, 64, .inl f_t_digits)), (a_t_found, .inl (cy 2, 64, .inl f_t_found)), (a_t_one, .inl (cy 2, 65, .inl r_5.2)), (a_t_other, .inl (cy 2, 65, .inl r_6.2)), (a_t_sum, .inl (cy 2, 65, .inl y_48)), (a_t_rest, .inl (cy 2, 65, .inl rr))] : va_W) ++ (rowsW (cy 2) rw_t B_t ++ ([] : va_W))) → va_S A s.heap H locs → lv_has ls 11 [(7, .int y_47), (6, .int r_6.1), (5, .int r_5.1), (0, .ref a_t), (1, .int p1), (3, .int p3)] → W p l e RM s m ar below meth c H locs 0 0 (MQ below Qc ar s 0 0 A) (F0 m 104 ls [])) (n_ : Nat), ∀ (y_56 : Int32) (y_57 : Nat → Int32), mX12_divides_L77 n_ y_56 y_57 = some rr → ∀ (H : Heap) (locs : List Loc) (ls : Array Slot), va_P D classes (([(a_t, .inr (8, [.int v_t_isWide, .ref a_t_cells, .ref a_t_page, .int v_t_pageMany, .ref a_t_digits, .int v_t_many, .int v_t_isMinus, .ref a_t_found, .ref a_t_one, .ref a_t_other, .ref a_t_sum, .ref a_t_rest])), (a_t_cells, .inl (cy 5, 8, .inr (.inr (.inr (.inr (fun j => some (rw_t j))))))), (a_t_page, .inl (cy 0, 66, .inl f_t_page)), (a_t_digits, .inl (cy 0, 64, .inl f_t_digits)), (a_t_found, .inl (cy 2, 64, .inl f_t_found)), (a_t_one, .inl (cy 2, 65, .inl r_5.2)), (a_t_other, .inl (cy 2, 65, .inl r_6.2)), (a_t_sum, .inl (cy 2, 65, .inl y_48)), (a_t_rest, .inl (cy 2, 65, .inl y_57))] : va_W) ++ (rowsW (cy 2) rw_t B_t ++ ([] : va_W))) H → va_D A (([(a_t, .inr (8, [.int v_t_isWide, .ref a_t_cells, .ref a_t_page, .int v_t_pageMany, .ref a_t_digits, .int v_t_many, .int v_t_isMinus, .ref a_t_found, .ref a_t_one, .ref a_t_other, .ref a_t_sum, .ref a_t_rest])), (a_t_cells, .inl (cy 5, 8, .inr (.inr (.inr (.inr (fun j => some (rw_t j))))))), (a_t_page, .inl (cy 0, 66, .inl f_t_page)), (a_t_digits, .inl (cy 0, 64, .inl f_t_digits)), (a_t_found, .inl (cy 2, 64, .inl f_t_found)), (a_t_one, .inl (cy 2, 65, .inl r_5.2)), (a_t_other, .inl (cy 2, 65, .inl r_6.2)), (a_t_sum, .inl (cy 2, 65, .inl y_48)), (a_t_rest, .inl (cy 2, 65, .inl y_57))] : va_W) ++ (rowsW (cy 2) rw_t B_t ++ ([] : va_W))) → va_S A s.heap H locs → lv_has ls 11 [(8, .int y_56), (7, .int y_47), (6, .int r_6.1), (5, .int r_5.1), (0, .ref a_t), (1, .int p1), (3, .int p3)] → W p l e RM s m ar below meth c H locs 0 0 (MQ below Qc ar s 0 0 A) (F0 m 77 ls []) := by
            intro rr kk n_
            induction n_ with
            | zero => intro y_56 y_57 hm; rw [mX12_divides_L77] at hm; cases hm
            | succ n_ ih =>
              intro y_56 y_57 hm H locs ls hP hD hS hl
              rw [mX12_divides_L77] at hm
              refine lv_iload hx hb dX12_divides_77 (lv_at hl 0 rfl) ?_
              refine lv_if_le (tgt := 104) hx hb dX12_divides_79 (by decide) (fun c_58 => ?_) (fun c_58 => ?_)
              · replace hm := hm_t c_58 hm
                obtain rfl := Option.some.inj hm
                exact kk _ _ _ hP hD hS (lv_sub hl [1, 2, 3, 4, 5, 6] rfl)
              · replace hm := hm_f c_58 hm
                refine lv_aload_n hx hb dX12_divides_82 rfl (lv_at hl 4 rfl) ?_
                refine va_get (D := D) (cl := classes) (ci := 8) (v := .ref a_t_rest) (C := RX12) (T := TX12) (N := 12) hx hb ht in_RX12 hown hK.1 hP 0 rfl rfl 11 (by decide) (ht _ q_1261) (fun _ h9 => h9) rfl dX12_divides_83 ?_
                refine lv_iload hx hb dX12_divides_86 (lv_at hl 0 rfl) ?_
                refine lv_aload_n hx hb dX12_divides_88 rfl (lv_at hl 4 rfl) ?_
                refine va_get (D := D) (cl := classes) (ci := 8) (v := .ref a_t_rest) (C := RX12) (T := TX12) (N := 12) hx hb ht in_RX12 hown hK.1 hP 0 rfl rfl 11 (by decide) (ht _ q_1261) (fun _ h9 => h9) rfl dX12_divides_89 ?_
                refine lv_iload hx hb dX12_divides_92 (lv_at hl 0 rfl) ?_
                refine lv_iconst (v := 1) hx hb dX12_divides_94 (by decide) ?_
                refine lv_isub hx hb dX12_divides_95 ?_
                obtain ⟨hin, hm⟩ := hm_g hm
                refine va_zald hx hb hK.1 hP 8 2 rfl rfl hin dX12_divides_96 ?_
                obtain ⟨hin, hm⟩ := hm_g hm
                refine va_zast hx hb hK.1 hP hD hS 8 2 rfl rfl hin dX12_divides_97 (fun H locs hP hD hS => ?_)
                have hP : va_P D classes (([(a_t, .inr (8, [.int v_t_isWide, .ref a_t_cells, .ref a_t_page, .int v_t_pageMany, .ref a_t_digits, .int v_t_many, .int v_t_isMinus, .ref a_t_found, .ref a_t_one, .ref a_t_other, .ref a_t_sum, .ref a_t_rest])), (a_t_cells, .inl (cy 5, 8, .inr (.inr (.inr (.inr (fun j => some (rw_t j))))))), (a_t_page, .inl (cy 0, 66, .inl f_t_page)), (a_t_digits, .inl (cy 0, 64, .inl f_t_digits)), (a_t_found, .inl (cy 2, 64, .inl f_t_found)), (a_t_one, .inl (cy 2, 65, .inl r_5.2)), (a_t_other, .inl (cy 2, 65, .inl r_6.2)), (a_t_sum, .inl (cy 2, 65, .inl y_48)), (a_t_rest, .inl (cy 2, 65, .inl (upd y_57 y_56.toNatClampNeg (vp_nar .boolean (y_57 (y_56 - 1).toNatClampNeg)))))] : va_W) ++ (rowsW (cy 2) rw_t B_t ++ ([] : va_W))) H := hP
                have hD : va_D A (([(a_t, .inr (8, [.int v_t_isWide, .ref a_t_cells, .ref a_t_page, .int v_t_pageMany, .ref a_t_digits, .int v_t_many, .int v_t_isMinus, .ref a_t_found, .ref a_t_one, .ref a_t_other, .ref a_t_sum, .ref a_t_rest])), (a_t_cells, .inl (cy 5, 8, .inr (.inr (.inr (.inr (fun j => some (rw_t j))))))), (a_t_page, .inl (cy 0, 66, .inl f_t_page)), (a_t_digits, .inl (cy 0, 64, .inl f_t_digits)), (a_t_found, .inl (cy 2, 64, .inl f_t_found)), (a_t_one, .inl (cy 2, 65, .inl r_5.2)), (a_t_other, .inl (cy 2, 65, .inl r_6.2)), (a_t_sum, .inl (cy 2, 65, .inl y_48)), (a_t_rest, .inl (cy 2, 65, .inl (upd y_57 y_56.toNatClampNeg (vp_nar .boolean (y_57 (y_56 - 1).toNatClampNeg)))))] : va_W) ++ (rowsW (cy 2) rw_t B_t ++ ([] : va_W))) := hD
                refine lv_iinc (v := (y_56 + (-1))) (lv' := [(8, .int (y_56 + (-1))), (7, .int y_47), (6, .int r_6.1), (5, .int r_5.1), (0, .ref a_t), (1, .int p1), (3, .int p3)]) hx hb dX12_divides_98 hl (k := 0) rfl rfl (by decide) rfl (fun ls hl => ?_)
                refine lv_goto (tgt := 77) hx hb dX12_divides_101 (by decide) ?_
                exact ih (y_56 + (-1)) (upd y_57 y_56.toNatClampNeg (vp_nar .boolean (y_57 (y_56 - 1).toNatClampNeg))) hm _ _ _ hP hD hS (lv_sub hl [0, 1, 2, 3, 4, 5, 6] rfl)
          obtain ⟨r_59, hL, hm⟩ := hm_b hm
          refine L77 r_59 ?_ k r_51 y_49 hL _ _ _ hP hD hS (lv_sub hl [0, 1, 2, 3, 4, 5, 6] rfl)
          intro H locs ls hP hD hS hl
          refine lv_aload_n hx hb dX12_divides_104 rfl (lv_at hl 3 rfl) ?_
          refine va_get (D := D) (cl := classes) (ci := 8) (v := .ref a_t_rest) (C := RX12) (T := TX12) (N := 12) hx hb ht in_RX12 hown hK.1 hP 0 rfl rfl 11 (by decide) (ht _ q_1261) (fun _ h9 => h9) rfl dX12_divides_105 ?_
          refine lv_iconst (v := 0) hx hb dX12_divides_108 (by decide) ?_
          refine lv_aload_n hx hb dX12_divides_109 rfl (lv_at hl 3 rfl) ?_
          refine va_get (D := D) (cl := classes) (ci := 8) (v := .ref a_t_one) (C := RX12) (T := TX12) (N := 12) hx hb ht in_RX12 hown hK.1 hP 0 rfl rfl 8 (by decide) (ht _ q_1258) (fun _ h9 => h9) rfl dX12_divides_110 ?_
          refine lv_iload hx hb dX12_divides_113 (lv_at hl 0 rfl) ?_
          obtain ⟨hin, hm⟩ := hm_g hm
          refine va_zald hx hb hK.1 hP 5 2 rfl rfl hin dX12_divides_115 ?_
          obtain ⟨hin, hm⟩ := hm_g hm
          refine va_zast hx hb hK.1 hP hD hS 8 2 rfl rfl hin dX12_divides_116 (fun H locs hP hD hS => ?_)
          have hP : va_P D classes (([(a_t, .inr (8, [.int v_t_isWide, .ref a_t_cells, .ref a_t_page, .int v_t_pageMany, .ref a_t_digits, .int v_t_many, .int v_t_isMinus, .ref a_t_found, .ref a_t_one, .ref a_t_other, .ref a_t_sum, .ref a_t_rest])), (a_t_cells, .inl (cy 5, 8, .inr (.inr (.inr (.inr (fun j => some (rw_t j))))))), (a_t_page, .inl (cy 0, 66, .inl f_t_page)), (a_t_digits, .inl (cy 0, 64, .inl f_t_digits)), (a_t_found, .inl (cy 2, 64, .inl f_t_found)), (a_t_one, .inl (cy 2, 65, .inl r_5.2)), (a_t_other, .inl (cy 2, 65, .inl r_6.2)), (a_t_sum, .inl (cy 2, 65, .inl y_48)), (a_t_rest, .inl (cy 2, 65, .inl (upd r_59 (0 : Int32).toNatClampNeg (vp_nar .boolean (r_5.2 y_47.toNatClampNeg)))))] : va_W) ++ (rowsW (cy 2) rw_t B_t ++ ([] : va_W))) H := hP
          have hD : va_D A (([(a_t, .inr (8, [.int v_t_isWide, .ref a_t_cells, .ref a_t_page, .int v_t_pageMany, .ref a_t_digits, .int v_t_many, .int v_t_isMinus, .ref a_t_found, .ref a_t_one, .ref a_t_other, .ref a_t_sum, .ref a_t_rest])), (a_t_cells, .inl (cy 5, 8, .inr (.inr (.inr (.inr (fun j => some (rw_t j))))))), (a_t_page, .inl (cy 0, 66, .inl f_t_page)), (a_t_digits, .inl (cy 0, 64, .inl f_t_digits)), (a_t_found, .inl (cy 2, 64, .inl f_t_found)), (a_t_one, .inl (cy 2, 65, .inl r_5.2)), (a_t_other, .inl (cy 2, 65, .inl r_6.2)), (a_t_sum, .inl (cy 2, 65, .inl y_48)), (a_t_rest, .inl (cy 2, 65, .inl (upd r_59 (0 : Int32).toNatClampNeg (vp_nar .boolean (r_5.2 y_47.toNatClampNeg)))))] : va_W) ++ (rowsW (cy 2) rw_t B_t ++ ([] : va_W))) := hD
          refine lv_aload_n hx hb dX12_divides_117 rfl (lv_at hl 3 rfl) ?_
          refine va_get (D := D) (cl := classes) (ci := 8) (v := .ref a_t_sum) (C := RX12) (T := TX12) (N := 12) hx hb ht in_RX12 hown hK.1 hP 0 rfl rfl 10 (by decide) (ht _ q_1260) (fun _ h9 => h9) rfl dX12_divides_118 ?_
          refine lv_iload hx hb dX12_divides_121 (lv_at hl 0 rfl) ?_
          refine lv_aload_n hx hb dX12_divides_123 rfl (lv_at hl 3 rfl) ?_
          refine va_get (D := D) (cl := classes) (ci := 8) (v := .ref a_t_rest) (C := RX12) (T := TX12) (N := 12) hx hb ht in_RX12 hown hK.1 hP 0 rfl rfl 11 (by decide) (ht _ q_1261) (fun _ h9 => h9) rfl dX12_divides_124 ?_
          refine lv_aload_n hx hb dX12_divides_127 rfl (lv_at hl 3 rfl) ?_
          refine va_get (D := D) (cl := classes) (ci := 8) (v := .ref a_t_other) (C := RX12) (T := TX12) (N := 12) hx hb ht in_RX12 hown hK.1 hP 0 rfl rfl 9 (by decide) (ht _ q_1259) (fun _ h9 => h9) rfl dX12_divides_128 ?_
          refine lv_aload_n hx hb dX12_divides_131 rfl (lv_at hl 3 rfl) ?_
          obtain ⟨r_60, hr_60, hm⟩ := hm_b hm
          refine k_V (as := []) (rest := [.ref a_t_other, .ref a_t_rest, .int y_47, .ref a_t_sum]) (ws' := (([(a_t, .inr (8, [.int v_t_isWide, .ref a_t_cells, .ref a_t_page, .int v_t_pageMany, .ref a_t_digits, .int v_t_many, .int v_t_isMinus, .ref a_t_found, .ref a_t_one, .ref a_t_other, .ref a_t_sum, .ref a_t_rest])), (a_t_cells, .inl (cy 5, 8, .inr (.inr (.inr (.inr (fun j => some (rw_t j))))))), (a_t_page, .inl (cy 0, 66, .inl f_t_page)), (a_t_digits, .inl (cy 0, 64, .inl f_t_digits)), (a_t_found, .inl (cy 2, 64, .inl f_t_found)), (a_t_one, .inl (cy 2, 65, .inl r_5.2)), (a_t_other, .inl (cy 2, 65, .inl r_6.2)), (a_t_sum, .inl (cy 2, 65, .inl y_48)), (a_t_rest, .inl (cy 2, 65, .inl (upd r_59 (0 : Int32).toNatClampNeg (vp_nar .boolean (r_5.2 y_47.toNatClampNeg)))))] : va_W) ++ (rowsW (cy 2) rw_t B_t ++ ([] : va_W)))) (st2 := [.int r_60, .ref a_t_other, .ref a_t_rest, .int y_47, .ref a_t_sum]) (i0 := 0) hx hb hml hown ht hK hP hD hS hA hC hR hl (kcX12_bits l D cy g a_t a_t_cells a_t_page a_t_digits a_t_found a_t_one a_t_other a_t_sum a_t_rest rw_t v_t_isWide B_t f_t_page v_t_pageMany f_t_digits v_t_many v_t_isMinus f_t_found r_5.2 r_6.2 y_48 (upd r_59 (0 : Int32).toNatClampNeg (vp_nar .boolean (r_5.2 y_47.toNatClampNeg))) r_60 hr_60) (isZ [0, 1, 2, 3, 4, 5, 6, 7, 8] 9 8) q_1354 q_1355 q_1356 q_55 q_1357 hyX12_bits ⟨rfl, rfl, rfl⟩ ⟨Nat.le_of_ble_eq_true rfl, Nat.le_of_ble_eq_true rfl, Nat.le_of_ble_eq_true rfl, Nat.le_of_ble_eq_true rfl⟩ rfl (zcT rfl rfl rfl) (zeT rfl rfl) rfl (Nat.le_of_ble_eq_true rfl) dX12_divides_132 (zwT (cx := [(a_t, .inr (8, [.int v_t_isWide, .ref a_t_cells, .ref a_t_page, .int v_t_pageMany, .ref a_t_digits, .int v_t_many, .int v_t_isMinus, .ref a_t_found, .ref a_t_one, .ref a_t_other, .ref a_t_sum, .ref a_t_rest])), (a_t_cells, .inl (cy 5, 8, .inr (.inr (.inr (.inr (fun j => some (rw_t j))))))), (a_t_page, .inl (cy 0, 66, .inl f_t_page)), (a_t_digits, .inl (cy 0, 64, .inl f_t_digits)), (a_t_found, .inl (cy 2, 64, .inl f_t_found)), (a_t_one, .inl (cy 2, 65, .inl r_5.2)), (a_t_other, .inl (cy 2, 65, .inl r_6.2)), (a_t_sum, .inl (cy 2, 65, .inl y_48)), (a_t_rest, .inl (cy 2, 65, .inl (upd r_59 (0 : Int32).toNatClampNeg (vp_nar .boolean (r_5.2 y_47.toNatClampNeg)))))]) rfl rfl rfl rfl rfl rfl) rfl (fun H locs hP hD hS => ?_)
          refine lv_iconst (v := 1) hx hb dX12_divides_135 (by decide) ?_
          refine lv_iadd hx hb dX12_divides_136 ?_
          obtain ⟨r_61, hr_61, hm⟩ := hm_b hm
          refine k_SN (as := [.ref a_t_rest, .ref a_t_other, .int (r_60 + 1)]) (rest := [.int y_47, .ref a_t_sum]) (ws' := (([(a_t, .inr (8, [.int v_t_isWide, .ref a_t_cells, .ref a_t_page, .int v_t_pageMany, .ref a_t_digits, .int v_t_many, .int v_t_isMinus, .ref a_t_found, .ref a_t_one, .ref a_t_other, .ref a_t_sum, .ref a_t_rest])), (a_t_cells, .inl (cy 5, 8, .inr (.inr (.inr (.inr (fun j => some (rw_t j))))))), (a_t_page, .inl (cy 0, 66, .inl f_t_page)), (a_t_digits, .inl (cy 0, 64, .inl f_t_digits)), (a_t_found, .inl (cy 2, 64, .inl f_t_found)), (a_t_one, .inl (cy 2, 65, .inl r_5.2)), (a_t_other, .inl (cy 2, 65, .inl r_6.2)), (a_t_sum, .inl (cy 2, 65, .inl y_48)), (a_t_rest, .inl (cy 2, 65, .inl (upd r_59 (0 : Int32).toNatClampNeg (vp_nar .boolean (r_5.2 y_47.toNatClampNeg)))))] : va_W) ++ (rowsW (cy 2) rw_t B_t ++ ([] : va_W)))) (st2 := [.int r_61, .int y_47, .ref a_t_sum]) hx hb hml hown ht hK hP hD hS hA hC hR hl (kcX13_compared l D cy g a_t_rest a_t_other 65 65 (upd r_59 (0 : Int32).toNatClampNeg (vp_nar .boolean (r_5.2 y_47.toNatClampNeg))) r_6.2 (r_60 + 1) k r_61 hr_61) [8, 6] qn_1569 q_1612 q_54 q_1613 hyX13_compared ⟨Nat.le_of_ble_eq_true rfl, Nat.le_of_ble_eq_true rfl, Nat.le_of_ble_eq_true rfl, Nat.le_of_ble_eq_true rfl⟩ rfl (zq rfl) rfl rfl (Nat.le_of_ble_eq_true rfl) dX12_divides_137 (zqw (cx := [(a_t_rest, .inl (cy 2, 65, .inl (upd r_59 (0 : Int32).toNatClampNeg (vp_nar .boolean (r_5.2 y_47.toNatClampNeg))))), (a_t_other, .inl (cy 2, 65, .inl r_6.2))]) rfl rfl) rfl (fun H locs hP hD hS => ?_)
          obtain ⟨x_63, hreg, hm⟩ := hm_b hm
          have J148 : ∀ (H : Heap) (locs : List Loc) (ls : Array Slot), va_P D classes (([(a_t, .inr (8, [.int v_t_isWide, .ref a_t_cells, .ref a_t_page, .int v_t_pageMany, .ref a_t_digits, .int v_t_many, .int v_t_isMinus, .ref a_t_found, .ref a_t_one, .ref a_t_other, .ref a_t_sum, .ref a_t_rest])), (a_t_cells, .inl (cy 5, 8, .inr (.inr (.inr (.inr (fun j => some (rw_t j))))))), (a_t_page, .inl (cy 0, 66, .inl f_t_page)), (a_t_digits, .inl (cy 0, 64, .inl f_t_digits)), (a_t_found, .inl (cy 2, 64, .inl f_t_found)), (a_t_one, .inl (cy 2, 65, .inl r_5.2)), (a_t_other, .inl (cy 2, 65, .inl r_6.2)), (a_t_sum, .inl (cy 2, 65, .inl y_48)), (a_t_rest, .inl (cy 2, 65, .inl (upd r_59 (0 : Int32).toNatClampNeg (vp_nar .boolean (r_5.2 y_47.toNatClampNeg)))))] : va_W) ++ (rowsW (cy 2) rw_t B_t ++ ([] : va_W))) H → va_D A (([(a_t, .inr (8, [.int v_t_isWide, .ref a_t_cells, .ref a_t_page, .int v_t_pageMany, .ref a_t_digits, .int v_t_many, .int v_t_isMinus, .ref a_t_found, .ref a_t_one, .ref a_t_other, .ref a_t_sum, .ref a_t_rest])), (a_t_cells, .inl (cy 5, 8, .inr (.inr (.inr (.inr (fun j => some (rw_t j))))))), (a_t_page, .inl (cy 0, 66, .inl f_t_page)), (a_t_digits, .inl (cy 0, 64, .inl f_t_digits)), (a_t_found, .inl (cy 2, 64, .inl f_t_found)), (a_t_one, .inl (cy 2, 65, .inl r_5.2)), (a_t_other, .inl (cy 2, 65, .inl r_6.2)), (a_t_sum, .inl (cy 2, 65, .inl y_48)), (a_t_rest, .inl (cy 2, 65, .inl (upd r_59 (0 : Int32).toNatClampNeg (vp_nar .boolean (r_5.2 y_47.toNatClampNeg)))))] : va_W) ++ (rowsW (cy 2) rw_t B_t ++ ([] : va_W))) → va_S A s.heap H locs → lv_has ls 11 [(7, .int y_47), (6, .int r_6.1), (5, .int r_5.1), (0, .ref a_t), (1, .int p1), (3, .int p3)] → W p l e RM s m ar below meth c H locs 0 0 (MQ below Qc ar s 0 0 A) (F0 m 148 ls [.int x_63, .int y_47, .ref a_t_sum]) := by
            intro H locs ls hP hD hS hl
            obtain ⟨hin, hm⟩ := hm_g hm
            refine va_zast hx hb hK.1 hP hD hS 7 2 rfl rfl hin dX12_divides_148 (fun H locs hP hD hS => ?_)
            have hP : va_P D classes (([(a_t, .inr (8, [.int v_t_isWide, .ref a_t_cells, .ref a_t_page, .int v_t_pageMany, .ref a_t_digits, .int v_t_many, .int v_t_isMinus, .ref a_t_found, .ref a_t_one, .ref a_t_other, .ref a_t_sum, .ref a_t_rest])), (a_t_cells, .inl (cy 5, 8, .inr (.inr (.inr (.inr (fun j => some (rw_t j))))))), (a_t_page, .inl (cy 0, 66, .inl f_t_page)), (a_t_digits, .inl (cy 0, 64, .inl f_t_digits)), (a_t_found, .inl (cy 2, 64, .inl f_t_found)), (a_t_one, .inl (cy 2, 65, .inl r_5.2)), (a_t_other, .inl (cy 2, 65, .inl r_6.2)), (a_t_sum, .inl (cy 2, 65, .inl (upd y_48 y_47.toNatClampNeg (vp_nar .boolean x_63)))), (a_t_rest, .inl (cy 2, 65, .inl (upd r_59 (0 : Int32).toNatClampNeg (vp_nar .boolean (r_5.2 y_47.toNatClampNeg)))))] : va_W) ++ (rowsW (cy 2) rw_t B_t ++ ([] : va_W))) H := hP
            have hD : va_D A (([(a_t, .inr (8, [.int v_t_isWide, .ref a_t_cells, .ref a_t_page, .int v_t_pageMany, .ref a_t_digits, .int v_t_many, .int v_t_isMinus, .ref a_t_found, .ref a_t_one, .ref a_t_other, .ref a_t_sum, .ref a_t_rest])), (a_t_cells, .inl (cy 5, 8, .inr (.inr (.inr (.inr (fun j => some (rw_t j))))))), (a_t_page, .inl (cy 0, 66, .inl f_t_page)), (a_t_digits, .inl (cy 0, 64, .inl f_t_digits)), (a_t_found, .inl (cy 2, 64, .inl f_t_found)), (a_t_one, .inl (cy 2, 65, .inl r_5.2)), (a_t_other, .inl (cy 2, 65, .inl r_6.2)), (a_t_sum, .inl (cy 2, 65, .inl (upd y_48 y_47.toNatClampNeg (vp_nar .boolean x_63)))), (a_t_rest, .inl (cy 2, 65, .inl (upd r_59 (0 : Int32).toNatClampNeg (vp_nar .boolean (r_5.2 y_47.toNatClampNeg)))))] : va_W) ++ (rowsW (cy 2) rw_t B_t ++ ([] : va_W))) := hD
            refine lv_aload_n hx hb dX12_divides_149 rfl (lv_at hl 3 rfl) ?_
            refine va_get (D := D) (cl := classes) (ci := 8) (v := .ref a_t_sum) (C := RX12) (T := TX12) (N := 12) hx hb ht in_RX12 hown hK.1 hP 0 rfl rfl 10 (by decide) (ht _ q_1260) (fun _ h9 => h9) rfl dX12_divides_150 ?_
            refine lv_iload hx hb dX12_divides_153 (lv_at hl 0 rfl) ?_
            obtain ⟨hin, hm⟩ := hm_g hm
            refine va_zald hx hb hK.1 hP 7 2 rfl rfl hin dX12_divides_155 ?_
            refine lv_if_eq (tgt := 177) hx hb dX12_divides_156 (by decide) (fun c_64 => ?_) (fun c_64 => ?_)
            · replace hm := hm_t c_64 hm
              refine lv_iinc (v := (y_47 + (-1))) (lv' := [(7, .int (y_47 + (-1))), (6, .int r_6.1), (5, .int r_5.1), (0, .ref a_t), (1, .int p1), (3, .int p3)]) hx hb dX12_divides_177 hl (k := 0) rfl rfl (by decide) rfl (fun ls hl => ?_)
              refine lv_goto (tgt := 66) hx hb dX12_divides_180 (by decide) ?_
              exact ih (y_47 + (-1)) (upd y_48 y_47.toNatClampNeg (vp_nar .boolean x_63)) (upd r_59 (0 : Int32).toNatClampNeg (vp_nar .boolean (r_5.2 y_47.toNatClampNeg))) hm _ _ _ hP hD hS (lv_sub hl [0, 1, 2, 3, 4, 5] rfl)
            · replace hm := hm_f c_64 hm
              refine lv_aload_n hx hb dX12_divides_159 rfl (lv_at hl 3 rfl) ?_
              refine va_get (D := D) (cl := classes) (ci := 8) (v := .ref a_t_rest) (C := RX12) (T := TX12) (N := 12) hx hb ht in_RX12 hown hK.1 hP 0 rfl rfl 11 (by decide) (ht _ q_1261) (fun _ h9 => h9) rfl dX12_divides_160 ?_
              refine lv_aload_n hx hb dX12_divides_163 rfl (lv_at hl 3 rfl) ?_
              refine va_get (D := D) (cl := classes) (ci := 8) (v := .ref a_t_other) (C := RX12) (T := TX12) (N := 12) hx hb ht in_RX12 hown hK.1 hP 0 rfl rfl 9 (by decide) (ht _ q_1259) (fun _ h9 => h9) rfl dX12_divides_164 ?_
              refine lv_aload_n hx hb dX12_divides_167 rfl (lv_at hl 3 rfl) ?_
              obtain ⟨r_65, hr_65, hm⟩ := hm_b hm
              refine k_V (as := []) (rest := [.ref a_t_other, .ref a_t_rest]) (ws' := (([(a_t, .inr (8, [.int v_t_isWide, .ref a_t_cells, .ref a_t_page, .int v_t_pageMany, .ref a_t_digits, .int v_t_many, .int v_t_isMinus, .ref a_t_found, .ref a_t_one, .ref a_t_other, .ref a_t_sum, .ref a_t_rest])), (a_t_cells, .inl (cy 5, 8, .inr (.inr (.inr (.inr (fun j => some (rw_t j))))))), (a_t_page, .inl (cy 0, 66, .inl f_t_page)), (a_t_digits, .inl (cy 0, 64, .inl f_t_digits)), (a_t_found, .inl (cy 2, 64, .inl f_t_found)), (a_t_one, .inl (cy 2, 65, .inl r_5.2)), (a_t_other, .inl (cy 2, 65, .inl r_6.2)), (a_t_sum, .inl (cy 2, 65, .inl (upd y_48 y_47.toNatClampNeg (vp_nar .boolean x_63)))), (a_t_rest, .inl (cy 2, 65, .inl (upd r_59 (0 : Int32).toNatClampNeg (vp_nar .boolean (r_5.2 y_47.toNatClampNeg)))))] : va_W) ++ (rowsW (cy 2) rw_t B_t ++ ([] : va_W)))) (st2 := [.int r_65, .ref a_t_other, .ref a_t_rest]) (i0 := 0) hx hb hml hown ht hK hP hD hS hA hC hR hl (kcX12_bits l D cy g a_t a_t_cells a_t_page a_t_digits a_t_found a_t_one a_t_other a_t_sum a_t_rest rw_t v_t_isWide B_t f_t_page v_t_pageMany f_t_digits v_t_many v_t_isMinus f_t_found r_5.2 r_6.2 (upd y_48 y_47.toNatClampNeg (vp_nar .boolean x_63)) (upd r_59 (0 : Int32).toNatClampNeg (vp_nar .boolean (r_5.2 y_47.toNatClampNeg))) r_65 hr_65) (isZ [0, 1, 2, 3, 4, 5, 6, 7, 8] 9 8) q_1354 q_1355 q_1356 q_55 q_1357 hyX12_bits ⟨rfl, rfl, rfl⟩ ⟨Nat.le_of_ble_eq_true rfl, Nat.le_of_ble_eq_true rfl, Nat.le_of_ble_eq_true rfl, Nat.le_of_ble_eq_true rfl⟩ rfl (zcT rfl rfl rfl) (zeT rfl rfl) rfl (Nat.le_of_ble_eq_true rfl) dX12_divides_168 (zwT (cx := [(a_t, .inr (8, [.int v_t_isWide, .ref a_t_cells, .ref a_t_page, .int v_t_pageMany, .ref a_t_digits, .int v_t_many, .int v_t_isMinus, .ref a_t_found, .ref a_t_one, .ref a_t_other, .ref a_t_sum, .ref a_t_rest])), (a_t_cells, .inl (cy 5, 8, .inr (.inr (.inr (.inr (fun j => some (rw_t j))))))), (a_t_page, .inl (cy 0, 66, .inl f_t_page)), (a_t_digits, .inl (cy 0, 64, .inl f_t_digits)), (a_t_found, .inl (cy 2, 64, .inl f_t_found)), (a_t_one, .inl (cy 2, 65, .inl r_5.2)), (a_t_other, .inl (cy 2, 65, .inl r_6.2)), (a_t_sum, .inl (cy 2, 65, .inl (upd y_48 y_47.toNatClampNeg (vp_nar .boolean x_63)))), (a_t_rest, .inl (cy 2, 65, .inl (upd r_59 (0 : Int32).toNatClampNeg (vp_nar .boolean (r_5.2 y_47.toNatClampNeg)))))]) rfl rfl rfl rfl rfl rfl) rfl (fun H locs hP hD hS => ?_)
              refine lv_iconst (v := 1) hx hb dX12_divides_171 (by decide) ?_
              refine lv_iadd hx hb dX12_divides_172 ?_
              refine lv_iconst (v := 1) hx hb dX12_divides_173 (by decide) ?_
              obtain ⟨r_66, hr_66, hm⟩ := hm_b hm
              refine k_SN (as := [.ref a_t_rest, .ref a_t_other, .int (r_65 + 1), .int 1]) (rest := []) (ws' := (([(a_t, .inr (8, [.int v_t_isWide, .ref a_t_cells, .ref a_t_page, .int v_t_pageMany, .ref a_t_digits, .int v_t_many, .int v_t_isMinus, .ref a_t_found, .ref a_t_one, .ref a_t_other, .ref a_t_sum, .ref a_t_rest])), (a_t_cells, .inl (cy 5, 8, .inr (.inr (.inr (.inr (fun j => some (rw_t j))))))), (a_t_page, .inl (cy 0, 66, .inl f_t_page)), (a_t_digits, .inl (cy 0, 64, .inl f_t_digits)), (a_t_found, .inl (cy 2, 64, .inl f_t_found)), (a_t_one, .inl (cy 2, 65, .inl r_5.2)), (a_t_other, .inl (cy 2, 65, .inl r_6.2)), (a_t_sum, .inl (cy 2, 65, .inl (upd y_48 y_47.toNatClampNeg (vp_nar .boolean x_63)))), (a_t_rest, .inl (cy 2, 65, .inl r_66))] : va_W) ++ (rowsW (cy 2) rw_t B_t ++ ([] : va_W)))) (st2 := []) hx hb hml hown ht hK hP hD hS hA hC hR hl (kcX13_adds l D cy g a_t_rest a_t_other 65 65 (upd r_59 (0 : Int32).toNatClampNeg (vp_nar .boolean (r_5.2 y_47.toNatClampNeg))) r_6.2 (r_65 + 1) 1 k r_66 hr_66) [8, 6] qn_1554 q_1597 q_54 q_1598 hyX13_adds ⟨Nat.le_of_ble_eq_true rfl, Nat.le_of_ble_eq_true rfl, Nat.le_of_ble_eq_true rfl, Nat.le_of_ble_eq_true rfl⟩ rfl (zq rfl) rfl rfl (Nat.le_of_ble_eq_true rfl) dX12_divides_174 (zqw (cx := [(a_t_rest, .inl (cy 2, 65, .inl (upd r_59 (0 : Int32).toNatClampNeg (vp_nar .boolean (r_5.2 y_47.toNatClampNeg))))), (a_t_other, .inl (cy 2, 65, .inl r_6.2))]) rfl rfl) rfl (fun H locs hP hD hS => ?_)
              refine lv_iinc (v := (y_47 + (-1))) (lv' := [(7, .int (y_47 + (-1))), (6, .int r_6.1), (5, .int r_5.1), (0, .ref a_t), (1, .int p1), (3, .int p3)]) hx hb dX12_divides_177 hl (k := 0) rfl rfl (by decide) rfl (fun ls hl => ?_)
              refine lv_goto (tgt := 66) hx hb dX12_divides_180 (by decide) ?_
              exact ih (y_47 + (-1)) (upd y_48 y_47.toNatClampNeg (vp_nar .boolean x_63)) r_66 hm _ _ _ hP hD hS (lv_sub hl [0, 1, 2, 3, 4, 5] rfl)
          replace hm := hreg
          refine lv_if_lt (tgt := 147) hx hb dX12_divides_140 (by decide) (fun c_62 => ?_) (fun c_62 => ?_)
          · replace hm := hm_t c_62 hm
            refine lv_iconst (v := 0) hx hb dX12_divides_147 (by decide) ?_
            obtain rfl := Option.some.inj hm
            exact J148 _ _ _ hP hD hS (lv_sub hl [0, 1, 2, 3, 4, 5] rfl)
          · replace hm := hm_f c_62 hm
            refine lv_iconst (v := 1) hx hb dX12_divides_143 (by decide) ?_
            refine lv_goto (tgt := 148) hx hb dX12_divides_144 (by decide) ?_
            obtain rfl := Option.some.inj hm
            exact J148 _ _ _ hP hD hS (lv_sub hl [0, 1, 2, 3, 4, 5] rfl)
    obtain ⟨r_67, hL, hm⟩ := hm_b hm
    refine L66 r_67 ?_ k (r_9 - 1) r_8 r_7 hL _ _ _ hP hD hS (lv_sub hl [0, 1, 2, 3, 4, 6] rfl)
    intro H locs ls hP hD hS hl
    refine lv_iload hx hb dX12_divides_183 (lv_at hl 1 rfl) ?_
    refine lv_iload hx hb dX12_divides_185 (lv_at hl 0 rfl) ?_
    obtain ⟨x_71, hreg, hm⟩ := hm_b hm
    have J201 : ∀ (H : Heap) (locs : List Loc) (ls : Array Slot), va_P D classes (([(a_t, .inr (8, [.int v_t_isWide, .ref a_t_cells, .ref a_t_page, .int v_t_pageMany, .ref a_t_digits, .int v_t_many, .int v_t_isMinus, .ref a_t_found, .ref a_t_one, .ref a_t_other, .ref a_t_sum, .ref a_t_rest])), (a_t_cells, .inl (cy 5, 8, .inr (.inr (.inr (.inr (fun j => some (rw_t j))))))), (a_t_page, .inl (cy 0, 66, .inl f_t_page)), (a_t_digits, .inl (cy 0, 64, .inl f_t_digits)), (a_t_found, .inl (cy 2, 64, .inl f_t_found)), (a_t_one, .inl (cy 2, 65, .inl r_5.2)), (a_t_other, .inl (cy 2, 65, .inl r_6.2)), (a_t_sum, .inl (cy 2, 65, .inl x_71)), (a_t_rest, .inl (cy 2, 65, .inl r_67.2))] : va_W) ++ (rowsW (cy 2) rw_t B_t ++ ([] : va_W))) H → va_D A (([(a_t, .inr (8, [.int v_t_isWide, .ref a_t_cells, .ref a_t_page, .int v_t_pageMany, .ref a_t_digits, .int v_t_many, .int v_t_isMinus, .ref a_t_found, .ref a_t_one, .ref a_t_other, .ref a_t_sum, .ref a_t_rest])), (a_t_cells, .inl (cy 5, 8, .inr (.inr (.inr (.inr (fun j => some (rw_t j))))))), (a_t_page, .inl (cy 0, 66, .inl f_t_page)), (a_t_digits, .inl (cy 0, 64, .inl f_t_digits)), (a_t_found, .inl (cy 2, 64, .inl f_t_found)), (a_t_one, .inl (cy 2, 65, .inl r_5.2)), (a_t_other, .inl (cy 2, 65, .inl r_6.2)), (a_t_sum, .inl (cy 2, 65, .inl x_71)), (a_t_rest, .inl (cy 2, 65, .inl r_67.2))] : va_W) ++ (rowsW (cy 2) rw_t B_t ++ ([] : va_W))) → va_S A s.heap H locs → lv_has ls 11 [(5, .int r_5.1), (0, .ref a_t), (1, .int p1), (3, .int p3)] → W p l e RM s m ar below meth c H locs 0 0 (MQ below Qc ar s 0 0 A) (F0 m 201 ls []) := by
      intro H locs ls hP hD hS hl
      refine lv_iload hx hb dX12_divides_201 (lv_at hl 0 rfl) ?_
      obtain ⟨x_75, hreg, hm⟩ := hm_b hm
      have J217 : ∀ (H : Heap) (locs : List Loc) (ls : Array Slot), va_P D classes (([(a_t, .inr (8, [.int v_t_isWide, .ref a_t_cells, .ref a_t_page, .int v_t_pageMany, .ref a_t_digits, .int v_t_many, .int v_t_isMinus, .ref a_t_found, .ref a_t_one, .ref a_t_other, .ref a_t_sum, .ref a_t_rest])), (a_t_cells, .inl (cy 5, 8, .inr (.inr (.inr (.inr (fun j => some (rw_t j))))))), (a_t_page, .inl (cy 0, 66, .inl f_t_page)), (a_t_digits, .inl (cy 0, 64, .inl f_t_digits)), (a_t_found, .inl (cy 2, 64, .inl f_t_found)), (a_t_one, .inl (cy 2, 65, .inl r_5.2)), (a_t_other, .inl (cy 2, 65, .inl r_6.2)), (a_t_sum, .inl (cy 2, 65, .inl x_71)), (a_t_rest, .inl (cy 2, 65, .inl x_75))] : va_W) ++ (rowsW (cy 2) rw_t B_t ++ ([] : va_W))) H → va_D A (([(a_t, .inr (8, [.int v_t_isWide, .ref a_t_cells, .ref a_t_page, .int v_t_pageMany, .ref a_t_digits, .int v_t_many, .int v_t_isMinus, .ref a_t_found, .ref a_t_one, .ref a_t_other, .ref a_t_sum, .ref a_t_rest])), (a_t_cells, .inl (cy 5, 8, .inr (.inr (.inr (.inr (fun j => some (rw_t j))))))), (a_t_page, .inl (cy 0, 66, .inl f_t_page)), (a_t_digits, .inl (cy 0, 64, .inl f_t_digits)), (a_t_found, .inl (cy 2, 64, .inl f_t_found)), (a_t_one, .inl (cy 2, 65, .inl r_5.2)), (a_t_other, .inl (cy 2, 65, .inl r_6.2)), (a_t_sum, .inl (cy 2, 65, .inl x_71)), (a_t_rest, .inl (cy 2, 65, .inl x_75))] : va_W) ++ (rowsW (cy 2) rw_t B_t ++ ([] : va_W))) → va_S A s.heap H locs → lv_has ls 11 [(0, .ref a_t), (1, .int p1), (3, .int p3)] → W p l e RM s m ar below meth c H locs 0 0 (MQ below Qc ar s 0 0 A) (F0 m 217 ls []) := by
        intro H locs ls hP hD hS hl
        refine lv_aload_n hx hb dX12_divides_217 rfl (lv_at hl 0 rfl) ?_
        refine lv_iload_n hx hb dX12_divides_218 rfl (lv_at hl 1 rfl) ?_
        refine lv_aload_n hx hb dX12_divides_219 rfl (lv_at hl 0 rfl) ?_
        refine va_get (D := D) (cl := classes) (ci := 8) (v := .ref a_t_sum) (C := RX12) (T := TX12) (N := 12) hx hb ht in_RX12 hown hK.1 hP 0 rfl rfl 10 (by decide) (ht _ q_1260) (fun _ h9 => h9) rfl dX12_divides_220 ?_
        obtain ⟨r_76, hr_76, hm⟩ := hm_b hm
        refine k_V (as := [.int p1, .ref a_t_sum]) (rest := []) (ws' := (([(a_t, .inr (8, [.int v_t_isWide, .ref a_t_cells, .ref a_t_page, .int v_t_pageMany, .ref a_t_digits, .int v_t_many, .int v_t_isMinus, .ref a_t_found, .ref a_t_one, .ref a_t_other, .ref a_t_sum, .ref a_t_rest])), (a_t_cells, .inl (cy 5, 8, .inr (.inr (.inr (.inr (fun j => some (rw_t j))))))), (a_t_page, .inl (cy 0, 66, .inl f_t_page)), (a_t_digits, .inl (cy 0, 64, .inl f_t_digits)), (a_t_found, .inl (cy 2, 64, .inl f_t_found)), (a_t_one, .inl (cy 2, 65, .inl r_5.2)), (a_t_other, .inl (cy 2, 65, .inl r_6.2)), (a_t_sum, .inl (cy 2, 65, .inl x_71)), (a_t_rest, .inl (cy 2, 65, .inl x_75))] : va_W) ++ (rowsW (cy 2) rw_t r_76.2 ++ ([] : va_W)))) (st2 := [.long r_76.1]) (i0 := 0) hx hb hml hown ht hK hP hD hS hA hC hR hl (kcX12_puts_sum l D cy g a_t a_t_cells a_t_page a_t_digits a_t_found a_t_one a_t_other a_t_sum a_t_rest rw_t v_t_isWide B_t f_t_page v_t_pageMany f_t_digits v_t_many v_t_isMinus f_t_found r_5.2 r_6.2 x_71 x_75 p1 k r_76 hr_76) (isZ [0, 1, 2, 3, 4, 5, 6, 7, 8] 9 8) q_1433 q_1435 q_18 q_55 q_1436 hyX12_puts ⟨rfl, rfl, rfl⟩ ⟨Nat.le_of_ble_eq_true rfl, Nat.le_of_ble_eq_true rfl, Nat.le_of_ble_eq_true rfl, Nat.le_of_ble_eq_true rfl⟩ rfl (zcT rfl rfl rfl) (zeT rfl rfl) rfl (Nat.le_of_ble_eq_true rfl) dX12_divides_223 (zwT (cx := [(a_t, .inr (8, [.int v_t_isWide, .ref a_t_cells, .ref a_t_page, .int v_t_pageMany, .ref a_t_digits, .int v_t_many, .int v_t_isMinus, .ref a_t_found, .ref a_t_one, .ref a_t_other, .ref a_t_sum, .ref a_t_rest])), (a_t_cells, .inl (cy 5, 8, .inr (.inr (.inr (.inr (fun j => some (rw_t j))))))), (a_t_page, .inl (cy 0, 66, .inl f_t_page)), (a_t_digits, .inl (cy 0, 64, .inl f_t_digits)), (a_t_found, .inl (cy 2, 64, .inl f_t_found)), (a_t_one, .inl (cy 2, 65, .inl r_5.2)), (a_t_other, .inl (cy 2, 65, .inl r_6.2)), (a_t_sum, .inl (cy 2, 65, .inl x_71)), (a_t_rest, .inl (cy 2, 65, .inl x_75))]) rfl rfl rfl rfl rfl rfl) rfl (fun H locs hP hD hS => ?_)
        refine lv_lstore (lv' := [(7, .long r_76.1), (0, .ref a_t), (1, .int p1), (3, .int p3)]) hx hb dX12_divides_226 hl (by decide) rfl (fun ls hl => ?_)
        refine lv_aload_n hx hb dX12_divides_228 rfl (lv_at hl 1 rfl) ?_
        refine lv_iload_n hx hb dX12_divides_229 rfl (lv_at hl 3 rfl) ?_
        refine lv_aload_n hx hb dX12_divides_230 rfl (lv_at hl 1 rfl) ?_
        refine va_get (D := D) (cl := classes) (ci := 8) (v := .ref a_t_rest) (C := RX12) (T := TX12) (N := 12) hx hb ht in_RX12 hown hK.1 hP 0 rfl rfl 11 (by decide) (ht _ q_1261) (fun _ h9 => h9) rfl dX12_divides_231 ?_
        obtain ⟨r_77, hr_77, hm⟩ := hm_b hm
        refine k_V (as := [.int p3, .ref a_t_rest]) (rest := []) (ws' := (([(a_t, .inr (8, [.int v_t_isWide, .ref a_t_cells, .ref a_t_page, .int v_t_pageMany, .ref a_t_digits, .int v_t_many, .int v_t_isMinus, .ref a_t_found, .ref a_t_one, .ref a_t_other, .ref a_t_sum, .ref a_t_rest])), (a_t_cells, .inl (cy 5, 8, .inr (.inr (.inr (.inr (fun j => some (rw_t j))))))), (a_t_page, .inl (cy 0, 66, .inl f_t_page)), (a_t_digits, .inl (cy 0, 64, .inl f_t_digits)), (a_t_found, .inl (cy 2, 64, .inl f_t_found)), (a_t_one, .inl (cy 2, 65, .inl r_5.2)), (a_t_other, .inl (cy 2, 65, .inl r_6.2)), (a_t_sum, .inl (cy 2, 65, .inl x_71)), (a_t_rest, .inl (cy 2, 65, .inl x_75))] : va_W) ++ (rowsW (cy 2) rw_t r_77.2 ++ ([] : va_W)))) (st2 := [.long r_77.1]) (i0 := 0) hx hb hml hown ht hK hP hD hS hA hC hR hl (kcX12_puts_rest l D cy g a_t a_t_cells a_t_page a_t_digits a_t_found a_t_one a_t_other a_t_sum a_t_rest rw_t v_t_isWide r_76.2 f_t_page v_t_pageMany f_t_digits v_t_many v_t_isMinus f_t_found r_5.2 r_6.2 x_71 x_75 p3 k r_77 hr_77) (isZ [0, 1, 2, 3, 4, 5, 6, 7, 8] 9 8) q_1433 q_1435 q_18 q_55 q_1436 hyX12_puts ⟨rfl, rfl, rfl⟩ ⟨Nat.le_of_ble_eq_true rfl, Nat.le_of_ble_eq_true rfl, Nat.le_of_ble_eq_true rfl, Nat.le_of_ble_eq_true rfl⟩ rfl (zcT rfl rfl rfl) (zeT rfl rfl) rfl (Nat.le_of_ble_eq_true rfl) dX12_divides_234 (zwT (cx := [(a_t, .inr (8, [.int v_t_isWide, .ref a_t_cells, .ref a_t_page, .int v_t_pageMany, .ref a_t_digits, .int v_t_many, .int v_t_isMinus, .ref a_t_found, .ref a_t_one, .ref a_t_other, .ref a_t_sum, .ref a_t_rest])), (a_t_cells, .inl (cy 5, 8, .inr (.inr (.inr (.inr (fun j => some (rw_t j))))))), (a_t_page, .inl (cy 0, 66, .inl f_t_page)), (a_t_digits, .inl (cy 0, 64, .inl f_t_digits)), (a_t_found, .inl (cy 2, 64, .inl f_t_found)), (a_t_one, .inl (cy 2, 65, .inl r_5.2)), (a_t_other, .inl (cy 2, 65, .inl r_6.2)), (a_t_sum, .inl (cy 2, 65, .inl x_71)), (a_t_rest, .inl (cy 2, 65, .inl x_75))]) rfl rfl rfl rfl rfl rfl) rfl (fun H locs hP hD hS => ?_)
        refine lv_lstore (lv' := [(9, .long r_77.1), (7, .long r_76.1), (0, .ref a_t), (1, .int p1), (3, .int p3)]) hx hb dX12_divides_237 hl (by decide) rfl (fun ls hl => ?_)
        refine lv_iconst (v := 1) hx hb dX12_divides_239 (by decide) ?_
        obtain rfl := Option.some.inj hm
        exact k_zret hx hb hr hlocks hQc rfl hP hS rfl rfl dX12_divides_240
      replace hm := hreg
      refine lv_if_eq (tgt := 217) hx hb dX12_divides_203 (by decide) (fun c_72 => ?_) (fun c_72 => ?_)
      · replace hm := hm_t c_72 hm
        obtain rfl := Option.some.inj hm
        exact J217 _ _ _ hP hD hS (lv_sub hl [1, 2, 3] rfl)
      · replace hm := hm_f c_72 hm
        refine lv_aload_n hx hb dX12_divides_206 rfl (lv_at hl 1 rfl) ?_
        refine va_get (D := D) (cl := classes) (ci := 8) (v := .ref a_t_rest) (C := RX12) (T := TX12) (N := 12) hx hb ht in_RX12 hown hK.1 hP 0 rfl rfl 11 (by decide) (ht _ q_1261) (fun _ h9 => h9) rfl dX12_divides_207 ?_
        refine lv_aload_n hx hb dX12_divides_210 rfl (lv_at hl 1 rfl) ?_
        obtain ⟨r_78, hr_78, hm⟩ := hm_b hm
        refine k_V (as := []) (rest := [.ref a_t_rest]) (ws' := (([(a_t, .inr (8, [.int v_t_isWide, .ref a_t_cells, .ref a_t_page, .int v_t_pageMany, .ref a_t_digits, .int v_t_many, .int v_t_isMinus, .ref a_t_found, .ref a_t_one, .ref a_t_other, .ref a_t_sum, .ref a_t_rest])), (a_t_cells, .inl (cy 5, 8, .inr (.inr (.inr (.inr (fun j => some (rw_t j))))))), (a_t_page, .inl (cy 0, 66, .inl f_t_page)), (a_t_digits, .inl (cy 0, 64, .inl f_t_digits)), (a_t_found, .inl (cy 2, 64, .inl f_t_found)), (a_t_one, .inl (cy 2, 65, .inl r_5.2)), (a_t_other, .inl (cy 2, 65, .inl r_6.2)), (a_t_sum, .inl (cy 2, 65, .inl x_71)), (a_t_rest, .inl (cy 2, 65, .inl r_67.2))] : va_W) ++ (rowsW (cy 2) rw_t B_t ++ ([] : va_W)))) (st2 := [.int r_78, .ref a_t_rest]) (i0 := 0) hx hb hml hown ht hK hP hD hS hA hC hR hl (kcX12_bits l D cy g a_t a_t_cells a_t_page a_t_digits a_t_found a_t_one a_t_other a_t_sum a_t_rest rw_t v_t_isWide B_t f_t_page v_t_pageMany f_t_digits v_t_many v_t_isMinus f_t_found r_5.2 r_6.2 x_71 r_67.2 r_78 hr_78) (isZ [0, 1, 2, 3, 4, 5, 6, 7, 8] 9 8) q_1354 q_1355 q_1356 q_55 q_1357 hyX12_bits ⟨rfl, rfl, rfl⟩ ⟨Nat.le_of_ble_eq_true rfl, Nat.le_of_ble_eq_true rfl, Nat.le_of_ble_eq_true rfl, Nat.le_of_ble_eq_true rfl⟩ rfl (zcT rfl rfl rfl) (zeT rfl rfl) rfl (Nat.le_of_ble_eq_true rfl) dX12_divides_211 (zwT (cx := [(a_t, .inr (8, [.int v_t_isWide, .ref a_t_cells, .ref a_t_page, .int v_t_pageMany, .ref a_t_digits, .int v_t_many, .int v_t_isMinus, .ref a_t_found, .ref a_t_one, .ref a_t_other, .ref a_t_sum, .ref a_t_rest])), (a_t_cells, .inl (cy 5, 8, .inr (.inr (.inr (.inr (fun j => some (rw_t j))))))), (a_t_page, .inl (cy 0, 66, .inl f_t_page)), (a_t_digits, .inl (cy 0, 64, .inl f_t_digits)), (a_t_found, .inl (cy 2, 64, .inl f_t_found)), (a_t_one, .inl (cy 2, 65, .inl r_5.2)), (a_t_other, .inl (cy 2, 65, .inl r_6.2)), (a_t_sum, .inl (cy 2, 65, .inl x_71)), (a_t_rest, .inl (cy 2, 65, .inl r_67.2))]) rfl rfl rfl rfl rfl rfl) rfl (fun H locs hP hD hS => ?_)
        obtain ⟨r_79, hr_79, hm⟩ := hm_b hm
        refine k_SN (as := [.ref a_t_rest, .int r_78]) (rest := []) (ws' := (([(a_t, .inr (8, [.int v_t_isWide, .ref a_t_cells, .ref a_t_page, .int v_t_pageMany, .ref a_t_digits, .int v_t_many, .int v_t_isMinus, .ref a_t_found, .ref a_t_one, .ref a_t_other, .ref a_t_sum, .ref a_t_rest])), (a_t_cells, .inl (cy 5, 8, .inr (.inr (.inr (.inr (fun j => some (rw_t j))))))), (a_t_page, .inl (cy 0, 66, .inl f_t_page)), (a_t_digits, .inl (cy 0, 64, .inl f_t_digits)), (a_t_found, .inl (cy 2, 64, .inl f_t_found)), (a_t_one, .inl (cy 2, 65, .inl r_5.2)), (a_t_other, .inl (cy 2, 65, .inl r_6.2)), (a_t_sum, .inl (cy 2, 65, .inl x_71)), (a_t_rest, .inl (cy 2, 65, .inl r_79))] : va_W) ++ (rowsW (cy 2) rw_t B_t ++ ([] : va_W)))) (st2 := []) hx hb hml hown ht hK hP hD hS hA hC hR hl (kcX13_negates l D cy g a_t_rest 65 r_67.2 r_78 k r_79 hr_79) [8] qn_1388 q_1431 q_54 q_1432 hyX13_negates ⟨Nat.le_of_ble_eq_true rfl, Nat.le_of_ble_eq_true rfl, Nat.le_of_ble_eq_true rfl, Nat.le_of_ble_eq_true rfl⟩ rfl (zq rfl) rfl rfl (Nat.le_of_ble_eq_true rfl) dX12_divides_214 (zqw (cx := [(a_t_rest, .inl (cy 2, 65, .inl r_67.2))]) rfl rfl) rfl (fun H locs hP hD hS => ?_)
        obtain rfl := Option.some.inj hm
        exact J217 _ _ _ hP hD hS (lv_sub hl [1, 2, 3] rfl)
    replace hm := hreg
    refine lv_icmp_eq (tgt := 201) hx hb dX12_divides_187 (by decide) (fun c_68 => ?_) (fun c_68 => ?_)
    · replace hm := hm_t c_68 hm
      obtain rfl := Option.some.inj hm
      exact J201 _ _ _ hP hD hS (lv_sub hl [1, 2, 3, 4] rfl)
    · replace hm := hm_f c_68 hm
      refine lv_aload_n hx hb dX12_divides_190 rfl (lv_at hl 2 rfl) ?_
      refine va_get (D := D) (cl := classes) (ci := 8) (v := .ref a_t_sum) (C := RX12) (T := TX12) (N := 12) hx hb ht in_RX12 hown hK.1 hP 0 rfl rfl 10 (by decide) (ht _ q_1260) (fun _ h9 => h9) rfl dX12_divides_191 ?_
      refine lv_aload_n hx hb dX12_divides_194 rfl (lv_at hl 2 rfl) ?_
      obtain ⟨r_80, hr_80, hm⟩ := hm_b hm
      refine k_V (as := []) (rest := [.ref a_t_sum]) (ws' := (([(a_t, .inr (8, [.int v_t_isWide, .ref a_t_cells, .ref a_t_page, .int v_t_pageMany, .ref a_t_digits, .int v_t_many, .int v_t_isMinus, .ref a_t_found, .ref a_t_one, .ref a_t_other, .ref a_t_sum, .ref a_t_rest])), (a_t_cells, .inl (cy 5, 8, .inr (.inr (.inr (.inr (fun j => some (rw_t j))))))), (a_t_page, .inl (cy 0, 66, .inl f_t_page)), (a_t_digits, .inl (cy 0, 64, .inl f_t_digits)), (a_t_found, .inl (cy 2, 64, .inl f_t_found)), (a_t_one, .inl (cy 2, 65, .inl r_5.2)), (a_t_other, .inl (cy 2, 65, .inl r_6.2)), (a_t_sum, .inl (cy 2, 65, .inl r_67.1)), (a_t_rest, .inl (cy 2, 65, .inl r_67.2))] : va_W) ++ (rowsW (cy 2) rw_t B_t ++ ([] : va_W)))) (st2 := [.int r_80, .ref a_t_sum]) (i0 := 0) hx hb hml hown ht hK hP hD hS hA hC hR hl (kcX12_bits l D cy g a_t a_t_cells a_t_page a_t_digits a_t_found a_t_one a_t_other a_t_sum a_t_rest rw_t v_t_isWide B_t f_t_page v_t_pageMany f_t_digits v_t_many v_t_isMinus f_t_found r_5.2 r_6.2 r_67.1 r_67.2 r_80 hr_80) (isZ [0, 1, 2, 3, 4, 5, 6, 7, 8] 9 8) q_1354 q_1355 q_1356 q_55 q_1357 hyX12_bits ⟨rfl, rfl, rfl⟩ ⟨Nat.le_of_ble_eq_true rfl, Nat.le_of_ble_eq_true rfl, Nat.le_of_ble_eq_true rfl, Nat.le_of_ble_eq_true rfl⟩ rfl (zcT rfl rfl rfl) (zeT rfl rfl) rfl (Nat.le_of_ble_eq_true rfl) dX12_divides_195 (zwT (cx := [(a_t, .inr (8, [.int v_t_isWide, .ref a_t_cells, .ref a_t_page, .int v_t_pageMany, .ref a_t_digits, .int v_t_many, .int v_t_isMinus, .ref a_t_found, .ref a_t_one, .ref a_t_other, .ref a_t_sum, .ref a_t_rest])), (a_t_cells, .inl (cy 5, 8, .inr (.inr (.inr (.inr (fun j => some (rw_t j))))))), (a_t_page, .inl (cy 0, 66, .inl f_t_page)), (a_t_digits, .inl (cy 0, 64, .inl f_t_digits)), (a_t_found, .inl (cy 2, 64, .inl f_t_found)), (a_t_one, .inl (cy 2, 65, .inl r_5.2)), (a_t_other, .inl (cy 2, 65, .inl r_6.2)), (a_t_sum, .inl (cy 2, 65, .inl r_67.1)), (a_t_rest, .inl (cy 2, 65, .inl r_67.2))]) rfl rfl rfl rfl rfl rfl) rfl (fun H locs hP hD hS => ?_)
      obtain ⟨r_81, hr_81, hm⟩ := hm_b hm
      refine k_SN (as := [.ref a_t_sum, .int r_80]) (rest := []) (ws' := (([(a_t, .inr (8, [.int v_t_isWide, .ref a_t_cells, .ref a_t_page, .int v_t_pageMany, .ref a_t_digits, .int v_t_many, .int v_t_isMinus, .ref a_t_found, .ref a_t_one, .ref a_t_other, .ref a_t_sum, .ref a_t_rest])), (a_t_cells, .inl (cy 5, 8, .inr (.inr (.inr (.inr (fun j => some (rw_t j))))))), (a_t_page, .inl (cy 0, 66, .inl f_t_page)), (a_t_digits, .inl (cy 0, 64, .inl f_t_digits)), (a_t_found, .inl (cy 2, 64, .inl f_t_found)), (a_t_one, .inl (cy 2, 65, .inl r_5.2)), (a_t_other, .inl (cy 2, 65, .inl r_6.2)), (a_t_sum, .inl (cy 2, 65, .inl r_81)), (a_t_rest, .inl (cy 2, 65, .inl r_67.2))] : va_W) ++ (rowsW (cy 2) rw_t B_t ++ ([] : va_W)))) (st2 := []) hx hb hml hown ht hK hP hD hS hA hC hR hl (kcX13_negates l D cy g a_t_sum 65 r_67.1 r_80 k r_81 hr_81) [7] qn_1388 q_1431 q_54 q_1432 hyX13_negates ⟨Nat.le_of_ble_eq_true rfl, Nat.le_of_ble_eq_true rfl, Nat.le_of_ble_eq_true rfl, Nat.le_of_ble_eq_true rfl⟩ rfl (zq rfl) rfl rfl (Nat.le_of_ble_eq_true rfl) dX12_divides_198 (zqw (cx := [(a_t_sum, .inl (cy 2, 65, .inl r_67.1))]) rfl rfl) rfl (fun H locs hP hD hS => ?_)
      obtain rfl := Option.some.inj hm
      exact J201 _ _ _ hP hD hS (lv_sub hl [1, 2, 3, 4] rfl)
  · replace hm := hm_f c_4 hm
    refine lv_iconst (v := 0) hx hb dX12_divides_16 (by decide) ?_
    obtain rfl := Option.some.inj hm
    exact k_zret hx hb hr hlocks hQc rfl hP hS rfl rfl dX12_divides_17
theorem dX12_compares_0 : decode cX12_compares 0 = .ok (.aload_n 0, 1) := by decide +kernel
theorem dX12_compares_1 : decode cX12_compares 1 = .ok (.invokevirtual 59, 3) := by decide +kernel
theorem dX12_compares_4 : decode cX12_compares 4 = .ok (.iconst 1, 1) := by decide +kernel
theorem dX12_compares_5 : decode cX12_compares 5 = .ok (.isub, 1) := by decide +kernel
theorem dX12_compares_6 : decode cX12_compares 6 = .ok (.istore 4, 2) := by decide +kernel
theorem dX12_compares_8 : decode cX12_compares 8 = .ok (.iload_n 3, 1) := by decide +kernel
theorem dX12_compares_9 : decode cX12_compares 9 = .ok (.ifCond .ne 27, 3) := by decide +kernel
theorem dX12_compares_12 : decode cX12_compares 12 = .ok (.aload_n 1, 1) := by decide +kernel
theorem dX12_compares_13 : decode cX12_compares 13 = .ok (.iload 4, 2) := by decide +kernel
theorem dX12_compares_15 : decode cX12_compares 15 = .ok (.baload, 1) := by decide +kernel
theorem dX12_compares_16 : decode cX12_compares 16 = .ok (.aload_n 2, 1) := by decide +kernel
theorem dX12_compares_17 : decode cX12_compares 17 = .ok (.iload 4, 2) := by decide +kernel
theorem dX12_compares_19 : decode cX12_compares 19 = .ok (.baload, 1) := by decide +kernel
theorem dX12_compares_20 : decode cX12_compares 20 = .ok (.if_icmp .eq 16, 3) := by decide +kernel
theorem dX12_compares_23 : decode cX12_compares 23 = .ok (.aload_n 1, 1) := by decide +kernel
theorem dX12_compares_24 : decode cX12_compares 24 = .ok (.iload 4, 2) := by decide +kernel
theorem dX12_compares_26 : decode cX12_compares 26 = .ok (.baload, 1) := by decide +kernel
theorem dX12_compares_27 : decode cX12_compares 27 = .ok (.ifCond .eq 7, 3) := by decide +kernel
theorem dX12_compares_30 : decode cX12_compares 30 = .ok (.iconst (-1), 1) := by decide +kernel
theorem dX12_compares_31 : decode cX12_compares 31 = .ok (.goto 4, 3) := by decide +kernel
theorem dX12_compares_34 : decode cX12_compares 34 = .ok (.iconst 1, 1) := by decide +kernel
theorem dX12_compares_35 : decode cX12_compares 35 = .ok (.ireturn, 1) := by decide +kernel
theorem dX12_compares_36 : decode cX12_compares 36 = .ok (.aload_n 1, 1) := by decide +kernel
theorem dX12_compares_37 : decode cX12_compares 37 = .ok (.aload_n 2, 1) := by decide +kernel
theorem dX12_compares_38 : decode cX12_compares 38 = .ok (.aload_n 0, 1) := by decide +kernel
theorem dX12_compares_39 : decode cX12_compares 39 = .ok (.invokevirtual 59, 3) := by decide +kernel
theorem dX12_compares_42 : decode cX12_compares 42 = .ok (.invokestatic 135, 3) := by decide +kernel
theorem dX12_compares_45 : decode cX12_compares 45 = .ok (.ireturn, 1) := by decide +kernel
def mX12_compares_j36 (v_t_isWide : Int32) (i1 : Nat) (i2 : Nat) (k : Nat) (B_t : Nat → Nat → Int32) : Option (Int32) := ((mX12_bits v_t_isWide).bind (fun r_5 => (if i1 = i2 then ((mX13_compared_s k 64 (B_t i1) r_5).bind (fun r_7 => some r_7)) else ((mX13_compared k 64 64 (B_t i1) (B_t i2) r_5).bind (fun r_8 => some r_8)))))
def mX12_compares (k : Nat) (v_t_isWide : Int32) (B_t : Nat → Nat → Int32) (p3 : Int32) (i1 : Nat) (i2 : Nat) : Option (Int32) := ((mX12_bits v_t_isWide).bind (fun r_1 => (if p3 = 0 then (if (r_1 - 1) < 0 ∨ 64 ≤ (r_1 - 1).toNatClampNeg then none else (if (r_1 - 1) < 0 ∨ 64 ≤ (r_1 - 1).toNatClampNeg then none else (if ((B_t i1) (r_1 - 1).toNatClampNeg) = ((B_t i2) (r_1 - 1).toNatClampNeg) then (mX12_compares_j36 v_t_isWide i1 i2 k B_t) else (if (r_1 - 1) < 0 ∨ 64 ≤ (r_1 - 1).toNatClampNeg then none else (if ((B_t i1) (r_1 - 1).toNatClampNeg) = 0 then some 1 else some (-1)))))) else (mX12_compares_j36 v_t_isWide i1 i2 k B_t))))
set_option maxHeartbeats 4000000 in
set_option maxRecDepth 100000 in
theorem kcX12_compares (l : Launch) (D : va_G) (cy : Nat → ClassId) (g : Nat → Nat) (a_t : Nat) (a_t_cells : Nat) (a_t_page : Nat) (a_t_digits : Nat) (a_t_found : Nat) (a_t_one : Nat) (a_t_other : Nat) (a_t_sum : Nat) (a_t_rest : Nat) (rw_t : Nat → Nat) (v_t_isWide : Int32) (B_t : Nat → Nat → Int32) (f_t_page : Nat → Int32) (v_t_pageMany : Int32) (f_t_digits : Nat → Int32) (v_t_many : Int32) (v_t_isMinus : Int32) (f_t_found : Nat → Int32) (f_t_one : Nat → Int32) (f_t_other : Nat → Int32) (f_t_sum : Nat → Int32) (f_t_rest : Nat → Int32) (p3 : Int32) (i1 : Nat) (h_i1 : i1 < 8) (i2 : Nat) (h_i2 : i2 < 8) (k : Nat) (R : Int32) (hm : mX12_compares k v_t_isWide B_t p3 i1 i2 = some R) : Con l D cy g yX12_compares cX12_compares 5 (some .int) 1 23 0 0 [.ref a_t, .ref (rw_t i1), .ref (rw_t i2), .int p3] (([(a_t, .inr (8, [.int v_t_isWide, .ref a_t_cells, .ref a_t_page, .int v_t_pageMany, .ref a_t_digits, .int v_t_many, .int v_t_isMinus, .ref a_t_found, .ref a_t_one, .ref a_t_other, .ref a_t_sum, .ref a_t_rest])), (a_t_cells, .inl (cy 5, 8, .inr (.inr (.inr (.inr (fun j => some (rw_t j))))))), (a_t_page, .inl (cy 0, 66, .inl f_t_page)), (a_t_digits, .inl (cy 0, 64, .inl f_t_digits)), (a_t_found, .inl (cy 2, 64, .inl f_t_found)), (a_t_one, .inl (cy 2, 65, .inl f_t_one)), (a_t_other, .inl (cy 2, 65, .inl f_t_other)), (a_t_sum, .inl (cy 2, 65, .inl f_t_sum)), (a_t_rest, .inl (cy 2, 65, .inl f_t_rest))] : va_W) ++ (rowsW (cy 2) rw_t B_t ++ ([] : va_W))) (([(a_t, .inr (8, [.int v_t_isWide, .ref a_t_cells, .ref a_t_page, .int v_t_pageMany, .ref a_t_digits, .int v_t_many, .int v_t_isMinus, .ref a_t_found, .ref a_t_one, .ref a_t_other, .ref a_t_sum, .ref a_t_rest])), (a_t_cells, .inl (cy 5, 8, .inr (.inr (.inr (.inr (fun j => some (rw_t j))))))), (a_t_page, .inl (cy 0, 66, .inl f_t_page)), (a_t_digits, .inl (cy 0, 64, .inl f_t_digits)), (a_t_found, .inl (cy 2, 64, .inl f_t_found)), (a_t_one, .inl (cy 2, 65, .inl f_t_one)), (a_t_other, .inl (cy 2, 65, .inl f_t_other)), (a_t_sum, .inl (cy 2, 65, .inl f_t_sum)), (a_t_rest, .inl (cy 2, 65, .inl f_t_rest))] : va_W) ++ (rowsW (cy 2) rw_t B_t ++ ([] : va_W))) (some (.int R)) := by
  refine Con.of (by decide +kernel) (Nat.le_of_ble_eq_true rfl) ?_
  intro p e RM s m ar below meth c A Qc ls hx hb hr hml hown hlocks hnm ht hK hP hD hS hA hR hC hQc hl
  have hown : s.vm.findClass RX12 = some m.cls := hown
  have hl : lv_has ls 5 [(0, .ref a_t), (1, .ref (rw_t i1)), (2, .ref (rw_t i2)), (3, .int p3)] := hl
  rw [mX12_compares] at hm
  refine lv_aload_n hx hb dX12_compares_0 rfl (lv_at hl 0 rfl) ?_
  obtain ⟨r_1, hr_1, hm⟩ := hm_b hm
  refine k_V (as := []) (rest := []) (ws' := (([(a_t, .inr (8, [.int v_t_isWide, .ref a_t_cells, .ref a_t_page, .int v_t_pageMany, .ref a_t_digits, .int v_t_many, .int v_t_isMinus, .ref a_t_found, .ref a_t_one, .ref a_t_other, .ref a_t_sum, .ref a_t_rest])), (a_t_cells, .inl (cy 5, 8, .inr (.inr (.inr (.inr (fun j => some (rw_t j))))))), (a_t_page, .inl (cy 0, 66, .inl f_t_page)), (a_t_digits, .inl (cy 0, 64, .inl f_t_digits)), (a_t_found, .inl (cy 2, 64, .inl f_t_found)), (a_t_one, .inl (cy 2, 65, .inl f_t_one)), (a_t_other, .inl (cy 2, 65, .inl f_t_other)), (a_t_sum, .inl (cy 2, 65, .inl f_t_sum)), (a_t_rest, .inl (cy 2, 65, .inl f_t_rest))] : va_W) ++ (rowsW (cy 2) rw_t B_t ++ ([] : va_W)))) (st2 := [.int r_1]) (i0 := 0) hx hb hml hown ht hK hP hD hS hA hC hR hl (kcX12_bits l D cy g a_t a_t_cells a_t_page a_t_digits a_t_found a_t_one a_t_other a_t_sum a_t_rest rw_t v_t_isWide B_t f_t_page v_t_pageMany f_t_digits v_t_many v_t_isMinus f_t_found f_t_one f_t_other f_t_sum f_t_rest r_1 hr_1) (isZ [0, 1, 2, 3, 4, 5, 6, 7, 8] 9 8) q_1354 q_1355 q_1356 q_55 q_1357 hyX12_bits ⟨rfl, rfl, rfl⟩ ⟨Nat.le_of_ble_eq_true rfl, Nat.le_of_ble_eq_true rfl, Nat.le_of_ble_eq_true rfl, Nat.le_of_ble_eq_true rfl⟩ rfl (zcT rfl rfl rfl) (zeT rfl rfl) rfl (Nat.le_of_ble_eq_true rfl) dX12_compares_1 (zwT (cx := [(a_t, .inr (8, [.int v_t_isWide, .ref a_t_cells, .ref a_t_page, .int v_t_pageMany, .ref a_t_digits, .int v_t_many, .int v_t_isMinus, .ref a_t_found, .ref a_t_one, .ref a_t_other, .ref a_t_sum, .ref a_t_rest])), (a_t_cells, .inl (cy 5, 8, .inr (.inr (.inr (.inr (fun j => some (rw_t j))))))), (a_t_page, .inl (cy 0, 66, .inl f_t_page)), (a_t_digits, .inl (cy 0, 64, .inl f_t_digits)), (a_t_found, .inl (cy 2, 64, .inl f_t_found)), (a_t_one, .inl (cy 2, 65, .inl f_t_one)), (a_t_other, .inl (cy 2, 65, .inl f_t_other)), (a_t_sum, .inl (cy 2, 65, .inl f_t_sum)), (a_t_rest, .inl (cy 2, 65, .inl f_t_rest))]) rfl rfl rfl rfl rfl rfl) rfl (fun H locs hP hD hS => ?_)
  refine lv_iconst (v := 1) hx hb dX12_compares_4 (by decide) ?_
  refine lv_isub hx hb dX12_compares_5 ?_
  refine lv_istore (lv' := [(4, .int (r_1 - 1)), (0, .ref a_t), (1, .ref (rw_t i1)), (2, .ref (rw_t i2)), (3, .int p3)]) hx hb dX12_compares_6 hl (by decide) rfl (fun ls hl => ?_)
  refine lv_iload_n hx hb dX12_compares_8 rfl (lv_at hl 4 rfl) ?_
  have J36 : ∀ (_ : Unit), mX12_compares_j36 v_t_isWide i1 i2 k B_t = some R → ∀ (H : Heap) (locs : List Loc) (ls : Array Slot), va_P D classes (([(a_t, .inr (8, [.int v_t_isWide, .ref a_t_cells, .ref a_t_page, .int v_t_pageMany, .ref a_t_digits, .int v_t_many, .int v_t_isMinus, .ref a_t_found, .ref a_t_one, .ref a_t_other, .ref a_t_sum, .ref a_t_rest])), (a_t_cells, .inl (cy 5, 8, .inr (.inr (.inr (.inr (fun j => some (rw_t j))))))), (a_t_page, .inl (cy 0, 66, .inl f_t_page)), (a_t_digits, .inl (cy 0, 64, .inl f_t_digits)), (a_t_found, .inl (cy 2, 64, .inl f_t_found)), (a_t_one, .inl (cy 2, 65, .inl f_t_one)), (a_t_other, .inl (cy 2, 65, .inl f_t_other)), (a_t_sum, .inl (cy 2, 65, .inl f_t_sum)), (a_t_rest, .inl (cy 2, 65, .inl f_t_rest))] : va_W) ++ (rowsW (cy 2) rw_t B_t ++ ([] : va_W))) H → va_D A (([(a_t, .inr (8, [.int v_t_isWide, .ref a_t_cells, .ref a_t_page, .int v_t_pageMany, .ref a_t_digits, .int v_t_many, .int v_t_isMinus, .ref a_t_found, .ref a_t_one, .ref a_t_other, .ref a_t_sum, .ref a_t_rest])), (a_t_cells, .inl (cy 5, 8, .inr (.inr (.inr (.inr (fun j => some (rw_t j))))))), (a_t_page, .inl (cy 0, 66, .inl f_t_page)), (a_t_digits, .inl (cy 0, 64, .inl f_t_digits)), (a_t_found, .inl (cy 2, 64, .inl f_t_found)), (a_t_one, .inl (cy 2, 65, .inl f_t_one)), (a_t_other, .inl (cy 2, 65, .inl f_t_other)), (a_t_sum, .inl (cy 2, 65, .inl f_t_sum)), (a_t_rest, .inl (cy 2, 65, .inl f_t_rest))] : va_W) ++ (rowsW (cy 2) rw_t B_t ++ ([] : va_W))) → va_S A s.heap H locs → lv_has ls 5 [(0, .ref a_t), (1, .ref (rw_t i1)), (2, .ref (rw_t i2))] → W p l e RM s m ar below meth c H locs 0 0 (MQ below Qc ar s 0 0 A) (F0 m 36 ls []) := by
    intro _ hm H locs ls hP hD hS hl
    rw [mX12_compares_j36] at hm
    refine lv_aload_n hx hb dX12_compares_36 rfl (lv_at hl 1 rfl) ?_
    refine lv_aload_n hx hb dX12_compares_37 rfl (lv_at hl 2 rfl) ?_
    refine lv_aload_n hx hb dX12_compares_38 rfl (lv_at hl 0 rfl) ?_
    obtain ⟨r_5, hr_5, hm⟩ := hm_b hm
    refine k_V (as := []) (rest := [.ref (rw_t i2), .ref (rw_t i1)]) (ws' := (([(a_t, .inr (8, [.int v_t_isWide, .ref a_t_cells, .ref a_t_page, .int v_t_pageMany, .ref a_t_digits, .int v_t_many, .int v_t_isMinus, .ref a_t_found, .ref a_t_one, .ref a_t_other, .ref a_t_sum, .ref a_t_rest])), (a_t_cells, .inl (cy 5, 8, .inr (.inr (.inr (.inr (fun j => some (rw_t j))))))), (a_t_page, .inl (cy 0, 66, .inl f_t_page)), (a_t_digits, .inl (cy 0, 64, .inl f_t_digits)), (a_t_found, .inl (cy 2, 64, .inl f_t_found)), (a_t_one, .inl (cy 2, 65, .inl f_t_one)), (a_t_other, .inl (cy 2, 65, .inl f_t_other)), (a_t_sum, .inl (cy 2, 65, .inl f_t_sum)), (a_t_rest, .inl (cy 2, 65, .inl f_t_rest))] : va_W) ++ (rowsW (cy 2) rw_t B_t ++ ([] : va_W)))) (st2 := [.int r_5, .ref (rw_t i2), .ref (rw_t i1)]) (i0 := 0) hx hb hml hown ht hK hP hD hS hA hC hR hl (kcX12_bits l D cy g a_t a_t_cells a_t_page a_t_digits a_t_found a_t_one a_t_other a_t_sum a_t_rest rw_t v_t_isWide B_t f_t_page v_t_pageMany f_t_digits v_t_many v_t_isMinus f_t_found f_t_one f_t_other f_t_sum f_t_rest r_5 hr_5) (isZ [0, 1, 2, 3, 4, 5, 6, 7, 8] 9 8) q_1354 q_1355 q_1356 q_55 q_1357 hyX12_bits ⟨rfl, rfl, rfl⟩ ⟨Nat.le_of_ble_eq_true rfl, Nat.le_of_ble_eq_true rfl, Nat.le_of_ble_eq_true rfl, Nat.le_of_ble_eq_true rfl⟩ rfl (zcT rfl rfl rfl) (zeT rfl rfl) rfl (Nat.le_of_ble_eq_true rfl) dX12_compares_39 (zwT (cx := [(a_t, .inr (8, [.int v_t_isWide, .ref a_t_cells, .ref a_t_page, .int v_t_pageMany, .ref a_t_digits, .int v_t_many, .int v_t_isMinus, .ref a_t_found, .ref a_t_one, .ref a_t_other, .ref a_t_sum, .ref a_t_rest])), (a_t_cells, .inl (cy 5, 8, .inr (.inr (.inr (.inr (fun j => some (rw_t j))))))), (a_t_page, .inl (cy 0, 66, .inl f_t_page)), (a_t_digits, .inl (cy 0, 64, .inl f_t_digits)), (a_t_found, .inl (cy 2, 64, .inl f_t_found)), (a_t_one, .inl (cy 2, 65, .inl f_t_one)), (a_t_other, .inl (cy 2, 65, .inl f_t_other)), (a_t_sum, .inl (cy 2, 65, .inl f_t_sum)), (a_t_rest, .inl (cy 2, 65, .inl f_t_rest))]) rfl rfl rfl rfl rfl rfl) rfl (fun H locs hP hD hS => ?_)
    rcases Decidable.em (i1 = i2) with c_6 | c_6
    · have hmq := hm_t c_6 hm
      subst c_6
      have hm := hmq
      obtain ⟨r_7, hr_7, hm⟩ := hm_b hm
      refine k_SN (as := [.ref (rw_t i1), .ref (rw_t i1), .int r_5]) (rest := []) (ws' := (([(a_t, .inr (8, [.int v_t_isWide, .ref a_t_cells, .ref a_t_page, .int v_t_pageMany, .ref a_t_digits, .int v_t_many, .int v_t_isMinus, .ref a_t_found, .ref a_t_one, .ref a_t_other, .ref a_t_sum, .ref a_t_rest])), (a_t_cells, .inl (cy 5, 8, .inr (.inr (.inr (.inr (fun j => some (rw_t j))))))), (a_t_page, .inl (cy 0, 66, .inl f_t_page)), (a_t_digits, .inl (cy 0, 64, .inl f_t_digits)), (a_t_found, .inl (cy 2, 64, .inl f_t_found)), (a_t_one, .inl (cy 2, 65, .inl f_t_one)), (a_t_other, .inl (cy 2, 65, .inl f_t_other)), (a_t_sum, .inl (cy 2, 65, .inl f_t_sum)), (a_t_rest, .inl (cy 2, 65, .inl f_t_rest))] : va_W) ++ (rowsW (cy 2) rw_t B_t ++ ([] : va_W)))) (st2 := [.int r_7]) hx hb hml hown ht hK hP hD hS hA hC hR hl (kcX13_compared_s l D cy g (rw_t i1) 64 (B_t i1) r_5 k r_7 hr_7) [9 + i1] qn_1569 q_1612 q_54 q_1613 hyX13_compared ⟨Nat.le_of_ble_eq_true rfl, Nat.le_of_ble_eq_true rfl, Nat.le_of_ble_eq_true rfl, Nat.le_of_ble_eq_true rfl⟩ rfl (cs_cons (row_get0 rfl h_i1) cs_nil) rfl rfl (Nat.le_of_ble_eq_true rfl) dX12_compares_42 (ps_cons (set_same (row_get0 rfl h_i1)) ps_nil) rfl (fun H locs hP hD hS => ?_)
      obtain rfl := Option.some.inj hm
      exact k_iret hx hb hr hlocks hQc hP hS rfl rfl dX12_compares_45
    · replace hm := hm_f c_6 hm
      obtain ⟨r_8, hr_8, hm⟩ := hm_b hm
      refine k_SN (as := [.ref (rw_t i1), .ref (rw_t i2), .int r_5]) (rest := []) (ws' := (([(a_t, .inr (8, [.int v_t_isWide, .ref a_t_cells, .ref a_t_page, .int v_t_pageMany, .ref a_t_digits, .int v_t_many, .int v_t_isMinus, .ref a_t_found, .ref a_t_one, .ref a_t_other, .ref a_t_sum, .ref a_t_rest])), (a_t_cells, .inl (cy 5, 8, .inr (.inr (.inr (.inr (fun j => some (rw_t j))))))), (a_t_page, .inl (cy 0, 66, .inl f_t_page)), (a_t_digits, .inl (cy 0, 64, .inl f_t_digits)), (a_t_found, .inl (cy 2, 64, .inl f_t_found)), (a_t_one, .inl (cy 2, 65, .inl f_t_one)), (a_t_other, .inl (cy 2, 65, .inl f_t_other)), (a_t_sum, .inl (cy 2, 65, .inl f_t_sum)), (a_t_rest, .inl (cy 2, 65, .inl f_t_rest))] : va_W) ++ (rowsW (cy 2) rw_t B_t ++ ([] : va_W)))) (st2 := [.int r_8]) hx hb hml hown ht hK hP hD hS hA hC hR hl (kcX13_compared l D cy g (rw_t i1) (rw_t i2) 64 64 (B_t i1) (B_t i2) r_5 k r_8 hr_8) [9 + i1, 9 + i2] qn_1569 q_1612 q_54 q_1613 hyX13_compared ⟨Nat.le_of_ble_eq_true rfl, Nat.le_of_ble_eq_true rfl, Nat.le_of_ble_eq_true rfl, Nat.le_of_ble_eq_true rfl⟩ (nd2 (by omega)) (cs_cons (row_get0 rfl h_i1) (cs_cons (row_get0 rfl h_i2) cs_nil)) rfl rfl (Nat.le_of_ble_eq_true rfl) dX12_compares_42 (ps_cons (set_same (row_get0 rfl h_i1)) (ps_cons (set_same (row_get0 rfl h_i2)) ps_nil)) rfl (fun H locs hP hD hS => ?_)
      obtain rfl := Option.some.inj hm
      exact k_iret hx hb hr hlocks hQc hP hS rfl rfl dX12_compares_45
  refine lv_if_ne (tgt := 36) hx hb dX12_compares_9 (by decide) (fun c_2 => ?_) (fun c_2 => ?_)
  · replace hm := hm_f c_2 hm
    exact J36 () hm _ _ _ hP hD hS (lv_sub hl [1, 2, 3] rfl)
  · replace hm := hm_t c_2 hm
    refine lv_aload_n hx hb dX12_compares_12 rfl (lv_at hl 2 rfl) ?_
    refine lv_iload hx hb dX12_compares_13 (lv_at hl 0 rfl) ?_
    obtain ⟨hin, hm⟩ := hm_g hm
    refine va_zald hx hb hK.1 hP (9 + i1) 2 (row_get0 rfl h_i1) rfl hin dX12_compares_15 ?_
    refine lv_aload_n hx hb dX12_compares_16 rfl (lv_at hl 3 rfl) ?_
    refine lv_iload hx hb dX12_compares_17 (lv_at hl 0 rfl) ?_
    obtain ⟨hin, hm⟩ := hm_g hm
    refine va_zald hx hb hK.1 hP (9 + i2) 2 (row_get0 rfl h_i2) rfl hin dX12_compares_19 ?_
    refine lv_icmp_eq (tgt := 36) hx hb dX12_compares_20 (by decide) (fun c_9 => ?_) (fun c_9 => ?_)
    · replace hm := hm_t c_9 hm
      exact J36 () hm _ _ _ hP hD hS (lv_sub hl [1, 2, 3] rfl)
    · replace hm := hm_f c_9 hm
      refine lv_aload_n hx hb dX12_compares_23 rfl (lv_at hl 2 rfl) ?_
      refine lv_iload hx hb dX12_compares_24 (lv_at hl 0 rfl) ?_
      obtain ⟨hin, hm⟩ := hm_g hm
      refine va_zald hx hb hK.1 hP (9 + i1) 2 (row_get0 rfl h_i1) rfl hin dX12_compares_26 ?_
      refine lv_if_eq (tgt := 34) hx hb dX12_compares_27 (by decide) (fun c_10 => ?_) (fun c_10 => ?_)
      · replace hm := hm_t c_10 hm
        refine lv_iconst (v := 1) hx hb dX12_compares_34 (by decide) ?_
        obtain rfl := Option.some.inj hm
        exact k_iret hx hb hr hlocks hQc hP hS rfl rfl dX12_compares_35
      · replace hm := hm_f c_10 hm
        refine lv_iconst (v := (-1)) hx hb dX12_compares_30 (by decide) ?_
        refine lv_goto (tgt := 35) hx hb dX12_compares_31 (by decide) ?_
        obtain rfl := Option.some.inj hm
        exact k_iret hx hb hr hlocks hQc hP hS rfl rfl dX12_compares_35
