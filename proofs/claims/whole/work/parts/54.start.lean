/-! what holds at the start: the constants, the classes, out of the start's words -/
def NF : List Cond := flatC (Jvm.Cond.and given_1 narrow_1)
def tmL : List (String × Nat) := [("RadixDesk$Verb", 138), ("RadixDesk$Verb", 146), ("RadixDesk$Verb", 149), ("RadixDesk$Verb", 154), ("RadixDesk$Verb", 159), ("RadixDesk$Verb", 162), ("RadixDesk$Verb", 167), ("RadixDesk$Verb", 170), ("RadixDesk$Verb", 173), ("RadixDesk$Verb", 176), ("RadixDesk$Verb", 181), ("RadixDesk$Verb", 184), ("RadixDesk$Verb", 187), ("RadixDesk$Verb", 190), ("RadixDesk$Verb", 193), ("RadixDesk$Verb", 198), ("RadixDesk$Verb", 201), ("RadixDesk$Verb", 204), ("RadixDesk$Verb", 207), ("RadixDesk$Verb", 210), ("RadixDesk$Verb", 213), ("RadixDesk$Verb", 216), ("RadixDesk$Verb", 219), ("RadixDesk$Verb", 222), ("RadixDesk$Verb", 225), ("RadixDesk$Verb", 228), ("RadixDesk$Verb", 231), ("RadixDesk$Verb", 236), ("RadixDesk$Verb", 239), ("RadixDesk$Verb", 242), ("RadixDesk$Verb", 245), ("RadixDesk$Verb", 140), ("RadixDesk$Verb", 151), ("RadixDesk$Verb", 156), ("RadixDesk$Verb", 164), ("RadixDesk$Verb", 178), ("RadixDesk$Verb", 195), ("RadixDesk$Verb", 233), ("RadixDesk$Verb", 247), ("RadixDesk", 89), ("RadixDesk", 91), ("RadixDesk", 93), ("RadixDeskModel", 180), ("RadixDeskModel", 182), ("RadixDesk", 84), ("RadixDesk", 100), ("RadixDesk", 114), ("RadixDesk", 130), ("RadixDesk", 185), ("RadixDesk", 215), ("RadixDesk", 235), ("RadixDesk", 237), ("RadixDesk", 239)]
def tmS (i : Nat) : Term := .string (tmL.getD i ("", 0)).1 (tmL.getD i ("", 0)).2
def vbL : List String := ["WIDE", "NARROW", "SET", "READ", "READ_PLAIN", "WRITE", "WRITE_PLAIN", "BACK", "BACK_PLAIN", "REVERSE", "BYTES", "HIGHEST", "LOWEST", "SPREAD", "COUNT", "LEADING", "TRAILING", "ONES", "LEFT", "RIGHT", "ADD", "SUBTRACT", "MULTIPLY", "AND", "O\x52", "XO\x52", "DIVIDE", "DIVIDE_PLAIN", "COMPARE", "COMPARE_PLAIN", "LOOP"]
def tmV (i : Nat) : Term := .static vN (vbL.getD i "") vD
abbrev tmA : Term := .static vN "ALL" "[LRadixDesk$Verb;"
abbrev tmW : Term := .static "RadixDesk$1" "$SwitchMap$RadixDesk$Verb" "[I"
abbrev tmB (i : Nat) : Term := .field (tmS i) sN "value" "[B"
def pS : List Nat := [1951, 1978, 1988, 2001, 2016, 2029, 2044, 2058, 2066, 2079, 2095, 2104, 2115, 2125, 2135, 2150, 2161, 2173, 2181, 2189, 2198, 2205, 2217, 2229, 2236, 2242, 2249, 2266, 2281, 2292, 1965, 1959, 1995, 2009, 2038, 2090, 2144, 2259, 1973, 583, 693, 854, 1620, 1840, 555, 1024, 1054, 1090, 1116, 1151, 475, 500, 530]
def pV : List Nat := [4, 295, 299, 303, 307, 311, 315, 319, 323, 327, 331, 335, 339, 343, 347, 351, 355, 359, 363, 367, 371, 375, 379, 383, 387, 391, 395, 399, 403, 407, 49]
def nfS (i : Nat) : List Cond := .exactly (tmS i) sN :: .eq (.field (tmS i) sN "code\x72" "B") (.int 0) :: .arrayOf (tmB i) .byte :: .eq (.length (tmB i)) (.int (Int32.ofNat (sLen i))) :: (List.range (sLen i)).map (fun j => .eq (.elem (tmB i) (.int (Int32.ofNat j))) (.int (sByt i j)))
def nfV (i : Nat) : List Cond := [.exactly (tmV i) vN, .eq (.field (tmV i) "java/lang/Enum" "ordinal" "I") (.int (nI i)), .eq (.field (tmV i) vN "word" "Ljava/lang/String;") (tmS i), .eq (.field (tmV i) vN "arguments" "Ljava/lang/String;") (tmS (vArg i))]
set_option maxHeartbeats 4000000 in
set_option maxRecDepth 100000 in
theorem nf_S : ∀ i, i < 44 → (NF.drop (pS.getD i 0)).take (4 + sLen i) = nfS i := by decide +kernel
theorem nf_M : ∀ i, i < 53 → NF[pS.getD i 0]? = some (.exactly (tmS i) sN) := by decide +kernel
theorem nf_V : ∀ i, i < 31 → (NF.drop (pV.getD i 0)).take 4 = nfV i := by decide +kernel
theorem nf_A : (NF.drop 13).take 31 = (List.range 31).map (fun j => Cond.eq (.elem tmA (.int (Int32.ofNat j))) (tmV j)) := by decide +kernel
theorem nf_W : (NF.drop 56).take 31 = (List.range 31).map (fun j => Cond.eq (.elem tmW (.int (Int32.ofNat j))) (.int (swI j))) := by decide +kernel
theorem sLen_lt : ∀ i, i < 44 → sLen i < 2 ^ 31 := by decide +kernel
theorem vArg_lt9 : ∀ i, i < 31 → vArg i < 53 := by decide +kernel
theorem nf_sub {p n : Nat} {X : List Cond} (h : (NF.drop p).take n = X) : ∀ w ∈ X, w ∈ NF := fun w hw => List.mem_of_mem_drop (List.mem_of_mem_take (h ▸ hw))
theorem lvr {t : Term} {args : Array Value} {s : State} {nm : String} (h : (Cond.exactly t nm).before args s = true) : ∃ a : Nat, t.eval args s none [] s = some (.ref a) := by
  obtain ⟨a, c, cA, kA, q1, -⟩ := Cond.exactly_spec (args := args) (first := s) (o := none) (s := s) (idx := []) (t := t) (cls := nm) h
  exact ⟨a, q1⟩
theorem start_S {args : Array Value} {s : State} {A : Nat → Prop} (hn : ∀ w ∈ NF, w.before args s = true) (hA : ∀ a : Nat, a < s.heap.size → ¬ A a) : ∃ ad vd : Nat → Nat, (∀ i, i < 53 → (tmS i).eval args s none [] s = some (.ref (ad i))) ∧ ∀ i, i < 44 → va_O sN (ad i) A s s.heap ∧ va_OF sN "code\x72" "B" (.int 0) (ad i) A s s.heap ∧ va_OF sN "value" "[B" (.ref (vd i)) (ad i) A s s.heap ∧ va_T .byte (vd i) (sLen i) (fun j => .int (sByt i j)) A s s.heap := by
  have h0 : ∀ i, ∃ a : Nat, i < 53 → (tmS i).eval args s none [] s = some (.ref a) := by
    intro i
    by_cases hi : i < 53
    · obtain ⟨a, ha⟩ := lvr (hn _ (List.mem_of_getElem? (nf_M i hi)))
      exact ⟨a, fun _ => ha⟩
    · exact ⟨0, fun h => absurd h hi⟩
  obtain ⟨ad, had⟩ := Classical.axiomOfChoice h0
  have h1 : ∀ i, ∃ v : Nat, i < 44 → va_O sN (ad i) A s s.heap ∧ va_OF sN "code\x72" "B" (.int 0) (ad i) A s s.heap ∧ va_OF sN "value" "[B" (.ref v) (ad i) A s s.heap ∧ va_T .byte v (sLen i) (fun j => .int (sByt i j)) A s s.heap := by
    intro i
    by_cases hi : i < 44
    · have hs := nf_sub (nf_S i hi)
      have q1 := had i (Nat.lt_of_lt_of_le hi (by decide))
      have e1 := hn _ (hs (.exactly (tmS i) sN) (by simp [nfS]))
      have e2 := hn _ (hs (.eq (.field (tmS i) sN "code\x72" "B") (.int 0)) (by simp [nfS]))
      have e3 := hn _ (hs (.arrayOf (tmB i) .byte) (by simp [nfS]))
      have e4 := hn _ (hs (.eq (.length (tmB i)) (.int (Int32.ofNat (sLen i)))) (by simp [nfS]))
      have e5 : ∀ j : Nat, j < sLen i → (Cond.eq (.elem (tmB i) (.int (Int32.ofNat j))) (.int (sByt i j))).before args s = true := fun j hj => hn _ (hs _ (by
        simp only [nfS, List.mem_cons, List.mem_map, List.mem_range]
        exact Or.inr (Or.inr (Or.inr (Or.inr ⟨j, hj, rfl⟩)))))
      obtain ⟨t, ht, hT⟩ := va_Tof (f := fun j => .int (sByt i j)) (A := A) (sLen_lt i hi) e3 (va_eqt e4) (fun j hj => va_eqt (e5 j hj)) hA
      exact ⟨t, fun _ => ⟨va_Oof e1 q1 hA, vk_OFof q1 (va_eqt e2) hA, vk_OFof q1 ht hA, hT⟩⟩
    · exact ⟨0, fun h => absurd h hi⟩
  obtain ⟨vd, hvd⟩ := Classical.axiomOfChoice h1
  exact ⟨ad, vd, had, hvd⟩
theorem start_V {args : Array Value} {s : State} {A : Nat → Prop} {ad : Nat → Nat} (hn : ∀ w ∈ NF, w.before args s = true) (hA : ∀ a : Nat, a < s.heap.size → ¬ A a) (had : ∀ i, i < 53 → (tmS i).eval args s none [] s = some (.ref (ad i))) : ∃ vd : Nat → Nat, ∀ i, i < 31 → (tmV i).eval args s none [] s = some (.ref (vd i)) ∧ va_O vN (vd i) A s s.heap ∧ va_OF "java/lang/Enum" "ordinal" "I" (.int (nI i)) (vd i) A s s.heap ∧ va_OF vN "word" "Ljava/lang/String;" (.ref (ad i)) (vd i) A s s.heap ∧ va_OF vN "arguments" "Ljava/lang/String;" (.ref (ad (vArg i))) (vd i) A s s.heap := by
  have h0 : ∀ i, ∃ v : Nat, i < 31 → (tmV i).eval args s none [] s = some (.ref v) ∧ va_O vN v A s s.heap ∧ va_OF "java/lang/Enum" "ordinal" "I" (.int (nI i)) v A s s.heap ∧ va_OF vN "word" "Ljava/lang/String;" (.ref (ad i)) v A s s.heap ∧ va_OF vN "arguments" "Ljava/lang/String;" (.ref (ad (vArg i))) v A s s.heap := by
    intro i
    by_cases hi : i < 31
    · have hs := nf_sub (nf_V i hi)
      have e1 := hn _ (hs (.exactly (tmV i) vN) (by simp [nfV]))
      have e2 := hn _ (hs (.eq (.field (tmV i) "java/lang/Enum" "ordinal" "I") (.int (nI i))) (by simp [nfV]))
      have e3 := hn _ (hs (.eq (.field (tmV i) vN "word" "Ljava/lang/String;") (tmS i)) (by simp [nfV]))
      have e4 := hn _ (hs (.eq (.field (tmV i) vN "arguments" "Ljava/lang/String;") (tmS (vArg i))) (by simp [nfV]))
      obtain ⟨a, ha⟩ := lvr e1
      exact ⟨a, fun _ => ⟨ha, va_Oof e1 ha hA, vk_OFof ha (va_eqt e2) hA, vk_OFof ha (va_eqv e3 (had i (by omega))) hA, vk_OFof ha (va_eqv e4 (had _ (vArg_lt9 i hi))) hA⟩⟩
    · exact ⟨0, fun h => absurd h hi⟩
  exact Classical.axiomOfChoice h0
def gOf (ad vd bd : Nat → Nat) (aA aW : Nat) (n : Nat) : Nat := if n < 100 then ad n else if n < 200 then vd (n - 100) else if n < 300 then bd (n - 200) else if n = 300 then aA else if n = 301 then aW else ad (n - 400 + 44)
theorem va_T_cong {ty : FieldType} {a n : Nat} {f f' : Nat → Value} {A : Nat → Prop} {U : State} {H : Heap} (h : ∀ j, j < n → f j = f' j) (hT : va_T ty a n f A U H) : va_T ty a n f' A U H := by
  obtain ⟨c, h1, h2, h3, h4, h5, h6, h7⟩ := hT
  exact ⟨c, h1, h2, h3, h4, h5, fun j hj => by rw [← h j hj]; exact h6 j hj, h7⟩
set_option maxHeartbeats 4000000 in
set_option maxRecDepth 100000 in
theorem start_C {args : Array Value} {s : State} {A : Nat → Prop} (hts : ∀ w ∈ lw_tbl, w.before args s = true) (hn : ∀ w ∈ NF, w.before args s = true) (hA : ∀ a : Nat, a < s.heap.size → ¬ A a) : ∃ g : Nat → Nat, CX g A s s.heap := by
  obtain ⟨ad, vd, had, hS⟩ := start_S hn hA
  obtain ⟨bd, hV⟩ := start_V hn hA had
  obtain ⟨aA, hA1, hA2⟩ := va_Tof (f := fun j => .ref (bd j)) (A := A) (N := 31) (by decide) (hn (Cond.arrayOf tmA (.object vN)) (List.mem_of_getElem? (i := 10) (by decide +kernel))) (va_eqt (hn (Cond.eq (.length tmA) (.int (Int32.ofNat 31))) (List.mem_of_getElem? (i := 11) (by decide +kernel)))) (fun j hj => va_eqv (hn _ (nf_sub nf_A _ (List.mem_map.mpr ⟨j, List.mem_range.mpr hj, rfl⟩))) (hV j hj).1) hA
  obtain ⟨aW, hW1, hW2⟩ := va_Tof (f := fun j => .int (swI j)) (A := A) (N := 31) (by decide) (hn (Cond.arrayOf tmW .int) (List.mem_of_getElem? (i := 54) (by decide +kernel))) (va_eqt (hn (Cond.eq (.length tmW) (.int (Int32.ofNat 31))) (List.mem_of_getElem? (i := 55) (by decide +kernel)))) (fun j hj => va_eqt (hn _ (nf_sub nf_W _ (List.mem_map.mpr ⟨j, List.mem_range.mpr hj, rfl⟩)))) hA
  refine ⟨gOf ad vd bd aA aW, fun i hi => ?_, fun i hi => ?_, ⟨?_, ?_, ?_, ?_, ?_, ?_, ?_, ?_, ?_, ?_⟩, ?_⟩
  · have e1 : gOf ad vd bd aA aW i = ad i := if_pos (by omega)
    have e2 : gOf ad vd bd aA aW (100 + i) = vd i := by
      unfold gOf
      rw [if_neg (by omega), if_pos (by omega)]
      congr 1
      omega
    unfold CXS
    rw [e1, e2]
    exact hS i hi
  · have e1 : gOf ad vd bd aA aW (200 + i) = bd i := by
      unfold gOf
      rw [if_neg (by omega), if_neg (by omega), if_pos (by omega)]
      congr 1
      omega
    have e2 : gOf ad vd bd aA aW i = ad i := if_pos (by omega)
    have e3 : gOf ad vd bd aA aW (vArg i) = ad (vArg i) := if_pos (Nat.lt_trans (vArg_lt9 i hi) (by decide))
    unfold CXV
    rw [e1, e2, e3]
    exact (hV i hi).2
  · exact va_Zof (hts (Cond.laysStatic "java/lang/String" "COMPACT_STRINGS" "Z") (List.mem_of_getElem? (i := 474) (by decide +kernel))) (hts (Cond.initialized "java/lang/String") (List.mem_of_getElem? (i := 63) (by decide +kernel))) (va_eqt (hn (Cond.eq (.static sN "COMPACT_STRINGS" "Z") (.int 1)) (List.mem_of_getElem? (i := 44) (by decide +kernel)))) hA
  · exact va_Zqof (hts (Cond.laysStatic "jdk/internal/util/Preconditions" "SIOOBE_FORMATTE\x52" "Ljava/util/function/BiFunction;") (List.mem_of_getElem? (i := 490) (by decide +kernel))) (hts (Cond.initialized "jdk/internal/util/Preconditions") (List.mem_of_getElem? (i := 65) (by decide +kernel))) (hn (Cond.isRef (.static "jdk/internal/util/Preconditions" "SIOOBE_FORMATTE\x52" "Ljava/util/function/BiFunction;")) (List.mem_of_getElem? (i := 45) (by decide +kernel))) hA
  · exact vx_Zqof (hts (Cond.laysStatic "java/lang/Throwable" "UNASSIGNED_STACK" "[Ljava/lang/StackTraceElement;") (List.mem_of_getElem? (i := 868) (by decide +kernel))) (hts (Cond.initialized "java/lang/Throwable") (List.mem_of_getElem? (i := 56) (by decide +kernel))) (hn (Cond.isRef (.static Bundle.tN "UNASSIGNED_STACK" Bundle.steD)) (List.mem_of_getElem? (i := 87) (by decide +kernel))) hA
  · exact vx_Zqof (hts (Cond.laysStatic "java/lang/Throwable" "SUPPRESSED_SENTINEL" "Ljava/util/List;") (List.mem_of_getElem? (i := 870) (by decide +kernel))) (hts (Cond.initialized "java/lang/Throwable") (List.mem_of_getElem? (i := 56) (by decide +kernel))) (hn (Cond.isRef (.static Bundle.tN "SUPPRESSED_SENTINEL" Bundle.listD)) (List.mem_of_getElem? (i := 88) (by decide +kernel))) hA
  · exact va_Zof (hts (Cond.laysStatic "RadixDesk$Verb" "WIDE" "LRadixDesk$Verb;") (List.mem_of_getElem? (i := 160) (by decide +kernel))) (hts (Cond.initialized "RadixDesk$Verb") (List.mem_of_getElem? (i := 51) (by decide +kernel))) (hV 0 (by decide)).1 hA
  · exact va_Zof (hts (Cond.laysStatic "RadixDesk$Verb" "LOOP" "LRadixDesk$Verb;") (List.mem_of_getElem? (i := 518) (by decide +kernel))) (hts (Cond.initialized "RadixDesk$Verb") (List.mem_of_getElem? (i := 51) (by decide +kernel))) (hV 30 (by decide)).1 hA
  · exact va_Zof (hts (Cond.laysStatic "RadixDesk$Verb" "ALL" "[LRadixDesk$Verb;") (List.mem_of_getElem? (i := 460) (by decide +kernel))) (hts (Cond.initialized "RadixDesk$Verb") (List.mem_of_getElem? (i := 51) (by decide +kernel))) hA1 hA
  · have e9 : (fun i => Value.ref (gOf ad vd bd aA aW (200 + i))) = fun i => if i < 100 then Value.ref (bd i) else Value.ref (gOf ad vd bd aA aW (200 + i)) := by
      funext i
      by_cases hi : i < 100
      · rw [if_pos hi]
        unfold gOf
        rw [if_neg (by omega), if_neg (by omega), if_pos (by omega)]
        congr 2
        omega
      · rw [if_neg hi]
    exact va_T_cong (fun j hj => by
      have := congrFun e9 j
      rw [if_pos (by omega)] at this
      exact this.symm) hA2
  · exact va_Zof (hts (Cond.laysStatic "RadixDesk$1" "$SwitchMap$RadixDesk$Verb" "[I") (List.mem_of_getElem? (i := 594) (by decide +kernel))) (hts (Cond.initialized "RadixDesk$1") (List.mem_of_getElem? (i := 72) (by decide +kernel))) hW1 hA
  · exact hW2
  · refine List.forall_mem_cons.mpr ⟨vk_R.of (hts (Cond.stringRef "RadixDesk" 89 "set 0 1 ; set 1 3 ; loop 40 { multiply 0 1 ; write 0 7 ; back 2 7 ; subtract 2 0 ; count 2 3 ; add 4 3 ; }") (List.mem_of_getElem? (i := 987) (by decide +kernel))) (had 39 (by decide)), ?_⟩
    refine List.forall_mem_cons.mpr ⟨vk_R.of (hts (Cond.stringRef "RadixDesk" 91 "wide ; set 0 -1 ; read 1 36 zik0zj ; loop 20 { divideplain 0 1 2 ; xor 3 2 ; reverse 3 ; set 5 13 ; left 3 5 ; add 0 3 ; writeplain 3 16 ; backplain 6 16 ; }") (List.mem_of_getElem? (i := 988) (by decide +kernel))) (had 40 (by decide)), ?_⟩
    refine List.forall_mem_cons.mpr ⟨vk_R.of (hts (Cond.stringRef "RadixDesk" 93 "narrow ; set 0 12345 ; set 6 -1 ; loop 5 { loop 10 { bytes 0 ; left 0 6 ; writeplain 0 35 ; backplain 1 35 ; compareplain 0 1 2 ; or 3 2 ; leading 0 4 ; add 5 4 ; } }") (List.mem_of_getElem? (i := 989) (by decide +kernel))) (had 41 (by decide)), ?_⟩
    refine List.forall_mem_cons.mpr ⟨vk_R.of (hts (Cond.stringRef "RadixDeskModel" 73 "set 0 1 ; set 1 3 ; loop 40 { multiply 0 1 ; write 0 7 ; back 2 7 ; subtract 2 0 ; count 2 3 ; add 4 3 ; }") (List.mem_of_getElem? (i := 1403) (by decide +kernel))) (va_eqR (hn (Cond.eq (.string "RadixDesk" 89) (.string "RadixDeskModel" 73)) (List.mem_of_getElem? (i := 1286) (by decide +kernel))) (had 39 (by decide))), ?_⟩
    refine List.forall_mem_cons.mpr ⟨vk_R.of (hts (Cond.stringRef "RadixDeskModel" 75 "wide ; set 0 -1 ; read 1 36 zik0zj ; loop 20 { divideplain 0 1 2 ; xor 3 2 ; reverse 3 ; set 5 13 ; left 3 5 ; add 0 3 ; writeplain 3 16 ; backplain 6 16 ; }") (List.mem_of_getElem? (i := 1404) (by decide +kernel))) (va_eqR (hn (Cond.eq (.string "RadixDesk" 91) (.string "RadixDeskModel" 75)) (List.mem_of_getElem? (i := 1448) (by decide +kernel))) (had 40 (by decide))), ?_⟩
    refine List.forall_mem_cons.mpr ⟨vk_R.of (hts (Cond.stringRef "RadixDeskModel" 77 "narrow ; set 0 12345 ; set 6 -1 ; loop 5 { loop 10 { bytes 0 ; left 0 6 ; writeplain 0 35 ; backplain 1 35 ; compareplain 0 1 2 ; or 3 2 ; leading 0 4 ; add 5 4 ; } }") (List.mem_of_getElem? (i := 1405) (by decide +kernel))) (va_eqR (hn (Cond.eq (.string "RadixDesk" 93) (.string "RadixDeskModel" 77)) (List.mem_of_getElem? (i := 1619) (by decide +kernel))) (had 41 (by decide))), ?_⟩
    refine List.forall_mem_cons.mpr ⟨vk_R.of (hts (Cond.stringRef "RadixDeskModel" 180 "wide narrow set read readplain write writeplain back backplain reverse bytes highest lowest spread count leading trailing ones left right add subtract multiply and or xor divide divideplain compare compareplain loop ") (List.mem_of_getElem? (i := 1657) (by decide +kernel))) (had 42 (by decide)), ?_⟩
    refine List.forall_mem_cons.mpr ⟨vk_R.of (hts (Cond.stringRef "RadixDeskModel" 182 ". . CN CRP CRP CR CR CR CR C C C C C CC CC CC CC CC CC CC CC CC CC CC CC CCC CCC CCC CCC T ") (List.mem_of_getElem? (i := 1669) (by decide +kernel))) (had 43 (by decide)), ?_⟩
    refine List.forall_mem_cons.mpr ⟨vk_R.of (hts (Cond.stringRef "RadixDesk" 84 "there is no such example") (List.mem_of_getElem? (i := 980) (by decide +kernel))) (had 44 (by decide)), ?_⟩
    refine List.forall_mem_cons.mpr ⟨vk_R.of (hts (Cond.stringRef "RadixDesk" 100 "the text has no such piece") (List.mem_of_getElem? (i := 1003) (by decide +kernel))) (had 45 (by decide)), ?_⟩
    refine List.forall_mem_cons.mpr ⟨vk_R.of (hts (Cond.stringRef "RadixDesk" 114 "there is no such kind of writing") (List.mem_of_getElem? (i := 1020) (by decide +kernel))) (had 46 (by decide)), ?_⟩
    refine List.forall_mem_cons.mpr ⟨vk_R.of (hts (Cond.stringRef "RadixDesk" 130 "there is no such digit") (List.mem_of_getElem? (i := 1068) (by decide +kernel))) (had 47 (by decide)), ?_⟩
    refine List.forall_mem_cons.mpr ⟨vk_R.of (hts (Cond.stringRef "RadixDesk" 185 "there is no such way to combine") (List.mem_of_getElem? (i := 1198) (by decide +kernel))) (had 48 (by decide)), ?_⟩
    refine List.forall_mem_cons.mpr ⟨vk_R.of (hts (Cond.stringRef "RadixDesk" 215 "the text has an erro\x72") (List.mem_of_getElem? (i := 1223) (by decide +kernel))) (had 49 (by decide)), ?_⟩
    refine List.forall_mem_cons.mpr ⟨vk_R.of (hts (Cond.stringRef "RadixDesk" 235 "there is no such cell") (List.mem_of_getElem? (i := 883) (by decide +kernel))) (had 50 (by decide)), ?_⟩
    refine List.forall_mem_cons.mpr ⟨vk_R.of (hts (Cond.stringRef "RadixDesk" 237 "the text would be too long") (List.mem_of_getElem? (i := 944) (by decide +kernel))) (had 51 (by decide)), ?_⟩
    refine List.forall_mem_cons.mpr ⟨vk_R.of (hts (Cond.stringRef "RadixDesk" 239 "there is no such byte") (List.mem_of_getElem? (i := 962) (by decide +kernel))) (had 52 (by decide)), ?_⟩
    exact fun _ h => absurd h List.not_mem_nil
theorem k2_inr {w : Cond} (h : w ∈ tables_1) : w ∈ lw_tbl := List.mem_append_right _ h
theorem over_arr {args : Array Value} {s : State} {ty : FieldType} (h : (Cond.arrayOver (.array ty)).before args s = true) : ∃ (c : ClassId) (k : Class) (comp : ClassId), s.vm.findClass ("[" ++ (FieldType.array ty).toString) = some c ∧ s.vm.classes[c]? = some k ∧ k.kind = .array comp (.array ty) := by
  simp only [Cond.before, Cond.holds, Cond.value, beq_iff_eq] at h
  cases hc : s.vm.findClass (FieldType.array ty).toString with
  | none => simp [hc] at h
  | some comp =>
    simp only [hc, Option.bind_some, Option.bind_eq_some_iff, Option.map_eq_some_iff] at h
    obtain ⟨c, hi, k, hk, hb⟩ := h
    cases hkind : k.kind with
    | array component ty9 =>
      rw [hkind] at hb
      simp at hb
      exact ⟨c, k, component, hb.2, hk, by rw [hkind, hb.1]⟩
    | _ =>
      rw [hkind] at hb
      simp at hb
set_option maxHeartbeats 4000000 in
set_option maxRecDepth 100000 in
theorem start_K {args : Array Value} {s : State} (hts : ∀ w ∈ lw_tbl, w.before args s = true) : ∃ (D : va_G) (cy : Nat → ClassId), KX D cy s := by
  have hL : ∀ w ∈ LW, w.before args s = true := fun w hw => hts w (LW_in w hw)
  obtain ⟨c0, i0, h0⟩ := u_known (n := 5) hL in_RX2 (hts (Cond.instantiable "RadixDesk$Desk" 5) (List.mem_of_getElem? (i := 88) (by decide +kernel)))
  obtain ⟨c1, i1, h1⟩ := u_known (n := 8) hL in_RX4 (hts (Cond.instantiable "RadixDesk$Program" 8) (List.mem_of_getElem? (i := 147) (by decide +kernel)))
  obtain ⟨c2, i2, h2⟩ := u_known (n := 1) hL in_RX5 (hts (Cond.instantiable "RadixDesk$Reade\x72" 1) (List.mem_of_getElem? (i := 112) (by decide +kernel)))
  obtain ⟨c3, i3, h3⟩ := u_known (n := 2) hL in_RX6 (hts (Cond.instantiable "RadixDesk$Row" 2) (List.mem_of_getElem? (i := 94) (by decide +kernel)))
  obtain ⟨c4, i4, h4⟩ := u_known (n := 6) hL in_RX7 (hts (Cond.instantiable "RadixDesk$Statement" 6) (List.mem_of_getElem? (i := 154) (by decide +kernel)))
  obtain ⟨c5, i5, h5⟩ := u_known (n := 2) hL in_RX8 (hts (Cond.instantiable "RadixDesk$Theorem" 2) (List.mem_of_getElem? (i := 239) (by decide +kernel)))
  obtain ⟨c6, i6, h6⟩ := u_known (n := 3) hL in_RX10 (hts (Cond.instantiable "RadixDesk$Words" 3) (List.mem_of_getElem? (i := 185) (by decide +kernel)))
  obtain ⟨c7, i7, h7⟩ := u_known (n := 5) hL in_RX11 (hts (Cond.instantiable "RadixDesk" 5) (List.mem_of_getElem? (i := 80) (by decide +kernel)))
  obtain ⟨c8, i8, h8⟩ := u_known (n := 12) hL in_RX12 (hts (Cond.instantiable "RadixDeskModel$Desk" 12) (List.mem_of_getElem? (i := 1236) (by decide +kernel)))
  obtain ⟨c9, i9, h9⟩ := u_known (n := 13) hL in_RX13 (hts (Cond.instantiable "RadixDeskModel" 13) (List.mem_of_getElem? (i := 1230) (by decide +kernel)))
  obtain ⟨c10, i10, h10⟩ := u_known (n := 4) hL in_RJ0 (hts (Cond.instantiable "java/lang/String" 4) (List.mem_of_getElem? (i := 1731) (by decide +kernel)))
  obtain ⟨a0, ka0, co0, x0, y0, z0⟩ := Cond.arrayClass_spec (hts (Cond.arrayClass .int) (List.mem_of_getElem? (i := 110) (by decide +kernel)))
  obtain ⟨a1, ka1, co1, x1, y1, z1⟩ := Cond.arrayClass_spec (hts (Cond.arrayClass .long) (List.mem_of_getElem? (i := 109) (by decide +kernel)))
  obtain ⟨a2, ka2, co2, x2, y2, z2⟩ := Cond.arrayClass_spec (hts (Cond.arrayClass .boolean) (List.mem_of_getElem? (i := 1287) (by decide +kernel)))
  obtain ⟨a4, ka4, co4, x4, y4, z4⟩ := Cond.arrayClass_spec (hts (Cond.arrayClass .byte) (List.mem_of_getElem? (i := 909) (by decide +kernel)))
  obtain ⟨co3, a3, ka3, x3, -, y3, z3, w3⟩ := Cond.arrayOver_spec (hts (Cond.arrayOver (.object "RadixDesk$Statement")) (List.mem_of_getElem? (i := 153) (by decide +kernel)))
  obtain ⟨a5, ka5, co5, x5, y5, z5⟩ := over_arr (hts (Cond.arrayOver (.array .boolean)) (List.mem_of_getElem? (i := 1242) (by decide +kernel)))
  refine ⟨(fun n => [c0, c1, c2, c3, c4, c5, c6, c7, c8, c9, c10].getD n 0, fun n => [i0, i1, i2, i3, i4, i5, i6, i7, i8, i9, i10].getD n (fun _ => 0)), fun n => [a0, a1, a2, a3, a4, a5].getD n 0, ⟨fun c q hq => ?_, fun k q hq => ?_⟩, fun w hw => va_Nw.of ?_ (hts w (k2_inr (List.mem_filter.mp hw).1))⟩
  · match c, hq with
    | 0, hq => cases hq; exact h0
    | 1, hq => cases hq; exact h1
    | 2, hq => cases hq; exact h2
    | 3, hq => cases hq; exact h3
    | 4, hq => cases hq; exact h4
    | 5, hq => cases hq; exact h5
    | 6, hq => cases hq; exact h6
    | 7, hq => cases hq; exact h7
    | 8, hq => cases hq; exact h8
    | 9, hq => cases hq; exact h9
    | 10, hq => cases hq; exact h10
    | c + 11, hq => simp [classes] at hq
  · match k, hq with
    | 0, hq => cases hq; exact ⟨fun N z => ⟨(fun k h => by cases h), ka0, y0, co0, z0⟩, x0⟩
    | 1, hq => cases hq; exact ⟨fun N z => ⟨(fun k h => by cases h), ka1, y1, co1, z1⟩, x1⟩
    | 2, hq => cases hq; exact ⟨fun N z => ⟨(fun k h => by cases h), ka2, y2, co2, z2⟩, x2⟩
    | 3, hq => cases hq; exact ⟨fun N z => ⟨(fun k h => by cases h), ka3, y3, co3, z3⟩, ka3, co3, y3, z3, x3, w3⟩
    | 4, hq => cases hq; exact ⟨fun N z => ⟨(fun k h => by cases h), ka4, y4, co4, z4⟩, x4⟩
    | 5, hq => cases hq; exact ⟨fun N z => ⟨(fun k h => by cases h), ka5, y5, co5, z5⟩, x5⟩
    | k + 6, hq => simp [TYS] at hq
  · have h2 := (List.mem_filter.mp hw).2
    cases w <;> first | rfl | (simp [NWp] at h2)
theorem start_Y {args : Array Value} {s : State} (hts : ∀ w ∈ lw_tbl, w.before args s = true) : KY s := ⟨va_AO.of (hts (Cond.arrayOver (.object "RadixDesk$Statement")) (List.mem_of_getElem? (i := 153) (by decide +kernel))), va_AOA.of (hts (Cond.arrayOver (.array .boolean)) (List.mem_of_getElem? (i := 1242) (by decide +kernel)))⟩
theorem start_N {args : Array Value} {s : State} (hn : ∀ w ∈ NF, w.before args s = true) : NX s := ⟨va_Nc.of (hn (Cond.not (.castable "java/lang/IllegalArgumentException" "java/lang/IndexOutOfBoundsException")) (List.mem_of_getElem? (i := 423) (by decide +kernel))), va_Nc.of (hn (Cond.not (.castable "java/util/NoSuchElementException" "java/lang/IndexOutOfBoundsException")) (List.mem_of_getElem? (i := 424) (by decide +kernel)))⟩
