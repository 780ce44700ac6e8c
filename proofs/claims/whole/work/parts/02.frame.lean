/-! the constants that the program reads: texts, the verbs, tables; they are never written -/
def strL : List (List Int32) := [[119, 105, 100, 101], [110, 97, 114, 114, 111, 119], [115, 101, 116], [114, 101, 97, 100], [114, 101, 97, 100, 112, 108, 97, 105, 110], [119, 114, 105, 116, 101], [119, 114, 105, 116, 101, 112, 108, 97, 105, 110], [98, 97, 99, 107], [98, 97, 99, 107, 112, 108, 97, 105, 110], [114, 101, 118, 101, 114, 115, 101], [98, 121, 116, 101, 115], [104, 105, 103, 104, 101, 115, 116], [108, 111, 119, 101, 115, 116], [115, 112, 114, 101, 97, 100], [99, 111, 117, 110, 116], [108, 101, 97, 100, 105, 110, 103], [116, 114, 97, 105, 108, 105, 110, 103], [111, 110, 101, 115], [108, 101, 102, 116], [114, 105, 103, 104, 116], [97, 100, 100], [115, 117, 98, 116, 114, 97, 99, 116], [109, 117, 108, 116, 105, 112, 108, 121], [97, 110, 100], [111, 114], [120, 111, 114], [100, 105, 118, 105, 100, 101], [100, 105, 118, 105, 100, 101, 112, 108, 97, 105, 110], [99, 111, 109, 112, 97, 114, 101], [99, 111, 109, 112, 97, 114, 101, 112, 108, 97, 105, 110], [108, 111, 111, 112], [], [67, 78], [67, 82, 80], [67, 82], [67], [67, 67], [67, 67, 67], [84], [115, 101, 116, 32, 48, 32, 49, 32, 59, 32, 115, 101, 116, 32, 49, 32, 51, 32, 59, 32, 108, 111, 111, 112, 32, 52, 48, 32, 123, 32, 109, 117, 108, 116, 105, 112, 108, 121, 32, 48, 32, 49, 32, 59, 32, 119, 114, 105, 116, 101, 32, 48, 32, 55, 32, 59, 32, 98, 97, 99, 107, 32, 50, 32, 55, 32, 59, 32, 115, 117, 98, 116, 114, 97, 99, 116, 32, 50, 32, 48, 32, 59, 32, 99, 111, 117, 110, 116, 32, 50, 32, 51, 32, 59, 32, 97, 100, 100, 32, 52, 32, 51, 32, 59, 32, 125], [119, 105, 100, 101, 32, 59, 32, 115, 101, 116, 32, 48, 32, 45, 49, 32, 59, 32, 114, 101, 97, 100, 32, 49, 32, 51, 54, 32, 122, 105, 107, 48, 122, 106, 32, 59, 32, 108, 111, 111, 112, 32, 50, 48, 32, 123, 32, 100, 105, 118, 105, 100, 101, 112, 108, 97, 105, 110, 32, 48, 32, 49, 32, 50, 32, 59, 32, 120, 111, 114, 32, 51, 32, 50, 32, 59, 32, 114, 101, 118, 101, 114, 115, 101, 32, 51, 32, 59, 32, 115, 101, 116, 32, 53, 32, 49, 51, 32, 59, 32, 108, 101, 102, 116, 32, 51, 32, 53, 32, 59, 32, 97, 100, 100, 32, 48, 32, 51, 32, 59, 32, 119, 114, 105, 116, 101, 112, 108, 97, 105, 110, 32, 51, 32, 49, 54, 32, 59, 32, 98, 97, 99, 107, 112, 108, 97, 105, 110, 32, 54, 32, 49, 54, 32, 59, 32, 125], [110, 97, 114, 114, 111, 119, 32, 59, 32, 115, 101, 116, 32, 48, 32, 49, 50, 51, 52, 53, 32, 59, 32, 115, 101, 116, 32, 54, 32, 45, 49, 32, 59, 32, 108, 111, 111, 112, 32, 53, 32, 123, 32, 108, 111, 111, 112, 32, 49, 48, 32, 123, 32, 98, 121, 116, 101, 115, 32, 48, 32, 59, 32, 108, 101, 102, 116, 32, 48, 32, 54, 32, 59, 32, 119, 114, 105, 116, 101, 112, 108, 97, 105, 110, 32, 48, 32, 51, 53, 32, 59, 32, 98, 97, 99, 107, 112, 108, 97, 105, 110, 32, 49, 32, 51, 53, 32, 59, 32, 99, 111, 109, 112, 97, 114, 101, 112, 108, 97, 105, 110, 32, 48, 32, 49, 32, 50, 32, 59, 32, 111, 114, 32, 51, 32, 50, 32, 59, 32, 108, 101, 97, 100, 105, 110, 103, 32, 48, 32, 52, 32, 59, 32, 97, 100, 100, 32, 53, 32, 52, 32, 59, 32, 125, 32, 125], [119, 105, 100, 101, 32, 110, 97, 114, 114, 111, 119, 32, 115, 101, 116, 32, 114, 101, 97, 100, 32, 114, 101, 97, 100, 112, 108, 97, 105, 110, 32, 119, 114, 105, 116, 101, 32, 119, 114, 105, 116, 101, 112, 108, 97, 105, 110, 32, 98, 97, 99, 107, 32, 98, 97, 99, 107, 112, 108, 97, 105, 110, 32, 114, 101, 118, 101, 114, 115, 101, 32, 98, 121, 116, 101, 115, 32, 104, 105, 103, 104, 101, 115, 116, 32, 108, 111, 119, 101, 115, 116, 32, 115, 112, 114, 101, 97, 100, 32, 99, 111, 117, 110, 116, 32, 108, 101, 97, 100, 105, 110, 103, 32, 116, 114, 97, 105, 108, 105, 110, 103, 32, 111, 110, 101, 115, 32, 108, 101, 102, 116, 32, 114, 105, 103, 104, 116, 32, 97, 100, 100, 32, 115, 117, 98, 116, 114, 97, 99, 116, 32, 109, 117, 108, 116, 105, 112, 108, 121, 32, 97, 110, 100, 32, 111, 114, 32, 120, 111, 114, 32, 100, 105, 118, 105, 100, 101, 32, 100, 105, 118, 105, 100, 101, 112, 108, 97, 105, 110, 32, 99, 111, 109, 112, 97, 114, 101, 32, 99, 111, 109, 112, 97, 114, 101, 112, 108, 97, 105, 110, 32, 108, 111, 111, 112, 32], [46, 32, 46, 32, 67, 78, 32, 67, 82, 80, 32, 67, 82, 80, 32, 67, 82, 32, 67, 82, 32, 67, 82, 32, 67, 82, 32, 67, 32, 67, 32, 67, 32, 67, 32, 67, 32, 67, 67, 32, 67, 67, 32, 67, 67, 32, 67, 67, 32, 67, 67, 32, 67, 67, 32, 67, 67, 32, 67, 67, 32, 67, 67, 32, 67, 67, 32, 67, 67, 32, 67, 67, 32, 67, 67, 67, 32, 67, 67, 67, 32, 67, 67, 67, 32, 67, 67, 67, 32, 84, 32]]
def sLen (i : Nat) : Nat := (strL.getD i []).length
def sByt (i j : Nat) : Int32 := (strL.getD i []).getD j 0
def vArg (i : Nat) : Nat := ([31, 31, 32, 33, 33, 34, 34, 34, 34, 35, 35, 35, 35, 35, 36, 36, 36, 36, 36, 36, 36, 36, 36, 36, 36, 36, 37, 37, 37, 37, 38] : List Nat).getD i 0
def swI (i : Nat) : Int32 := ([1, 2, 3, 4, 5, 6, 7, 8, 9, 19, 20, 21, 22, 10, 15, 16, 17, 18, 23, 24, 25, 26, 27, 28, 29, 30, 11, 12, 13, 14, 0] : List Int32).getD i 0
def vkL : List (String × Nat × String × Nat) := [("RadixDesk", 89, "set 0 1 ; set 1 3 ; loop 40 { multiply 0 1 ; write 0 7 ; back 2 7 ; subtract 2 0 ; count 2 3 ; add 4 3 ; }", 39), ("RadixDesk", 91, "wide ; set 0 -1 ; read 1 36 zik0zj ; loop 20 { divideplain 0 1 2 ; xor 3 2 ; reverse 3 ; set 5 13 ; left 3 5 ; add 0 3 ; writeplain 3 16 ; backplain 6 16 ; }", 40), ("RadixDesk", 93, "narrow ; set 0 12345 ; set 6 -1 ; loop 5 { loop 10 { bytes 0 ; left 0 6 ; writeplain 0 35 ; backplain 1 35 ; compareplain 0 1 2 ; or 3 2 ; leading 0 4 ; add 5 4 ; } }", 41), ("RadixDeskModel", 73, "set 0 1 ; set 1 3 ; loop 40 { multiply 0 1 ; write 0 7 ; back 2 7 ; subtract 2 0 ; count 2 3 ; add 4 3 ; }", 39), ("RadixDeskModel", 75, "wide ; set 0 -1 ; read 1 36 zik0zj ; loop 20 { divideplain 0 1 2 ; xor 3 2 ; reverse 3 ; set 5 13 ; left 3 5 ; add 0 3 ; writeplain 3 16 ; backplain 6 16 ; }", 40), ("RadixDeskModel", 77, "narrow ; set 0 12345 ; set 6 -1 ; loop 5 { loop 10 { bytes 0 ; left 0 6 ; writeplain 0 35 ; backplain 1 35 ; compareplain 0 1 2 ; or 3 2 ; leading 0 4 ; add 5 4 ; } }", 41), ("RadixDeskModel", 180, "wide narrow set read readplain write writeplain back backplain reverse bytes highest lowest spread count leading trailing ones left right add subtract multiply and or xor divide divideplain compare compareplain loop ", 42), ("RadixDeskModel", 182, ". . CN CRP CRP CR CR CR CR C C C C C CC CC CC CC CC CC CC CC CC CC CC CC CCC CCC CCC CCC T ", 43), ("RadixDesk", 84, "there is no such example", 400), ("RadixDesk", 100, "the text has no such piece", 401), ("RadixDesk", 114, "there is no such kind of writing", 402), ("RadixDesk", 130, "there is no such digit", 403), ("RadixDesk", 185, "there is no such way to combine", 404), ("RadixDesk", 215, "the text has an error", 405), ("RadixDesk", 235, "there is no such cell", 406), ("RadixDesk", 237, "the text would be too long", 407), ("RadixDesk", 239, "there is no such byte", 408)]
abbrev vN : String := "RadixDesk$Verb"
abbrev vD : String := "LRadixDesk$Verb;"
abbrev sN : String := "java/lang/String"
def CXS (g : Nat → Nat) (A : Nat → Prop) (U : State) (H : Heap) (i : Nat) : Prop := va_O sN (g i) A U H ∧ va_OF sN "code\x72" "B" (.int 0) (g i) A U H ∧ va_OF sN "value" "[B" (.ref (g (100 + i))) (g i) A U H ∧ va_T .byte (g (100 + i)) (sLen i) (fun j => .int (sByt i j)) A U H
def CXV (g : Nat → Nat) (A : Nat → Prop) (U : State) (H : Heap) (i : Nat) : Prop := va_O vN (g (200 + i)) A U H ∧ va_OF "java/lang/Enum" "ordinal" "I" (.int (nI i)) (g (200 + i)) A U H ∧ va_OF vN "word" "Ljava/lang/String;" (.ref (g i)) (g (200 + i)) A U H ∧ va_OF vN "arguments" "Ljava/lang/String;" (.ref (g (vArg i))) (g (200 + i)) A U H
def CXT (g : Nat → Nat) (A : Nat → Prop) (U : State) (H : Heap) : Prop := va_Z sN "COMPACT_STRINGS" "Z" (.int 1) A U H ∧ va_Zq "jdk/internal/util/Preconditions" "SIOOBE_FORMATTE\x52" "Ljava/util/function/BiFunction;" A U H ∧ vx_Zq Bundle.tN "UNASSIGNED_STACK" Bundle.steD A U H ∧ vx_Zq Bundle.tN "SUPPRESSED_SENTINEL" Bundle.listD A U H ∧ va_Z vN "WIDE" vD (.ref (g 200)) A U H ∧ va_Z vN "LOOP" vD (.ref (g 230)) A U H ∧ va_Z vN "ALL" "[LRadixDesk$Verb;" (.ref (g 300)) A U H ∧ va_T (.object vN) (g 300) 31 (fun i => .ref (g (200 + i))) A U H ∧ va_Z "RadixDesk$1" "$SwitchMap$RadixDesk$Verb" "[I" (.ref (g 301)) A U H ∧ va_T .int (g 301) 31 (fun i => .int (swI i)) A U H
def CX (g : Nat → Nat) (A : Nat → Prop) (U : State) (H : Heap) : Prop := (∀ i, i < 44 → CXS g A U H i) ∧ (∀ i, i < 31 → CXV g A U H i) ∧ CXT g A U H ∧ ∀ q ∈ vkL, vk_R q.1 q.2.1 q.2.2.1 (g q.2.2.2) U
theorem CX.kept {g : Nat → Nat} {A : Nat → Prop} {U : State} {H H1 : Heap} (h : CX g A U H) (hq : ∀ a : Nat, a < H.size → ¬ A a → H1[a]? = H[a]?) : CX g A U H1 := by
  obtain ⟨h1, h2, ⟨t0, t1, t2, t3, t4, t5, t6, t7, t8, t9⟩, h4⟩ := h
  exact ⟨fun i hi => ⟨(h1 i hi).1.kept hq, (h1 i hi).2.1.kept hq, (h1 i hi).2.2.1.kept hq, (h1 i hi).2.2.2.kept hq⟩, fun i hi => ⟨(h2 i hi).1.kept hq, (h2 i hi).2.1.kept hq, (h2 i hi).2.2.1.kept hq, (h2 i hi).2.2.2.kept hq⟩, ⟨t0.kept hq, t1.kept hq, t2.kept hq, t3.kept hq, t4.kept hq, t5.kept hq, t6.kept hq, t7.kept hq, t8.kept hq, t9.kept hq⟩, h4⟩
theorem CX.narrow {g : Nat → Nat} {A B : Nat → Prop} {U : State} {H : Heap} (h : CX g A U H) (hq : ∀ q, B q → A q) : CX g B U H := by
  obtain ⟨h1, h2, ⟨t0, t1, t2, t3, t4, t5, t6, t7, t8, t9⟩, h4⟩ := h
  exact ⟨fun i hi => ⟨(h1 i hi).1.narrow hq, (h1 i hi).2.1.narrow hq, (h1 i hi).2.2.1.narrow hq, (h1 i hi).2.2.2.narrow hq⟩, fun i hi => ⟨(h2 i hi).1.narrow hq, (h2 i hi).2.1.narrow hq, (h2 i hi).2.2.1.narrow hq, (h2 i hi).2.2.2.narrow hq⟩, ⟨t0.narrow hq, t1.narrow hq, t2.narrow hq, t3.narrow hq, t4.narrow hq, t5.narrow hq, t6.narrow hq, t7.narrow hq, t8.narrow hq, t9.narrow hq⟩, h4⟩
theorem CX.alike {g : Nat → Nat} {A : Nat → Prop} {s U : State} {H : Heap} (hq : s.vm.Alike U.vm) (hk : ∀ q ∈ vkL, vk_R q.1 q.2.1 q.2.2.1 (g q.2.2.2) U) (h : CX g A s H) : CX g A U H := by
  obtain ⟨h1, h2, ⟨t0, t1, t2, t3, t4, t5, t6, t7, t8, t9⟩, h4⟩ := h
  exact ⟨fun i hi => ⟨va_O.moved hq (h1 i hi).1, va_OF.moved hq (h1 i hi).2.1, va_OF.moved hq (h1 i hi).2.2.1, va_T.moved hq (h1 i hi).2.2.2⟩, fun i hi => ⟨va_O.moved hq (h2 i hi).1, va_OF.moved hq (h2 i hi).2.1, va_OF.moved hq (h2 i hi).2.2.1, va_OF.moved hq (h2 i hi).2.2.2⟩, ⟨va_Z.moved hq t0, va_Zq.moved hq t1, vx_Zq.moved hq t2, vx_Zq.moved hq t3, va_Z.moved hq t4, va_Z.moved hq t5, va_Z.moved hq t6, va_T.moved hq t7, va_Z.moved hq t8, va_T.moved hq t9⟩, hk⟩
theorem CX.warm {g : Nat → Nat} {A : Nat → Prop} {s U : State} {H : Heap} (hW : s.WarmedH U.vm) (h : CX g A s H) : CX g A U H := CX.alike hW.alike (fun q hq => vk_R.warm hW (h.2.2.2 q hq)) h
theorem CX.calling {g : Nat → Nat} {A : Nat → Prop} {U : State} {H : Heap} {f : JFrame} {mk : MethodId} {a : Array Value} (h : CX g A U H) : CX g A (U.calling f mk a) H := CX.alike (Vm.Alike.refl U.vm) (fun q hq => vk_R.same rfl (h.2.2.2 q hq)) h
/-! contracts with the whole answer said, worlds in their places -/
abbrev classes : List vw_C := [(RX2, TX2, 5), (RX4, TX4, 8), (RX5, TX5, 1), (RX6, TX6, 2), (RX7, TX7, 6), (RX8, TX8, 2), (RX10, TX10, 3), (RX11, TX11, 5), (RX12, TX12, 12), (RX13, TX13, 13), (RJ0, TJ0, 4)]
abbrev TYS (cy : Nat → ClassId) : List (ClassId × FieldType) := [(cy 0, .int), (cy 1, .long), (cy 2, .boolean), (cy 3, .object "RadixDesk$Statement"), (cy 4, .byte), (cy 5, .array .boolean)]
def NWp (w : Cond) : Bool := match w with
  | .fieldLinkNest .. => true
  | .methodLinkNest .. => true
  | _ => false
def NW : List Cond := tables_1.filter NWp
theorem NW_of {w : Cond} (i : Nat) (h : tables_1[i]? = some w) (hg : NWp w = true) : w ∈ NW := List.mem_filter.mpr ⟨List.mem_of_getElem? h, hg⟩
def KX (D : va_G) (cy : Nat → ClassId) (U : State) : Prop := va_K D classes (TYS cy) U ∧ ∀ w ∈ NW, va_Nw w U
theorem KX.warm {D : va_G} {cy : Nat → ClassId} {s U : State} (hW : s.WarmedH U.vm) (h : KX D cy s) : KX D cy U := by
  refine ⟨va_K.moved hW.alike h.1, fun w hw => ?_⟩
  have h1 := h.2 w hw
  have h2 := (List.mem_filter.mp hw).2
  cases w <;> first | exact va_Nw.warmF hW h1 | exact va_Nw.warmM hW h1 | (simp [NWp] at h2)
theorem KX.calling {D : va_G} {cy : Nat → ClassId} {U : State} {g : JFrame} {mk : MethodId} {a : Array Value} (h : KX D cy U) : KX D cy (U.calling g mk a) := by
  refine ⟨va_K.moved (u := U) (U := U.calling g mk a) (Vm.Alike.refl U.vm) h.1, fun w hw => ?_⟩
  have h1 := h.2 w hw
  have h2 := (List.mem_filter.mp hw).2
  refine va_Nw.same ?_ (u := U) rfl h1
  cases w <;> first | rfl | (simp [NWp] at h2)
def PW (D : va_G) (cy : Nat → ClassId) (g : Nat → Nat) (w0 : va_W) (sz : Nat) (U : State) : Prop := U.heap.size = sz ∧ va_P D classes w0 U.heap ∧ KX D cy U ∧ va_D (fun _ => True) w0 ∧ CX g (va_A w0 sz) U U.heap
def QW (D : va_G) (w1 : va_W) (rv : Option Value) (A : Nat → Prop) : Array Value → State → Outcome → State → Prop := fun _ st oc t => oc = .returned rv ∧ va_P D classes w1 t.heap ∧ va_F A st t
def Con (l : Launch) (D : va_G) (cy : Nat → ClassId) (g : Nat → Nat) (y : MethodName) (b : ByteArray) (n : Nat) (ret : Option FieldType) (fr lo mc ms : Nat) (as : List Value) (w0 w1 : va_W) (rv : Option Value) : Prop :=
  ∀ sz : Nat, Met l y (.code y b n ret :: LW) { frames := fr, cells := mc, slots := ms, locals := lo } (va_Pc as (PW D cy g w0 sz)) (QW D w1 rv (va_A w0 sz)) mc ms (va_A w0 sz)
theorem Con.blind {D : va_G} {cy : Nat → ClassId} {g : Nat → Nat} {w0 : va_W} {sz : Nat} {as : List Value} : FrameBlind (va_Pc as (PW D cy g w0 sz)) := fun a U f mk q => by
  obtain ⟨q0, q1, qP, qK, qD, qC⟩ := q
  exact ⟨q0, q1, qP, qK.calling, qD, qC.calling⟩
theorem va_D.fst {A : Nat → Prop} {ws ws' : va_W} (h : va_D A ws) (e : ws'.map Prod.fst = ws.map Prod.fst) : va_D A ws' := by
  have key : ∀ (k : Nat) (q : Nat × va_E), ws'[k]? = some q → ∃ q0, ws[k]? = some q0 ∧ q0.1 = q.1 := by
    intro k q hk
    have h1 : (ws'.map Prod.fst)[k]? = some q.1 := by rw [List.getElem?_map, hk]; rfl
    rw [e, List.getElem?_map] at h1
    cases h2 : ws[k]? with
    | none => rw [h2] at h1; cases h1
    | some q0 => rw [h2] at h1; exact ⟨q0, rfl, Option.some.inj h1⟩
  refine ⟨fun i j x y hi hj hxy => ?_, fun k q hk => ?_⟩
  · obtain ⟨x0, h1, h2⟩ := key i x hi
    obtain ⟨y0, h3, h4⟩ := key j y hj
    exact h.1 i j x0 y0 h1 h3 (h2.trans (hxy.trans h4.symm))
  · obtain ⟨q0, h1, h2⟩ := key k q hk
    rw [← h2]
    exact h.2 k q0 h1
theorem Con.of {l : Launch} {D : va_G} {cy : Nat → ClassId} {y : MethodName} {b : ByteArray} {n : Nat} {ret : Option FieldType} {fr lo mc ms : Nat} {g : Nat → Nat} {as : List Value} {w0 w1 : va_W} {rv : Option Value} (hy : plainName y.cls = true) (hn : (lg_sl as).length ≤ n)
    (body : ∀ (p : Program) (e : Env) (R : Room) (s : State) (m : MethodId) (ar : Array Value) (below : List Frame) (meth : Method) (c : Code) (A : Nat → Prop) (Qc : Array Value → State → Outcome → State → Prop) (ls : Array Slot),
      p.tables.exec = Jvm.exec → c.code = b → meth.sig.returnType = ret → c.maxLocals = n → s.vm.findClass y.cls = some m.cls → meth.locks = false → meth.name = y.name → (∀ w ∈ LW, w.before ar s = true) → KX D cy s → va_P D classes w0 s.heap → va_D A w0 → va_S A s.heap s.heap [] → (∀ q : Nat, s.heap.size ≤ q → A q) → R = { frames := fr, cells := mc, slots := ms, locals := lo } → CX g A s s.heap → Qc = QW D w1 rv A → lv_has ls n (lv_args 0 as) →
      W p l e R s m ar below meth c s.heap [] 0 0 (MQ below Qc ar s mc ms A) (F0 m 0 ls [])) : Con l D cy g y b n ret fr lo mc ms as w0 w1 rv := by
  intro sz
  refine Met.ofW (cc := b) (maxL := n) (ret := ret) hy rfl ?_
  intro p e s m args below meth c s₁ B hml hv
  obtain ⟨rfl, hsz, hP, hK, hD0, hC⟩ := hv
  subst hsz
  have hts := atoms_spec (ws := (.code y b n ret :: LW)) B.pre
  rw [lg_entry_eq]
  exact body p e _ s m as.toArray below meth c (va_A w0 s.heap.size) _ _ B.exec B.bytes B.returns hml (findClass_of_methodNamed B.named) B.notSynchronized (name_of_methodNamed B.named B.method).1 (fun w hw => hts w (List.mem_cons_of_mem _ hw)) hK hP hD0.self va_S.rf (fun q h => Or.inr h) rfl hC rfl (lv_entry as hn)
section KR
variable {p : Program} {l : Launch} {e : Env} {R : Room} {s : State} {m : MethodId} {ar : Array Value} {below : List Frame} {meth : Method} {c : Code} {H : Heap} {locs : List Loc} {cells slots : Nat} {Q : State → Prop}
variable {D : va_G} {cy : Nat → ClassId} {w1 ws : va_W} {rv : Option Value} {A : Nat → Prop} {Qc : Array Value → State → Outcome → State → Prop} {cc : ByteArray} {pc : Nat} {ls : Array Slot}
theorem k_iret {v : Int32} (hx : p.tables.exec = Jvm.exec) (hb : c.code = cc) (hr : meth.sig.returnType = some .int) (hlocks : meth.locks = false) (hQc : Qc = QW D w1 rv A) (hP : va_P D classes ws H) (hS : va_S A s.heap H locs) (hrv : rv = some (.int v)) (hw : ws = w1) (hdg : decode cc pc = .ok (.ireturn, 1)) : W p l e R s m ar below meth c H locs cells slots (MQ below Qc ar s cells slots A) (F0 m pc ls [.int v]) := by
  subst hQc; subst hrv; subst hw
  exact W.iret hx hb hr (fun t ht hW => ⟨rfl, by rw [ht]; exact hP, hS.F ht⟩) hS.2.2 hdg hlocks
theorem k_zret {v : Int32} (hx : p.tables.exec = Jvm.exec) (hb : c.code = cc) (hr : meth.sig.returnType = some .boolean) (hlocks : meth.locks = false) (hQc : Qc = QW D w1 rv A) (hn : narrow .boolean (.int v) = .int v) (hP : va_P D classes ws H) (hS : va_S A s.heap H locs) (hrv : rv = some (.int v)) (hw : ws = w1) (hdg : decode cc pc = .ok (.ireturn, 1)) : W p l e R s m ar below meth c H locs cells slots (MQ below Qc ar s cells slots A) (F0 m pc ls [.int v]) := by
  subst hQc; subst hrv; subst hw
  exact W.zret hx hb hr hn (fun t ht hW => ⟨rfl, by rw [ht]; exact hP, hS.F ht⟩) hS.2.2 hdg hlocks
theorem k_lret {v : Int64} (hx : p.tables.exec = Jvm.exec) (hb : c.code = cc) (hr : meth.sig.returnType = some .long) (hlocks : meth.locks = false) (hQc : Qc = QW D w1 rv A) (hP : va_P D classes ws H) (hS : va_S A s.heap H locs) (hrv : rv = some (.long v)) (hw : ws = w1) (hdg : decode cc pc = .ok (.lreturn, 1)) : W p l e R s m ar below meth c H locs cells slots (MQ below Qc ar s cells slots A) (F0 m pc ls [.long v]) := by
  subst hQc; subst hrv; subst hw
  exact W.lret hx hb hr (fun t ht hW => ⟨rfl, by rw [ht]; exact hP, hS.F ht⟩) hS.2.2 hdg hlocks
theorem k_vret (hx : p.tables.exec = Jvm.exec) (hb : c.code = cc) (hr : meth.sig.returnType = none) (hlocks : meth.locks = false) (hQc : Qc = QW D w1 rv A) (hP : va_P D classes ws H) (hS : va_S A s.heap H locs) (hrv : rv = none) (hw : ws = w1) (hdg : decode cc pc = .ok (.return_, 1)) : W p l e R s m ar below meth c H locs cells slots (MQ below Qc ar s cells slots A) (F0 m pc ls []) := by
  subst hQc; subst hrv; subst hw
  exact W.vret hx hb hr (fun t ht hW => ⟨rfl, by rw [ht]; exact hP, hS.F ht⟩) hS.2.2 hdg hlocks
end KR
/-- a world with some cells put anew -/
def pall : va_W → List Nat → va_W → va_W
  | ws, i :: is, x :: xs => pall (ws.set i x) is xs
  | ws, _, _ => ws
theorem pall_P {D : va_G} {A0 : Nat → Prop} {H H1 : Heap} : ∀ (is : List Nat) (wc w1 ws : va_W), va_D A0 ws → is.map (fun i => ws[i]?) = wc.map some → w1.map Prod.fst = wc.map Prod.fst → va_nd is = true → va_P D classes w1 H1 → (∀ (k : Nat) (q : Nat × va_E), ws[k]? = some q → k ∉ is → va_at D classes q H1) → va_P D classes (pall ws is w1) H1 ∧ (pall ws is w1).map Prod.fst = ws.map Prod.fst
  | [], wc, w1, ws, hD, hC, he, hn, hP1, hr => by
    cases wc with
    | cons _ _ => simp at hC
    | nil =>
      cases w1 with
      | cons _ _ => simp at he
      | nil => exact ⟨fun k q hk => hr k q hk (by simp), rfl⟩
  | i :: is, wc, w1, ws, hD, hC, he, hn, hP1, hr => by
    cases wc with
    | nil => simp at hC
    | cons x wc =>
      cases w1 with
      | nil => simp at he
      | cons y w1 =>
        simp only [List.map_cons, List.cons.injEq] at hC he
        simp only [va_nd, Bool.and_eq_true, decide_eq_true_eq] at hn
        have hi := (List.getElem?_eq_some_iff.mp hC.1).1
        have hm : (ws.set i y).map Prod.fst = ws.map Prod.fst := by
          apply List.ext_getElem?
          intro j
          rw [List.getElem?_map, List.getElem?_map]
          by_cases hj : j = i
          · subst hj
            rw [List.getElem?_set_self hi, hC.1]
            exact congrArg some he.1
          · rw [List.getElem?_set_ne (Ne.symm hj)]
        have hD2 : va_D A0 (ws.set i y) := hD.fst hm
        have hC2 : is.map (fun j => (ws.set i y)[j]?) = wc.map some := by
          rw [← hC.2]
          apply List.map_congr_left
          intro j hj
          have hji : j ≠ i := fun z => hn.1 (z ▸ hj)
          rw [List.getElem?_set_ne (Ne.symm hji)]
        have hP2 : va_P D classes w1 H1 := fun k q hk => hP1 (k + 1) q (by rw [List.getElem?_cons_succ]; exact hk)
        obtain ⟨a, b⟩ := pall_P (H := H) is wc w1 (ws.set i y) hD2 hC2 he.2 hn.2 hP2 (fun k q hk hks => by
          by_cases hki : k = i
          · subst hki
            rw [List.getElem?_set_self hi] at hk
            cases hk
            exact hP1 0 y (by simp)
          · rw [List.getElem?_set_ne (Ne.symm hki)] at hk
            exact hr k q hk (fun h => (List.mem_cons.mp h).elim hki hks))
        exact ⟨a, b.trans hm⟩
theorem k_join {A0 : Nat → Prop} {D : va_G} {ws wc w1 : va_W} {H H1 : Heap} (hP : va_P D classes ws H) (hD : va_D A0 ws) (is : List Nat) (hC : is.map (fun i => ws[i]?) = wc.map some) (hn : va_nd is = true) (he : w1.map Prod.fst = wc.map Prod.fst) (hk : ∀ q : Nat, q < H.size → ¬ va_A wc H.size q → H1[q]? = H[q]?) (hP1 : va_P D classes w1 H1) : va_P D classes (pall ws is w1) H1 ∧ va_D A0 (pall ws is w1) := by
  have hx : ∀ (k : Nat) (q : Nat × va_E), wc[k]? = some q → ∃ i, is[k]? = some i ∧ ws[i]? = some q := by
    intro k q hq
    have h1 : (is.map (fun i => ws[i]?))[k]? = some (some q) := by rw [hC, List.getElem?_map, hq]; rfl
    rw [List.getElem?_map] at h1
    cases hi : is[k]? with
    | none => rw [hi] at h1; cases h1
    | some i => rw [hi] at h1; exact ⟨i, rfl, Option.some.inj h1⟩
  obtain ⟨a, b⟩ := pall_P (H := H) (H1 := H1) is wc w1 ws hD hC he hn hP1 (fun k q hkq hks => by
    refine (hP k q hkq).kept (hk q.1 (hP k q hkq).lt (fun hA => ?_))
    rcases hA with ⟨j, ee, hj⟩ | hj
    · obtain ⟨i, hi1, hi2⟩ := hx j _ hj
      have hki := hD.1 k i q _ hkq hi2 rfl
      subst hki
      exact hks (List.mem_of_getElem? hi1)
    · exact absurd (hP k q hkq).lt (Nat.not_lt.mpr hj))
  exact ⟨a, hD.fst b⟩
theorem hm_t {α : Type} {c : Prop} [Decidable c] {a b : Option α} {r : α} (h : c) (hm : (if c then a else b) = some r) : a = some r := by rwa [if_pos h] at hm
theorem hm_f {α : Type} {c : Prop} [Decidable c] {a b : Option α} {r : α} (h : ¬ c) (hm : (if c then a else b) = some r) : b = some r := by rwa [if_neg h] at hm
theorem hm_g {α : Type} {c : Prop} [Decidable c] {b : Option α} {r : α} (hm : (if c then none else b) = some r) : ¬ c ∧ b = some r := by
  by_cases h : c
  · rw [if_pos h] at hm; cases hm
  · rw [if_neg h] at hm; exact ⟨h, hm⟩
theorem hm_b {α β : Type} {x : Option α} {f : α → Option β} {r : β} (hm : x.bind f = some r) : ∃ y, x = some y ∧ f y = some r := by
  cases x with
  | none => cases hm
  | some y => exact ⟨y, rfl, hm⟩
section KC
variable {p : Program} {l : Launch} {e : Env} {R : Room} {s : State} {m : MethodId} {ar : Array Value} {below : List Frame} {meth : Method} {c : Code} {H : Heap} {locs : List Loc} {cells slots : Nat} {Q : State → Prop}
variable {D : va_G} {cy : Nat → ClassId} {A : Nat → Prop} {cc : ByteArray} {pc nL : Nat} {ls : Array Slot} {rest st0 : List Value}
variable {y : MethodName} {bb : ByteArray} {n n9 index : Nat} {ret : Option FieldType} {fr lo mc ms fr0 lo0 mc0 ms0 : Nat} {g : Nat → Nat} {as : List Value} {wc w1 ws ws' : va_W} {rv : Option Value} {own : String} {st2 : List Value} {lvs : List (Nat × Value)}
theorem k_pre (hK : KX D cy s) (hP : va_P D classes ws H) (hD : va_D A ws) (hS : va_S A s.heap H locs) (hA : ∀ q : Nat, s.heap.size ≤ q → A q) (hC : CX g A s s.heap) (is : List Nat) (hn : va_nd is = true) (hcs : is.map (fun i => ws[i]?) = wc.map some) : PreS s H (va_Pc as (PW D cy g wc H.size)) as := by
  refine ⟨Con.blind, fun U hU hW => ⟨rfl, by rw [hU], ?_, hK.warm hW, (hD.sub is hn hcs).weaken (fun _ _ _ _ => trivial), ?_⟩⟩
  · rw [hU]
    refine hP.sub is ?_
    have h9 := congrArg (List.filterMap id) hcs
    rw [List.filterMap_map, List.filterMap_map] at h9
    simpa using h9
  · rw [hU]
    exact ((hC.kept hS.2.1).narrow (va_free hD hS hA is hcs)).warm hW
theorem k_call (hr : va_Run p l e R s m ar below meth c H locs cells slots mc ms (F0 m pc ls st0) rest (QW D w1 rv (va_A wc H.size) as.toArray) (va_A wc H.size)) (hP : va_P D classes ws H) (hD : va_D A ws) (hS : va_S A s.heap H locs) (hA : ∀ q : Nat, s.heap.size ≤ q → A q) (is : List Nat) (hn : va_nd is = true) (hcs : is.map (fun i => ws[i]?) = wc.map some) (he : w1.map Prod.fst = wc.map Prod.fst) (hws : pall ws is w1 = ws') (hst : rv.toList ++ rest = st2)
    (kk : ∀ (H1 : Heap) (locs1 : List Loc), va_P D classes ws' H1 → va_D A ws' → va_S A s.heap H1 locs1 → W p l e R s m ar below meth c H1 locs1 (cells + mc) (slots + ms) Q (F0 m (pc + 3) ls st2)) : W p l e R s m ar below meth c H locs cells slots Q (F0 m pc ls st0) := by
  intro T hT X
  obtain ⟨v, st₀, t, T', L, h0, X', hL, e1, e2, ⟨hv, hp, hz, hk⟩, st⟩ := hr T hT X
  have hv2 : v = rv := by cases hv; rfl
  subst hv2
  rw [h0] at hz hk
  subst hst
  subst hws
  have hf := va_free hD hS hA is hcs
  rw [← e1] at hp hz
  obtain ⟨hP2, hD2⟩ := k_join hP hD is hcs hn he (fun q h1 h2 => by rw [e1]; exact hk q h1 h2) hp
  obtain ⟨t2, a1, b1⟩ := kk T'.heap (locs ++ L) hP2 hD2
    ⟨Nat.le_trans hS.1 hz, fun q h1 h2 => by rw [e1, hk q (Nat.lt_of_lt_of_le h1 hS.1) (fun z => h2 (hf q z))]; exact hS.2.1 q h1 h2, fun q hq => by
      rcases List.mem_append.mp hq with h | h
      · exact hS.2.2 q h
      · exact hf _ (hL q h)⟩ T' rfl X'
  exact ⟨t2, st t2 a1, b1⟩
theorem k_S (hx : p.tables.exec = Jvm.exec) (hb : c.code = cc) (hml : c.maxLocals = nL) (hown : s.vm.findClass own = some m.cls) (ht : ∀ w ∈ LW, w.before ar s = true) (hK : KX D cy s) (hP : va_P D classes ws H) (hD : va_D A ws) (hS : va_S A s.heap H locs) (hA : ∀ q : Nat, s.heap.size ≤ q → A q) (hC : CX g A s s.heap) (hR : R = { frames := fr0, cells := mc0, slots := ms0, locals := lo0 }) (hl : lv_has ls nL lvs)
    (hM : Con l D cy g y bb n ret fr lo mc ms as wc w1 rv) (is : List Nat) (hwl : Cond.methodLink own index y ∈ LW) (hwi : Cond.static y ∈ LW) (hwn : Cond.initialized y.cls ∈ LW) (hwc : Cond.code y bb n ret ∈ LW) (hy : y.cls ≠ "java/lang/invoke/MethodHandle" ∧ y.cls ≠ "java/lang/invoke/VarHandle" ∧ (parseMethodDescriptor y.desc).map (fun d => d.parameters.length) = some as.length)
    (hfr : fr + 1 ≤ fr0 ∧ 8 + (n + 11) + lo ≤ lo0 ∧ cells + mc ≤ mc0 ∧ slots + ms ≤ ms0) (hn : va_nd is = true) (hcs : is.map (fun i => ws[i]?) = wc.map some) (he : w1.map Prod.fst = wc.map Prod.fst) (hst0 : st0 = as.reverse ++ rest) (hroom : (rest.map fun v => v.category).sum ≤ 8) (hdg : decode cc pc = .ok (.invokestatic index, 3)) (hws : pall ws is w1 = ws') (hst : rv.toList ++ rest = st2)
    (kk : ∀ (H1 : Heap) (locs1 : List Loc), va_P D classes ws' H1 → va_D A ws' → va_S A s.heap H1 locs1 → W p l e R s m ar below meth c H1 locs1 (cells + mc) (slots + ms) Q (F0 m (pc + 3) ls st2)) : W p l e R s m ar below meth c H locs cells slots Q (F0 m pc ls st0) := by
  subst hR
  refine k_call (as := as) (va_runS (As := as) (rest := rest) ⟨hx, hb, hml, hown, ht⟩ (hM H.size) (va_cwS as.length ht (fun w h => ?_) rfl rfl rfl hy ⟨hfr.1, hfr.2.1⟩) (k_pre hK hP hD hS hA hC is hn hcs) rfl rfl hl.1 hst0 (lv_room hroom) hdg ⟨hfr.2.2.1, hfr.2.2.2⟩) hP hD hS hA is hn hcs he hws hst kk
  simp only [va_wsS, List.mem_append, List.mem_cons, List.not_mem_nil, or_false] at h
  rcases h with (rfl | rfl | rfl) | rfl | h
  · exact ⟨hwl, Or.inl rfl⟩
  · exact ⟨hwi, Or.inl rfl⟩
  · exact ⟨hwn, Or.inl rfl⟩
  · exact ⟨hwc, Or.inl rfl⟩
  · exact ⟨h, good_of_word (LW_good w h)⟩
theorem k_V (hx : p.tables.exec = Jvm.exec) (hb : c.code = cc) (hml : c.maxLocals = nL) (hown : s.vm.findClass own = some m.cls) (ht : ∀ w ∈ LW, w.before ar s = true) (hK : KX D cy s) (hP : va_P D classes ws H) (hD : va_D A ws) (hS : va_S A s.heap H locs) (hA : ∀ q : Nat, s.heap.size ≤ q → A q) (hC : CX g A s s.heap) (hR : R = { frames := fr0, cells := mc0, slots := ms0, locals := lo0 }) (hl : lv_has ls nL lvs)
    {h0 ci i0 : Nat} {fs : List Value} {q0 : vw_C} (hM : Con l D cy g y bb n ret fr lo mc ms (.ref h0 :: as) wc w1 rv) (is : List Nat) (hwl : Cond.methodLink own index y ∈ LW) (hwi : Cond.instanceMethod y ∈ LW) (hws9 : Cond.selects y.cls y y ∈ LW) (hwn : Cond.initialized y.cls ∈ LW) (hwc : Cond.code y bb n ret ∈ LW) (hy : y.cls ≠ "java/lang/invoke/MethodHandle" ∧ y.cls ≠ "java/lang/invoke/VarHandle" ∧ (parseMethodDescriptor y.desc).map (fun d => d.parameters.length) = some as.length)
    (hrc : ws[i0]? = some (h0, .inr (ci, fs)) ∧ classes[ci]? = some q0 ∧ q0.1 = y.cls)
    (hfr : fr + 1 ≤ fr0 ∧ 8 + (n + 11) + lo ≤ lo0 ∧ cells + mc ≤ mc0 ∧ slots + ms ≤ ms0) (hn : va_nd is = true) (hcs : is.map (fun i => ws[i]?) = wc.map some) (he : w1.map Prod.fst = wc.map Prod.fst) (hst0 : st0 = as.reverse ++ .ref h0 :: rest) (hroom : (rest.map fun v => v.category).sum ≤ 8) (hdg : decode cc pc = .ok (.invokevirtual index, 3)) (hws : pall ws is w1 = ws') (hst : rv.toList ++ rest = st2)
    (kk : ∀ (H1 : Heap) (locs1 : List Loc), va_P D classes ws' H1 → va_D A ws' → va_S A s.heap H1 locs1 → W p l e R s m ar below meth c H1 locs1 (cells + mc) (slots + ms) Q (F0 m (pc + 3) ls st2)) : W p l e R s m ar below meth c H locs cells slots Q (F0 m pc ls st0) := by
  subst hR
  have hpre := k_pre (as := .ref h0 :: as) hK hP hD hS hA hC is hn hcs
  have hrec := va_recv hK.1 hP hrc.2.1 hrc.1
  rw [hrc.2.2] at hrec
  refine k_call (as := .ref h0 :: as) (va_runV (As := as) (rest := rest) ⟨hx, hb, hml, hown, ht⟩ (hM H.size) (cwV as.length ht (fun w h => ?_) rfl rfl rfl ⟨rfl, hy⟩ ⟨hfr.1, hfr.2.1⟩) ⟨hpre.1, hrec, hpre.2⟩ rfl rfl hl.1 hst0 (lv_room hroom) hdg ⟨hfr.2.2.1, hfr.2.2.2⟩) hP hD hS hA is hn hcs he hws hst kk
  simp only [wsV, List.mem_append, List.mem_cons, List.not_mem_nil, or_false] at h
  rcases h with (rfl | rfl | rfl | rfl) | rfl | h
  · exact ⟨hwl, Or.inl rfl⟩
  · exact ⟨hwi, Or.inl rfl⟩
  · exact ⟨hws9, Or.inl rfl⟩
  · exact ⟨hwn, Or.inl rfl⟩
  · exact ⟨hwc, Or.inl rfl⟩
  · exact ⟨h, good_of_word (LW_good w h)⟩
end KC
theorem k_narz {v : Int32} (h : ¬ ¬ (v = 0 ∨ v = 1)) : narrow .boolean (.int v) = .int v := by
  rcases Decidable.not_not.mp h with rfl | rfl <;> rfl
theorem k_fitz {v : Int32} (h : ¬ ¬ (v = 0 ∨ v = 1)) : fits .boolean (.int v) = true := by
  rcases Decidable.not_not.mp h with rfl | rfl <;> rfl
section KT
variable {p : Program} {l : Launch} {e : Env} {R : Room} {s : State} {m : MethodId} {ar : Array Value} {below : List Frame} {meth : Method} {c : Code} {H : Heap} {locs : List Loc} {cells slots : Nat} {Q : State → Prop} {pc : Nat} {ls : Array Slot} {rest : List Value}
theorem k_topi {x y : Int32} (h : x = y) (k : W p l e R s m ar below meth c H locs cells slots Q (F0 m pc ls (.int y :: rest))) : W p l e R s m ar below meth c H locs cells slots Q (F0 m pc ls (.int x :: rest)) := h ▸ k
theorem k_topl {x y : Int64} (h : x = y) (k : W p l e R s m ar below meth c H locs cells slots Q (F0 m pc ls (.long y :: rest))) : W p l e R s m ar below meth c H locs cells slots Q (F0 m pc ls (.long x :: rest)) := h ▸ k
end KT
theorem in_RX2 : ∀ w ∈ u_ws RX2 TX2 5, w ∈ LW := by decide +kernel
theorem in_RX4 : ∀ w ∈ u_ws RX4 TX4 8, w ∈ LW := by decide +kernel
theorem in_RX5 : ∀ w ∈ u_ws RX5 TX5 1, w ∈ LW := by decide +kernel
theorem in_RX6 : ∀ w ∈ u_ws RX6 TX6 2, w ∈ LW := by decide +kernel
theorem in_RX7 : ∀ w ∈ u_ws RX7 TX7 6, w ∈ LW := by decide +kernel
theorem in_RX8 : ∀ w ∈ u_ws RX8 TX8 2, w ∈ LW := by decide +kernel
theorem in_RX10 : ∀ w ∈ u_ws RX10 TX10 3, w ∈ LW := by decide +kernel
theorem in_RX11 : ∀ w ∈ u_ws RX11 TX11 5, w ∈ LW := by decide +kernel
theorem in_RX12 : ∀ w ∈ u_ws RX12 TX12 12, w ∈ LW := by decide +kernel
theorem in_RX13 : ∀ w ∈ u_ws RX13 TX13 13, w ∈ LW := by decide +kernel
theorem in_RJ0 : ∀ w ∈ u_ws RJ0 TJ0 4, w ∈ LW := by decide +kernel
theorem k_swout {x : Int32} {lo hi : Int} (h : ∀ j : Int, lo ≤ j → j ≤ hi → ¬ x = Int32.ofInt j) : x.toInt < lo ∨ hi < x.toInt := by
  by_cases h1 : x.toInt < lo
  · exact Or.inl h1
  · by_cases h2 : hi < x.toInt
    · exact Or.inr h2
    · exact absurd (Int32.ofInt_toInt x).symm (h _ (by omega) (by omega))
section KA
variable {p : Program} {l : Launch} {e : Env} {R : Room} {s : State} {m : MethodId} {ar : Array Value} {below : List Frame} {meth : Method} {c : Code} {H : Heap} {locs : List Loc} {cells slots : Nat} {Q : State → Prop}
variable {cc : ByteArray} {pc nL : Nat} {ls : Array Slot} {rest st0 : List Value} {D : va_G} {cl : List vw_C} {A : Nat → Prop} {a : Nat} {tys : List (ClassId × FieldType)} {ws : va_W}
theorem k_aldA (hexec : p.tables.exec = Jvm.exec) (hb : c.code = cc) (hK : va_K D cl tys s) (hP : va_P D cl ws H) (q0 t0 : Nat) {cA : ClassId} {ty : FieldType} {n : Nat} {rw : Nat → Nat} (ha : ws[q0]? = some (a, .inl (cA, n, .inr (.inr (.inr (.inr (fun j => some (rw j)))))))) (ht : tys[t0]? = some (cA, .array ty)) {i : Int32} (hin : vp_in i n) (hdg : decode cc pc = .ok (.aaload, 1))
    (kk : W p l e R s m ar below meth c H locs cells slots Q (F0 m (pc + 1) ls (.ref (rw i.toNatClampNeg) :: rest))) : W p l e R s m ar below meth c H locs cells slots Q (F0 m pc ls (.int i :: .ref a :: rest)) := by
  have hlt : i.toNatClampNeg < n := Nat.not_le.mp fun q => hin (Or.inr q)
  exact W.aald (v := .ref (rw i.toNatClampNeg)) (ty := .array ty) hexec hb (hP q0 _ ha) ((hK.2 t0 _ ht).1 n (fun j => va_rf (some (rw j)))) rfl (fun q => by cases q) (by show ¬ (i < 0 ∨ (arrV _ _ _).slots.size ≤ _); rw [arrV_size]; exact hin) (by show (arrV _ _ _).slots[_]? = _; rw [arrV_read _ _ hlt]; rfl) rfl rfl hdg kk
variable {cy : Nat → ClassId} {y : MethodName} {bb : ByteArray} {n index : Nat} {ret : Option FieldType} {fr lo mc ms fr0 lo0 mc0 ms0 : Nat} {g : Nat → Nat} {as : List Value} {wc w1 ws' : va_W} {rv : Option Value} {own : String} {st2 : List Value} {lvs : List (Nat × Value)} {host : String}
theorem k_SN (hx : p.tables.exec = Jvm.exec) (hb : c.code = cc) (hml : c.maxLocals = nL) (hown : s.vm.findClass own = some m.cls) (ht : ∀ w ∈ LW, w.before ar s = true) (hK : KX D cy s) (hP : va_P D classes ws H) (hD : va_D A ws) (hS : va_S A s.heap H locs) (hA : ∀ q : Nat, s.heap.size ≤ q → A q) (hC : CX g A s s.heap) (hR : R = { frames := fr0, cells := mc0, slots := ms0, locals := lo0 }) (hl : lv_has ls nL lvs)
    (hM : Con l D cy g y bb n ret fr lo mc ms as wc w1 rv) (is : List Nat) (hwl : Cond.methodLinkNest own index y host ∈ NW) (hwi : Cond.static y ∈ LW) (hwn : Cond.initialized y.cls ∈ LW) (hwc : Cond.code y bb n ret ∈ LW) (hy : y.cls ≠ "java/lang/invoke/MethodHandle" ∧ y.cls ≠ "java/lang/invoke/VarHandle" ∧ (parseMethodDescriptor y.desc).map (fun d => d.parameters.length) = some as.length)
    (hfr : fr + 1 ≤ fr0 ∧ 8 + (n + 11) + lo ≤ lo0 ∧ cells + mc ≤ mc0 ∧ slots + ms ≤ ms0) (hn : va_nd is = true) (hcs : is.map (fun i => ws[i]?) = wc.map some) (he : w1.map Prod.fst = wc.map Prod.fst) (hst0 : st0 = as.reverse ++ rest) (hroom : (rest.map fun v => v.category).sum ≤ 8) (hdg : decode cc pc = .ok (.invokestatic index, 3)) (hws : pall ws is w1 = ws') (hst : rv.toList ++ rest = st2)
    (kk : ∀ (H1 : Heap) (locs1 : List Loc), va_P D classes ws' H1 → va_D A ws' → va_S A s.heap H1 locs1 → W p l e R s m ar below meth c H1 locs1 (cells + mc) (slots + ms) Q (F0 m (pc + 3) ls st2)) : W p l e R s m ar below meth c H locs cells slots Q (F0 m pc ls st0) := by
  subst hR
  refine k_call (as := as) (va_runSN (As := as) (rest := rest) ⟨hx, hb, hml, hown, ht⟩ (hM H.size) ⟨va_cnB as.length ht (fun w h => ?_) rfl rfl rfl (hK.2 _ hwl) (ht _ hwn) hy ⟨hfr.1, hfr.2.1⟩, ht _ hwi, trivial⟩ (k_pre hK hP hD hS hA hC is hn hcs) rfl rfl hl.1 hst0 (lv_room hroom) hdg ⟨hfr.2.2.1, hfr.2.2.2⟩) hP hD hS hA is hn hcs he hws hst kk
  rcases List.mem_cons.mp h with rfl | h
  · exact ⟨hwc, Or.inl rfl⟩
  · exact ⟨h, good_of_word (LW_good w h)⟩
theorem k_VN (hx : p.tables.exec = Jvm.exec) (hb : c.code = cc) (hml : c.maxLocals = nL) (hown : s.vm.findClass own = some m.cls) (ht : ∀ w ∈ LW, w.before ar s = true) (hK : KX D cy s) (hP : va_P D classes ws H) (hD : va_D A ws) (hS : va_S A s.heap H locs) (hA : ∀ q : Nat, s.heap.size ≤ q → A q) (hC : CX g A s s.heap) (hR : R = { frames := fr0, cells := mc0, slots := ms0, locals := lo0 }) (hl : lv_has ls nL lvs)
    {h0 ci i0 : Nat} {fs : List Value} {q0 : vw_C} (hM : Con l D cy g y bb n ret fr lo mc ms (.ref h0 :: as) wc w1 rv) (is : List Nat) (hwl : Cond.methodLinkNest own index y host ∈ NW) (hwi : Cond.instanceMethod y ∈ LW) (hws9 : Cond.selects y.cls y y ∈ LW) (hwn : Cond.initialized y.cls ∈ LW) (hwc : Cond.code y bb n ret ∈ LW) (hy : y.cls ≠ "java/lang/invoke/MethodHandle" ∧ y.cls ≠ "java/lang/invoke/VarHandle" ∧ (parseMethodDescriptor y.desc).map (fun d => d.parameters.length) = some as.length)
    (hrc : ws[i0]? = some (h0, .inr (ci, fs)) ∧ classes[ci]? = some q0 ∧ q0.1 = y.cls)
    (hfr : fr + 1 ≤ fr0 ∧ 8 + (n + 11) + lo ≤ lo0 ∧ cells + mc ≤ mc0 ∧ slots + ms ≤ ms0) (hn : va_nd is = true) (hcs : is.map (fun i => ws[i]?) = wc.map some) (he : w1.map Prod.fst = wc.map Prod.fst) (hst0 : st0 = as.reverse ++ .ref h0 :: rest) (hroom : (rest.map fun v => v.category).sum ≤ 8) (hdg : decode cc pc = .ok (.invokevirtual index, 3)) (hws : pall ws is w1 = ws') (hst : rv.toList ++ rest = st2)
    (kk : ∀ (H1 : Heap) (locs1 : List Loc), va_P D classes ws' H1 → va_D A ws' → va_S A s.heap H1 locs1 → W p l e R s m ar below meth c H1 locs1 (cells + mc) (slots + ms) Q (F0 m (pc + 3) ls st2)) : W p l e R s m ar below meth c H locs cells slots Q (F0 m pc ls st0) := by
  subst hR
  have hpre := k_pre (as := .ref h0 :: as) hK hP hD hS hA hC is hn hcs
  have hrec := va_recv hK.1 hP hrc.2.1 hrc.1
  rw [hrc.2.2] at hrec
  refine k_call (as := .ref h0 :: as) (va_runVN (As := as) (rest := rest) ⟨hx, hb, hml, hown, ht⟩ (hM H.size) ⟨va_cnB as.length ht (fun w h => ?_) rfl rfl rfl (hK.2 _ hwl) (ht _ hwn) hy ⟨hfr.1, hfr.2.1⟩, ht _ hwi, ht _ hws9⟩ ⟨hpre.1, hrec, hpre.2⟩ rfl rfl hl.1 hst0 (lv_room hroom) hdg ⟨hfr.2.2.1, hfr.2.2.2⟩) hP hD hS hA is hn hcs he hws hst kk
  rcases List.mem_cons.mp h with rfl | h
  · exact ⟨hwc, Or.inl rfl⟩
  · exact ⟨h, good_of_word (LW_good w h)⟩
end KA
