/-! arrays of arrays: what the tables say of them, kept by the state -/
def va_AOA (ty : FieldType) (U : State) : Prop := (Cond.arrayOver (.array ty)).before #[] U = true
theorem va_AOA.of {ty : FieldType} {A : Array Value} {U : State} (h : (Cond.arrayOver (.array ty)).before A U = true) : va_AOA ty U := h
theorem va_AOA.use {ty : FieldType} {A : Array Value} {U : State} (h : va_AOA ty U) : (Cond.arrayOver (.array ty)).before A U = true := h
theorem va_AOA.moved {ty : FieldType} {u U : State} (hvm : u.vm.Alike U.vm) (h : va_AOA ty u) : va_AOA ty U := over_moved hvm h
/-! contracts that leave new cells -/
def QWE (D : va_G) (w1 : (Nat → Nat → Nat) → va_W) (E : (Nat → Nat → Nat) → va_W) (rv : (Nat → Nat → Nat) → Option Value) (A : Nat → Prop) : Array Value → State → Outcome → State → Prop := fun _ st oc t => (∃ u : Nat → Nat → Nat, oc = .returned (rv u) ∧ va_P D classes (w1 u ++ E u) t.heap ∧ va_D (fun q => st.heap.size ≤ q) (E u)) ∧ va_F A st t
def KY (U : State) : Prop := va_AO "RadixDesk$Statement" U ∧ va_AOA .boolean U
theorem KY.warm {s U : State} (hW : s.WarmedH U.vm) (h : KY s) : KY U := ⟨va_AO.moved hW.alike h.1, va_AOA.moved hW.alike h.2⟩
theorem KY.calling {U : State} {g : JFrame} {mk : MethodId} {a : Array Value} (h : KY U) : KY (U.calling g mk a) := ⟨va_AO.moved (u := U) (U := U.calling g mk a) (Vm.Alike.refl U.vm) h.1, va_AOA.moved (u := U) (U := U.calling g mk a) (Vm.Alike.refl U.vm) h.2⟩
def PWE (D : va_G) (cy : Nat → ClassId) (g : Nat → Nat) (w0 : va_W) (sz : Nat) (U : State) : Prop := PW D cy g w0 sz U ∧ KY U
def ConE (l : Launch) (D : va_G) (cy : Nat → ClassId) (g : Nat → Nat) (y : MethodName) (b : ByteArray) (n : Nat) (ret : Option FieldType) (fr lo mc ms : Nat) (as : List Value) (w0 : va_W) (w1 E : (Nat → Nat → Nat) → va_W) (rv : (Nat → Nat → Nat) → Option Value) : Prop :=
  ∀ sz : Nat, Met l y (.code y b n ret :: LW) { frames := fr, cells := mc, slots := ms, locals := lo } (va_Pc as (PWE D cy g w0 sz)) (QWE D w1 E rv (va_A w0 sz)) mc ms (va_A w0 sz)
theorem ConE.of {l : Launch} {D : va_G} {cy : Nat → ClassId} {y : MethodName} {b : ByteArray} {n : Nat} {ret : Option FieldType} {fr lo mc ms : Nat} {g : Nat → Nat} {as : List Value} {w0 : va_W} {w1 E : (Nat → Nat → Nat) → va_W} {rv : (Nat → Nat → Nat) → Option Value} (hy : plainName y.cls = true) (hn : (lg_sl as).length ≤ n)
    (body : ∀ (p : Program) (e : Env) (R : Room) (s : State) (m : MethodId) (ar : Array Value) (below : List Frame) (meth : Method) (c : Code) (A : Nat → Prop) (Qc : Array Value → State → Outcome → State → Prop) (ls : Array Slot),
      p.tables.exec = Jvm.exec → c.code = b → meth.sig.returnType = ret → c.maxLocals = n → s.vm.findClass y.cls = some m.cls → meth.locks = false → meth.name = y.name → (∀ w ∈ LW, w.before ar s = true) → KX D cy s → KY s → va_P D classes w0 s.heap → va_D A w0 → va_S A s.heap s.heap [] → (∀ q : Nat, s.heap.size ≤ q → A q) → A = va_A w0 s.heap.size → R = { frames := fr, cells := mc, slots := ms, locals := lo } → CX g A s s.heap → Qc = QWE D w1 E rv A → lv_has ls n (lv_args 0 as) →
      W p l e R s m ar below meth c s.heap [] 0 0 (MQ below Qc ar s mc ms A) (F0 m 0 ls [])) : ConE l D cy g y b n ret fr lo mc ms as w0 w1 E rv := by
  intro sz
  refine Met.ofW (cc := b) (maxL := n) (ret := ret) hy rfl ?_
  intro p e s m args below meth c s₁ B hml hv
  obtain ⟨rfl, ⟨hsz, hP, hK, hD0, hC⟩, hY⟩ := hv
  subst hsz
  have hts := atoms_spec (ws := (.code y b n ret :: LW)) B.pre
  rw [lg_entry_eq]
  exact body p e _ s m as.toArray below meth c (va_A w0 s.heap.size) _ _ B.exec B.bytes B.returns hml (findClass_of_methodNamed B.named) B.notSynchronized (name_of_methodNamed B.named B.method).1 (fun w hw => hts w (List.mem_cons_of_mem _ hw)) hK hY hP hD0.self va_S.rf (fun q h => Or.inr h) rfl rfl hC rfl (lv_entry as hn)
theorem ke_fresh {w0 w1 E : va_W} {sz : Nat} (h : va_D (va_A w0 sz) (w1 ++ E)) (hf : w1.map Prod.fst = w0.map Prod.fst) : va_D (fun q => sz ≤ q) E := by
  refine ⟨fun i j x y hi hj hxy => ?_, fun k q hk => ?_⟩
  · have h1 := h.1 (w1.length + i) (w1.length + j) x y (by rw [List.getElem?_append_right (by omega)]; simpa using hi) (by rw [List.getElem?_append_right (by omega)]; simpa using hj) hxy
    omega
  · have hk2 : (w1 ++ E)[w1.length + k]? = some q := by rw [List.getElem?_append_right (by omega)]; simpa using hk
    rcases h.2 _ q hk2 with ⟨k0, e0, h0⟩ | h0
    · exfalso
      have h1 : (w0.map Prod.fst)[k0]? = some q.1 := by rw [List.getElem?_map, h0]; rfl
      rw [← hf, List.getElem?_map] at h1
      cases h2 : w1[k0]? with
      | none => rw [h2] at h1; cases h1
      | some q1 =>
        rw [h2] at h1
        have hlt : k0 < w1.length := (List.getElem?_eq_some_iff.mp h2).1
        have h3 : (w1 ++ E)[k0]? = some q1 := by rw [List.getElem?_append_left hlt]; exact h2
        have := h.1 _ _ _ _ h3 hk2 (Option.some.inj h1)
        omega
    · exact h0
theorem ke_push {A : Nat → Prop} {H0 H1 : Heap} {D : va_G} {ws E : va_W} {sz : Nat} (hD : va_D A ws) (hlt : ∀ (k : Nat) (q : Nat × va_E), ws[k]? = some q → q.1 < sz) (hE : va_D (fun q => sz ≤ q) E) (hA : ∀ q : Nat, sz ≤ q → A q) : va_D A (ws ++ E) := by
  have spl : ∀ (k : Nat) (q : Nat × va_E), (ws ++ E)[k]? = some q → (k < ws.length ∧ ws[k]? = some q) ∨ (ws.length ≤ k ∧ E[k - ws.length]? = some q) := by
    intro k q hk
    by_cases h : k < ws.length
    · rw [List.getElem?_append_left h] at hk; exact Or.inl ⟨h, hk⟩
    · rw [List.getElem?_append_right (by omega)] at hk; exact Or.inr ⟨by omega, hk⟩
  refine ⟨fun i j x y hi hj hxy => ?_, fun k q hk => ?_⟩
  · rcases spl i x hi with ⟨a1, a2⟩ | ⟨a1, a2⟩ <;> rcases spl j y hj with ⟨b1, b2⟩ | ⟨b1, b2⟩
    · exact hD.1 _ _ _ _ a2 b2 hxy
    · have h1 := hlt _ _ a2
      have h2 : sz ≤ y.1 := hE.2 _ _ b2
      rw [hxy] at h1; exact absurd h1 (by omega)
    · have h1 := hlt _ _ b2
      have h2 : sz ≤ x.1 := hE.2 _ _ a2
      rw [hxy] at h2; exact absurd h1 (by omega)
    · have := hE.1 _ _ _ _ a2 b2 hxy
      omega
  · rcases spl k q hk with ⟨-, a2⟩ | ⟨-, a2⟩
    · exact hD.2 _ _ a2
    · exact hA _ (hE.2 _ _ a2)
theorem set_fst {ws : va_W} {i : Nat} {y : Nat × va_E} (h : (ws[i]?).map Prod.fst = some y.1) : (ws.set i y).map Prod.fst = ws.map Prod.fst := by
  apply List.ext_getElem?
  intro j
  rw [List.getElem?_map, List.getElem?_map]
  by_cases hj : j = i
  · subst hj
    cases h0 : ws[j]? with
    | none => rw [h0] at h; cases h
    | some q0 =>
      rw [List.getElem?_set_self (List.getElem?_eq_some_iff.mp h0).1]
      rw [h0] at h
      exact h.symm
  · rw [List.getElem?_set_ne (Ne.symm hj)]
theorem pall_fst : ∀ (is : List Nat) (w1 ws wc : va_W), is.map (fun i => ws[i]?) = wc.map some → w1.map Prod.fst = wc.map Prod.fst → (pall ws is w1).map Prod.fst = ws.map Prod.fst := by
  have key : ∀ (is : List Nat) (w1 ws : va_W), is.map (fun i => (ws[i]?).map Prod.fst) = w1.map (fun q => some q.1) → (pall ws is w1).map Prod.fst = ws.map Prod.fst := by
    intro is
    induction is with
    | nil => intro w1 ws h; cases w1 <;> rfl
    | cons i is ih =>
      intro w1 ws h
      cases w1 with
      | nil => rfl
      | cons y w1 =>
        simp only [List.map_cons, List.cons.injEq] at h
        have hm := set_fst h.1
        show (pall (ws.set i y) is w1).map Prod.fst = _
        rw [ih w1 (ws.set i y) ?_, hm]
        rw [← h.2]
        apply List.map_congr_left
        intro j _
        have h9 := congrArg (fun l => l[j]?) hm
        simp only [List.getElem?_map] at h9
        exact h9
  intro is w1 ws wc h1 h2
  refine key is w1 ws ?_
  have h3 := congrArg (List.map (Option.map Prod.fst)) h1
  rw [List.map_map, List.map_map] at h3
  have h4 := congrArg (List.map some) h2
  rw [List.map_map, List.map_map] at h4
  exact h3.trans h4.symm
section KE
variable {p : Program} {l : Launch} {e : Env} {R : Room} {s : State} {m : MethodId} {ar : Array Value} {below : List Frame} {meth : Method} {c : Code} {H : Heap} {locs : List Loc} {cells slots : Nat} {Q : State → Prop}
variable {D : va_G} {A : Nat → Prop} {Qc : Array Value → State → Outcome → State → Prop} {cc : ByteArray} {pc nL : Nat} {ls : Array Slot} {rest st0 : List Value} {cy : Nat → ClassId}
variable {y : MethodName} {bb : ByteArray} {n n9 index : Nat} {ret : Option FieldType} {fr lo mc ms fr0 lo0 mc0 ms0 : Nat} {g : Nat → Nat} {as : List Value} {wc ws ws' w0 : va_W} {w1 E wa wb : (Nat → Nat → Nat) → va_W} {rv : (Nat → Nat → Nat) → Option Value} {own : String} {st2 : List Value} {lvs : List (Nat × Value)}
theorem k_vretE (hx : p.tables.exec = Jvm.exec) (hb : c.code = cc) (hr : meth.sig.returnType = none) (hlocks : meth.locks = false) (hQc : Qc = QWE D w1 E rv A) (hA9 : A = va_A w0 s.heap.size) (hP : va_P D classes ws H) (hD : va_D A ws) (hS : va_S A s.heap H locs) (u : Nat → Nat → Nat) (hrv : rv u = none) (hw : ws = w1 u ++ E u) (hf : ∀ u, (w1 u).map Prod.fst = w0.map Prod.fst) (hdg : decode cc pc = .ok (.return_, 1)) : W p l e R s m ar below meth c H locs cells slots (MQ below Qc ar s cells slots A) (F0 m pc ls []) := by
  subst hQc; subst hw
  have hDE : va_D (fun q => s.heap.size ≤ q) (E u) := by rw [hA9] at hD; exact ke_fresh hD (hf u)
  exact W.vret hx hb hr (fun t ht hW => ⟨⟨u, by rw [hrv], by rw [ht]; exact hP, hDE⟩, hS.F ht⟩) hS.2.2 hdg hlocks
theorem k_iretE {v : Int32} (hx : p.tables.exec = Jvm.exec) (hb : c.code = cc) (hr : meth.sig.returnType = some .int) (hlocks : meth.locks = false) (hQc : Qc = QWE D w1 E rv A) (hA9 : A = va_A w0 s.heap.size) (hP : va_P D classes ws H) (hD : va_D A ws) (hS : va_S A s.heap H locs) (u : Nat → Nat → Nat) (hrv : rv u = some (.int v)) (hw : ws = w1 u ++ E u) (hf : ∀ u, (w1 u).map Prod.fst = w0.map Prod.fst) (hdg : decode cc pc = .ok (.ireturn, 1)) : W p l e R s m ar below meth c H locs cells slots (MQ below Qc ar s cells slots A) (F0 m pc ls [.int v]) := by
  subst hQc; subst hw
  have hDE : va_D (fun q => s.heap.size ≤ q) (E u) := by rw [hA9] at hD; exact ke_fresh hD (hf u)
  exact W.iret hx hb hr (fun t ht hW => ⟨⟨u, by rw [hrv], by rw [ht]; exact hP, hDE⟩, hS.F ht⟩) hS.2.2 hdg hlocks
theorem k_aretE {a : Nat} {rt : FieldType} (hx : p.tables.exec = Jvm.exec) (hb : c.code = cc) (hr : meth.sig.returnType = some rt) (hrt : (∃ n, rt = .object n) ∨ ∃ t, rt = .array t) (hlocks : meth.locks = false) (hQc : Qc = QWE D w1 E rv A) (hA9 : A = va_A w0 s.heap.size) (hP : va_P D classes ws H) (hD : va_D A ws) (hS : va_S A s.heap H locs) (u : Nat → Nat → Nat) (hrv : rv u = some (.ref a)) (hw : ws = w1 u ++ E u) (hf : ∀ u, (w1 u).map Prod.fst = w0.map Prod.fst) (hdg : decode cc pc = .ok (.areturn, 1)) : W p l e R s m ar below meth c H locs cells slots (MQ below Qc ar s cells slots A) (F0 m pc ls [.ref a]) := by
  subst hQc; subst hw
  have hDE : va_D (fun q => s.heap.size ≤ q) (E u) := by rw [hA9] at hD; exact ke_fresh hD (hf u)
  exact W.aret hx hb hr hrt (Or.inr ⟨_, rfl⟩) (fun t ht hW => ⟨⟨u, by rw [hrv], by rw [ht]; exact hP, hDE⟩, hS.F ht⟩) hS.2.2 hdg hlocks
theorem k_preE (hK : KX D cy s) (hY : KY s) (hP : va_P D classes ws H) (hD : va_D A ws) (hS : va_S A s.heap H locs) (hA : ∀ q : Nat, s.heap.size ≤ q → A q) (hC : CX g A s s.heap) (is : List Nat) (hn : va_nd is = true) (hcs : is.map (fun i => ws[i]?) = wc.map some) : PreS s H (va_Pc as (PWE D cy g wc H.size)) as := by
  obtain ⟨h1, h2⟩ := k_pre (as := as) hK hP hD hS hA hC is hn hcs
  refine ⟨fun a U f mk q => ?_, fun U hU hW => ?_⟩
  · obtain ⟨q0, q1, q2⟩ := q
    have h3 := Con.blind a U f mk ⟨q0, q1⟩
    exact ⟨h3.1, h3.2, q2.calling⟩
  · have h3 := h2 U hU hW
    exact ⟨h3.1, h3.2, hY.warm hW⟩
theorem k_callE (hr : va_Run p l e R s m ar below meth c H locs cells slots mc ms (F0 m pc ls st0) rest (QWE D w1 E rv (va_A wc H.size) as.toArray) (va_A wc H.size)) (hP : va_P D classes ws H) (hD : va_D A ws) (hS : va_S A s.heap H locs) (hA : ∀ q : Nat, s.heap.size ≤ q → A q) (is : List Nat) (hn : va_nd is = true) (hcs : is.map (fun i => ws[i]?) = wc.map some) (he : ∀ u, (w1 u).map Prod.fst = wc.map Prod.fst) (hws : ∀ u, pall ws is (w1 u) = wa u ++ wb u)
    (kk : ∀ (u : Nat → Nat → Nat) (H1 : Heap) (locs1 : List Loc), va_P D classes ((wa u ++ E u) ++ wb u) H1 → va_D A ((wa u ++ E u) ++ wb u) → va_S A s.heap H1 locs1 → W p l e R s m ar below meth c H1 locs1 (cells + mc) (slots + ms) Q (F0 m (pc + 3) ls ((rv u).toList ++ rest))) : W p l e R s m ar below meth c H locs cells slots Q (F0 m pc ls st0) := by
  intro T hT X
  obtain ⟨v, st₀, t, T', L, h0, X', hL, e1, e2, ⟨⟨u, hv, hp, hE⟩, hz, hk⟩, st⟩ := hr T hT X
  have hv2 : v = rv u := by cases hv; rfl
  subst hv2
  rw [h0] at hz hk hE
  have hf := va_free hD hS hA is hcs
  rw [← e1] at hp hz
  have hp1 : va_P D classes (w1 u) T'.heap := fun k q hk => hp k q (by rw [List.getElem?_append_left (List.getElem?_eq_some_iff.mp hk).1]; exact hk)
  have hp2 : va_P D classes (E u) T'.heap := fun k q hk => hp ((w1 u).length + k) q (by rw [List.getElem?_append_right (by omega)]; simpa using hk)
  obtain ⟨hP2, hD2⟩ := k_join hP hD is hcs hn (he u) (fun q h1 h2 => by rw [e1]; exact hk q h1 h2) hp1
  rw [hws u] at hP2 hD2
  have hP3 : va_P D classes ((wa u ++ wb u) ++ E u) T'.heap := hP2.app hp2
  have hfst : (wa u ++ wb u).map Prod.fst = ws.map Prod.fst := by rw [← hws u]; exact (pall_fst is (w1 u) ws wc hcs (he u))
  have hD3 : va_D A ((wa u ++ wb u) ++ E u) := ke_push (H0 := H) (H1 := H) (D := D) hD2 (fun k q hk => by
    have h1 : ((wa u ++ wb u).map Prod.fst)[k]? = some q.1 := by rw [List.getElem?_map, hk]; rfl
    rw [hfst, List.getElem?_map] at h1
    cases h2 : ws[k]? with
    | none => rw [h2] at h1; cases h1
    | some q0 =>
      rw [h2] at h1
      have := (hP k q0 h2).lt
      rw [← Option.some.inj h1]; exact this) hE (fun q hq => hA q (Nat.le_trans hS.1 hq))
  obtain ⟨t2, a1, b1⟩ := kk u T'.heap (locs ++ L) hP3.swap hD3.swap
    ⟨Nat.le_trans hS.1 hz, fun q h1 h2 => by rw [e1, hk q (Nat.lt_of_lt_of_le h1 hS.1) (fun z => h2 (hf q z))]; exact hS.2.1 q h1 h2, fun q hq => by
      rcases List.mem_append.mp hq with h | h
      · exact hS.2.2 q h
      · exact hf _ (hL q h)⟩ T' rfl X'
  exact ⟨t2, st t2 a1, b1⟩
theorem k_IE (hx : p.tables.exec = Jvm.exec) (hb : c.code = cc) (hml : c.maxLocals = nL) (hown : s.vm.findClass own = some m.cls) (ht : ∀ w ∈ LW, w.before ar s = true) (hK : KX D cy s) (hY : KY s) (hP : va_P D classes ws H) (hD : va_D A ws) (hS : va_S A s.heap H locs) (hA : ∀ q : Nat, s.heap.size ≤ q → A q) (hC : CX g A s s.heap) (hR : R = { frames := fr0, cells := mc0, slots := ms0, locals := lo0 }) (hl : lv_has ls nL lvs)
    {h0 : Nat} (hM : ConE l D cy g y bb n none fr lo mc ms (.ref h0 :: as) wc w1 E rv) (is : List Nat) (hwl : Cond.methodLink own index y ∈ LW) (hwi : Cond.instanceMethod y ∈ LW) (hwn : Cond.initialized y.cls ∈ LW) (hwc : Cond.code y bb n none ∈ LW) (hy : y.cls ≠ "java/lang/invoke/MethodHandle" ∧ y.cls ≠ "java/lang/invoke/VarHandle" ∧ (parseMethodDescriptor y.desc).map (fun d => d.parameters.length) = some as.length) (hy1 : y.name = "<init>")
    (hfr : fr + 1 ≤ fr0 ∧ 8 + (n + 11) + lo ≤ lo0 ∧ cells + mc ≤ mc0 ∧ slots + ms ≤ ms0) (hn : va_nd is = true) (hcs : is.map (fun i => ws[i]?) = wc.map some) (he : ∀ u, (w1 u).map Prod.fst = wc.map Prod.fst) (hst0 : st0 = as.reverse ++ .ref h0 :: rest) (hroom : (rest.map fun v => v.category).sum ≤ 8) (hdg : decode cc pc = .ok (.invokespecial index, 3)) (hws : ∀ u, pall ws is (w1 u) = wa u ++ wb u)
    (kk : ∀ (u : Nat → Nat → Nat) (H1 : Heap) (locs1 : List Loc), va_P D classes ((wa u ++ E u) ++ wb u) H1 → va_D A ((wa u ++ E u) ++ wb u) → va_S A s.heap H1 locs1 → W p l e R s m ar below meth c H1 locs1 (cells + mc) (slots + ms) Q (F0 m (pc + 3) ls ((rv u).toList ++ rest))) : W p l e R s m ar below meth c H locs cells slots Q (F0 m pc ls st0) := by
  subst hR
  refine k_callE (as := .ref h0 :: as) (va_runI (As := as) (rest := rest) ⟨hx, hb, hml, hown, ht⟩ (hM H.size) (cwI as.length ht (fun w h => ?_) rfl rfl rfl (ht _ hwn) (ht _ hwl) (ht _ hwi) hy1 hy ⟨hfr.1, hfr.2.1⟩) (k_preE hK hY hP hD hS hA hC is hn hcs) rfl rfl hl.1 hst0 (lv_room hroom) hdg ⟨hfr.2.2.1, hfr.2.2.2⟩) hP hD hS hA is hn hcs he hws kk
  rcases List.mem_cons.mp h with rfl | h
  · exact ⟨hwc, Or.inl rfl⟩
  · exact ⟨h, good_of_word (LW_good w h)⟩
theorem k_IEN {host : String} (hx : p.tables.exec = Jvm.exec) (hb : c.code = cc) (hml : c.maxLocals = nL) (hown : s.vm.findClass own = some m.cls) (ht : ∀ w ∈ LW, w.before ar s = true) (hK : KX D cy s) (hY : KY s) (hP : va_P D classes ws H) (hD : va_D A ws) (hS : va_S A s.heap H locs) (hA : ∀ q : Nat, s.heap.size ≤ q → A q) (hC : CX g A s s.heap) (hR : R = { frames := fr0, cells := mc0, slots := ms0, locals := lo0 }) (hl : lv_has ls nL lvs)
    {h0 : Nat} (hM : ConE l D cy g y bb n none fr lo mc ms (.ref h0 :: as) wc w1 E rv) (is : List Nat) (hwl : Cond.methodLinkNest own index y host ∈ NW) (hwi : Cond.instanceMethod y ∈ LW) (hwn : Cond.initialized y.cls ∈ LW) (hwc : Cond.code y bb n none ∈ LW) (hy : y.cls ≠ "java/lang/invoke/MethodHandle" ∧ y.cls ≠ "java/lang/invoke/VarHandle" ∧ (parseMethodDescriptor y.desc).map (fun d => d.parameters.length) = some as.length) (hy1 : y.name = "<init>")
    (hfr : fr + 1 ≤ fr0 ∧ 8 + (n + 11) + lo ≤ lo0 ∧ cells + mc ≤ mc0 ∧ slots + ms ≤ ms0) (hn : va_nd is = true) (hcs : is.map (fun i => ws[i]?) = wc.map some) (he : ∀ u, (w1 u).map Prod.fst = wc.map Prod.fst) (hst0 : st0 = as.reverse ++ .ref h0 :: rest) (hroom : (rest.map fun v => v.category).sum ≤ 8) (hdg : decode cc pc = .ok (.invokespecial index, 3)) (hws : ∀ u, pall ws is (w1 u) = wa u ++ wb u)
    (kk : ∀ (u : Nat → Nat → Nat) (H1 : Heap) (locs1 : List Loc), va_P D classes ((wa u ++ E u) ++ wb u) H1 → va_D A ((wa u ++ E u) ++ wb u) → va_S A s.heap H1 locs1 → W p l e R s m ar below meth c H1 locs1 (cells + mc) (slots + ms) Q (F0 m (pc + 3) ls ((rv u).toList ++ rest))) : W p l e R s m ar below meth c H locs cells slots Q (F0 m pc ls st0) := by
  subst hR
  refine k_callE (as := .ref h0 :: as) (va_runIN (As := as) (rest := rest) ⟨hx, hb, hml, hown, ht⟩ (hM H.size) ⟨va_cnB as.length ht (fun w h => ?_) rfl rfl rfl (hK.2 _ hwl) (ht _ hwn) hy ⟨hfr.1, hfr.2.1⟩, hy1, ht _ hwi⟩ (k_preE hK hY hP hD hS hA hC is hn hcs) rfl rfl hl.1 hst0 (lv_room hroom) hdg ⟨hfr.2.2.1, hfr.2.2.2⟩) hP hD hS hA is hn hcs he hws kk
  rcases List.mem_cons.mp h with rfl | h
  · exact ⟨hwc, Or.inl rfl⟩
  · exact ⟨h, good_of_word (LW_good w h)⟩
theorem va_RA_eq {U : State} {ty : FieldType} {a b : ClassId} (h1 : va_RA U a ty) (h2 : va_RA U b ty) : a = b := by
  cases ty with
  | object C =>
    obtain ⟨_, _, _, _, _, x⟩ := h1
    obtain ⟨_, _, _, _, _, y⟩ := h2
    exact Option.some.inj (x.symm.trans y)
  | _ => exact Option.some.inj (h1.symm.trans h2)
theorem k_tys {ty : FieldType} {cA : ClassId} (i : Nat) (hK : va_K D classes (TYS cy) s) (hi : (TYS cy)[i]? = some (cy i, ty)) (h : va_K D classes (TYS cy ++ [(cA, ty)]) s) : cA = cy i := by
  have h1 := (h.2 (TYS cy).length (cA, ty) (by rw [List.getElem?_append_right (Nat.le_refl _), Nat.sub_self]; rfl)).2
  exact va_RA_eq h1 (hK.2 i _ hi).2
theorem k_newa {wa wb : va_W} (hx : p.tables.exec = Jvm.exec) (hb : c.code = cc) {atype : ArrayType} {ty : FieldType} (i : Nat) (ht : ∀ w ∈ LW, w.before ar s = true) (harr : Cond.arrayClass (newarray.typeOf atype) ∈ LW) (hty : newarray.typeOf atype = ty) (hi : (TYS cy)[i]? = some (cy i, ty)) (hK : KX D cy s) (hP : va_P D classes (wa ++ wb) H) (hD : va_D A (wa ++ wb)) (hS : va_S A s.heap H locs) (hA : ∀ q : Nat, s.heap.size ≤ q → A q) (hR : R = { frames := fr0, cells := mc0, slots := ms0, locals := lo0 })
    {v : Int32} {N' : Nat} {a0 : vp_A} (ha : ∀ cA : ClassId, vp_cell cA a0 = arrV cA N' (fun _ => defaultValue ty)) (hn : ¬ v < 0) (hN : v.toNatClampNeg = N') (hbytes : N' * componentBytes ty ≤ 536870912) (hfr : cells + 1 ≤ mc0 ∧ slots + N' ≤ ms0) (hdg : decode cc pc = .ok (.newarray atype, 2))
    (kk : ∀ (q : Nat) (H1 : Heap), va_P D classes ((wa ++ [(q, .inl (cy i, a0))]) ++ wb) H1 → va_D A ((wa ++ [(q, .inl (cy i, a0))]) ++ wb) → va_S A s.heap H1 locs →
      W p l e R s m ar below meth c H1 locs (cells + 1) (slots + N') Q (F0 m (pc + 2) ls (.ref q :: rest))) : W p l e R s m ar below meth c H locs cells slots Q (F0 m pc ls (.int v :: rest)) := by
  subst hR
  refine va_newa hx hb (ht _ harr) hty hK.1 hP hD hS hA ha hn hN hbytes hfr.1 hfr.2 hdg fun q cA H1 hK1 hP1 hD1 hS1 => ?_
  have e := k_tys i hK.1 hi hK1
  subst e
  exact kk q H1 hP1.swap hD1.swap hS1
theorem k_new {wa wb : va_W} (hx : p.tables.exec = Jvm.exec) (hb : c.code = cc) {own C : String} {T : u_T} {N ci index : Nat} (ht : ∀ w ∈ LW, w.before ar s = true) (hin : ∀ w ∈ u_ws C T N, w ∈ LW) (ty : Nat → FieldType) (hty : ∀ k, k < N → parseFieldDescriptor (T k).2.2.1 = some (ty k)) (hown : s.vm.findClass own = some m.cls) (hcl : Cond.classLink own index C ∈ LW) (hinst : Cond.instantiable C N ∈ LW) (hini : Cond.initialized C ∈ LW)
    (hK : KX D cy s) (hP : va_P D classes (wa ++ wb) H) (hD : va_D A (wa ++ wb)) (hS : va_S A s.heap H locs) (hA : ∀ q : Nat, s.heap.size ≤ q → A q) (hR : R = { frames := fr0, cells := mc0, slots := ms0, locals := lo0 }) (hc : classes[ci]? = some (C, T, N)) {fs : List Value} (hfs : ∀ j, j < N → defaultValue (ty j) = vp_V fs j) (hfr : cells + 1 ≤ mc0 ∧ slots + N ≤ ms0) (hdg : decode cc pc = .ok (.new index, 3))
    (kk : ∀ (q : Nat) (H1 : Heap), va_P D classes ((wa ++ [(q, .inr (ci, fs))]) ++ wb) H1 → va_D A ((wa ++ [(q, .inr (ci, fs))]) ++ wb) → va_S A s.heap H1 locs →
      W p l e R s m ar below meth c H1 locs (cells + 1) (slots + N) Q (F0 m (pc + 3) ls (.ref q :: rest))) : W p l e R s m ar below meth c H locs cells slots Q (F0 m pc ls rest) := by
  subst hR
  exact va_new hx hb ht hin ty hty hown (ht _ hcl) (ht _ hinst) (ht _ hini) hK.1 hP hD hS hA hc hfs hfr.1 hfr.2 hdg fun q H1 hP1 hD1 hS1 => kk q H1 hP1.swap hD1.swap hS1
theorem k_obj (hx : p.tables.exec = Jvm.exec) (hb : c.code = cc) (hml : c.maxLocals = nL) (hown : s.vm.findClass own = some m.cls) (ht : ∀ w ∈ LW, w.before ar s = true) (hR : R = { frames := fr0, cells := mc0, slots := ms0, locals := lo0 }) (hl : lv_has ls nL lvs) {a : Nat} (hwl : Cond.methodLink own index Lib.objectInit ∈ LW) (hwi : Cond.instanceMethod Lib.objectInit ∈ LW) (hwc : Cond.code Lib.objectInit ⟨#[0xb1]⟩ 1 none ∈ LW) (hfr : 1 ≤ fr0 ∧ (rest.map fun v => v.category).sum + 12 ≤ lo0) (hdg : decode cc pc = .ok (.invokespecial index, 3))
    (kk : W p l e R s m ar below meth c H locs cells slots Q (F0 m (pc + 3) ls rest)) : W p l e R s m ar below meth c H locs cells slots Q (F0 m pc ls (.ref a :: rest)) := by
  subst hR
  refine W.objInit hx hb hown (ht _ hwl) (ht _ hwi) (ht _ hwc) rfl (hl.1.trans hml.symm) rfl hdg hfr.1 ?_ kk
  show 2 * 0 + _ + 12 ≤ lo0
  omega
end KE
