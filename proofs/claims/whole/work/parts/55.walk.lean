/-! THE CLAIM OUT OF ONE WALK OF THE LAW'S BODY. Your part is whole_start (and what it stands on); all else here is the same for every law, but numbers. -/
def R_law : String := "RadixDeskLaw"
def lw_P (b : Addr) (xs : List Int32) (args : Array Value) (s : State) : Prop := args = #[.ref b] ∧ s.IntsAt b xs ∧ xs.length ≤ 3072 ∧ (Jvm.Cond.and given_1 narrow_1).before args s = true
/-- what a walk over the start with the record d0 says of its end, said of the start itself -/
theorem lw_closed {s t : State} {o : Outcome} {d0 : Drawn} {L : List Loc} {k n : Nat} (hd0 : s.drawn.sameBut d0 lw_cs) (hv : ∃ v, o = .returned v) (hW : (s.setDrawn d0).WarmedH t.vm) (hs : (s.setDrawn d0).sameButNew ({ t with vm := s.vm } : State) L k n) : State.butDraws s t lw_cs (fun t1 => Framed s o t1 L k n) := by
  have h2 : t.drawn = d0 := congrArg State.drawn hs.1
  refine ⟨⟨hv, hW, State.sameButNew.setDrawn hs s.drawn⟩, ?_, by decide⟩
  rw [h2]
  exact hd0
def lw_Q (_ : Array Value) (s : State) (o : Outcome) (t : State) : Prop := o = .returned (some (.int 1)) ∧ State.butDraws s t lw_cs (fun t1 => Framed s o t1 [] 601024 7293033)
def lw_Z (below : List Frame) (a : Array Value) (s : State) : State → Prop := fun t => ∃ o, t.status = .running ∧ Ended t below o ∧ lw_Q a s o t
/-- the law's own end, with 1 on the stack, nothing written that was there before, its room as the claim has it; d0: the record of draws at this point (at the entry s.drawn: begin with 'refine W.base ?_' and 'have hd0 := Drawn.sameBut.refl s.drawn lw_cs') -/
theorem lw_ret {p : Program} {l : Launch} {e : Env} {s : State} {m : MethodId} {below : List Frame} {meth : Method} {c : Code} {b : Nat} {d0 : Drawn} (hd0 : s.drawn.sameBut d0 lw_cs) (hx : p.tables.exec = Jvm.exec) (hb : c.code = code) (hr : meth.sig.returnType = ret) (hlocks : meth.locks = false) {pc : Nat} {H : Heap} {ls : Array Slot} (hdg : decode code pc = .ok (.ireturn, 1)) : W p l e room_1 (s.setDrawn d0) m #[Value.ref b] below meth c H [] 601024 7293033 (lw_Z below #[Value.ref b] s) (F0 m pc ls [.int 1]) := by
  intro T hT X
  obtain ⟨fs, hret, hrun, hended, hW, hframe⟩ := X.leave (v := some (.int 1)) (hlocks := hlocks) (fun h => by rw [hr] at h; cases h)
  have hmeth' : T.vm.method? m = some meth := X.method'
  refine ⟨T.setFrames fs, ?_, .returned (some (.int 1)), hrun, hended, rfl, lw_closed hd0 ⟨_, rfl⟩ hW hframe⟩
  jvm_step X.here [X.here.top, hx, hb, hdg, hmeth', hr, ret, narrow_b1]
  (try refine ⟨rfl, ?_⟩); (try refine ⟨rfl, ?_⟩)
  first | (intro acts; rw [hret _ acts rfl rfl rfl]) | rw [hret _ _ rfl rfl rfl]
  exact Steps.refl _
/-- what holds at the law's entry: the machine, the code, the tables' words (any of lw_tbl by 'hts w (by decide +kernel)'), the script of L ints xs at the cell b, what the Statement gives of the start (any of its parts by flat_of_before) -/
def lw_At (p : Program) (s : State) (m : MethodId) (meth : Method) (c : Code) (b L : Nat) (xs : Nat → Int32) : Prop :=
  p.tables.exec = Jvm.exec ∧ c.code = code ∧ meth.sig.returnType = ret ∧ c.maxLocals = 9 ∧ s.vm.findClass R_law = some m.cls ∧ (∀ w ∈ lw_tbl, w.before #[Value.ref b] s = true) ∧ va_X b L xs s s.heap ∧ b < s.heap.size ∧ meth.locks = false ∧ (Jvm.Cond.and given_1 narrow_1).before #[Value.ref b] s = true
def x0 (wt : Nat) : XS := ((fun _ => 0), (fun _ => 0), (fun _ => 0), 0, 0, 0, (fun _ => 0), 0, (fun _ => 0), 0, (fun _ => 0), (fun _ => 0), (fun _ => 0), (fun _ => 0), (fun _ => 0), (fun _ _ => 0), 0, 0, 0, (fun _ => 0), (fun _ => 0), (fun _ => 0), 0, 0, 0, 0, 0, 0, 0, (fun _ => 0), 0, 0, wt)
def m0 (rw : Nat → Nat) : MS := (0, 0, (fun _ _ => 0), (fun _ => 0), 0, (fun _ => 0), 0, 0, (fun _ => 0), (fun _ => 0), (fun _ => 0), (fun _ => 0), (fun _ => 0), 0, (fun _ _ => 0), (fun _ => 0), 0, (fun _ => 0), 0, 0, (fun _ => 0), (fun _ => 0), (fun _ => 0), (fun _ => 0), (fun _ => 0), (fun _ => 0), 0, (fun _ => 0), (fun _ => 0), (fun _ => 0), 0, 0, 0, 0, 0, rw)
theorem perm_idx {α : Type} {l l2 : List α} (is : List Nat) (n : Nat) (hn : l.length = n) (h : is.Perm (List.range n)) (e : is.map (fun i => l[i]?) = l2.map some) : l2.Perm l := by
  subst hn
  have h1 := h.map (fun i => l[i]?)
  rw [e] at h1
  have e2 : (List.range l.length).map (fun i => l[i]?) = l.map some := by
    apply List.ext_getElem?
    intro j
    rw [List.getElem?_map, List.getElem?_map]
    by_cases hj : j < l.length
    · rw [List.getElem?_range hj, List.getElem?_eq_getElem hj]
      simp [hj]
    · rw [List.getElem?_eq_none (by simpa using hj), List.getElem?_eq_none (by simpa using hj)]
      rfl
  rw [e2] at h1
  have h2 := h1.filterMap id
  simpa using h2
theorem perm_mid {α : Type} (a x t : List α) : ((a ++ x) ++ t).Perm ((a ++ t) ++ x) := by
  rw [List.append_assoc, List.append_assoc]
  exact (List.perm_append_comm).append_left a
set_option maxHeartbeats 4000000 in
set_option maxRecDepth 100000 in
theorem start_X (cy : Nat → ClassId) (g : Nat → Nat) (qx : Nat) (u : Nat → Nat → Nat) : (([(qx, .inr (7, [.ref (u 0 0), .ref (u 6 0), .ref (u 8 0), .ref (u 10 0), .ref (u 24 0)]))] : va_W) ++ ((([((u 0 0), .inr (0, [.ref (u 1 0), .ref (u 2 0), .ref (u 3 0), .ref (u 5 0), .int 0])), ((u 1 0), .inl (cy 1, 8, .inr (.inl (fun _ => 0)))), ((u 2 0), .inl (cy 1, 8, .inr (.inl (fun _ => 0)))), ((u 3 0), .inr (3, [.ref (u 4 0), .int 0])), ((u 4 0), .inl (cy 0, 65, .inl (fun _ => 0))), ((u 5 0), .inr (2, [.long 0])), ((u 6 0), .inr (3, [.ref (u 7 0), .int 0])), ((u 7 0), .inl (cy 0, 300, .inl (fun _ => 0))), ((u 8 0), .inr (3, [.ref (u 9 0), .int 0])), ((u 9 0), .inl (cy 0, 65, .inl (fun _ => 0))), ((u 10 0), .inr (1, [.ref (u 11 0), .ref (u 14 0), .ref (u 17 0), .ref (u 18 0), .int 0, .int 0, .int 0, .int 0])), ((u 11 0), .inl (cy 3, 60, .inr (.inr (.inr (.inr (fun j => some ((u 12) j))))))), ((u 14 0), .inr (6, [.ref (u 15 0), .int 0, .int 0])), ((u 15 0), .inr (3, [.ref (u 16 0), .int 0])), ((u 16 0), .inl (cy 0, 0, .inl (fun _ => 0))), ((u 17 0), .inr (2, [.long 0])), ((u 18 0), .inr (0, [.ref (u 19 0), .ref (u 20 0), .ref (u 21 0), .ref (u 23 0), .int 0])), ((u 19 0), .inl (cy 1, 8, .inr (.inl (fun _ => 0)))), ((u 20 0), .inl (cy 1, 8, .inr (.inl (fun _ => 0)))), ((u 21 0), .inr (3, [.ref (u 22 0), .int 0])), ((u 22 0), .inl (cy 0, 65, .inl (fun _ => 0))), ((u 23 0), .inr (2, [.long 0])), ((u 24 0), .inr (5, [.ref (u 25 0), .ref (u 27 0)])), ((u 25 0), .inr (3, [.ref (u 26 0), .int 0])), ((u 26 0), .inl (cy 0, 65, .inl (fun _ => 0))), ((u 27 0), .inr (2, [.long 0]))] : va_W) ++ (stW g (u 12) (u 13) (fun _ => 0) (fun _ => 0) (fun _ => 0) (fun _ => 0) (fun _ => 0) ++ (argW (cy 1) (u 13) (fun _ _ => 0) ++ ([] : va_W)))) : va_W)).Perm ((WX cy g (fun i => [qx, (u 0 0), (u 1 0), (u 2 0), (u 3 0), (u 4 0), (u 5 0), (u 6 0), (u 7 0), (u 8 0), (u 9 0), (u 10 0), (u 11 0), (u 14 0), (u 17 0), (u 18 0), (u 19 0), (u 20 0), (u 21 0), (u 22 0), (u 23 0), (u 24 0), (u 25 0), (u 26 0), (u 27 0)].getD i 0) (u 12) (u 13) (x0 (u 15 0))) ++ ([((u 15 0), .inr (3, [.ref (u 16 0), .int 0])), ((u 16 0), .inl (cy 0, 0, .inl (fun _ => 0)))] : va_W)) := by
  have h1 : ((WXc cy (fun i => [qx, (u 0 0), (u 1 0), (u 2 0), (u 3 0), (u 4 0), (u 5 0), (u 6 0), (u 7 0), (u 8 0), (u 9 0), (u 10 0), (u 11 0), (u 14 0), (u 17 0), (u 18 0), (u 19 0), (u 20 0), (u 21 0), (u 22 0), (u 23 0), (u 24 0), (u 25 0), (u 26 0), (u 27 0)].getD i 0) (u 12) (x0 (u 15 0))) ++ ([((u 15 0), .inr (3, [.ref (u 16 0), .int 0])), ((u 16 0), .inl (cy 0, 0, .inl (fun _ => 0)))] : va_W)).Perm (([(qx, .inr (7, [.ref (u 0 0), .ref (u 6 0), .ref (u 8 0), .ref (u 10 0), .ref (u 24 0)]))] : va_W) ++ ([((u 0 0), .inr (0, [.ref (u 1 0), .ref (u 2 0), .ref (u 3 0), .ref (u 5 0), .int 0])), ((u 1 0), .inl (cy 1, 8, .inr (.inl (fun _ => 0)))), ((u 2 0), .inl (cy 1, 8, .inr (.inl (fun _ => 0)))), ((u 3 0), .inr (3, [.ref (u 4 0), .int 0])), ((u 4 0), .inl (cy 0, 65, .inl (fun _ => 0))), ((u 5 0), .inr (2, [.long 0])), ((u 6 0), .inr (3, [.ref (u 7 0), .int 0])), ((u 7 0), .inl (cy 0, 300, .inl (fun _ => 0))), ((u 8 0), .inr (3, [.ref (u 9 0), .int 0])), ((u 9 0), .inl (cy 0, 65, .inl (fun _ => 0))), ((u 10 0), .inr (1, [.ref (u 11 0), .ref (u 14 0), .ref (u 17 0), .ref (u 18 0), .int 0, .int 0, .int 0, .int 0])), ((u 11 0), .inl (cy 3, 60, .inr (.inr (.inr (.inr (fun j => some ((u 12) j))))))), ((u 14 0), .inr (6, [.ref (u 15 0), .int 0, .int 0])), ((u 15 0), .inr (3, [.ref (u 16 0), .int 0])), ((u 16 0), .inl (cy 0, 0, .inl (fun _ => 0))), ((u 17 0), .inr (2, [.long 0])), ((u 18 0), .inr (0, [.ref (u 19 0), .ref (u 20 0), .ref (u 21 0), .ref (u 23 0), .int 0])), ((u 19 0), .inl (cy 1, 8, .inr (.inl (fun _ => 0)))), ((u 20 0), .inl (cy 1, 8, .inr (.inl (fun _ => 0)))), ((u 21 0), .inr (3, [.ref (u 22 0), .int 0])), ((u 22 0), .inl (cy 0, 65, .inl (fun _ => 0))), ((u 23 0), .inr (2, [.long 0])), ((u 24 0), .inr (5, [.ref (u 25 0), .ref (u 27 0)])), ((u 25 0), .inr (3, [.ref (u 26 0), .int 0])), ((u 26 0), .inl (cy 0, 65, .inl (fun _ => 0))), ((u 27 0), .inr (2, [.long 0]))] : va_W)) := perm_idx [0, 1, 2, 3, 4, 5, 6, 7, 8, 9, 10, 11, 12, 13, 16, 17, 18, 19, 20, 21, 22, 23, 24, 25, 26, 14, 15] 27 rfl (by decide) rfl
  show (([(qx, .inr (7, [.ref (u 0 0), .ref (u 6 0), .ref (u 8 0), .ref (u 10 0), .ref (u 24 0)]))] : va_W) ++ (([((u 0 0), .inr (0, [.ref (u 1 0), .ref (u 2 0), .ref (u 3 0), .ref (u 5 0), .int 0])), ((u 1 0), .inl (cy 1, 8, .inr (.inl (fun _ => 0)))), ((u 2 0), .inl (cy 1, 8, .inr (.inl (fun _ => 0)))), ((u 3 0), .inr (3, [.ref (u 4 0), .int 0])), ((u 4 0), .inl (cy 0, 65, .inl (fun _ => 0))), ((u 5 0), .inr (2, [.long 0])), ((u 6 0), .inr (3, [.ref (u 7 0), .int 0])), ((u 7 0), .inl (cy 0, 300, .inl (fun _ => 0))), ((u 8 0), .inr (3, [.ref (u 9 0), .int 0])), ((u 9 0), .inl (cy 0, 65, .inl (fun _ => 0))), ((u 10 0), .inr (1, [.ref (u 11 0), .ref (u 14 0), .ref (u 17 0), .ref (u 18 0), .int 0, .int 0, .int 0, .int 0])), ((u 11 0), .inl (cy 3, 60, .inr (.inr (.inr (.inr (fun j => some ((u 12) j))))))), ((u 14 0), .inr (6, [.ref (u 15 0), .int 0, .int 0])), ((u 15 0), .inr (3, [.ref (u 16 0), .int 0])), ((u 16 0), .inl (cy 0, 0, .inl (fun _ => 0))), ((u 17 0), .inr (2, [.long 0])), ((u 18 0), .inr (0, [.ref (u 19 0), .ref (u 20 0), .ref (u 21 0), .ref (u 23 0), .int 0])), ((u 19 0), .inl (cy 1, 8, .inr (.inl (fun _ => 0)))), ((u 20 0), .inl (cy 1, 8, .inr (.inl (fun _ => 0)))), ((u 21 0), .inr (3, [.ref (u 22 0), .int 0])), ((u 22 0), .inl (cy 0, 65, .inl (fun _ => 0))), ((u 23 0), .inr (2, [.long 0])), ((u 24 0), .inr (5, [.ref (u 25 0), .ref (u 27 0)])), ((u 25 0), .inr (3, [.ref (u 26 0), .int 0])), ((u 26 0), .inl (cy 0, 65, .inl (fun _ => 0))), ((u 27 0), .inr (2, [.long 0]))] : va_W) ++ ((stW g (u 12) (u 13) (fun _ => 0) (fun _ => 0) (fun _ => 0) (fun _ => 0) (fun _ => 0) ++ (argW (cy 1) (u 13) (fun _ _ => 0) ++ ([] : va_W)))))).Perm _
  rw [← List.append_assoc]
  exact (h1.symm.append_right _).trans (perm_mid _ _ _)
set_option maxHeartbeats 4000000 in
set_option maxRecDepth 100000 in
theorem start_M (cy : Nat → ClassId) (qm : Nat) (v : Nat → Nat → Nat) : (([(qm, .inr (9, [.int 0, .ref (v 0 0), .ref (v 10 0), .ref (v 20 0), .int 0, .ref (v 21 0), .ref (v 22 0), .ref (v 23 0), .int 0, .int 0, .int 0, .int 0, .int 0]))] : va_W) ++ ((([((v 0 0), .inr (8, [.int 0, .ref (v 1 0), .ref (v 3 0), .int 0, .ref (v 4 0), .int 0, .int 0, .ref (v 5 0), .ref (v 6 0), .ref (v 7 0), .ref (v 8 0), .ref (v 9 0)])), ((v 1 0), .inl (cy 5, 8, .inr (.inr (.inr (.inr (fun j => some ((v 2) j))))))), ((v 3 0), .inl (cy 0, 66, .inl (fun _ => 0))), ((v 4 0), .inl (cy 0, 64, .inl (fun _ => 0))), ((v 5 0), .inl (cy 2, 64, .inl (fun _ => 0))), ((v 6 0), .inl (cy 2, 65, .inl (fun _ => 0))), ((v 7 0), .inl (cy 2, 65, .inl (fun _ => 0))), ((v 8 0), .inl (cy 2, 65, .inl (fun _ => 0))), ((v 9 0), .inl (cy 2, 65, .inl (fun _ => 0))), ((v 10 0), .inr (8, [.int 0, .ref (v 11 0), .ref (v 13 0), .int 0, .ref (v 14 0), .int 0, .int 0, .ref (v 15 0), .ref (v 16 0), .ref (v 17 0), .ref (v 18 0), .ref (v 19 0)])), ((v 11 0), .inl (cy 5, 8, .inr (.inr (.inr (.inr (fun j => some ((v 12) j))))))), ((v 13 0), .inl (cy 0, 66, .inl (fun _ => 0))), ((v 14 0), .inl (cy 0, 64, .inl (fun _ => 0))), ((v 15 0), .inl (cy 2, 64, .inl (fun _ => 0))), ((v 16 0), .inl (cy 2, 65, .inl (fun _ => 0))), ((v 17 0), .inl (cy 2, 65, .inl (fun _ => 0))), ((v 18 0), .inl (cy 2, 65, .inl (fun _ => 0))), ((v 19 0), .inl (cy 2, 65, .inl (fun _ => 0))), ((v 20 0), .inl (cy 0, 300, .inl (fun _ => 0))), ((v 21 0), .inl (cy 0, 300, .inl (fun _ => 0))), ((v 22 0), .inl (cy 0, 300, .inl (fun _ => 0))), ((v 23 0), .inl (cy 1, 300, .inr (.inl (fun _ => 0))))] : va_W) ++ (rowsW (cy 2) (v 12) (fun _ _ => 0) ++ (rowsW (cy 2) (v 2) (fun _ _ => 0) ++ ([] : va_W)))) : va_W)).Perm (WM cy (fun i => [qm, (v 0 0), (v 1 0), (v 3 0), (v 4 0), (v 5 0), (v 6 0), (v 7 0), (v 8 0), (v 9 0), (v 10 0), (v 11 0), (v 13 0), (v 14 0), (v 15 0), (v 16 0), (v 17 0), (v 18 0), (v 19 0), (v 20 0), (v 21 0), (v 22 0), (v 23 0)].getD i 0) (v 12) (m0 (v 2))) := by
  have h1 : (WMc cy (fun i => [qm, (v 0 0), (v 1 0), (v 3 0), (v 4 0), (v 5 0), (v 6 0), (v 7 0), (v 8 0), (v 9 0), (v 10 0), (v 11 0), (v 13 0), (v 14 0), (v 15 0), (v 16 0), (v 17 0), (v 18 0), (v 19 0), (v 20 0), (v 21 0), (v 22 0), (v 23 0)].getD i 0) (v 12) (m0 (v 2))).Perm (([(qm, .inr (9, [.int 0, .ref (v 0 0), .ref (v 10 0), .ref (v 20 0), .int 0, .ref (v 21 0), .ref (v 22 0), .ref (v 23 0), .int 0, .int 0, .int 0, .int 0, .int 0]))] : va_W) ++ ([((v 0 0), .inr (8, [.int 0, .ref (v 1 0), .ref (v 3 0), .int 0, .ref (v 4 0), .int 0, .int 0, .ref (v 5 0), .ref (v 6 0), .ref (v 7 0), .ref (v 8 0), .ref (v 9 0)])), ((v 1 0), .inl (cy 5, 8, .inr (.inr (.inr (.inr (fun j => some ((v 2) j))))))), ((v 3 0), .inl (cy 0, 66, .inl (fun _ => 0))), ((v 4 0), .inl (cy 0, 64, .inl (fun _ => 0))), ((v 5 0), .inl (cy 2, 64, .inl (fun _ => 0))), ((v 6 0), .inl (cy 2, 65, .inl (fun _ => 0))), ((v 7 0), .inl (cy 2, 65, .inl (fun _ => 0))), ((v 8 0), .inl (cy 2, 65, .inl (fun _ => 0))), ((v 9 0), .inl (cy 2, 65, .inl (fun _ => 0))), ((v 10 0), .inr (8, [.int 0, .ref (v 11 0), .ref (v 13 0), .int 0, .ref (v 14 0), .int 0, .int 0, .ref (v 15 0), .ref (v 16 0), .ref (v 17 0), .ref (v 18 0), .ref (v 19 0)])), ((v 11 0), .inl (cy 5, 8, .inr (.inr (.inr (.inr (fun j => some ((v 12) j))))))), ((v 13 0), .inl (cy 0, 66, .inl (fun _ => 0))), ((v 14 0), .inl (cy 0, 64, .inl (fun _ => 0))), ((v 15 0), .inl (cy 2, 64, .inl (fun _ => 0))), ((v 16 0), .inl (cy 2, 65, .inl (fun _ => 0))), ((v 17 0), .inl (cy 2, 65, .inl (fun _ => 0))), ((v 18 0), .inl (cy 2, 65, .inl (fun _ => 0))), ((v 19 0), .inl (cy 2, 65, .inl (fun _ => 0))), ((v 20 0), .inl (cy 0, 300, .inl (fun _ => 0))), ((v 21 0), .inl (cy 0, 300, .inl (fun _ => 0))), ((v 22 0), .inl (cy 0, 300, .inl (fun _ => 0))), ((v 23 0), .inl (cy 1, 300, .inr (.inl (fun _ => 0))))] : va_W)) := perm_idx [0, 1, 2, 3, 4, 5, 6, 7, 8, 9, 10, 11, 12, 13, 14, 15, 16, 17, 18, 19, 20, 21, 22] 23 rfl (by decide) rfl
  show (([(qm, .inr (9, [.int 0, .ref (v 0 0), .ref (v 10 0), .ref (v 20 0), .int 0, .ref (v 21 0), .ref (v 22 0), .ref (v 23 0), .int 0, .int 0, .int 0, .int 0, .int 0]))] : va_W) ++ (([((v 0 0), .inr (8, [.int 0, .ref (v 1 0), .ref (v 3 0), .int 0, .ref (v 4 0), .int 0, .int 0, .ref (v 5 0), .ref (v 6 0), .ref (v 7 0), .ref (v 8 0), .ref (v 9 0)])), ((v 1 0), .inl (cy 5, 8, .inr (.inr (.inr (.inr (fun j => some ((v 2) j))))))), ((v 3 0), .inl (cy 0, 66, .inl (fun _ => 0))), ((v 4 0), .inl (cy 0, 64, .inl (fun _ => 0))), ((v 5 0), .inl (cy 2, 64, .inl (fun _ => 0))), ((v 6 0), .inl (cy 2, 65, .inl (fun _ => 0))), ((v 7 0), .inl (cy 2, 65, .inl (fun _ => 0))), ((v 8 0), .inl (cy 2, 65, .inl (fun _ => 0))), ((v 9 0), .inl (cy 2, 65, .inl (fun _ => 0))), ((v 10 0), .inr (8, [.int 0, .ref (v 11 0), .ref (v 13 0), .int 0, .ref (v 14 0), .int 0, .int 0, .ref (v 15 0), .ref (v 16 0), .ref (v 17 0), .ref (v 18 0), .ref (v 19 0)])), ((v 11 0), .inl (cy 5, 8, .inr (.inr (.inr (.inr (fun j => some ((v 12) j))))))), ((v 13 0), .inl (cy 0, 66, .inl (fun _ => 0))), ((v 14 0), .inl (cy 0, 64, .inl (fun _ => 0))), ((v 15 0), .inl (cy 2, 64, .inl (fun _ => 0))), ((v 16 0), .inl (cy 2, 65, .inl (fun _ => 0))), ((v 17 0), .inl (cy 2, 65, .inl (fun _ => 0))), ((v 18 0), .inl (cy 2, 65, .inl (fun _ => 0))), ((v 19 0), .inl (cy 2, 65, .inl (fun _ => 0))), ((v 20 0), .inl (cy 0, 300, .inl (fun _ => 0))), ((v 21 0), .inl (cy 0, 300, .inl (fun _ => 0))), ((v 22 0), .inl (cy 0, 300, .inl (fun _ => 0))), ((v 23 0), .inl (cy 1, 300, .inr (.inl (fun _ => 0))))] : va_W) ++ ((rowsW (cy 2) (v 12) (fun _ _ => 0) ++ (rowsW (cy 2) (v 2) (fun _ _ => 0) ++ ([] : va_W)))))).Perm _
  rw [← List.append_assoc]
  refine (h1.symm.append_right _).trans (List.Perm.append_left _ ?_)
  show ((rowsW (cy 2) (v 12) (fun _ _ => 0) ++ (rowsW (cy 2) (v 2) (fun _ _ => 0) ++ ([] : va_W)))).Perm (rowsW (cy 2) (v 2) (fun _ _ => 0) ++ (rowsW (cy 2) (v 12) (fun _ _ => 0) ++ ([] : va_W)))
  rw [List.append_nil, List.append_nil]
  exact List.perm_append_comm
theorem start_perm (o9 : Nat × va_E) {a b a2 b2 ex : va_W} (ha : a.Perm (a2 ++ ex)) (hb : b.Perm b2) : (o9 :: (b ++ (a ++ []))).Perm (((o9 :: (a2 ++ b2)) ++ ex) ++ []) := by
  rw [List.append_nil, List.append_nil, List.cons_append]
  refine List.Perm.cons _ ?_
  exact (List.perm_append_comm.trans (ha.append hb)).trans (perm_mid _ _ _)
theorem dL_law_0 : decode code 0 = .ok (.new 8, 3) := by decide +kernel
theorem dL_law_3 : decode code 3 = .ok (.dup, 1) := by decide +kernel
theorem dL_law_4 : decode code 4 = .ok (.invokespecial 124, 3) := by decide +kernel
theorem dL_law_7 : decode code 7 = .ok (.astore_n 1, 1) := by decide +kernel
theorem dL_law_8 : decode code 8 = .ok (.new 125, 3) := by decide +kernel
theorem dL_law_11 : decode code 11 = .ok (.dup, 1) := by decide +kernel
theorem dL_law_12 : decode code 12 = .ok (.invokespecial 127, 3) := by decide +kernel
theorem dL_law_15 : decode code 15 = .ok (.astore_n 2, 1) := by decide +kernel
theorem dL_law_16 : decode code 16 = .ok (.iconst 1, 1) := by decide +kernel
theorem dL_law_17 : decode code 17 = .ok (.newarray .long, 2) := by decide +kernel
theorem dL_law_19 : decode code 19 = .ok (.astore_n 3, 1) := by decide +kernel
theorem dL_law_20 : decode code 20 = .ok (.iconst 0, 1) := by decide +kernel
theorem dL_law_21 : decode code 21 = .ok (.istore 4, 2) := by decide +kernel
theorem q_79 : Cond.classLink RL 8 "RadixDesk" ∈ LW := LW_of 79 (by decide +kernel) rfl
theorem q_80 : Cond.instantiable RX11 5 ∈ LW := LW_of 80 (by decide +kernel) rfl
theorem q_81 : Cond.methodLink RL 124 yX11_init ∈ LW := LW_of 81 (by decide +kernel) rfl
theorem q_82 : Cond.instanceMethod yX11_init ∈ LW := LW_of 82 (by decide +kernel) rfl
theorem q_83 : Cond.code yX11_init cX11_init 1 none ∈ LW := LW_of 83 (by decide +kernel) rfl
theorem q_1229 : Cond.classLink RL 125 "RadixDeskModel" ∈ LW := LW_of 1229 (by decide +kernel) rfl
theorem q_1230 : Cond.instantiable RX13 13 ∈ LW := LW_of 1230 (by decide +kernel) rfl
theorem q_1231 : Cond.methodLink RL 127 yX13_init ∈ LW := LW_of 1231 (by decide +kernel) rfl
theorem q_1232 : Cond.instanceMethod yX13_init ∈ LW := LW_of 1232 (by decide +kernel) rfl
theorem q_1233 : Cond.code yX13_init cX13_init 1 none ∈ LW := LW_of 1233 (by decide +kernel) rfl
theorem hyX11_init : yX11_init.cls ≠ "java/lang/invoke/MethodHandle" ∧ yX11_init.cls ≠ "java/lang/invoke/VarHandle" ∧ (parseMethodDescriptor yX11_init.desc).map (fun d => d.parameters.length) = some 0 := by decide +kernel
theorem hyX13_init : yX13_init.cls ≠ "java/lang/invoke/MethodHandle" ∧ yX13_init.cls ≠ "java/lang/invoke/VarHandle" ∧ (parseMethodDescriptor yX13_init.desc).map (fun d => d.parameters.length) = some 0 := by decide +kernel
set_option maxHeartbeats 4000000 in
set_option maxRecDepth 100000 in
theorem law_walk {p : Program} {e : Env} {s : State} {m : MethodId} {below : List Frame} {meth : Method} {c : Code} (l : Launch) (hflags : l.flags = flags0) {b L : Nat} {xs : Nat → Int32} (hL : L ≤ 3072) (C0 : lw_At p s m meth c b L xs) (hMN : ∀ (D : va_G) (cy : Nat → ClassId), MNA8 D cy) (k : Nat) (Inv : XS → MS → (Nat → Int64) → Prop) (h0 : ∀ (wt : Nat) (rw : Nat → Nat), Inv (x0 wt) (m0 rw) (fun _ => 0)) (hstep : ∀ (ax : Nat → Nat) (j : Nat) (x : XS) (mm : MS) (o : Nat → Int64), j + 6 ≤ L → Inv x mm o → ∃ R, mStep (xs j &&& 63).toNatClampNeg k xs L (nI j) ax x mm o = some R ∧ Inv R.1 R.2.1 R.2.2) : W p l e room_1 s m #[Value.ref b] below meth c s.heap [] 0 0 (lw_Z below #[Value.ref b] s) (entryFrame m ([Value.ref b] : List Value).toArray 9) := by
  obtain ⟨hx, hb, hr, hml, hown, hts, hX, hbl, hlocks, hgv⟩ := C0
  have hn : ∀ w ∈ NF, w.before #[Value.ref b] s = true := flat_of_before _ hgv
  have ht : ∀ w ∈ LW, w.before #[Value.ref b] s = true := fun w hw => hts w (LW_in w hw)
  obtain ⟨A, hA9⟩ : ∃ A : Nat → Prop, A = fun q : Nat => s.heap.size ≤ q := ⟨_, rfl⟩
  have hA : ∀ q : Nat, s.heap.size ≤ q → A q := fun q h => by rw [hA9]; exact h
  have hA0 : ∀ q : Nat, q < s.heap.size → ¬ A q := fun q h z => by rw [hA9] at z; exact absurd z (Nat.not_le.mpr h)
  obtain ⟨g, hC⟩ := start_C hts hn hA0
  obtain ⟨D, cy, hK⟩ := start_K hts
  have hY : KY s := start_Y hts
  have hN : NX s := start_N hn
  have hl0 : l.stackTraces = false := by
    unfold Launch.stackTraces
    rw [hflags]
    decide +kernel
  have hMN8 := hMN D cy
  have hR : room_1 = { frames := 2048, cells := 601024, slots := 7293033, locals := 84000 } := rfl
  have hown : s.vm.findClass RL = some m.cls := hown
  rw [lg_entry_eq]
  have hl : lv_has ((lg_sl [Value.ref b] ++ List.replicate (9 - (lg_sl [Value.ref b]).length) Slot.unset).toArray) 9 [(0, .ref b)] := lv_entry [Value.ref b] (Nat.le_of_ble_eq_true rfl)
  generalize ((lg_sl [Value.ref b] ++ List.replicate (9 - (lg_sl [Value.ref b]).length) Slot.unset).toArray) = ls at hl ⊢
  have hP : va_P D classes (([] : va_W) ++ []) s.heap := fun k q hq => by simp at hq
  have hD : va_D A (([] : va_W) ++ []) := ⟨fun i j p q hp => by simp at hp, fun k q hq => by simp at hq⟩
  have hS : va_S A s.heap s.heap [] := va_S.rf
  refine k_new (wa := []) (wb := ([] : va_W)) (C := RX11) (T := TX11) (N := 5) (ci := 7) (fs := [.null, .null, .null, .null, .null]) hx hb ht in_RX11 tyX11 tyX11_ok hown q_79 q_80 q_43 hK hP hD hS hA hR rfl df_X11 ⟨Nat.le_of_ble_eq_true rfl, Nat.le_of_ble_eq_true rfl⟩ dL_law_0 (fun qx H hP hD hS => ?_)
  refine lv_dup hx hb dL_law_3 rfl ?_
  refine k_IE (as := []) (rest := [.ref qx]) (wa := (fun u => [(qx, .inr (7, [.ref (u 0 0), .ref (u 6 0), .ref (u 8 0), .ref (u 10 0), .ref (u 24 0)]))])) (wb := fun _ => ([] : va_W)) hx hb hml hown ht hK hY hP hD hS hA hC hR hl (kcX11_init l D cy g qx) [0] q_81 q_82 q_43 q_83 hyX11_init rfl ⟨Nat.le_of_ble_eq_true rfl, Nat.le_of_ble_eq_true rfl, Nat.le_of_ble_eq_true rfl, Nat.le_of_ble_eq_true rfl⟩ rfl rfl (fun _ => rfl) rfl (Nat.le_of_ble_eq_true rfl) dL_law_4 (fun _ => rfl) (fun u H locs hP hD hS => ?_)
  refine lv_astore_n (lv' := [(1, .ref qx), (0, .ref b)]) hx hb dL_law_7 rfl hl (by decide) rfl (fun ls hl => ?_)
  obtain ⟨WXa, hWX⟩ : ∃ w : va_W, w = ((([(qx, .inr (7, [.ref (u 0 0), .ref (u 6 0), .ref (u 8 0), .ref (u 10 0), .ref (u 24 0)]))] : va_W) ++ ((([((u 0 0), .inr (0, [.ref (u 1 0), .ref (u 2 0), .ref (u 3 0), .ref (u 5 0), .int 0])), ((u 1 0), .inl (cy 1, 8, .inr (.inl (fun _ => 0)))), ((u 2 0), .inl (cy 1, 8, .inr (.inl (fun _ => 0)))), ((u 3 0), .inr (3, [.ref (u 4 0), .int 0])), ((u 4 0), .inl (cy 0, 65, .inl (fun _ => 0))), ((u 5 0), .inr (2, [.long 0])), ((u 6 0), .inr (3, [.ref (u 7 0), .int 0])), ((u 7 0), .inl (cy 0, 300, .inl (fun _ => 0))), ((u 8 0), .inr (3, [.ref (u 9 0), .int 0])), ((u 9 0), .inl (cy 0, 65, .inl (fun _ => 0))), ((u 10 0), .inr (1, [.ref (u 11 0), .ref (u 14 0), .ref (u 17 0), .ref (u 18 0), .int 0, .int 0, .int 0, .int 0])), ((u 11 0), .inl (cy 3, 60, .inr (.inr (.inr (.inr (fun j => some ((u 12) j))))))), ((u 14 0), .inr (6, [.ref (u 15 0), .int 0, .int 0])), ((u 15 0), .inr (3, [.ref (u 16 0), .int 0])), ((u 16 0), .inl (cy 0, 0, .inl (fun _ => 0))), ((u 17 0), .inr (2, [.long 0])), ((u 18 0), .inr (0, [.ref (u 19 0), .ref (u 20 0), .ref (u 21 0), .ref (u 23 0), .int 0])), ((u 19 0), .inl (cy 1, 8, .inr (.inl (fun _ => 0)))), ((u 20 0), .inl (cy 1, 8, .inr (.inl (fun _ => 0)))), ((u 21 0), .inr (3, [.ref (u 22 0), .int 0])), ((u 22 0), .inl (cy 0, 65, .inl (fun _ => 0))), ((u 23 0), .inr (2, [.long 0])), ((u 24 0), .inr (5, [.ref (u 25 0), .ref (u 27 0)])), ((u 25 0), .inr (3, [.ref (u 26 0), .int 0])), ((u 26 0), .inl (cy 0, 65, .inl (fun _ => 0))), ((u 27 0), .inr (2, [.long 0]))] : va_W) ++ (stW g (u 12) (u 13) (fun _ => 0) (fun _ => 0) (fun _ => 0) (fun _ => 0) (fun _ => 0) ++ (argW (cy 1) (u 13) (fun _ _ => 0) ++ ([] : va_W)))) : va_W)) ++ ([] : va_W)) := ⟨_, rfl⟩
  have hP : va_P D classes WXa H := by
    rw [hWX]
    exact hP
  have hD : va_D A WXa := by
    rw [hWX]
    exact hD
  refine k_new (wa := []) (wb := WXa) (C := RX13) (T := TX13) (N := 13) (ci := 9) (fs := [.int 0, .null, .null, .null, .int 0, .null, .null, .null, .int 0, .int 0, .int 0, .int 0, .int 0]) hx hb ht in_RX13 tyX13 tyX13_ok hown q_1229 q_1230 q_54 hK hP hD hS hA hR rfl df_X13 ⟨Nat.le_of_ble_eq_true rfl, Nat.le_of_ble_eq_true rfl⟩ dL_law_8 (fun qm H hP hD hS => ?_)
  refine lv_dup hx hb dL_law_11 rfl ?_
  refine k_IE (as := []) (rest := [.ref qm]) (wa := (fun v => [(qm, .inr (9, [.int 0, .ref (v 0 0), .ref (v 10 0), .ref (v 20 0), .int 0, .ref (v 21 0), .ref (v 22 0), .ref (v 23 0), .int 0, .int 0, .int 0, .int 0, .int 0]))])) (wb := fun _ => WXa) hx hb hml hown ht hK hY hP hD hS hA hC hR hl (kcX13_init l D cy g qm hMN8) [0] q_1231 q_1232 q_54 q_1233 hyX13_init rfl ⟨Nat.le_of_ble_eq_true rfl, Nat.le_of_ble_eq_true rfl, Nat.le_of_ble_eq_true rfl, Nat.le_of_ble_eq_true rfl⟩ rfl rfl (fun _ => rfl) rfl (Nat.le_of_ble_eq_true rfl) dL_law_12 (fun _ => rfl) (fun v H locs hP hD hS => ?_)
  refine lv_astore_n (lv' := [(2, .ref qm), (1, .ref qx), (0, .ref b)]) hx hb dL_law_15 rfl hl (by decide) rfl (fun ls hl => ?_)
  refine lv_iconst (v := 1) hx hb dL_law_16 (by decide) ?_
  refine k_newa (wa := []) (wb := (([(qm, .inr (9, [.int 0, .ref (v 0 0), .ref (v 10 0), .ref (v 20 0), .int 0, .ref (v 21 0), .ref (v 22 0), .ref (v 23 0), .int 0, .int 0, .int 0, .int 0, .int 0]))] : va_W) ++ ((([((v 0 0), .inr (8, [.int 0, .ref (v 1 0), .ref (v 3 0), .int 0, .ref (v 4 0), .int 0, .int 0, .ref (v 5 0), .ref (v 6 0), .ref (v 7 0), .ref (v 8 0), .ref (v 9 0)])), ((v 1 0), .inl (cy 5, 8, .inr (.inr (.inr (.inr (fun j => some ((v 2) j))))))), ((v 3 0), .inl (cy 0, 66, .inl (fun _ => 0))), ((v 4 0), .inl (cy 0, 64, .inl (fun _ => 0))), ((v 5 0), .inl (cy 2, 64, .inl (fun _ => 0))), ((v 6 0), .inl (cy 2, 65, .inl (fun _ => 0))), ((v 7 0), .inl (cy 2, 65, .inl (fun _ => 0))), ((v 8 0), .inl (cy 2, 65, .inl (fun _ => 0))), ((v 9 0), .inl (cy 2, 65, .inl (fun _ => 0))), ((v 10 0), .inr (8, [.int 0, .ref (v 11 0), .ref (v 13 0), .int 0, .ref (v 14 0), .int 0, .int 0, .ref (v 15 0), .ref (v 16 0), .ref (v 17 0), .ref (v 18 0), .ref (v 19 0)])), ((v 11 0), .inl (cy 5, 8, .inr (.inr (.inr (.inr (fun j => some ((v 12) j))))))), ((v 13 0), .inl (cy 0, 66, .inl (fun _ => 0))), ((v 14 0), .inl (cy 0, 64, .inl (fun _ => 0))), ((v 15 0), .inl (cy 2, 64, .inl (fun _ => 0))), ((v 16 0), .inl (cy 2, 65, .inl (fun _ => 0))), ((v 17 0), .inl (cy 2, 65, .inl (fun _ => 0))), ((v 18 0), .inl (cy 2, 65, .inl (fun _ => 0))), ((v 19 0), .inl (cy 2, 65, .inl (fun _ => 0))), ((v 20 0), .inl (cy 0, 300, .inl (fun _ => 0))), ((v 21 0), .inl (cy 0, 300, .inl (fun _ => 0))), ((v 22 0), .inl (cy 0, 300, .inl (fun _ => 0))), ((v 23 0), .inl (cy 1, 300, .inr (.inl (fun _ => 0))))] : va_W) ++ (rowsW (cy 2) (v 12) (fun _ _ => 0) ++ (rowsW (cy 2) (v 2) (fun _ _ => 0) ++ ([] : va_W)))) : va_W)) ++ WXa) (atype := .long) (ty := .long) (a0 := (1, .inr (.inl (fun _ => 0)))) (N' := 1) hx hb 1 ht q_109 rfl rfl hK hP hD hS hA hR (fun cA => rfl) (by decide) (by decide) (by decide) ⟨Nat.le_of_ble_eq_true rfl, Nat.le_of_ble_eq_true rfl⟩ dL_law_17 (fun oa H hP hD hS => ?_)
  refine lv_astore_n (lv' := [(3, .ref oa), (2, .ref qm), (1, .ref qx), (0, .ref b)]) hx hb dL_law_19 rfl hl (by decide) rfl (fun ls hl => ?_)
  refine lv_iconst (v := 0) hx hb dL_law_20 (by decide) ?_
  refine lv_istore (lv' := [(4, .int 0), (3, .ref oa), (2, .ref qm), (1, .ref qx), (0, .ref b)]) hx hb dL_law_21 hl (by decide) rfl (fun ls hl => ?_)
  have hperm := start_perm (oa, .inl (cy 1, 1, .inr (.inl (fun _ => 0)))) (start_X cy g qx u) (start_M cy qm v)
  rw [hWX] at hP hD
  have hP := k_dropP (k_permP hperm hP)
  have hD := k_dropD (k_permD hperm hD)
  rw [List.append_nil] at hP hD
  have F : LF p l s m #[Value.ref b] c A D cy g b L xs room_1 := ⟨hx, hb, hml, hown, ht, hK, hY, hN, hA, hC, hR, hX, hbl, hA0 b hbl, hl0, hMN8⟩
  refine lawLoop F k hL Inv (hstep _) (fun H locs cells slots ls hS hc hs => ?_) 512 0 _ _ (x0 (u 15 0)) (m0 (v 2)) (fun _ => 0) H _ ls (by omega) (by omega) (Nat.le_of_ble_eq_true rfl) (Nat.le_of_ble_eq_true rfl) (h0 _ _) hP hD hS (lv_sub hl [4, 3, 2, 1, 0] rfl)
  refine lv_iconst (v := 1) hx hb dL_law_2929 (by decide) ?_
  refine va_forget (fun q hq => ?_) ?_
  · have h9 := hS.2.2 q hq
    rw [hA9] at h9
    exact h9
  refine W.widen (k := 601024) (n := 7293033) hc hs ?_
  refine W.base ?_
  exact lw_ret (Drawn.sameBut.refl s.drawn lw_cs) hx hb hr hlocks dL_law_2930
