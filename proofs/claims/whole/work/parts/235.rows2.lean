/-! many cells put anew at once: one pass over the world -/
def fnd (j : Nat) : List Nat → va_W → Option (Nat × va_E)
  | i :: is, x :: xs => match Nat.beq i j with
    | true => some x
    | false => fnd j is xs
  | _, _ => none
def pal3 : Nat → va_W → List Nat → va_W → va_W
  | _, [], _, _ => []
  | j, w :: ws, is, xs => ((fnd j is xs).getD w) :: pal3 (j + 1) ws is xs
theorem fnd_none {j : Nat} : ∀ (is : List Nat) (xs : va_W), j ∉ is → fnd j is xs = none
  | [], _, _ => rfl
  | i :: is, [], _ => rfl
  | i :: is, x :: xs, h => by
    have h1 : Nat.beq i j = false := by
      cases h2 : Nat.beq i j with
      | false => rfl
      | true => exact absurd (Nat.eq_of_beq_eq_true h2) (fun q => h (q ▸ List.mem_cons_self))
    rw [fnd, h1]
    exact fnd_none is xs (fun q => h (List.mem_cons_of_mem _ q))
theorem pal3_get : ∀ (ws : va_W) (j k : Nat) (is : List Nat) (xs : va_W), (pal3 j ws is xs)[k]? = (ws[k]?).map (fun w => (fnd (j + k) is xs).getD w)
  | [], _, _, _, _ => rfl
  | w :: ws, j, 0, is, xs => rfl
  | w :: ws, j, k + 1, is, xs => by
    show (pal3 (j + 1) ws is xs)[k]? = _
    rw [pal3_get ws (j + 1) k is xs, show j + 1 + k = j + (k + 1) by omega]
    rfl
theorem pall_get : ∀ (is : List Nat) (xs ws : va_W) (k : Nat), va_nd is = true → (pall ws is xs)[k]? = (ws[k]?).map (fun w => (fnd k is xs).getD w)
  | [], xs, ws, k, _ => by cases xs <;> (show ws[k]? = _; cases ws[k]? <;> rfl)
  | i :: is, [], ws, k, _ => by show ws[k]? = _; cases ws[k]? <;> rfl
  | i :: is, x :: xs, ws, k, hn => by
    simp only [va_nd, Bool.and_eq_true, decide_eq_true_eq] at hn
    show (pall (ws.set i x) is xs)[k]? = _
    rw [pall_get is xs (ws.set i x) k hn.2]
    by_cases hk : k = i
    · subst hk
      rw [fnd_none is xs (by simpa using hn.1)]
      have h1 : fnd k (k :: is) (x :: xs) = some x := by rw [fnd, show Nat.beq k k = true from Nat.beq_refl k]
      rw [h1]
      by_cases hl : k < ws.length
      · rw [List.getElem?_set_self hl, List.getElem?_eq_getElem hl]; rfl
      · rw [List.getElem?_eq_none (by rw [List.length_set]; omega), List.getElem?_eq_none (by omega)]; rfl
    · rw [List.getElem?_set_ne (Ne.symm hk)]
      have h1 : fnd k (i :: is) (x :: xs) = fnd k is xs := by
        have h2 : Nat.beq i k = false := by
          cases h2 : Nat.beq i k with
          | false => rfl
          | true => exact absurd (Nat.eq_of_beq_eq_true h2).symm hk
        rw [fnd, h2]
      rw [h1]
theorem pl3 {X cx1 X' : va_W} {is : List Nat} (hn : va_nd is = true) (h : pal3 0 X is cx1 = X') : pall X is cx1 = X' := by
  rw [← h]
  apply List.ext_getElem?
  intro k
  rw [pall_get is cx1 X k hn, pal3_get, Nat.zero_add]
