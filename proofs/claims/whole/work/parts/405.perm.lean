/-! worlds in another order -/
theorem k_permP {D : va_G} {a b : va_W} {H : Heap} (hp : a.Perm b) (h : va_P D classes a H) : va_P D classes b H := by
  intro k q hk
  have h1 : q ∈ a := hp.mem_iff.mpr (List.mem_of_getElem? hk)
  obtain ⟨j, hj⟩ := List.getElem?_of_mem h1
  exact h j q hj
theorem k_D_iff {A : Nat → Prop} {a : va_W} : va_D A a ↔ (a.map Prod.fst).Nodup ∧ ∀ q ∈ a, A q.1 := by
  constructor
  · intro h
    refine ⟨List.pairwise_iff_getElem.mpr (fun i j hi hj hij he => ?_), fun q hq => ?_⟩
    · rw [List.length_map] at hi hj
      rw [List.getElem_map, List.getElem_map] at he
      have := h.1 i j _ _ (List.getElem?_eq_getElem hi) (List.getElem?_eq_getElem hj) he
      omega
    · obtain ⟨j, hj⟩ := List.getElem?_of_mem hq
      exact h.2 j q hj
  · intro h
    refine ⟨fun i j x y hi hj hxy => ?_, fun k q hk => h.2 q (List.mem_of_getElem? hk)⟩
    have h1 := List.pairwise_iff_getElem.mp h.1
    obtain ⟨li, ei⟩ := List.getElem?_eq_some_iff.mp hi
    obtain ⟨lj, ej⟩ := List.getElem?_eq_some_iff.mp hj
    rcases Nat.lt_trichotomy i j with q | q | q
    · exact absurd (by rw [List.getElem_map, List.getElem_map, ei, ej]; exact hxy) (h1 i j (by rw [List.length_map]; exact li) (by rw [List.length_map]; exact lj) q)
    · exact q
    · exact absurd (by rw [List.getElem_map, List.getElem_map, ei, ej]; exact hxy.symm) (h1 j i (by rw [List.length_map]; exact lj) (by rw [List.length_map]; exact li) q)
theorem k_permD {A : Nat → Prop} {a b : va_W} (hp : a.Perm b) (h : va_D A a) : va_D A b := by
  rw [k_D_iff] at h ⊢
  exact ⟨(hp.map Prod.fst).nodup_iff.mp h.1, fun q hq => h.2 q (hp.mem_iff.mpr hq)⟩
theorem segN_succ {n : Nat} {f f' : Nat → Nat × va_E} {x : Nat × va_E} (h : ∀ k, k < n → f' k = f k) (hx : f' n = x) : segN (n + 1) f' = segN n f ++ [x] := by
  unfold segN
  rw [List.range_succ, List.map_append, List.map_singleton, hx]
  congr 1
  exact List.map_congr_left (fun k hk => h k (List.mem_range.mp hk))
theorem nI_neg {i : Nat} (h : i < 1000) : ¬ nI i < 0 := by
  rw [Int32.lt_iff_toInt_lt]
  show ¬ (Int32.ofNat i).toInt < 0
  rw [Int32.toInt_ofNat_of_lt (by omega)]
  omega
theorem upf_succ {i v : Nat} {sa : Nat → Nat} : va_up (fun j => if j < i then some (sa j) else none) i (some v) = (fun j => if j < i + 1 then some (upN sa i v j) else none) := by
  funext j
  unfold va_up upN
  by_cases h : j = i
  · subst h; simp
  · by_cases h2 : j < i
    · simp [h, h2, Nat.lt_succ_of_lt h2]
    · simp [h, h2, show ¬ j < i + 1 by omega]
