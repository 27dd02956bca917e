/-! The first world stands: a new object's block and a new reference's are the world sg0. -/
theorem ids1_m {x m k i : Nat} (h : (m, k, i) ∈ ids1 x) : m = x := by
  unfold ids1 at h
  rcases List.mem_append.mp h with h | h
  · rcases List.mem_append.mp h with h | h
    · simp only [List.mem_cons, List.not_mem_nil, or_false, Prod.mk.injEq] at h
      omega
    · obtain ⟨y, hy, h⟩ := List.mem_flatMap.mp h
      simp only [List.mem_cons, List.not_mem_nil, or_false, Prod.mk.injEq] at h
      omega
  · obtain ⟨y, hy, h⟩ := List.mem_flatMap.mp h
    simp only [List.mem_cons, List.not_mem_nil, or_false, Prod.mk.injEq] at h
    omega
theorem stF_eq (j : Nat) : stF j = st0 j := by
  by_cases h : j < 4
  · rcases (show j = 0 ∨ j = 1 ∨ j = 2 ∨ j = 3 by omega) with rfl | rfl | rfl | rfl <;> rfl
  · rw [st0_ge (by omega)]
    show (if j = 3 then (1 : Int32) else if j = 2 then 12 else if j = 1 then 20 else if j = 0 then 3 else 0) = 0
    rw [if_neg (by omega), if_neg (by omega), if_neg (by omega), if_neg (by omega)]
section E0W
variable {E : Ev} {b : Nat} {H : Heap}
theorem hist_m (h : Bk E b (esHist E b) H) : Bk E (b + 2) (esMach E (b + 2)) H ∧ ∀ i, i < 6 → Bk E (b + 51 + 49 * i) (esMach E (b + 51 + 49 * i)) H := by
  have h : Bk E b (hH E b (rowR (b + 51) 49 6) ++ hM E b 6) H := h
  have hQ : Bk E (b + 2) (hM E b 6) H := Bk_snd (p := hH E b (rowR (b + 51) 49 6)) (r := hM E b 6) h rfl
  refine ⟨Bk_repsL (g := fun n => esMach E (b + 51 + 49 * n)) (L := esMach E (b + 2)) (n := 6) hQ, fun i hi => ?_⟩
  have h1 := Bk_reps (g := fun n => esMach E (b + 51 + 49 * n)) (L := esMach E (b + 2)) (n := 6) (w := 49) (c := 49) (fun _ => esMach_len _ _) (esMach_len _ _) hQ hi
  rw [show b + 2 + (49 + 49 * i) = b + 51 + 49 * i by omega] at h1
  exact h1
theorem hist_c (h : Bk E b (esHist E b) H) : AtC E b (.inr (0, [.ref (b + 1), .ref (b + 2), .int 0])) H ∧ AtC E (b + 1) (.inl (eC E 5, 6, .inr (.inr (.inr (.inr (rowR (b + 51) 49 6)))))) H := by
  have h : Bk E b (hH E b (rowR (b + 51) 49 6) ++ hM E b 6) H := h
  have hP := Bk_fst (p := hH E b (rowR (b + 51) 49 6)) (r := hM E b 6) h
  exact ⟨hP 0 _ rfl, hP 1 _ rfl⟩
theorem sw_cut (h : Bk E b (esSW E b) H) : AtC E b (.inr (5, [.ref (b + 1), .ref (b + 50), .ref (b + 99), .ref (b + 444), .ref (b + 445), .ref (b + 446)])) H ∧ Bk E (b + 1) (esMach E (b + 1)) H ∧ Bk E (b + 50) (esMach E (b + 50)) H ∧ Bk E (b + 99) (esHist E (b + 99)) H ∧ AtC E (b + 444) (.inl (eC E 5, 2, .inr (.inr (.inr (.inr (rowR (b + 449) 49 2)))))) H ∧ AtC E (b + 445) (.inl (eC E 1, 2, .inl (fun _ => 0))) H ∧ Bk E (b + 446) (esPad E (b + 446)) H ∧ ∀ i, i < 2 → Bk E (b + 449 + 49 * i) (esMach E (b + 449 + 49 * i)) H := by
  have h : Bk E b (swQ E b ++ (.inl (eC E 5, 2, .inr (.inr (.inr (.inr (rowR (b + 449) 49 2))))) :: swM E b 2)) H := h
  have hQ : Bk E b ((([.inr (5, [.ref (b + 1), .ref (b + 50), .ref (b + 99), .ref (b + 444), .ref (b + 445), .ref (b + 446)])] ++ esMach E (b + 1)) ++ esMach E (b + 50)) ++ esHist E (b + 99)) H := Bk_fst h
  have hR := Bk_snd h (swQ_len _ _)
  have hS : Bk E (b + 445) (swM E b 2) H := Bk_tl hR
  have hSP : Bk E (b + 445) ([.inl (eC E 1, 2, .inl (fun _ => 0))] ++ esPad E (b + 446)) H := Bk_repsL (g := fun n => esMach E (b + 449 + 49 * n)) (L := [.inl (eC E 1, 2, .inl (fun _ => 0))] ++ esPad E (b + 446)) (n := 2) hS
  have h12 := Bk_fst hQ
  have h1 := Bk_fst h12
  refine ⟨Bk_fst h1 0 _ rfl, Bk_snd h1 rfl, Bk_snd h12 (by rw [List.length_append, esMach_len]; rfl), Bk_snd hQ (by rw [List.length_append, List.length_append, esMach_len, esMach_len]; rfl), hR 0 _ rfl, Bk_fst hSP 0 _ rfl, Bk_snd hSP rfl, fun i hi => ?_⟩
  have h9 := Bk_reps (g := fun n => esMach E (b + 449 + 49 * n)) (L := [.inl (eC E 1, 2, .inl (fun _ => 0))] ++ esPad E (b + 446)) (n := 2) (w := 49) (c := 4) (fun _ => esMach_len _ _) rfl hS hi
  rw [show b + 445 + (4 + 49 * i) = b + 449 + 49 * i by omega] at h9
  exact h9
end E0W
