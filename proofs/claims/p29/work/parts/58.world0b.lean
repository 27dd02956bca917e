section E0X
variable {D : va_G} {N : Nat} {C : Nat → ClassId} {T K V : Nat → Nat} {H : Heap}
theorem mb_3 {m : Nat} (h3 : 3 ≤ m) (h9 : m < 9) : mb m = 150 + 49 * (m - 3) := by
  unfold mb
  rw [if_neg (by omega), if_neg (by omega), if_neg (by omega), if_pos h9]
theorem mb_9 {m : Nat} (h9 : 9 ≤ m) : mb m = 449 + 49 * (m - 9) := by
  unfold mb
  rw [if_neg (by omega), if_neg (by omega), if_neg (by omega), if_neg (by omega)]
theorem machs (h : Bk (E0 D N C T K V) N (esSW (E0 D N C T K V) N) H) : ∀ m, m < 11 → Bk (E0 D N C T K V) (N + mb m) (esMach (E0 D N C T K V) (N + mb m)) H := by
  obtain ⟨-, h0, h1, hh, -, -, -, h9⟩ := sw_cut h
  obtain ⟨h2, h3⟩ := hist_m hh
  intro m hm
  by_cases c0 : m = 0
  · rw [c0]; exact h0
  by_cases c1 : m = 1
  · rw [c1]; exact h1
  by_cases c2 : m = 2
  · rw [c2]
    rw [show N + 99 + 2 = N + 101 by omega] at h2
    exact h2
  by_cases c3 : m < 9
  · have z := h3 (m - 3) (by omega)
    rw [show N + 99 + 51 + 49 * (m - 3) = N + mb m by rw [mb_3 (by omega) c3]; omega] at z
    exact z
  · have z := h9 (m - 9) (by omega)
    rw [show N + 449 + 49 * (m - 9) = N + mb m by rw [mb_9 (by omega)]; omega] at z
    exact z
theorem ad_0 {m : Nat} (hm : m < 11) : ad (E0 D N C T K V) m 0 0 = N + mb m := ad_m hm 0 0
theorem w_10 (h : Bk (E0 D N C T K V) N (esSW (E0 D N C T K V) N) H) : AtC (E0 D N C T K V) (ad (E0 D N C T K V) 11 10 0) (ce (E0 D N C T K V) 10 11 0 (sg0 11 10 0)) H := by
  obtain ⟨h1, -⟩ := sw_cut h
  exact h1
theorem w_11 (h : Bk (E0 D N C T K V) N (esSW (E0 D N C T K V) N) H) : AtC (E0 D N C T K V) (ad (E0 D N C T K V) 11 11 0) (ce (E0 D N C T K V) 11 11 0 (sg0 11 11 0)) H := by
  obtain ⟨-, -, -, hh, -⟩ := sw_cut h
  obtain ⟨h1, -⟩ := hist_c hh
  have e : (sg0 11 11 0 1).toNatClampNeg = 2 := nI_clamp (by decide)
  show AtC (E0 D N C T K V) (N + 99) (.inr (0, [.ref (ad (E0 D N C T K V) 11 12 0), .ref (ad (E0 D N C T K V) (sg0 11 11 0 1).toNatClampNeg 0 0), .int 0])) H
  rw [e, ad_0 (by decide)]
  exact h1
theorem w_12 (h : Bk (E0 D N C T K V) N (esSW (E0 D N C T K V) N) H) : AtC (E0 D N C T K V) (ad (E0 D N C T K V) 11 12 0) (ce (E0 D N C T K V) 12 11 0 (sg0 11 12 0)) H := by
  obtain ⟨-, -, -, hh, -⟩ := sw_cut h
  obtain ⟨-, h1⟩ := hist_c hh
  have h2 : AtC (E0 D N C T K V) (N + 100) (.inl (C 5, 6, .inr (.inr (.inr (.inr (fun j => some (ad (E0 D N C T K V) (sg0 11 12 0 j).toNatClampNeg 0 0))))))) H := atR h1 (fun j hj => by
    have e : (sg0 11 12 0 j).toNatClampNeg = 3 + j := nI_clamp (by omega)
    show (if j < 6 then some (N + 99 + 51 + 49 * j) else none) = some (ad (E0 D N C T K V) (sg0 11 12 0 j).toNatClampNeg 0 0)
    rw [if_pos hj, e, ad_0 (by omega), mb_3 (by omega) (by omega)]
    exact congrArg some (by omega))
  exact h2
theorem w_13 (h : Bk (E0 D N C T K V) N (esSW (E0 D N C T K V) N) H) : AtC (E0 D N C T K V) (ad (E0 D N C T K V) 11 13 0) (ce (E0 D N C T K V) 13 11 0 (sg0 11 13 0)) H := by
  obtain ⟨-, -, -, -, h1, -⟩ := sw_cut h
  have h2 : AtC (E0 D N C T K V) (N + 444) (.inl (C 5, 2, .inr (.inr (.inr (.inr (fun j => some (ad (E0 D N C T K V) (9 + j) 0 0))))))) H := atR h1 (fun j hj => by
    show (if j < 2 then some (N + 449 + 49 * j) else none) = some (ad (E0 D N C T K V) (9 + j) 0 0)
    rw [if_pos hj, ad_0 (by omega), mb_9 (by omega)]
    exact congrArg some (by omega))
  exact h2
theorem w_14 (h : Bk (E0 D N C T K V) N (esSW (E0 D N C T K V) N) H) : AtC (E0 D N C T K V) (ad (E0 D N C T K V) 11 14 0) (ce (E0 D N C T K V) 14 11 0 (sg0 11 14 0)) H := by
  obtain ⟨-, -, -, -, -, h1, -⟩ := sw_cut h
  exact h1
theorem w_pad (h : Bk (E0 D N C T K V) N (esSW (E0 D N C T K V) N) H) : AtC (E0 D N C T K V) (N + 446) (.inr (3, [.ref (N + 447), .ref (N + 448), .int 0, .int 0, .int 0, .int 0])) H ∧ AtC (E0 D N C T K V) (N + 447) (.inl (C 2, 80, .inl (fun _ => 0))) H ∧ AtC (E0 D N C T K V) (N + 448) (.inl (C 0, 3, .inl (fun _ => 0))) H := by
  obtain ⟨-, -, -, -, -, -, h1, -⟩ := sw_cut h
  exact ⟨h1 0 _ rfl, h1 1 _ rfl, h1 2 _ rfl⟩
theorem w_15 (h : Bk (E0 D N C T K V) N (esSW (E0 D N C T K V) N) H) : AtC (E0 D N C T K V) (ad (E0 D N C T K V) 11 15 0) (ce (E0 D N C T K V) 15 11 0 (sg0 11 15 0)) H := (w_pad h).1
theorem w_16 (h : Bk (E0 D N C T K V) N (esSW (E0 D N C T K V) N) H) : AtC (E0 D N C T K V) (ad (E0 D N C T K V) 11 16 0) (ce (E0 D N C T K V) 16 11 0 (sg0 11 16 0)) H := (w_pad h).2.1
theorem w_17 (h : Bk (E0 D N C T K V) N (esSW (E0 D N C T K V) N) H) : AtC (E0 D N C T K V) (ad (E0 D N C T K V) 11 17 0) (ce (E0 D N C T K V) 17 11 0 (sg0 11 17 0)) H := (w_pad h).2.2
end E0X
