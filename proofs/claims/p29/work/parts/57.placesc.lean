section E0S
variable {D : va_G} {N : Nat} {C : Nat → ClassId} {T K V : Nat → Nat} {H : Heap}
section MA
variable {m b : Nat}
theorem ma_0 (ha : ∀ k i, ad (E0 D N C T K V) m k i = b + mo k i) (hP : Bk (E0 D N C T K V) b (mH (E0 D N C T K V) b (rowR (b + 5) 3 4) (rowR (b + 17) 2 16)) H) : AtC (E0 D N C T K V) (b + mo 0 0) (ce (E0 D N C T K V) 0 m 0 (mu0 0 0)) H := by
  show AtC (E0 D N C T K V) (b + 0) (.inr (2, [.ref (ad (E0 D N C T K V) m 1 0), .ref (ad (E0 D N C T K V) m 2 0), .ref (ad (E0 D N C T K V) m 3 0), .ref (ad (E0 D N C T K V) m 4 0), .int 0, .int 0, .int 0, .int 0])) H
  rw [ha, ha, ha, ha]
  exact hP 0 _ rfl
theorem ma_1 (hP : Bk (E0 D N C T K V) b (mH (E0 D N C T K V) b (rowR (b + 5) 3 4) (rowR (b + 17) 2 16)) H) : AtC (E0 D N C T K V) (b + mo 1 0) (ce (E0 D N C T K V) 1 m 0 (mu0 1 0)) H := by
  have h1 : AtC (E0 D N C T K V) (b + 1) (.inl (C 0, 4, .inl stF)) H := hP 1 _ rfl
  have h2 : AtC (E0 D N C T K V) (b + 1) (.inl (C 0, 4, .inl st0)) H := atI h1 (fun j hj => by rcases (show j = 0 ∨ j = 1 ∨ j = 2 ∨ j = 3 by omega) with rfl | rfl | rfl | rfl <;> rfl)
  exact h2
theorem ma_2 (ha : ∀ k i, ad (E0 D N C T K V) m k i = b + mo k i) (hP : Bk (E0 D N C T K V) b (mH (E0 D N C T K V) b (rowR (b + 5) 3 4) (rowR (b + 17) 2 16)) H) : AtC (E0 D N C T K V) (b + mo 2 0) (ce (E0 D N C T K V) 2 m 0 (mu0 2 0)) H := by
  have h1 : AtC (E0 D N C T K V) (b + 2) (.inl (C 3, 4, .inr (.inr (.inr (.inr (rowR (b + 5) 3 4)))))) H := hP 2 _ rfl
  have h2 : AtC (E0 D N C T K V) (b + 2) (.inl (C 3, 4, .inr (.inr (.inr (.inr (fun j => some (ad (E0 D N C T K V) m 5 j))))))) H := atR h1 (fun j hj => by
    show (if j < 4 then some (b + 5 + 3 * j) else none) = some (ad (E0 D N C T K V) m 5 j)
    rw [if_pos hj, ha]
    show some (b + 5 + 3 * j) = some (b + (5 + 3 * j))
    rw [Nat.add_assoc])
  exact h2
theorem ma_3 (ha : ∀ k i, ad (E0 D N C T K V) m k i = b + mo k i) (hP : Bk (E0 D N C T K V) b (mH (E0 D N C T K V) b (rowR (b + 5) 3 4) (rowR (b + 17) 2 16)) H) : AtC (E0 D N C T K V) (b + mo 3 0) (ce (E0 D N C T K V) 3 m 0 (mu0 3 0)) H := by
  have h1 : AtC (E0 D N C T K V) (b + 3) (.inl (C 4, 16, .inr (.inr (.inr (.inr (rowR (b + 17) 2 16)))))) H := hP 3 _ rfl
  have h2 : AtC (E0 D N C T K V) (b + 3) (.inl (C 4, 16, .inr (.inr (.inr (.inr (fun j => some (ad (E0 D N C T K V) m 8 j))))))) H := atR h1 (fun j hj => by
    show (if j < 16 then some (b + 17 + 2 * j) else none) = some (ad (E0 D N C T K V) m 8 j)
    rw [if_pos hj, ha]
    show some (b + 17 + 2 * j) = some (b + (17 + 2 * j))
    rw [Nat.add_assoc])
  exact h2
theorem ma_4 (hP : Bk (E0 D N C T K V) b (mH (E0 D N C T K V) b (rowR (b + 5) 3 4) (rowR (b + 17) 2 16)) H) : AtC (E0 D N C T K V) (b + mo 4 0) (ce (E0 D N C T K V) 4 m 0 (mu0 4 0)) H := by
  have h1 : AtC (E0 D N C T K V) (b + 4) (.inl (C 0, 6, .inl (fun _ => 0))) H := hP 4 _ rfl
  exact h1
theorem ma_5 {i : Nat} (ha : ∀ k i, ad (E0 D N C T K V) m k i = b + mo k i) (hL : Bk (E0 D N C T K V) (b + 5 + 3 * i) (esLane (E0 D N C T K V) (b + 5 + 3 * i)) H) : AtC (E0 D N C T K V) (b + mo 5 i) (ce (E0 D N C T K V) 5 m i (mu0 5 i)) H := by
  have h1 : AtC (E0 D N C T K V) (b + 5 + 3 * i) (.inr (1, [.ref (b + 5 + 3 * i + 1), .ref (b + 5 + 3 * i + 2), .int 0, .int 0, .int 0, .int 0, .int 0, .int 0])) H := hL 0 _ rfl
  show AtC (E0 D N C T K V) (b + (5 + 3 * i)) (.inr (1, [.ref (ad (E0 D N C T K V) m 6 i), .ref (ad (E0 D N C T K V) m 7 i), .int 0, .int 0, .int 0, .int 0, .int 0, .int 0])) H
  rw [ha, ha, show b + (5 + 3 * i) = b + 5 + 3 * i by omega, show b + mo 6 i = b + 5 + 3 * i + 1 by show b + (6 + 3 * i) = _; omega, show b + mo 7 i = b + 5 + 3 * i + 2 by show b + (7 + 3 * i) = _; omega]
  exact h1
theorem ma_6 {i : Nat} (hL : Bk (E0 D N C T K V) (b + 5 + 3 * i) (esLane (E0 D N C T K V) (b + 5 + 3 * i)) H) : AtC (E0 D N C T K V) (b + mo 6 i) (ce (E0 D N C T K V) 6 m i (mu0 6 i)) H := by
  have h1 : AtC (E0 D N C T K V) (b + 5 + 3 * i + 1) (.inl (C 0, 6, .inl (fun _ => 0))) H := hL 1 _ rfl
  rw [show b + mo 6 i = b + 5 + 3 * i + 1 by show b + (6 + 3 * i) = _; omega]
  exact h1
theorem ma_7 {i : Nat} (hL : Bk (E0 D N C T K V) (b + 5 + 3 * i) (esLane (E0 D N C T K V) (b + 5 + 3 * i)) H) : AtC (E0 D N C T K V) (b + mo 7 i) (ce (E0 D N C T K V) 7 m i (mu0 7 i)) H := by
  have h1 : AtC (E0 D N C T K V) (b + 5 + 3 * i + 2) (.inl (C 0, 6, .inl (fun _ => 0))) H := hL 2 _ rfl
  rw [show b + mo 7 i = b + 5 + 3 * i + 2 by show b + (7 + 3 * i) = _; omega]
  exact h1
theorem ma_8 {i : Nat} (ha : ∀ k i, ad (E0 D N C T K V) m k i = b + mo k i) (hT : Bk (E0 D N C T K V) (b + 17 + 2 * i) (esTin (E0 D N C T K V) (b + 17 + 2 * i)) H) : AtC (E0 D N C T K V) (b + mo 8 i) (ce (E0 D N C T K V) 8 m i (mu0 8 i)) H := by
  have h1 : AtC (E0 D N C T K V) (b + 17 + 2 * i) (.inr (4, [.ref (b + 17 + 2 * i + 1), .int 0, .int 0, .int 0])) H := hT 0 _ rfl
  show AtC (E0 D N C T K V) (b + (17 + 2 * i)) (.inr (4, [.ref (ad (E0 D N C T K V) m 9 i), .int 0, .int 0, .int 0])) H
  rw [ha, show b + (17 + 2 * i) = b + 17 + 2 * i by omega, show b + mo 9 i = b + 17 + 2 * i + 1 by show b + (18 + 2 * i) = _; omega]
  exact h1
theorem ma_9 {i : Nat} (hT : Bk (E0 D N C T K V) (b + 17 + 2 * i) (esTin (E0 D N C T K V) (b + 17 + 2 * i)) H) : AtC (E0 D N C T K V) (b + mo 9 i) (ce (E0 D N C T K V) 9 m i (mu0 9 i)) H := by
  have h1 : AtC (E0 D N C T K V) (b + 17 + 2 * i + 1) (.inl (C 0, 6, .inl (fun _ => 0))) H := hT 1 _ rfl
  rw [show b + mo 9 i = b + 17 + 2 * i + 1 by show b + (18 + 2 * i) = _; omega]
  exact h1
end MA
end E0S
