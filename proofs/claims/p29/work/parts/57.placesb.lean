section E0S
variable {D : va_G} {N : Nat} {C : Nat → ClassId} {T K V : Nat → Nat} {H : Heap}
theorem E0_inj : Inj (E0 D N C T K V) := by
  intro m k i m' k' i' h1 h2 e
  have e : N + off m k i = N + off m' k' i' := e
  have e2 : off m k i = off m' k' i' := by omega
  rw [← inv_ok h1, ← inv_ok h2, e2]
theorem E0_eA {q : Nat} (h : eA (E0 D N C T K V) q) : N ≤ q := by
  obtain ⟨m, k, i, -, e⟩ := h
  rw [e]
  exact Nat.le_add_right _ _
theorem ad_m {m : Nat} (hm : m < 11) (k i : Nat) : ad (E0 D N C T K V) m k i = N + mb m + mo k i := by
  show N + off m k i = _
  unfold off
  rw [if_pos hm, Nat.add_assoc]
end E0S
