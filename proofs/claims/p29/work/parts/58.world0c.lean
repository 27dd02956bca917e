section E0X
variable {D : va_G} {N : Nat} {C : Nat → ClassId} {T K V : Nat → Nat} {H : Heap}
theorem sg0_m {m : Nat} (hm : m < 11) : sg0 m = mu0 := by
  funext k i j
  show (if m < 11 then mu0 k i j else _) = _
  rw [if_pos hm]
theorem first_world (h : Bk (E0 D N C T K V) N (esSW (E0 D N C T K V) N) H) : WD (E0 D N C T K V) sg0 H := by
  have key : ∀ m k i, (m, k, i) ∈ ids → AtC (E0 D N C T K V) (ad (E0 D N C T K V) m k i) (ce (E0 D N C T K V) k m i (sg0 m k i)) H := by
    intro m k i hz
    unfold ids at hz
    rcases List.mem_append.mp hz with hz | hz
    · obtain ⟨x, hx, hz⟩ := List.mem_flatMap.mp hz
      have hx := List.mem_range.mp hx
      have e := ids1_m hz
      subst e
      rw [sg0_m hx]
      exact mach_at hx (machs h m hx) k i hz
    · obtain ⟨x, hx, e⟩ := List.mem_map.mp hz
      have hx := List.mem_range.mp hx
      cases e
      rcases (show x = 0 ∨ x = 1 ∨ x = 2 ∨ x = 3 ∨ x = 4 ∨ x = 5 ∨ x = 6 ∨ x = 7 by omega) with rfl | rfl | rfl | rfl | rfl | rfl | rfl | rfl
      · exact w_10 h
      · exact w_11 h
      · exact w_12 h
      · exact w_13 h
      · exact w_14 h
      · exact w_15 h
      · exact w_16 h
      · exact w_17 h
  intro n q hq
  unfold wl at hq
  rw [List.getElem?_map] at hq
  cases hz : ids[n]? with
  | none => rw [hz] at hq; cases hq
  | some z =>
    rw [hz] at hq
    obtain ⟨m, k, i⟩ := z
    cases hq
    exact key m k i (List.mem_of_getElem? hz)
end E0X
