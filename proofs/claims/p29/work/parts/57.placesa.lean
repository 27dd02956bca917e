/-! The places of the first world: every cell's address from the heap's size on; the block of a new object is the first world. -/
def Bk (E : Ev) (b : Nat) (es : List va_E) (H : Heap) : Prop := ∀ (j : Nat) (e : va_E), es[j]? = some e → AtC E (b + j) e H
section SB
variable {E : Ev} {b : Nat} {H : Heap} {p r : List va_E}
theorem Bk_fst (h : Bk E b (p ++ r) H) : Bk E b p H := fun j e he => h j e (by rw [List.getElem?_append_left (List.getElem?_eq_some_iff.mp he).1]; exact he)
theorem Bk_snd (h : Bk E b (p ++ r) H) {n : Nat} (hp : p.length = n) : Bk E (b + n) r H := fun j e he => by
  subst hp
  have h1 := h (p.length + j) e (by rw [List.getElem?_append_right (Nat.le_add_right _ _), Nat.add_sub_cancel_left]; exact he)
  rw [← Nat.add_assoc] at h1
  exact h1
theorem Bk_repsL {g : Nat → List va_E} {L : List va_E} {n : Nat} (h : Bk E b (reps g L n) H) : Bk E b L H := by
  induction n with
  | zero => exact h
  | succ n ih => exact ih (Bk_fst h)
theorem Bk_reps {g : Nat → List va_E} {L : List va_E} {w c n i : Nat} (hw : ∀ n, (g n).length = w) (hL : L.length = c) (h : Bk E b (reps g L n) H) (hi : i < n) : Bk E (b + (c + w * i)) (g i) H := by
  induction n with
  | zero => exact absurd hi (Nat.not_lt_zero i)
  | succ n ih =>
    by_cases e : i = n
    · subst e
      exact Bk_snd h (by rw [reps_len hw, hL])
    · exact ih (Bk_fst h) (by omega)
theorem Bk_to {x b' : Nat} {es : Nat → List va_E} (h : Bk E b (es x) H) (e1 : b = b') (e2 : x = b') : Bk E b' (es b') H := by
  subst e1; subst e2
  exact h
theorem Bk_tl {e : va_E} {es : List va_E} (h : Bk E b (e :: es) H) : Bk E (b + 1) es H := Bk_snd (p := [e]) h rfl
theorem arr_ext {cA : ClassId} {n : Nat} {f g : Nat → Value} (h : ∀ j, j < n → f j = g j) : arrV cA n f = arrV cA n g := by
  unfold arrV
  have e : (fun j : Fin n => f j.val) = fun j => g j.val := funext fun j => h j.val j.isLt
  rw [e]
theorem atI {a : Nat} {cA : ClassId} {n : Nat} {f g : Nat → Int32} (h : AtC E a (.inl (cA, n, .inl f)) H) (e : ∀ j, j < n → f j = g j) : AtC E a (.inl (cA, n, .inl g)) H := by
  have h1 : H[a]? = some (vp_cell cA (n, .inl f)) := h
  show H[a]? = some (vp_cell cA (n, .inl g))
  rw [h1, vp_cell_i, vp_cell_i, arr_ext (fun j hj => by rw [e j hj])]
theorem atR {a : Nat} {cA : ClassId} {n : Nat} {f g : Nat → Option Nat} (h : AtC E a (.inl (cA, n, .inr (.inr (.inr (.inr f))))) H) (e : ∀ j, j < n → f j = g j) : AtC E a (.inl (cA, n, .inr (.inr (.inr (.inr g))))) H := by
  have h1 : H[a]? = some (vp_cell cA (n, .inr (.inr (.inr (.inr f))))) := h
  show H[a]? = some (vp_cell cA (n, .inr (.inr (.inr (.inr g)))))
  rw [h1, vp_cell_q, vp_cell_q, arr_ext (fun j hj => by rw [e j hj])]
end SB
/-- addresses, from the first one on -/
def mb (m : Nat) : Nat := if m = 0 then 1 else if m = 1 then 50 else if m = 2 then 101 else if m < 9 then 150 + 49 * (m - 3) else 449 + 49 * (m - 9)
def mo (k i : Nat) : Nat := match k with
  | 0 => 0
  | 1 => 1
  | 2 => 2
  | 3 => 3
  | 4 => 4
  | 5 => 5 + 3 * i
  | 6 => 6 + 3 * i
  | 7 => 7 + 3 * i
  | 8 => 17 + 2 * i
  | _ => 18 + 2 * i
def off (m k i : Nat) : Nat := if m < 11 then mb m + mo k i else if m = 11 then (match k with
  | 10 => 0
  | 11 => 99
  | 12 => 100
  | 13 => 444
  | 14 => 445
  | 15 => 446
  | 16 => 447
  | _ => 448) else 0
abbrev E0 (D : va_G) (N : Nat) (C : Nat → ClassId) (T K V : Nat → Nat) : Ev := (D, fun m k i => N + off m k i, C, T, K, V)
def invm (m r : Nat) : Nat × Nat × Nat := if r ≤ 4 then (m, r, 0) else if r < 17 then (m, 5 + (r - 5) % 3, (r - 5) / 3) else (m, 8 + (r - 17) % 2, (r - 17) / 2)
/-- whose address it is -/
def inv (n : Nat) : Nat × Nat × Nat := if n = 0 then (11, 10, 0) else if n < 50 then invm 0 (n - 1) else if n < 99 then invm 1 (n - 50) else if n = 99 then (11, 11, 0) else if n = 100 then (11, 12, 0) else if n < 150 then invm 2 (n - 101) else if n < 444 then invm (3 + (n - 150) / 49) ((n - 150) % 49) else if n < 449 then (11, 13 + (n - 444), 0) else invm (9 + (n - 449) / 49) ((n - 449) % 49)
theorem inv_off : (ids.all (fun q => decide (inv (off q.1 q.2.1 q.2.2) = q))) = true := by decide +kernel
theorem inv_ok {m k i : Nat} (h : okc m k i) : inv (off m k i) = (m, k, i) := by
  have h1 := List.all_eq_true.mp inv_off _ h
  exact of_decide_eq_true h1
