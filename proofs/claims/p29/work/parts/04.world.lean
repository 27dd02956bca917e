/-! THE WORLD: every cell of the system and of the reference has a place (m, k, i): k its kind, m its machine (0 now, 1 trial, 2 to 8 the history's, 9 and 10 the slots'; 11 the system's other cells), i its number. A state gives each cell a row of ints. -/
abbrev Sg : Type := Nat → Nat → Nat → Nat → Int32
/-- the launch's numbers: classes and slots; addresses; array classes; static arrays; Strings and their byte arrays -/
abbrev Ev : Type := va_G × (Nat → Nat → Nat → Nat) × (Nat → ClassId) × (Nat → Nat) × (Nat → Nat) × (Nat → Nat)
abbrev eD (E : Ev) : va_G := E.1
abbrev ad (E : Ev) (m k i : Nat) : Nat := E.2.1 m k i
abbrev eC (E : Ev) (k : Nat) : ClassId := E.2.2.1 k
abbrev eT (E : Ev) (k : Nat) : Nat := E.2.2.2.1 k
abbrev eK (E : Ev) : Nat → Nat := E.2.2.2.2.1
abbrev eV (E : Ev) : Nat → Nat := E.2.2.2.2.2
/-- the places -/
def ids1 (m : Nat) : List (Nat × Nat × Nat) := [(m, 0, 0), (m, 1, 0), (m, 2, 0), (m, 3, 0), (m, 4, 0)] ++ (List.range 4).flatMap (fun i => [(m, 5, i), (m, 6, i), (m, 7, i)]) ++ (List.range 16).flatMap (fun i => [(m, 8, i), (m, 9, i)])
def ids : List (Nat × Nat × Nat) := (List.range 11).flatMap ids1 ++ (List.range 8).map (fun k => (11, 10 + k, 0))
abbrev okc (m k i : Nat) : Prop := (m, k, i) ∈ ids
theorem okc_1 {m k i : Nat} (hm : m < 11) (h : (m, k, i) ∈ ids1 m) : okc m k i := List.mem_append_left _ (List.mem_flatMap.mpr ⟨m, List.mem_range.mpr hm, h⟩)
theorem ok0 {m : Nat} (hm : m < 11) : okc m 0 0 := okc_1 hm (by simp [ids1])
theorem ok1 {m : Nat} (hm : m < 11) : okc m 1 0 := okc_1 hm (by simp [ids1])
theorem ok2 {m : Nat} (hm : m < 11) : okc m 2 0 := okc_1 hm (by simp [ids1])
theorem ok3 {m : Nat} (hm : m < 11) : okc m 3 0 := okc_1 hm (by simp [ids1])
theorem ok4 {m : Nat} (hm : m < 11) : okc m 4 0 := okc_1 hm (by simp [ids1])
theorem ok5 {m i : Nat} (hm : m < 11) (hi : i < 4) : okc m 5 i := okc_1 hm (by simp [ids1]; omega)
theorem ok6 {m i : Nat} (hm : m < 11) (hi : i < 4) : okc m 6 i := okc_1 hm (by simp [ids1]; omega)
theorem ok7 {m i : Nat} (hm : m < 11) (hi : i < 4) : okc m 7 i := okc_1 hm (by simp [ids1]; omega)
theorem ok8 {m i : Nat} (hm : m < 11) (hi : i < 16) : okc m 8 i := okc_1 hm (by simp [ids1]; omega)
theorem ok9 {m i : Nat} (hm : m < 11) (hi : i < 16) : okc m 9 i := okc_1 hm (by simp [ids1]; omega)
theorem ok10 {k : Nat} (h : k < 8) : okc 11 (10 + k) 0 := List.mem_append_right _ (List.mem_map.mpr ⟨k, List.mem_range.mpr h, rfl⟩)
/-- what the cell at a place holds, by its row -/
def ce (E : Ev) (k m i : Nat) (f : Nat → Int32) : va_E := match k with
  | 0 => .inr (2, [.ref (ad E m 1 0), .ref (ad E m 2 0), .ref (ad E m 3 0), .ref (ad E m 4 0), .int (f 4), .int (f 5), .int (f 6), .int (f 7)])
  | 1 => .inl (eC E 0, 4, .inl f)
  | 2 => .inl (eC E 3, 4, .inr (.inr (.inr (.inr (fun j => some (ad E m 5 j))))))
  | 3 => .inl (eC E 4, 16, .inr (.inr (.inr (.inr (fun j => some (ad E m 8 j))))))
  | 4 => .inl (eC E 0, 6, .inl f)
  | 5 => .inr (1, [.ref (ad E m 6 i), .ref (ad E m 7 i), .int (f 2), .int (f 3), .int (f 4), .int (f 5), .int (f 6), .int (f 7)])
  | 6 => .inl (eC E 0, 6, .inl f)
  | 7 => .inl (eC E 0, 6, .inl f)
  | 8 => .inr (4, [.ref (ad E m 9 i), .int (f 1), .int (f 2), .int (f 3)])
  | 9 => .inl (eC E 0, 6, .inl f)
  | 10 => .inr (5, [.ref (ad E 0 0 0), .ref (ad E 1 0 0), .ref (ad E 11 11 0), .ref (ad E 11 13 0), .ref (ad E 11 14 0), .ref (ad E 11 15 0)])
  | 11 => .inr (0, [.ref (ad E 11 12 0), .ref (ad E (f 1).toNatClampNeg 0 0), .int (f 2)])
  | 12 => .inl (eC E 5, 6, .inr (.inr (.inr (.inr (fun j => some (ad E (f j).toNatClampNeg 0 0))))))
  | 13 => .inl (eC E 5, 2, .inr (.inr (.inr (.inr (fun j => some (ad E (9 + j) 0 0))))))
  | 14 => .inl (eC E 1, 2, .inl f)
  | 15 => .inr (3, [.ref (ad E 11 16 0), .ref (ad E 11 17 0), .int (f 2), .int (f 3), .int (f 4), .int (f 5)])
  | 16 => .inl (eC E 2, 80, .inl f)
  | 17 => .inl (eC E 0, 3, .inl f)
  | _ => .inl (eC E 0, 4, .inl f)
def wl (E : Ev) (σ : Sg) : va_W := ids.map (fun q => (ad E q.1 q.2.1 q.2.2, ce E q.2.1 q.1 q.2.2 (σ q.1 q.2.1 q.2.2)))
def WD (E : Ev) (σ : Sg) (H : Heap) : Prop := va_P (eD E) vwCl (wl E σ) H
def eA (E : Ev) : Nat → Prop := fun q => ∃ m k i, okc m k i ∧ q = ad E m k i
def Inj (E : Ev) : Prop := ∀ m k i m' k' i', okc m k i → okc m' k' i' → ad E m k i = ad E m' k' i' → (m, k, i) = (m', k', i')
def ua (σ : Sg) (m k i : Nat) (f : Nat → Int32) : Sg := fun a b c => if a = m ∧ b = k ∧ c = i then f else σ a b c
def up (σ : Sg) (m k i j : Nat) (x : Int32) : Sg := ua σ m k i (upd (σ m k i) j x)
def idc (q : Nat × Nat × Nat) : Nat := q.1 * 1000 + q.2.1 * 20 + q.2.2
theorem ids_nd : va_nd (ids.map idc) = true := by decide +kernel
theorem ids_inj {a b : Nat} {z : Nat × Nat × Nat} (h1 : ids[a]? = some z) (h2 : ids[b]? = some z) : a = b := va_nd_inj _ ids_nd a b (idc z) (by rw [List.getElem?_map, h1]; rfl) (by rw [List.getElem?_map, h2]; rfl)
theorem wl_at (E : Ev) (σ : Sg) {m k i : Nat} (h : okc m k i) : ∃ q : Nat, ids[q]? = some (m, k, i) ∧ (wl E σ)[q]? = some (ad E m k i, ce E k m i (σ m k i)) := by
  obtain ⟨q, hq⟩ := List.getElem?_of_mem h
  exact ⟨q, hq, by simp [wl, hq]⟩
theorem wl_D (E : Ev) (σ : Sg) (h : Inj E) : va_D (eA E) (wl E σ) := by
  have key : ∀ (n : Nat) (q : Nat × va_E), (wl E σ)[n]? = some q → ∃ m k i, ids[n]? = some (m, k, i) ∧ q.1 = ad E m k i := by
    intro n q hq
    unfold wl at hq
    rw [List.getElem?_map] at hq
    cases hn : ids[n]? with
    | none => rw [hn] at hq; cases hq
    | some z =>
      rw [hn] at hq
      obtain ⟨m, k, i⟩ := z
      exact ⟨m, k, i, rfl, by cases hq; rfl⟩
  refine ⟨fun a b p q ha hb hpq => ?_, fun n q hq => ?_⟩
  · obtain ⟨m, k, i, h1, h2⟩ := key a p ha
    obtain ⟨m', k', i', h3, h4⟩ := key b q hb
    have e := h m k i m' k' i' (List.mem_of_getElem? h1) (List.mem_of_getElem? h3) (by rw [← h2, ← h4]; exact hpq)
    rw [← e] at h3
    exact ids_inj h1 h3
  · obtain ⟨m, k, i, h1, h2⟩ := key n q hq
    exact ⟨m, k, i, List.mem_of_getElem? h1, h2⟩
theorem wl_set (E : Ev) (σ : Sg) {m k i q : Nat} (hq : ids[q]? = some (m, k, i)) (f : Nat → Int32) : (wl E σ).set q (ad E m k i, ce E k m i f) = wl E (ua σ m k i f) := by
  obtain ⟨l1, g1⟩ := List.getElem?_eq_some_iff.mp hq
  apply List.ext_getElem?
  intro n
  by_cases hn : n = q
  · subst hn
    rw [List.getElem?_set_self (by simpa [wl] using l1)]
    simp [wl, hq, ua]
  · rw [List.getElem?_set_ne (Ne.symm hn)]
    unfold wl
    rw [List.getElem?_map, List.getElem?_map]
    cases hz : ids[n]? with
    | none => rfl
    | some z =>
      obtain ⟨m', k', i'⟩ := z
      have hne : ¬ (m' = m ∧ k' = k ∧ i' = i) := by
        rintro ⟨rfl, rfl, rfl⟩
        exact hn (ids_inj hz hq)
      simp [ua, hne]
theorem WD.cell {E : Ev} {σ : Sg} {H : Heap} (h : WD E σ H) {m k i : Nat} (ok : okc m k i) {e : va_E} (he : ce E k m i (σ m k i) = e) : va_P (eD E) vwCl [(ad E m k i, e)] H := by
  obtain ⟨q, -, h2⟩ := wl_at E σ ok
  subst he
  intro n z hz
  cases n with
  | zero => cases hz; exact h q _ h2
  | succ n => cases hz
