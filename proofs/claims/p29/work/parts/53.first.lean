/-! The first world: a new object. -/
def st0 (j : Nat) : Int32 := ([3, 20, 12, 1] : List Int32).getD j 0
def mu0 (k _i j : Nat) : Int32 := if k = 1 then st0 j else 0
def sg0 : Sg := fun m k i j =>
  if m < 11 then mu0 k i j
  else if m = 11 then (if k = 11 then (if j = 1 then nI 2 else 0) else if k = 12 then nI (3 + j) else if k = 13 then nI (9 + j) else 0)
  else 0
theorem st0_ge {j : Nat} (h : 4 ≤ j) : st0 j = 0 := by
  obtain ⟨k, rfl⟩ : ∃ k, j = k + 4 := ⟨j - 4, by omega⟩
  rfl
theorem sum0 {f : Nat → Int32} {n : Nat} (h : ∀ k, k < n → f k = 0) : sumN f n = 0 := by
  induction n with
  | zero => rfl
  | succ n ih => rw [sumN, ih (fun k hk => h k (by omega)), h n (by omega)]; rfl
theorem or0 {f : Nat → Int32} {n : Nat} (h : ∀ k, k < n → f k = 0) : orN f n = 0 := by
  induction n with
  | zero => rfl
  | succ n ih => rw [orN, ih (fun k hk => h k (by omega)), h n (by omega)]; rfl
theorem IR_0 : IR st0 := by
  refine ⟨⟨3, by decide, by decide, rfl⟩, ⟨20, by decide, by decide, rfl⟩, ⟨12, by decide, by decide, rfl⟩, ⟨1, by decide, by decide, rfl⟩, ⟨0, Nat.zero_le _, st0_ge (by decide), fun t _ _ => ⟨st0_ge (by omega), fun f _ => st0_ge (by omega)⟩⟩, fun l _ => ⟨0, Nat.zero_le _, st0_ge (by omega), fun h hh => absurd hh (Nat.not_lt_zero h)⟩, fun t _ => ⟨Or.inl (st0_ge (by omega)), fun f _ => ⟨0, Nat.zero_le _, st0_ge (by omega)⟩⟩⟩
theorem MR_0 : MR mu0 st0 := by
  refine ⟨fun j _ => rfl, ⟨rfl, rfl, rfl, rfl⟩, fun f _ => (st0_ge (by omega)).symm, fun l _ => ?_, fun t _ => ?_⟩
  · have e : st0 (4 + 17 * l) = 0 := st0_ge (by omega)
    refine ⟨e.symm, (st0_ge (by omega)).symm, (st0_ge (by omega)).symm, (st0_ge (by omega)).symm, (st0_ge (by omega)).symm, fun h hh => ?_⟩
    rw [e] at hh
    exact absurd hh (Nat.not_lt_zero h)
  · have em : mkR st0 t = 0 := or0 (fun f _ => by rw [st0_ge (by omega), if_pos (by decide)])
    have es : swR st0 t = 0 := sum0 (fun f _ => st0_ge (by omega))
    exact ⟨em.symm, es.symm, (st0_ge (by omega)).symm, fun f _ => (st0_ge (by omega)).symm⟩
theorem ST_0 : ST sg0 st0 [] := by
  have e0 : ∀ m, m < 11 → sg0 m = mu0 := by
    intro m hm
    funext k i j
    show (if m < 11 then mu0 k i j else _) = _
    rw [if_pos hm]
  refine ⟨⟨by rw [e0 0 (by decide)]; exact MR_0, IR_0⟩, fun j => if j = 6 then 2 else 3 + j, 0, fun _ => st0, ⟨⟨fun j hj => ?_, fun i j hi hj e => ?_⟩, fun j hj => ?_, rfl, Nat.zero_le _, rfl, fun j hj => absurd hj (Nat.not_lt_zero j)⟩, Nat.zero_le _, fun i s hi => by simp at hi⟩
  · dsimp only
    split <;> omega
  · dsimp only at e
    split at e <;> split at e <;> omega
  · dsimp only
    rw [if_neg (by omega)]
    rfl
theorem NV_0 : NV st0 := by
  have z : ∀ j, 4 ≤ j → st0 j = 0 := fun j hj => st0_ge hj
  refine ⟨⟨⟨⟨fun f g hf hg => ?_, fun f hf => ?_⟩, fun t f g ht hf hg h1 h2 h3 => ?_, fun t ht h1 => ?_, fun l h hl h5 hh => ?_, ?_⟩, fun l hl => ?_⟩, ⟨0, Nat.zero_le _, z 191 (by decide), ⟨0, 0, z 192 (by decide), z 193 (by decide), Nat.le_refl 0, Nat.zero_le _⟩, fun l hl => ⟨0, z _ (by omega), Nat.zero_le _⟩⟩, fun l hl => ⟨0, Nat.zero_le _, z _ (by omega)⟩⟩
  · rw [z _ (by omega), z _ (by omega), tb_0, tb_0]
  · rw [z _ (by omega), tb_0]
  · rw [z _ (by omega)] at h2
    exact absurd (by decide) h2
  · rw [z _ (by omega)] at h1
    exact absurd h1 (by decide)
  · rw [z _ (by omega)] at hh
    exact absurd hh (Nat.not_lt_zero _)
  · have e1 : lnR st0 16 = 0 := sum0 (fun l hl => z _ (by omega))
    have e2 : sumN (fun t => swR st0 t) 16 = 0 := sum0 (fun t ht => sum0 (fun f hf => z _ (by omega)))
    exact e1.trans e2.symm
  · rw [z _ (by omega), z _ (by omega), z _ (by omega)]
    rfl
