/-! Pure rows: numbers, loops. -/
theorem nI_lit (n : Nat) : (OfNat.ofNat n : Int32) = nI n := rfl
/-- a loop that counts -/
theorem lpN_rel {α : Type} {F : (α → Prop) → α → Prop} (n : Nat) (J : Nat → α → Prop) (step : ∀ (K : α → Prop) (k : Nat) (a : α), k < n → J k a → (∀ a', J (k + 1) a' → K a') → F K a) (last : ∀ (K : α → Prop) (a : α), J n a → F K a) : ∀ (k : Nat) (a : α), k ≤ n → J k a → ∃ m, lpN F m a := by
  have key : ∀ (d k : Nat) (a : α), k + d = n → J k a → lpN F (d + 1) a := by
    intro d
    induction d with
    | zero =>
      intro k a hk ha
      have e : k = n := by omega
      subst e
      exact last _ a ha
    | succ d ih =>
      intro k a hk ha
      exact step _ k a (by omega) ha (fun a' h => ih (k + 1) a' (by omega) h)
  exact fun k a hk ha => ⟨n - k + 1, key (n - k) k a (by omega) ha⟩
def sumN (f : Nat → Int32) : Nat → Int32
  | 0 => 0
  | n + 1 => sumN f n + f n
def orN (f : Nat → Int32) : Nat → Int32
  | 0 => 0
  | n + 1 => orN f n ||| f n
theorem sumN_congr {f g : Nat → Int32} {n : Nat} (h : ∀ k, k < n → f k = g k) : sumN f n = sumN g n := by
  induction n with
  | zero => rfl
  | succ n ih => rw [sumN, sumN, ih (fun k hk => h k (by omega)), h n (by omega)]
theorem orN_congr {f g : Nat → Int32} {n : Nat} (h : ∀ k, k < n → f k = g k) : orN f n = orN g n := by
  induction n with
  | zero => rfl
  | succ n ih => rw [orN, orN, ih (fun k hk => h k (by omega)), h n (by omega)]
example (l w : Nat) : ((4 : Int32) + ((17 : Int32) * nI l)) + nI w = nI (4 + 17 * l + w) := by simp only [nI_lit, nI_add, pk_mul]
example (l w : Nat) : ((1 : Int32) + ((2 : Int32) * nI l)) = nI (1 + 2 * l) := by simp only [nI_lit, nI_add, pk_mul]
example (l w : Nat) (h : l < 10): (((1 : Int32) + ((2 : Int32) * nI l)) + 3).toNatClampNeg = 4 + 2 * l := by simp only [nI_lit, nI_add, pk_mul]; rw [nI_clamp (by omega)]; omega
