/-! What the decompiled methods rest on: loops, places, small values, the methods that are walked by hand. -/
/-- a loop, some rounds deep -/
def lpN {α : Type} (F : (α → Prop) → α → Prop) : Nat → α → Prop
  | 0 => fun _ => False
  | n + 1 => F (lpN F n)
theorem lpN_G {α : Type} {F : (α → Prop) → α → Prop} {P : α → Prop} (h : ∀ (K : α → Prop) (a : α), (∀ a', K a' → P a') → F K a → P a) : ∀ (n : Nat) (a : α), lpN F n a → P a := by
  intro n
  induction n with
  | zero => intro a h0; exact h0.elim
  | succ n ih => intro a h1; exact h _ a ih h1
/-- a loop by an invariant and a measure that falls -/
theorem lpN_of {α : Type} {F : (α → Prop) → α → Prop} (J : α → Prop) (μ : α → Nat) (h : ∀ (K : α → Prop) (a : α), J a → (∀ a', J a' → μ a' < μ a → K a') → F K a) : ∀ a, J a → ∃ n, lpN F n a := by
  have key : ∀ (n : Nat) (a : α), J a → μ a < n → lpN F n a := by
    intro n
    induction n with
    | zero => intro a _ h0; exact absurd h0 (Nat.not_lt_zero _)
    | succ n ih => intro a ha hn; exact h _ a ha (fun a' h1 h2 => ih a' h1 (by omega))
  exact fun a ha => ⟨μ a + 1, key _ a ha (Nat.lt_succ_self _)⟩
theorem vp_lt {x : Int32} {n : Nat} (h : vp_in x n) : x.toNatClampNeg < n := Nat.not_le.mp fun q => h (Or.inr q)
theorem nb_bool {x : Int32} (h : x = 0 ∨ x = 1) : narrow .boolean (.int x) = .int x := by rcases h with rfl | rfl <;> rfl
theorem fb_bool {x : Int32} (h : x = 0 ∨ x = 1) : fits .boolean (.int x) = true := by rcases h with rfl | rfl <;> rfl
theorem okg_10 : okc 11 10 0 := ok10 (k := 0) (by decide)
theorem okg_11 : okc 11 11 0 := ok10 (k := 1) (by decide)
theorem okg_12 : okc 11 12 0 := ok10 (k := 2) (by decide)
theorem okg_13 : okc 11 13 0 := ok10 (k := 3) (by decide)
theorem okg_14 : okc 11 14 0 := ok10 (k := 4) (by decide)
theorem okg_15 : okc 11 15 0 := ok10 (k := 5) (by decide)
theorem okg_16 : okc 11 16 0 := ok10 (k := 6) (by decide)
theorem okg_17 : okc 11 17 0 := ok10 (k := 7) (by decide)
theorem in_big (ws : List Cond) (h : ws.all (fun w => decide (w ∈ tables_1) && goodWord w) = true) : ∀ w ∈ ws, w ∈ BIG := fun w hw => by
  have h1 := List.all_eq_true.mp h w hw
  simp only [Bool.and_eq_true, decide_eq_true_eq] at h1
  exact List.mem_filter.mpr ⟨List.mem_append_right _ h1.1, h1.2⟩
theorem inX0 : ∀ w ∈ u_ws RX0 TX0 3, w ∈ BIG := in_big _ (by decide +kernel)
theorem inX1 : ∀ w ∈ u_ws RX1 TX1 8, w ∈ BIG := in_big _ (by decide +kernel)
theorem inX2 : ∀ w ∈ u_ws RX2 TX2 8, w ∈ BIG := in_big _ (by decide +kernel)
theorem inX3 : ∀ w ∈ u_ws RX3 TX3 6, w ∈ BIG := in_big _ (by decide +kernel)
theorem inX4 : ∀ w ∈ u_ws RX4 TX4 4, w ∈ BIG := in_big _ (by decide +kernel)
theorem inX5 : ∀ w ∈ u_ws RX5 TX5 6, w ∈ BIG := in_big _ (by decide +kernel)
theorem nest_in (w : Cond) (h : w ∈ tables_1) : w ∈ tables_1 := h
theorem nI_back {m : Nat} (h : m < 11) : (nI m).toNatClampNeg = m := nI_clamp (by omega)
theorem ce_prep (E : Ev) (f : Nat → Int32) {m : Nat} (h : m < 11) : ce E 11 11 0 (upd f 1 (nI m)) = .inr (0, ([.ref (ad E 11 12 0), .ref (ad E (f 1).toNatClampNeg 0 0), .int (f 2)] : List Value).set 1 (.ref (ad E m 0 0))) := by
  show (Sum.inr (0, [.ref (ad E 11 12 0), .ref (ad E (nI m).toNatClampNeg 0 0), .int (f 2)]) : va_E) = _
  rw [nI_back h]
  rfl
section BS
variable {X : Tx} {cc : ByteArray} {own : String} {ret : Option FieldType} {fr lo nL : Nat} {Qc : Array Value → State → Outcome → State → Prop} {σ : Sg} {lv : List (Nat × Value)} {st : List Value} {pc : Nat}
theorem gx_st {σ' : Sg} {m k i j : Nat} {x : Int32} (e : σ' = up σ m k i j x) (kk : G X σ' lv st pc) : G X (ua σ m k i (upd (σ m k i) j x)) lv st pc := by
  subst e
  exact kk
theorem gx_sg {τ σ' : Sg} (e : σ' = τ) (kk : G X σ' lv st pc) : G X τ lv st pc := e ▸ kk
end BS
