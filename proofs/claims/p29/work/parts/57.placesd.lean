section E0S
variable {D : va_G} {N : Nat} {C : Nat → ClassId} {T K V : Nat → Nat} {H : Heap}
theorem mach_at {m : Nat} (hm : m < 11) (h : Bk (E0 D N C T K V) (N + mb m) (esMach (E0 D N C T K V) (N + mb m)) H) : ∀ k i, (m, k, i) ∈ ids1 m → AtC (E0 D N C T K V) (ad (E0 D N C T K V) m k i) (ce (E0 D N C T K V) k m i (mu0 k i)) H := by
  have ha0 : ∀ k i, ad (E0 D N C T K V) m k i = N + mb m + mo k i := fun k i => ad_m hm k i
  generalize N + mb m = b at h ha0
  have ha : ∀ k i, ad (E0 D N C T K V) m k i = b + mo k i := ha0
  have hP : Bk (E0 D N C T K V) b (mH (E0 D N C T K V) b (rowR (b + 5) 3 4) (rowR (b + 17) 2 16)) H := Bk_fst (p := mH (E0 D N C T K V) b (rowR (b + 5) 3 4) (rowR (b + 17) 2 16)) (r := mT (E0 D N C T K V) b 16) h
  have hQ : Bk (E0 D N C T K V) (b + 5) (mT (E0 D N C T K V) b 16) H := Bk_snd (p := mH (E0 D N C T K V) b (rowR (b + 5) 3 4) (rowR (b + 17) 2 16)) (r := mT (E0 D N C T K V) b 16) h rfl
  have hQ2 : Bk (E0 D N C T K V) (b + 5) (mL (E0 D N C T K V) b 4) H := Bk_repsL (g := fun n => esTin (E0 D N C T K V) (b + 17 + 2 * n)) (L := mL (E0 D N C T K V) b 4) (n := 16) hQ
  have hL : ∀ i, i < 4 → Bk (E0 D N C T K V) (b + 5 + 3 * i) (esLane (E0 D N C T K V) (b + 5 + 3 * i)) H := fun i hi => by
    have h1 := Bk_reps (g := fun n => esLane (E0 D N C T K V) (b + 5 + 3 * n)) (L := []) (n := 4) (w := 3) (c := 0) (fun _ => rfl) rfl hQ2 hi
    rw [Nat.zero_add] at h1
    exact h1
  have hT : ∀ i, i < 16 → Bk (E0 D N C T K V) (b + 17 + 2 * i) (esTin (E0 D N C T K V) (b + 17 + 2 * i)) H := fun i hi => by
    have h1 := Bk_reps (g := fun n => esTin (E0 D N C T K V) (b + 17 + 2 * n)) (L := mL (E0 D N C T K V) b 4) (n := 16) (w := 2) (c := 12) (fun _ => rfl) (mL_len _ _ _) hQ hi
    rw [show b + 5 + (12 + 2 * i) = b + 17 + 2 * i by omega] at h1
    exact h1
  intro k i hk
  rw [ha]
  have hk2 : (k = 0 ∧ i = 0) ∨ (k = 1 ∧ i = 0) ∨ (k = 2 ∧ i = 0) ∨ (k = 3 ∧ i = 0) ∨ (k = 4 ∧ i = 0) ∨ (k = 5 ∧ i < 4) ∨ (k = 6 ∧ i < 4) ∨ (k = 7 ∧ i < 4) ∨ (k = 8 ∧ i < 16) ∨ (k = 9 ∧ i < 16) := by
    unfold ids1 at hk
    rcases List.mem_append.mp hk with hk | hk
    · rcases List.mem_append.mp hk with hk | hk
      · simp only [List.mem_cons, List.not_mem_nil, or_false, Prod.mk.injEq, true_and] at hk
        rcases hk with ⟨e1, e2⟩ | ⟨e1, e2⟩ | ⟨e1, e2⟩ | ⟨e1, e2⟩ | ⟨e1, e2⟩
        · exact Or.inl ⟨e1, e2⟩
        · exact Or.inr (Or.inl ⟨e1, e2⟩)
        · exact Or.inr (Or.inr (Or.inl ⟨e1, e2⟩))
        · exact Or.inr (Or.inr (Or.inr (Or.inl ⟨e1, e2⟩)))
        · exact Or.inr (Or.inr (Or.inr (Or.inr (Or.inl ⟨e1, e2⟩))))
      · obtain ⟨x, hx, hk⟩ := List.mem_flatMap.mp hk
        have hx := List.mem_range.mp hx
        simp only [List.mem_cons, List.not_mem_nil, or_false, Prod.mk.injEq, true_and] at hk
        rcases hk with ⟨e1, e2⟩ | ⟨e1, e2⟩ | ⟨e1, e2⟩
        · exact Or.inr (Or.inr (Or.inr (Or.inr (Or.inr (Or.inl ⟨e1, e2 ▸ hx⟩)))))
        · exact Or.inr (Or.inr (Or.inr (Or.inr (Or.inr (Or.inr (Or.inl ⟨e1, e2 ▸ hx⟩))))))
        · exact Or.inr (Or.inr (Or.inr (Or.inr (Or.inr (Or.inr (Or.inr (Or.inl ⟨e1, e2 ▸ hx⟩)))))))
    · obtain ⟨x, hx, hk⟩ := List.mem_flatMap.mp hk
      have hx := List.mem_range.mp hx
      simp only [List.mem_cons, List.not_mem_nil, or_false, Prod.mk.injEq, true_and] at hk
      rcases hk with ⟨e1, e2⟩ | ⟨e1, e2⟩
      · exact Or.inr (Or.inr (Or.inr (Or.inr (Or.inr (Or.inr (Or.inr (Or.inr (Or.inl ⟨e1, e2 ▸ hx⟩))))))))
      · exact Or.inr (Or.inr (Or.inr (Or.inr (Or.inr (Or.inr (Or.inr (Or.inr (Or.inr (⟨e1, e2 ▸ hx⟩)))))))))
  clear hk
  rcases hk2 with ⟨e1, e2⟩ | ⟨e1, e2⟩ | ⟨e1, e2⟩ | ⟨e1, e2⟩ | ⟨e1, e2⟩ | ⟨e1, e2⟩ | ⟨e1, e2⟩ | ⟨e1, e2⟩ | ⟨e1, e2⟩ | ⟨e1, e2⟩
  · rw [e1, e2]; exact ma_0 ha hP
  · rw [e1, e2]; exact ma_1 hP
  · rw [e1, e2]; exact ma_2 ha hP
  · rw [e1, e2]; exact ma_3 ha hP
  · rw [e1, e2]; exact ma_4 hP
  · rw [e1]; exact ma_5 ha (hL i e2)
  · rw [e1]; exact ma_6 (hL i e2)
  · rw [e1]; exact ma_7 (hL i e2)
  · rw [e1]; exact ma_8 ha (hT i e2)
  · rw [e1]; exact ma_9 (hT i e2)
end E0S
