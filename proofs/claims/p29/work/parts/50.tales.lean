/-! What the questions told, come true: pulls until a lane stands still; the best speed. -/
theorem st_spec {L N : Nat} (hL : L < 4) (hN9 : N ≤ 9) : ∀ (m v : Nat) (r d : Nat → Int32), IR r → JR r → r 0 = nI N → (stR m v L 0 r d = -6 ∧ stR m v L 1 r d = -6) ∨ ∃ k, k < m ∧ stR m v L 0 r d = nI (v + k) ∧ ¬ stR m v L 1 r d = -6 ∧ (runsC k r d).2.1 (4 + 17 * L + 14) = r (4 + 17 * L + 14) + nI (N * k) ∧ ∃ c, c < N * (k + 1) ∧ (runsC (k + 1) r d).2.1 (4 + 17 * L + 14) = r (4 + 17 * L + 14) + nI c := by
  intro m
  induction m with
  | zero => intro v r d _ _ _; exact Or.inl ⟨rfl, rfl⟩
  | succ m ih =>
    intro v r d hI hJ hN
    obtain ⟨b1, -, -, b4⟩ := tickC_inv (d := d) hI hJ hN hN9
    obtain ⟨i1, i2⟩ := tickC_IR (d := d) hI
    obtain ⟨c, p1, p2, p3, p4⟩ := b4 L hL
    rw [stR_s, stR_s]
    by_cases z : (tickC r d).2.2 L = 0
    · rw [if_pos z, if_pos z]
      have ec := p3 z
      subst ec
      rcases ih (v + 1) (tickC r d).2.1 (tickC r d).2.2 i1 b1 ((i2 0 (by omega)).trans hN) with h | ⟨k, k1, k2, k3, k4, c', q1, q2⟩
      · exact Or.inl h
      · refine Or.inr ⟨k + 1, by omega, by rw [k2]; congr 1; omega, k3, ?_, c + c', ?_, ?_⟩
        · show (runsC k (tickC r d).2.1 (tickC r d).2.2).2.1 (4 + 17 * L + 14) = _
          rw [k4, p2, i_ad, show c + c * k = c * (k + 1) by rw [Nat.mul_add, Nat.mul_one, Nat.add_comm]]
        · have e : c * (k + 1 + 1) = c * (k + 1) + c := by rw [Nat.mul_add c (k + 1) 1, Nat.mul_one]
          omega
        · show (runsC (k + 1) (tickC r d).2.1 (tickC r d).2.2).2.1 (4 + 17 * L + 14) = _
          rw [q2, p2, i_ad]
    · rw [if_neg z, if_neg z, if_pos rfl, if_neg (by decide)]
      refine Or.inr ⟨0, by omega, rfl, tickC_rs hL, ?_, c, ?_, ?_⟩
      · rw [Nat.mul_zero, i_0]
        rfl
      · have := p4 z
        omega
      · show (runsC 1 r d).2.1 (4 + 17 * L + 14) = _
        rw [runsC_1]
        exact p2
section TA
variable {σ : Sg} {Q : Int32 → Sg → Prop} {r : Nat → Int32} {l : List (Nat → Int32)}
theorem bs_spec {n : Nat} : ∀ k, ∃ V, 1 ≤ V ∧ V ≤ k + 1 ∧ bsN n r k = (nI V, bsW n r V) ∧ (∀ j, 1 ≤ j → j < V → bsW n r j < bsW n r V) ∧ ∀ j, 1 ≤ j → j ≤ k + 1 → bsW n r j ≤ bsW n r V := by
  intro k
  induction k with
  | zero =>
    refine ⟨1, Nat.le_refl 1, Nat.le_refl 1, rfl, fun j h1 h2 => by omega, fun j h1 h2 => ?_⟩
    rw [show j = 1 by omega]
    exact Int32.le_refl _
  | succ k ih =>
    obtain ⟨V, v1, v2, v3, v4, v5⟩ := ih
    unfold bsN
    rw [v3]
    by_cases c : bsW n r (k + 2) ≤ bsW n r V
    · rw [if_pos c]
      refine ⟨V, v1, by omega, rfl, v4, fun j h1 h2 => ?_⟩
      by_cases e : j = k + 2
      · rw [e]; exact c
      · exact v5 j h1 (by omega)
    · rw [if_neg c]
      have c2 := Int32.not_le.mp c
      refine ⟨k + 2, by omega, by omega, rfl, fun j h1 h2 => Int32.lt_of_le_of_lt (v5 j h1 (by omega)) c2, fun j h1 h2 => ?_⟩
      by_cases e : j = k + 2
      · rw [e]; exact Int32.le_refl _
      · exact Int32.le_of_lt (Int32.lt_of_le_of_lt (v5 j h1 (by omega)) c2)
theorem bs_nn {n v : Nat} (hI : IR r) (hn : n ≤ 50) (h1 : 1 ≤ v) (h9 : v ≤ 9) : ∃ W, W ≤ 1800 ∧ bsW n r v = nI W := by
  obtain ⟨W, w1, w2⟩ := runsC_w (n := n) (d := fun _ => 0) (by omega) (IR_speed h1 h9 hI)
  exact ⟨W, by omega, w2⟩
/-- a run, or the bound of ticks -/
theorem q_run2 {s : Nat → Int32} {n T : Nat} {x : Int32} (h : ST σ s l) (h5 : l.length ≤ 5) (hT : s 191 = nI T) (hT2 : T ≤ 9999) (n1 : 1 ≤ n) (n2 : n ≤ 99) (e : x = nI n) (ha : ∀ τ W, W < 2 ^ 30 → (runsC n s d0).1 = nI W → ST τ (runsC n s d0).2.1 (s :: l) → Q (nI W) τ) (hb : ∀ τ, ST τ s l → Q (-5) τ) : wp_X5_run x σ Q := by
  subst e
  have eg := goes_eq (r := s) (d := d0) n1 n2 hT hT2
  obtain ⟨W, w1, w2⟩ := runsC_w (n := n) (r := s) (d := d0) n2 h.1.2
  by_cases c : T + n ≤ 9999
  · rw [if_pos c] at eg
    refine q_run h h5 (fun z => ?_) (fun _ τ hτ => ?_)
    · rw [eg, w2] at z
      exact absurd z (nI_pos (by omega))
    · rw [eg] at hτ ⊢
      rw [w2]
      exact ha τ W (by omega) w2 hτ
  · rw [if_neg c] at eg
    refine q_run h h5 (fun _ τ hτ => ?_) (fun z => ?_)
    · rw [eg] at hτ ⊢
      exact hb τ hτ
    · rw [eg] at z
      exact absurd (show (-5 : Int32) < 0 by decide) z
theorem q_speed {s : Nat → Int32} {v : Nat} {x : Int32} (h : ST σ s l) (h5 : l.length ≤ 5) (h1 : 1 ≤ v) (h9 : v ≤ 9) (e : x = nI v) (hq : ∀ τ, ST τ (upd s 0 (nI v)) (s :: l) → Q (s 0) τ) : wp_X5_set 0 x σ Q := by
  subst e
  have es : setR s (nI 0) (nI v) = (s 0, upd s 0 (nI v)) := set_at (k := 0) (lo := 1) (hi := 9) (by decide) rfl rfl h1 h9 (by decide)
  have es' : setR s 0 (nI v) = (s 0, upd s 0 (nI v)) := es
  refine q_set h h5 (fun z => ?_) (fun _ τ hτ => ?_)
  · rw [es'] at z
    exact absurd z (IR_set0 h.1.2 (by decide))
  · rw [es'] at hτ ⊢
    exact hq τ hτ
end TA
