/-! What the law does in a round: a change, whose answer it lets pass. -/
theorem nI_1p (j : Nat) : (1 : Int32) + nI j = nI (1 + j) := nI_add 1 j
section DO
variable {σ : Sg} {Q : Int32 → Sg → Prop} {r : Nat → Int32} {l : List (Nat → Int32)}
theorem ST_nil (h : ST σ r l) : ST σ r [] := by
  obtain ⟨h0, p, D, b, hC, -, -⟩ := h
  exact ⟨h0, p, D, b, hC, Nat.zero_le _, fun i s hi => by simp at hi⟩
theorem q_low {x N : Int32} (n : Nat) (h0 : 0 < n) (h : n < 2 ^ 31) (e : N = nI n) (hq : ∀ j, j < n → Q (nI j) σ) : wp_L_low x N σ Q := by
  subst e
  unfold wp_L_low
  refine ⟨nI_ne0 h0 h, ?_⟩
  rw [pk_and x 31 (by decide +kernel), pk_rem (Nat.mod_lt _ (by decide)) h0 h]
  exact hq _ (Nat.mod_lt _ h0)
theorem q_mild {v : Int32} (h : OKa v) (hq : ∀ w, ¬ w < 0 → Q w σ) : wp_L_mild v σ Q := by
  unfold wp_L_mild wp_L_mild_b12
  refine ⟨fun _ => hq 0 (by decide), fun c4 => ⟨fun c5 => ?_, fun _ => hq 0 (by decide)⟩⟩
  rcases h with z | z | z
  · exact hq v z
  · exact absurd z c4
  · exact absurd z c5
/-- what a round gives -/
def KN (Q : Int32 → Sg → Prop) : Prop := ∀ w τ r', ¬ w < 0 → ST τ r' [] → NV r' → Q w τ
theorem d_heap {x1 x2 x3 : Int32} (h : ST σ r []) (hN : NV r) (hq : KN Q) : wp_L_low x1 4 σ (fun r13 σ14 => wp_L_low x2 6 σ14 (fun r15 σ16 => wp_L_low x3 30 σ16 (fun r17 σ18 => wp_X5_heap r13 r15 ((1 : Int32) + r17) σ18 (fun r19 σ20 => wp_L_mild r19 σ20 (fun r21 σ22 => Q r21 σ22))))) := by
  refine q_low 4 (by decide) (by decide) rfl (fun a ha => q_low 6 (by decide) (by decide) rfl (fun b hb => q_low 30 (by decide) (by decide) rfl (fun c hc => ?_)))
  rw [nI_1p]
  obtain ⟨k1, k2⟩ := k_heap (c := 1 + c) h.1.2 hN ha hb (by omega) (by omega)
  exact q_heap h (by decide) (fun _ τ hτ => q_mild k1 (fun w hw => hq w τ _ hw (ST_nil hτ) k2)) (fun _ τ hτ => q_mild k1 (fun w hw => hq w τ _ hw (ST_nil hτ) k2))
theorem d_foil {x1 x2 : Int32} (h : ST σ r []) (hN : NV r) (hq : KN Q) : wp_L_low x1 4 σ (fun r53 σ54 => wp_L_low x2 120 σ54 (fun r55 σ56 => wp_X5_foil r53 ((1 : Int32) + r55) σ56 (fun r57 σ58 => wp_L_mild r57 σ58 (fun r59 σ60 => Q r59 σ60)))) := by
  refine q_low 4 (by decide) (by decide) rfl (fun a ha => q_low 120 (by decide) (by decide) rfl (fun c hc => ?_))
  rw [nI_1p]
  obtain ⟨k1, k2⟩ := k_foil (c := 1 + c) hN ha (by omega) (by omega)
  exact q_foil h (by decide) (fun _ τ hτ => q_mild k1 (fun w hw => hq w τ _ hw (ST_nil hτ) k2)) (fun _ τ hτ => q_mild k1 (fun w hw => hq w τ _ hw (ST_nil hτ) k2))
theorem d_tin (h : ST σ r []) (hN : NV r) (hq : KN Q) : wp_X5_tin σ (fun r69 σ70 => wp_L_mild r69 σ70 (fun r71 σ72 => Q r71 σ72)) := by
  obtain ⟨k1, k2⟩ := k_tin h.1.2 hN
  exact q_tin h (by decide) (fun _ τ hτ => q_mild k1 (fun w hw => hq w τ _ hw (ST_nil hτ) k2)) (fun _ τ hτ => q_mild k1 (fun w hw => hq w τ _ hw (ST_nil hτ) k2))
theorem d_set {x y : Int32} {k n lo hi : Nat} (h : ST σ r []) (hN : NV r) (hq : KN Q) (hk : k < 4) (e1 : lst k = nI lo) (e2 : mst k = nI hi) (h1 : lo ≤ n) (h2 : n ≤ hi) (hh : hi < 2 ^ 31) (ex : x = nI k) (ey : y = nI n) (x1 : Int32) : wp_L_does_b278 x1 Q y x σ := by
  subst ex
  subst ey
  unfold wp_L_does_b278
  have e := set_at (r := r) hk e1 e2 h1 h2 hh
  refine q_set h (by decide) (fun c τ hτ => ?_) (fun c τ hτ => ?_) <;> rw [e] at c hτ ⊢
  · exact absurd c (IR_set0 h.1.2 hk)
  · exact hq _ τ _ c (ST_nil hτ) (NV_upd (Or.inl hk) hN)
set_option maxHeartbeats 4000000 in
theorem q_does {x1 : Int32} (h : ST σ r []) (hN : NV r) (hq : KN Q) : wp_L_does x1 σ Q := by
  unfold wp_L_does
  refine ⟨fun _ => d_heap h hN hq, fun _ => ⟨fun _ => d_heap h hN hq, fun _ => ⟨fun _ => d_heap h hN hq, fun _ => ⟨fun _ => d_heap h hN hq, fun _ => ⟨fun _ => d_foil h hN hq, fun _ => ⟨fun _ => d_foil h hN hq, fun _ => ⟨fun _ => d_tin h hN hq, fun _ => ⟨fun _ => d_tin h hN hq, fun _ => ⟨fun _ => d_tin h hN hq, fun _ => ⟨fun _ => ?_, fun _ => ⟨fun _ => ?_, fun _ => ⟨fun _ => ?_, fun _ => ?_⟩⟩⟩⟩⟩⟩⟩⟩⟩⟩⟩⟩
  · have hT := (IR_nT h.1.2).1
    refine q_count1 h.1 ⟨fun c => ?_, fun c => hq 0 σ r (by decide) h hN⟩
    refine q_low (nT r) (Nat.pos_of_ne_zero (fun z => c (by rw [z]; rfl))) (by omega) rfl (fun t ht => ?_)
    obtain ⟨k1, k2⟩ := k_ship h.1.2 hN ht
    exact q_ship h (by decide) (fun _ τ hτ => q_mild k1 (fun w hw => hq w τ _ hw (ST_nil hτ) k2)) (fun _ τ hτ => q_mild k1 (fun w hw => hq w τ _ hw (ST_nil hτ) k2))
  · refine q_low 6 (by decide) (by decide) rfl (fun a ha => q_low 5 (by decide) (by decide) rfl (fun b hb => ?_))
    have e : (((nI a + (1 : Int32)) + nI b) - ((nI a + (1 : Int32)) + nI b) / (6 : Int32) * (6 : Int32)) = nI ((a + 1 + b) % 6) := by
      rw [nI_1, nI_add]
      exact pk_rem (d := 6) (by omega) (by decide) (by decide)
    rw [e]
    obtain ⟨k1, k2⟩ := k_apart (f := a) (o := (a + 1 + b) % 6) h.1.2 hN ha (by omega) (by omega)
    exact q_apart h (by decide) (fun _ τ hτ => q_mild k1 (fun w hw => hq w τ _ hw (ST_nil hτ) k2)) (fun _ τ hτ => q_mild k1 (fun w hw => hq w τ _ hw (ST_nil hτ) k2))
  · refine q_low 4 (by decide) (by decide) rfl (fun k hk => ⟨fun c0 => ⟨fun c1 => ⟨fun c2 => ?_, fun c2 => ?_⟩, fun c1 => ?_⟩, fun c0 => ?_⟩)
    · have e3 : k = 3 := by
        have n0 : k ≠ 0 := fun z => c0 (by rw [z]; rfl)
        have n1 : k ≠ 1 := fun z => c1 (by rw [z]; rfl)
        have n2 : k ≠ 2 := fun z => c2 (by rw [z]; rfl)
        omega
      subst e3
      obtain ⟨j, hj, ej⟩ := pk_andE (x1 >>> ((6 : Int32) &&& 31)) (m := 1) 1 (by decide)
      rw [ej, nI_1p]
      exact d_set (lo := 1) (hi := 2) h hN hq hk rfl rfl (by omega) (by omega) (by decide) rfl rfl x1
    · have e3 : k = 2 := (nI_eq (b := 2) (by omega) (by decide)).mp c2
      subst e3
      refine q_low 30 (by decide) (by decide) rfl (fun j hj => ?_)
      rw [nI_1p]
      exact d_set (lo := 1) (hi := 99) h hN hq hk rfl rfl (by omega) (by omega) (by decide) rfl rfl x1
    · have e3 : k = 1 := (nI_eq (b := 1) (by omega) (by decide)).mp c1
      subst e3
      refine q_low 57 (by decide) (by decide) rfl (fun j hj => ?_)
      rw [show (4 : Int32) + nI j = nI (4 + j) from nI_add 4 j]
      exact d_set (lo := 4) (hi := 60) h hN hq hk rfl rfl (by omega) (by omega) (by decide) rfl rfl x1
    · have e3 : k = 0 := (nI_eq (b := 0) (by omega) (by decide)).mp c0
      subst e3
      refine q_low 9 (by decide) (by decide) rfl (fun j hj => ?_)
      rw [nI_1p]
      exact d_set (lo := 1) (hi := 9) h hN hq hk rfl rfl (by omega) (by omega) (by decide) rfl rfl x1
  · refine q_low 4 (by decide) (by decide) rfl (fun j hj => ?_)
    rw [nI_1p]
    obtain ⟨k1, k2⟩ := k_run (n := 1 + j) h.1.2 hN (by omega) (by omega)
    exact q_run h (by decide) (fun _ τ hτ => q_mild k1 (fun w hw => hq w τ _ hw (ST_nil hτ) k2)) (fun _ τ hτ => q_mild k1 (fun w hw => hq w τ _ hw (ST_nil hτ) k2))
end DO
