/-! What the questions told, come true: the law's walk. -/
section TO
variable {σ : Sg} {Q : Int32 → Sg → Prop} {r s : Nat → Int32} {x2 x3 x4 : Int32} {L N T : Nat}
theorem t_493 {x1 v14 : Int32} {D : Nat} (hq : ∀ τ, ST τ r [] → Q 1 τ) (h : ST σ r []) (hD : D ≤ 5) (e : v14 = nI D) : wp_L_areTalesSo_b493 x1 x2 x3 x4 Q 1 (lnR r 16) v14 σ := by
  subst e
  unfold wp_L_areTalesSo_b493
  exact ⟨fun c => absurd c (by decide), fun _ => ⟨fun c => absurd c (nI_pos (by omega)), fun _ => q_count5 h.1 ⟨fun c => absurd rfl c, fun _ => hq σ h⟩⟩⟩
theorem t_476a {x1 : Int32} {W : Nat} (hq : ∀ τ, ST τ r [] → Q 1 τ) (h : ST σ s [r]) (hW : W < 2 ^ 30) : wp_L_areTalesSo_b476 x1 x2 x3 x4 Q (lnR r 16) (nI W) 1 σ := by
  unfold wp_L_areTalesSo_b476 wp_L_areTalesSo_b491
  exact ⟨fun c => absurd c (nI_pos (by omega)), fun _ => q_undo h (fun τ D hD hτ => t_493 hq hτ hD rfl)⟩
theorem t_476b {x1 : Int32} (hq : ∀ τ, ST τ r [] → Q 1 τ) (h : ST σ r []) : wp_L_areTalesSo_b476 x1 x2 x3 x4 Q (lnR r 16) (-5) 1 σ := by
  unfold wp_L_areTalesSo_b476 wp_L_areTalesSo_b491
  exact ⟨fun _ => t_493 hq h (D := 0) (by omega) rfl, fun c => absurd (by decide) c⟩
/-- what is known of a lane that stands still in some tick -/
def SK (r : Nat → Int32) (L N k : Nat) : Prop := (runsC k r d0).2.1 (4 + 17 * L + 14) = r (4 + 17 * L + 14) + nI (N * k) ∧ ∃ c, c < N * (k + 1) ∧ (runsC (k + 1) r d0).2.1 (4 + 17 * L + 14) = r (4 + 17 * L + 14) + nI c
theorem t_430 {s0 : Int32} {k q : Nat} (hq : ∀ τ, ST τ r [] → Q 1 τ) (h : ST σ r []) (hL : L < 4) (hN : r 0 = nI N) (hN9 : N ≤ 9) (hT : r 191 = nI T) (hT2 : T ≤ 9999) (hk : k < 99) (hs : SK r L N k) (ep : r (4 + 17 * L + 14) = nI q) (hq2 : q ≤ 89991) : wp_L_areTalesSo_b430 (nI L) x2 x3 x4 Q (nI (1 + k)) 1 (lnR r 16) (nI q) s0 σ := by
  unfold wp_L_areTalesSo_b430
  obtain ⟨-, c, c1, c2⟩ := hs
  refine q_run2 (n := k + 1) h (by decide) hT hT2 (by omega) (by omega) (by rw [Nat.add_comm]) (fun τ W hW ew hτ => ?_) (fun τ hτ => ?_)
  · refine ⟨fun z => absurd z (by decide), fun _ => ⟨fun z => absurd z (nI_pos (by omega)), fun _ => ?_⟩⟩
    refine q_of4 hτ.1 L hL rfl (q_count11 hτ.1 ⟨fun g => ?_, fun _ => ?_⟩)
    · have e0 : (runsC (k + 1) r d0).2.1 0 = nI N := ((runsC_IR h.1.2).2 0 (by omega)).trans hN
      rw [c2, e0, ep, pk_mul, nI_add, nI_add] at g
      have b : N * (1 + k) ≤ 9 * (1 + k) := Nat.mul_le_mul_right _ hN9
      have b2 : N * (k + 1) ≤ 9 * (k + 1) := Nat.mul_le_mul_right _ hN9
      have e1 : N * (1 + k) = N * (k + 1) := by rw [Nat.add_comm]
      have := (nI_leI (by omega) (by omega)).mp g
      omega
    · unfold wp_L_areTalesSo_b471
      exact t_476a hq hτ hW
  · refine ⟨fun z => absurd z (by decide), fun _ => ⟨fun _ => ?_, fun z => absurd (by decide) z⟩⟩
    unfold wp_L_areTalesSo_b471
    exact t_476b hq hτ
theorem t_331 {v5 v14 : Int32} {D q : Nat} (hq : ∀ τ, ST τ r [] → Q 1 τ) (h : ST σ r []) (hL : L < 4) (hN : r 0 = nI N) (hN9 : N ≤ 9) (hT : r 191 = nI T) (hT2 : T ≤ 9999) (hv : v5 = -6 ∨ ∃ k, k < 200 ∧ v5 = nI (1 + k) ∧ SK r L N k) (ep : r (4 + 17 * L + 14) = nI q) (hq2 : q ≤ 89991) (hD : D ≤ 5) (e14 : v14 = nI D) : wp_L_areTalesSo_b331 (nI L) x2 x3 x4 Q v5 1 (lnR r 16) v14 σ := by
  unfold wp_L_areTalesSo_b331
  refine ⟨fun _ => t_493 hq h hD e14, fun c0 => ⟨fun _ => t_493 hq h hD e14, fun c1 => ?_⟩⟩
  rcases hv with e | ⟨k, k1, e, hs⟩
  · rw [e] at c0
    exact absurd (by decide) c0
  · subst e
    have hk : k < 99 := by
      have h2 : ¬ nI 100 ≤ nI (1 + k) := c1
      by_cases z : 1 + k < 100
      · omega
      · exact absurd (nI_le (a := 100) (b := 1 + k) (by omega) (by omega)) h2
    refine q_of4 h.1 L hL rfl ?_
    rw [ep]
    refine ⟨fun c2 => ?_, fun c2 => ?_⟩
    · have k0 : 1 ≤ k := by
        by_cases z : k = 0
        · rw [z] at c2; exact absurd rfl c2
        · omega
      have em : nI (1 + k) - 1 = nI k := by rw [nI_m1 (by omega)]; congr 1; omega
      rw [em]
      refine q_run2 (n := k) h (by decide) hT hT2 k0 (by omega) rfl (fun τ W hW ew hτ => ?_) (fun τ hτ => ?_)
      · unfold wp_L_areTalesSo_b369
        refine ⟨fun z => absurd z (by decide), fun _ => ⟨fun z => absurd z (nI_pos (by omega)), fun _ => ?_⟩⟩
        have e0 : (runsC k r d0).2.1 0 = nI N := ((runsC_IR h.1.2).2 0 (by omega)).trans hN
        refine q_of4 hτ.1 L hL rfl (q_count11 hτ.1 ⟨fun z => ?_, fun _ => ?_⟩)
        · rw [hs.1, e0, ep, em, pk_mul] at z
          exact absurd rfl z
        · unfold wp_L_areTalesSo_b404 wp_L_areTalesSo_b409
          refine ⟨fun z => ?_, fun _ => ⟨fun z => absurd z (nI_pos (by omega)), fun _ => ?_⟩⟩
          · exact absurd z (show ¬ nI (1 + k) ≤ nI 1 from nI_ge (by omega) (by omega))
          · exact q_undo hτ (fun τ2 D2 hD2 hτ2 => t_430 hq hτ2 hL hN hN9 hT hT2 hk hs ep hq2)
      · unfold wp_L_areTalesSo_b369
        refine ⟨fun z => absurd z (by decide), fun _ => ⟨fun _ => ?_, fun z => absurd (by decide) z⟩⟩
        unfold wp_L_areTalesSo_b404 wp_L_areTalesSo_b409 wp_L_areTalesSo_b429
        have go := t_430 (s0 := 0) (x2 := x2) (x3 := x3) (x4 := x4) hq hτ hL hN hN9 hT hT2 hk hs ep hq2
        exact ⟨fun _ => go, fun _ => ⟨fun _ => go, fun z => absurd (by decide) z⟩⟩
    · have k0 : k = 0 := by
        have := (nI_eq (a := 1 + k) (b := 1) (by omega) (by decide)).mp c2
        omega
      subst k0
      unfold wp_L_areTalesSo_b369
      refine ⟨fun z => absurd z (by decide), fun _ => ⟨fun z => absurd z (by decide), fun _ => ?_⟩⟩
      refine q_of4 h.1 L hL rfl (q_count11 h.1 ⟨fun z => ?_, fun _ => ?_⟩)
      · rw [ep, hN, show nI (1 + 0) - 1 = nI 0 from by decide +kernel, pk_mul, Nat.mul_zero, i_0] at z
        exact absurd rfl z
      · unfold wp_L_areTalesSo_b404 wp_L_areTalesSo_b409 wp_L_areTalesSo_b429
        exact ⟨fun _ => t_430 hq h hL hN hN9 hT hT2 hk hs ep hq2, fun z => absurd (show nI (1 + 0) ≤ nI 1 from nI_le (by omega) (by decide)) z⟩
theorem t_261 {v5 v14 : Int32} {D q n f o : Nat} (hq : ∀ τ, ST τ r [] → Q 1 τ) (h : ST σ r []) (hL : L < 4) (hf : f < 6) (ho : o < 6) (hfo : f ≠ o) (n1 : 1 ≤ n) (n2 : n ≤ 50) (hN : r 0 = nI N) (hN9 : N ≤ 9) (hT : r 191 = nI T) (hT2 : T ≤ 9999) (hv : v5 = -6 ∨ ∃ k, k < 200 ∧ v5 = nI (1 + k) ∧ SK r L N k) (ep : r (4 + 17 * L + 14) = nI q) (hq2 : q ≤ 89991) (hD : D ≤ 5) (e14 : v14 = nI D) : wp_L_areTalesSo_b261 (nI L) (nI n) (nI f) (nI o) Q v5 (runsC n (turnR r f o) d0).1 (lnR r 16) v14 1 σ := by
  unfold wp_L_areTalesSo_b261
  have ea := apart_at (r := r) hf ho hfo
  have hT' : turnR r f o 191 = nI T := by
    unfold turnR
    rw [pk_un (by omega), pk_un (by omega)]
    exact hT
  have go : ∀ a : Int32, ¬ a < 0 → ∀ τ, ST τ (turnR r f o) [r] → ((a < 0 → wp_L_areTalesSo_b331 (nI L) (nI n) (nI f) (nI o) Q v5 1 (lnR r 16) v14 τ) ∧ (¬ a < 0 → wp_X5_run (nI n) τ (fun r47 σ48 => (((1 : Int32) = 0 → wp_L_areTalesSo_b307 (nI L) (nI n) (nI f) (nI o) Q v5 (lnR r 16) r47 σ48) ∧ (¬ (1 : Int32) = 0 → ((r47 = (-5 : Int32) → wp_L_areTalesSo_b303 (nI L) (nI n) (nI f) (nI o) Q v5 (lnR r 16) r47 σ48) ∧ (¬ r47 = (-5 : Int32) → ((¬ r47 = (runsC n (turnR r f o) d0).1 → wp_L_areTalesSo_b307 (nI L) (nI n) (nI f) (nI o) Q v5 (lnR r 16) r47 σ48) ∧ (r47 = (runsC n (turnR r f o) d0).1 → wp_L_areTalesSo_b303 (nI L) (nI n) (nI f) (nI o) Q v5 (lnR r 16) r47 σ48))))))))) := by
    intro a ha τ hτ
    refine ⟨fun z => absurd z ha, fun _ => ?_⟩
    have b323 : ∀ τ2 v, ST τ2 (turnR r f o) [r] → wp_L_areTalesSo_b323 (nI L) (nI n) (nI f) (nI o) Q v5 1 (lnR r 16) v τ2 := by
      intro τ2 v h2
      unfold wp_L_areTalesSo_b323
      exact q_undo h2 (fun τ3 D3 hD3 h3 => t_331 hq h3 hL hN hN9 hT hT2 hv ep hq2 hD3 rfl)
    refine q_run2 hτ (Nat.le_of_ble_eq_true rfl) hT' hT2 n1 (by omega) rfl (fun τ2 W hW ew h2 => ?_) (fun τ2 h2 => ?_)
    · refine ⟨fun z => absurd z (by decide), fun _ => ⟨fun z => ?_, fun _ => ⟨fun z => absurd ew.symm z, fun _ => ?_⟩⟩⟩
      · have := nI_pos (n := W) (by omega)
        rw [z] at this
        exact absurd (by decide) this
      · unfold wp_L_areTalesSo_b303 wp_L_areTalesSo_b308
        exact ⟨fun z => absurd z (nI_pos (by omega)), fun _ => q_undo h2 (fun τ3 D3 hD3 h3 => b323 τ3 _ h3)⟩
    · refine ⟨fun z => absurd z (by decide), fun _ => ⟨fun _ => ?_, fun z => absurd rfl z⟩⟩
      unfold wp_L_areTalesSo_b303 wp_L_areTalesSo_b308
      exact ⟨fun _ => b323 τ2 _ h2, fun z => absurd (by decide) z⟩
  by_cases c1 : tb (r (185 + f)) o = true
  · rw [if_pos c1] at ea
    refine q_apart h (by decide) (fun z => ?_) (fun _ τ hτ => ?_)
    · rw [ea] at z
      exact absurd z (show ¬ (0 : Int32) < 0 by decide)
    · rw [ea] at hτ ⊢
      exact go 0 (by decide) τ hτ
  · rw [if_neg c1] at ea
    by_cases c2 : fstN (bothB r f o) (nT r) < nT r
    · rw [if_pos c2] at ea
      refine q_apart h (by decide) (fun _ τ hτ => ?_) (fun z => ?_)
      · rw [ea] at hτ ⊢
        exact ⟨fun _ => t_331 hq hτ hL hN hN9 hT hT2 hv ep hq2 hD e14, fun z => absurd (show (-5 : Int32) < 0 by decide) z⟩
      · rw [ea] at z
        exact absurd (show (-5 : Int32) < 0 by decide) z
    · rw [if_neg c2] at ea
      refine q_apart h (by decide) (fun z => ?_) (fun _ τ hτ => ?_)
      · rw [ea] at z
        exact absurd z (show ¬ (1 : Int32) < 0 by decide)
      · rw [ea] at hτ ⊢
        exact go 1 (by decide) τ hτ
end TO
