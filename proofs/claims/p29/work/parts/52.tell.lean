/-! The law asks, and does what it asked about. -/
section TE
variable {σ : Sg} {Q : Int32 → Sg → Prop} {r : Nat → Int32} {L N T : Nat}
theorem not_m5 {w : Nat} (h : w < 2 ^ 30) : ¬ nI w = -5 ∧ ¬ nI w ≤ -5 := by
  have h0 := nI_pos (n := w) (by omega)
  exact ⟨fun z => h0 (by rw [z]; decide), fun z => h0 (Int32.lt_of_le_of_lt z (by decide))⟩
theorem t_L155 {v5 : Int32} {q n f o V : Nat} (hq : ∀ τ, ST τ r [] → Q 1 τ) (h : ST σ (upd r 0 (nI V)) [r]) (hI : IR r) (hV1 : 1 ≤ V) (hV9 : V ≤ 9) (hb : ∀ j, 1 ≤ j → j < V → bsW n r j < bsW n r V) (hL : L < 4) (hf : f < 6) (ho : o < 6) (hfo : f ≠ o) (n1 : 1 ≤ n) (n2 : n ≤ 50) (hN : r 0 = nI N) (hN9 : N ≤ 9) (hT : r 191 = nI T) (hT2 : T ≤ 9999) (hv : v5 = -6 ∨ ∃ k, k < 200 ∧ v5 = nI (1 + k) ∧ SK r L N k) (ep : r (4 + 17 * L + 14) = nI q) (hq2 : q ≤ 89991) : wp_L_areTalesSo_L155 (nI L) (nI n) (nI f) (nI o) Q v5 (nI V) (bsW n r V) (runsC n (turnR r f o) d0).1 1 (lnR r 16) (r 0) 1 σ := by
  obtain ⟨Wv, w1, w2⟩ := bs_nn hI n2 hV1 hV9
  unfold wp_L_areTalesSo_L155
  refine lpN_rel (V - 1) (fun k a => ∃ τ, a = (v5, nI V, bsW n r V, (runsC n (turnR r f o) d0).1, 1, lnR r 16, r 0, nI (k + 1), τ) ∧ ST τ (upd r 0 (nI V)) [r]) ?_ ?_ 0 _ (Nat.zero_le _) ⟨σ, rfl, h⟩
  · rintro K k a hk ⟨τ, rfl, hτ⟩ hK
    dsimp only
    unfold st_L_areTalesSo_L155
    refine ⟨fun c => absurd c (nI_ge (by omega) (by omega)), fun _ => ?_⟩
    refine q_speed hτ (Nat.le_of_ble_eq_true rfl) (v := k + 1) (by omega) (by omega) rfl (fun τ1 h1 => ?_)
    rw [upd_upd] at h1
    have back : ∀ τ2 v, ST τ2 (upd r 0 (nI (k + 1))) [upd r 0 (nI V), r] → wp_L_areTalesSo_b210 (nI L) (nI n) (nI f) (nI o) (fun v5 v7 v8 v9 v10 v11 v12 v15 σ => K (v5, v7, v8, v9, v10, v11, v12, v15, σ)) Q v5 (nI V) (bsW n r V) (runsC n (turnR r f o) d0).1 1 (lnR r 16) (r 0) (nI (k + 1)) v τ2 := by
      intro τ2 v h2
      unfold wp_L_areTalesSo_b210
      refine q_undo h2 (fun τ3 D3 hD3 h3 => ?_)
      rintro z97 rfl
      exact hK _ ⟨τ3, by rw [nI_1], h3⟩
    refine q_run2 h1 (Nat.le_of_ble_eq_true rfl) (T := T) (by rw [pk_un (by omega)]; exact hT) hT2 n1 (by omega) rfl (fun τ2 W hW ew h2 => ?_) (fun τ2 h2 => ?_)
    · refine ⟨fun z => absurd z (by decide), fun _ => ⟨fun z => ?_, fun _ => ?_⟩⟩
      · have e : bsW n r (k + 1) = nI W := ew
        rw [← e] at z
        exact absurd z (Int32.not_le.mpr (hb (k + 1) (by omega) (by omega)))
      · unfold wp_L_areTalesSo_b195
        exact ⟨fun z => absurd z (nI_pos (by omega)), fun _ => q_undo h2 (fun τ3 D3 hD3 h3 => back τ3 _ h3)⟩
    · refine ⟨fun z => absurd z (by decide), fun _ => ⟨fun z => ?_, fun _ => ?_⟩⟩
      · rw [w2] at z
        exact absurd z (not_m5 (by omega)).2
      · unfold wp_L_areTalesSo_b195
        exact ⟨fun _ => back τ2 _ h2, fun z => absurd (by decide) z⟩
  · rintro K a ⟨τ, rfl, hτ⟩
    dsimp only
    unfold st_L_areTalesSo_L155
    refine ⟨fun _ => ?_, fun c => absurd (nI_le (by omega) (by omega)) c⟩
    refine q_undo hτ (fun τ1 D hD h1 => ?_)
    refine ⟨fun z => absurd z (by decide), fun _ => ?_⟩
    refine q_count11 h1.1 ⟨fun z => absurd rfl z, fun _ => ?_⟩
    refine q_count5 h1.1 ⟨fun z => absurd rfl z, fun _ => ?_⟩
    exact t_261 hq h1 hL hf ho hfo n1 n2 hN hN9 hT hT2 hv ep hq2 hD rfl
theorem t_86 {v5 : Int32} {q n f o V : Nat} (hq : ∀ τ, ST τ r [] → Q 1 τ) (h : ST σ r []) (hV1 : 1 ≤ V) (hV9 : V ≤ 9) (hb : ∀ j, 1 ≤ j → j < V → bsW n r j < bsW n r V) (hL : L < 4) (hf : f < 6) (ho : o < 6) (hfo : f ≠ o) (n1 : 1 ≤ n) (n2 : n ≤ 50) (hN : r 0 = nI N) (hN9 : N ≤ 9) (hT : r 191 = nI T) (hT2 : T ≤ 9999) (hv : v5 = -6 ∨ ∃ k, k < 200 ∧ v5 = nI (1 + k) ∧ SK r L N k) (ep : r (4 + 17 * L + 14) = nI q) (hq2 : q ≤ 89991) : wp_L_areTalesSo_b86 (nI L) (nI n) (nI f) (nI o) Q v5 (nI V) (bsW n r V) (runsC n (turnR r f o) d0).1 1 σ := by
  have hI := h.1.2
  unfold wp_L_areTalesSo_b86
  refine q_count5 h.1 (q_speed h (Nat.le_of_ble_eq_true rfl) hV1 hV9 rfl (fun τ1 h1 => ?_))
  have on : ∀ τ2 v, ST τ2 (upd r 0 (nI V)) [r] → wp_L_areTalesSo_b150 (nI L) (nI n) (nI f) (nI o) Q v5 (nI V) (bsW n r V) (runsC n (turnR r f o) d0).1 1 (lnR r 16) (r 0) v τ2 := by
    intro τ2 v h2
    unfold wp_L_areTalesSo_b150
    exact t_L155 hq h2 hI hV1 hV9 hb hL hf ho hfo n1 n2 hN hN9 hT hT2 hv ep hq2
  refine q_run2 h1 (Nat.le_of_ble_eq_true rfl) (T := T) (by rw [pk_un (by omega)]; exact hT) hT2 n1 (by omega) rfl (fun τ2 W hW ew h2 => ?_) (fun τ2 h2 => ?_)
  · refine ⟨fun z => absurd z (by decide), fun _ => ⟨fun z => absurd z (not_m5 hW).1, fun _ => ⟨fun z => ?_, fun _ => ?_⟩⟩⟩
    · exact absurd (show nI W = bsW n r V from ew.symm) z
    · unfold wp_L_areTalesSo_b130 wp_L_areTalesSo_b135
      exact ⟨fun z => absurd z (nI_pos (by omega)), fun _ => q_undo h2 (fun τ3 D3 hD3 h3 => on τ3 _ h3)⟩
  · refine ⟨fun z => absurd z (by decide), fun _ => ⟨fun _ => ?_, fun z => absurd rfl z⟩⟩
    unfold wp_L_areTalesSo_b130 wp_L_areTalesSo_b135
    exact ⟨fun _ => on τ2 _ h2, fun z => absurd (by decide) z⟩
theorem q_tales {x1 x2 x3 x4 : Int32} {n f o : Nat} (h : ST σ r []) (hV : NV r) (hL : L < 4) (hf : f < 6) (ho : o < 6) (hfo : f ≠ o) (n1 : 1 ≤ n) (n2 : n ≤ 50) (e1 : x1 = nI L) (e2 : x2 = nI n) (e3 : x3 = nI f) (e4 : x4 = nI o) (hq : ∀ τ, ST τ r [] → Q 1 τ) : wp_L_areTalesSo x1 x2 x3 x4 σ Q := by
  subst e1
  subst e2
  subst e3
  subst e4
  have hI := h.1.2
  obtain ⟨N, N1, N9, hN⟩ := hI.1
  obtain ⟨T, hT2, hT, -, hp⟩ := hV.2.1
  obtain ⟨q, ep, hq2⟩ := hp L hL
  have hq3 : q ≤ 9 * T := hq2
  obtain ⟨V, v1, v2, v3, v4, -⟩ := bs_spec (n := n) (r := r) 8
  have sp := st_spec (L := L) (N := N) hL N9 200 1 r d0 hI hV.1 hN
  unfold wp_L_areTalesSo
  refine q_stands h L hL rfl (Or.inl rfl) (fun τ1 h1 => q_stands h1 L hL rfl (Or.inr rfl) (fun τ2 h2 => q_bestSpeed h2 n n1 n2 rfl (Or.inl rfl) (fun τ3 h3 => q_bestSpeed h3 n n1 n2 rfl (Or.inr rfl) (fun τ4 h4 => q_ifApart h4 f o n hf ho hfo n1 n2 rfl rfl rfl (fun τ5 h5 => ?_)))))
  rw [if_pos rfl, if_neg (show ¬ (1 : Int32) = 0 by decide), v3]
  dsimp only
  have b66 : ∀ a : Int32, (stR 200 1 L 0 r d0 = -6 ∨ ∃ k, k < 200 ∧ stR 200 1 L 0 r d0 = nI (1 + k) ∧ SK r L N k) → wp_L_areTalesSo_b66 (nI L) (nI n) (nI f) (nI o) Q (stR 200 1 L 0 r d0) (nI V) (bsW n r V) (runsC n (turnR r f o) d0).1 a a τ5 := by
    intro a hv
    unfold wp_L_areTalesSo_b66
    refine ⟨fun z => absurd rfl z, fun _ => ⟨fun z => absurd z (nI_nle (by omega) (by omega)), fun _ => ⟨fun z => absurd z (show ¬ nI 10 ≤ nI V from nI_ge (by omega) (by omega)), fun _ => ?_⟩⟩⟩
    exact t_86 hq h5 v1 (by omega) v4 hL hf ho hfo n1 n2 hN N9 hT hT2 hv ep (by omega)
  rcases sp with ⟨s1, s2⟩ | ⟨k, k1, k2, k3, k4, c, c1, c2⟩
  · refine ⟨fun z => absurd s1 z, fun _ => ?_⟩
    unfold wp_L_areTalesSo_b54
    exact ⟨fun z => absurd s2 z, fun _ => b66 1 (Or.inl s1)⟩
  · have n6 : ¬ stR 200 1 L 0 r d0 = -6 := by
      intro z
      have := nI_pos (n := 1 + k) (by omega)
      rw [← k2, z] at this
      exact this (by decide)
    refine ⟨fun _ => ?_, fun z => absurd z n6⟩
    unfold wp_L_areTalesSo_b54
    exact ⟨fun _ => b66 0 (Or.inr ⟨k, k1, k2, k4, c, c1, c2⟩), fun z => absurd z k3⟩
end TE
