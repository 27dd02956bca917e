/-! The fault of a text: both answers are one. -/
section FB
variable {σ : Sg} {P : Int32 → Int32 → Sg → Prop} {g v : Nat → Int32} {L : Nat}
theorem Rel_pad {q : Nat} {w : Int32} (h : Rel σ) (hg : g 2 = σ 11 15 0 2) : Rel (ms (pd σ g v) (pd σ g v 12 18 0) q w) := by
  have e12 : pd σ g v 12 = σ 12 := pd_m (by decide)
  refine Rel_congr h (fun m h1 h2 => ?_) (fun k hk => ?_) ?_ (fun k hk => ?_) ?_ ?_ (fun q hq => ?_)
  · rw [ms_m (by omega), pd_m (by omega)]
  · rw [ms_m (by decide), pd_k (by omega) (by omega)]
  · rw [ms_m (by decide), pd_g]; exact hg
  · rw [ms_k (by omega), e12]
  · rw [ms_j (by decide) (by decide), e12]
  · rw [ms_j (by decide) (by decide), e12]
  · rw [ms_k (by decide), e12]
theorem pr_fault (h : Rel σ) (hP : ∀ v τ, Rel τ → P v v τ) : wp_X5_fault σ (fun a σ1 => wp_X6_fault σ1 (fun b σ2 => P a b σ2)) := by
  obtain ⟨-, -, -, L, l1, l2, l3, l4⟩ := id h
  have hc : fltP (σ 11 16 0) L = fltP (σ 12 24 0) L := flt_congr (fun j hj => by
    obtain ⟨k, -, -, k3, k4⟩ := l4 j hj
    rw [k3, k4])
  unfold wp_X5_fault
  rw [← pd_self σ]
  refine s_X3_findFault l2 l1 (fun g' v' hg' => ?_)
  have e12 : pd σ g' v' 12 = σ 12 := pd_m (by decide)
  rw [hc]
  unfold wp_X6_fault
  refine s_X6_go0 (L := L) l1 (by rw [e12]; exact l3) (fun ht u => ?_) (fun ht u => ?_)
  · rw [e12] at ht
    rw [ms_10, ht]
    exact ⟨fun _ => hP _ _ (Rel_pad h (hg'.trans l2.symm)), fun d => absurd rfl d⟩
  · rw [e12] at ht
    rw [ms_10, ms_9, ht, e12]
    refine ⟨fun d => absurd d (by decide), fun _ => ?_⟩
    have hR := Rel_pad (v := v') (q := (fltP (σ 12 24 0) L 80 0).2) (w := 1) h (hg'.trans l2.symm)
    rw [e12] at hR
    exact hP _ _ hR
end FB
