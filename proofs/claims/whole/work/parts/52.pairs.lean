/-! All calls as pairs, in one form. -/
section PZ
variable {σ : Sg} {P : Int32 → Int32 → Sg → Prop}
theorem pz_of (h : Rel σ) (x y : Int32) (hP : ∀ v τ, Rel τ → P v v τ) : wp_X5_of x y σ (fun a σ1 => wp_X6_of x y σ1 (fun b σ2 => P a b σ2)) := pr_of h.1.1 h.1.2 x y (fun v => hP v σ h)
theorem pz_ofHeap (h : Rel σ) (x y z : Int32) (hP : ∀ v τ, Rel τ → P v v τ) : wp_X5_ofHeap x y z σ (fun a σ1 => wp_X6_ofHeap x y z σ1 (fun b σ2 => P a b σ2)) := pr_ofHeap h.1.1 h.1.2 x y z (fun v => hP v σ h)
theorem pz_ofTin (h : Rel σ) (x y : Int32) (hP : ∀ v τ, Rel τ → P v v τ) : wp_X5_ofTin x y σ (fun a σ1 => wp_X6_ofTin x y σ1 (fun b σ2 => P a b σ2)) := pr_ofTin h.1.1 h.1.2 x y (fun v => hP v σ h)
theorem pz_inTin (h : Rel σ) (x y : Int32) (hP : ∀ v τ, Rel τ → P v v τ) : wp_X5_inTin x y σ (fun a σ1 => wp_X6_inTin x y σ1 (fun b σ2 => P a b σ2)) := pr_inTin h.1.1 h.1.2 x y (fun v => hP v σ h)
theorem pz_flavour (h : Rel σ) (x y : Int32) (hP : ∀ v τ, Rel τ → P v v τ) : wp_X5_flavour x y σ (fun a σ1 => wp_X6_flavour x y σ1 (fun b σ2 => P a b σ2)) := pr_flavour h.1.1 h.1.2 x y (fun v => hP v σ h)
theorem pz_byRoom (h : Rel σ) (x : Int32) (hP : ∀ v τ, Rel τ → P v v τ) : wp_X5_byRoom x σ (fun a σ1 => wp_X6_byRoom x σ1 (fun b σ2 => P a b σ2)) := pr_byRoom h.1.1 h.1.2 x (fun v => hP v σ h)
theorem pz_byCount (h : Rel σ) (x : Int32) (hP : ∀ v τ, Rel τ → P v v τ) : wp_X5_byCount x σ (fun a σ1 => wp_X6_byCount x σ1 (fun b σ2 => P a b σ2)) := pr_byCount h.1.1 h.1.2 x (fun v => hP v σ h)
theorem pz_tinsFor (h : Rel σ) (hP : ∀ v τ, Rel τ → P v v τ) : wp_X5_tinsFor σ (fun a σ1 => wp_X6_tinsFor σ1 (fun b σ2 => P a b σ2)) := pr_tinsFor h.1.1 h.1.2 (fun v => hP v σ h)
theorem pz_count (h : Rel σ) (x : Int32) (hP : ∀ v τ, Rel τ → P v v τ) : wp_X5_count x σ (fun a σ1 => wp_X6_count x σ1 (fun b σ2 => P a b σ2)) := by
  obtain ⟨⟨hM, hI⟩, ⟨p, D, hH⟩, -, L, l1, l2, l3, -⟩ := id h
  exact pr_count hM hI (l2.trans l3.symm) (hH.2.2.2.2.2.1.trans hH.2.2.2.2.2.2.1.symm) x (fun v => hP v σ h)
end PZ
