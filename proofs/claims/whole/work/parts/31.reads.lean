/-! The calls that only read: both answers are one, and nothing changes. -/
section RP
variable {σ : Sg} {P : Int32 → Int32 → Sg → Prop}
theorem pr_of (hM : MR (σ 0) (σ 12 19 0)) (hI : IR (σ 12 19 0)) (x y : Int32) (hP : ∀ v, P v v σ) : wp_X2_laneFact 0 x y σ (fun a σ1 => wp_X6_of x y σ1 (fun b σ2 => P a b σ2)) := by
  unfold wp_X2_laneFact
  refine s_isIndex2 (n := 4) (by decide) (fun l hl e => ?_) (fun c => ?_)
  · subst e
    refine ⟨fun _ => ⟨vp_in_nI hl (by decide), ?_⟩, fun c => absurd c (by decide)⟩
    intro a5 e5
    rw [nI_clamp (by omega)] at e5
    subst e5
    obtain ⟨n, hn, he, hh⟩ := hI.2.2.2.2.2.1 a5 hl
    obtain ⟨T, hT2, hT, -⟩ := hI.2.2.2.2.1
    obtain ⟨m2, m3, m4, m5, m6, m7⟩ := hM.2.2.2.1 a5 hl
    have hX : ∀ Q' : Int32 → Sg → Prop, Q' 1 σ → wp_X6_isLane (nI a5) σ Q' := fun Q' q => s_X6_isLane (fun _ _ _ => q) (fun c => absurd c (by
      intro z
      rcases z with z | z
      · exact nI_pos (by omega) z
      · exact nI_ge hl (by decide) z))
    refine ⟨fun c => ?_, fun c0 => ⟨fun c => ?_, fun c1 => ⟨fun c => ?_, fun c2 => ⟨fun c => ?_, fun c3 => ⟨fun c => ?_, fun c4 => ⟨fun c => ?_, fun c5 => ⟨fun c => ?_, fun c6 => ⟨fun c => ?_, fun c7 => ?_⟩⟩⟩⟩⟩⟩⟩⟩
    · subst c
      refine s_X1_sweetsInHopper hM a5 n hl hn he ?_
      unfold wp_X6_of
      refine hX _ ⟨fun _ => ?_, fun c => absurd c (by decide)⟩
      refine ⟨fun _ => ?_, fun d => absurd rfl d⟩
      exact s_X6_inHopper a5 n hl hn rfl he (hP _)
    · subst c
      rw [m2]
      unfold wp_X6_of
      refine hX _ ⟨fun _ => ?_, fun c => absurd c (by decide)⟩
      repeat (first | refine ⟨fun _ => ?_, fun d => absurd rfl d⟩ | refine ⟨fun d => absurd d (by decide), fun _ => ?_⟩)
      exact s_X6_lane a5 0 (by omega) rfl rfl (hP _)
    · subst c
      refine s_X1_nextFlavour hM a5 n hl hn he ?_
      unfold wp_X6_of
      refine hX _ ⟨fun _ => ?_, fun c => absurd c (by decide)⟩
      repeat (first | refine ⟨fun _ => ?_, fun d => absurd rfl d⟩ | refine ⟨fun d => absurd d (by decide), fun _ => ?_⟩)
      refine s_X6_lane a5 0 (by omega) rfl rfl ?_
      rw [Nat.add_zero, he]
      by_cases z : n = 0
      · rw [if_pos z]
        refine ⟨fun d => absurd (by rw [z]; rfl) d, fun _ => hP _⟩
      · rw [if_neg z]
        refine ⟨fun _ => ?_, fun d => absurd d (nI_ne0 (by omega) (by omega))⟩
        exact s_X6_heapFlavour a5 0 (by omega) rfl rfl (hP _)
    · subst c
      rw [m3]
      unfold wp_X6_of
      refine hX _ ⟨fun _ => ?_, fun c => absurd c (by decide)⟩
      repeat (first | refine ⟨fun _ => ?_, fun d => absurd rfl d⟩ | refine ⟨fun d => absurd d (by decide), fun _ => ?_⟩)
      exact s_X6_lane a5 13 (by omega) rfl (by decide) (hP _)
    · subst c
      rw [m4]
      unfold wp_X6_of
      refine hX _ ⟨fun _ => ?_, fun c => absurd c (by decide)⟩
      repeat (first | refine ⟨fun _ => ?_, fun d => absurd rfl d⟩ | refine ⟨fun d => absurd d (by decide), fun _ => ?_⟩)
      exact s_X6_lane a5 14 (by omega) rfl (by decide) (hP _)
    · subst c
      rw [m5]
      unfold wp_X6_of
      refine hX _ ⟨fun _ => ?_, fun c => absurd c (by decide)⟩
      repeat (first | refine ⟨fun _ => ?_, fun d => absurd rfl d⟩ | refine ⟨fun d => absurd d (by decide), fun _ => ?_⟩)
      exact s_X6_lane a5 15 (by omega) rfl (by decide) (hP _)
    · subst c
      rw [m6]
      unfold wp_X6_of
      refine hX _ ⟨fun _ => ?_, fun c => absurd c (by decide)⟩
      repeat (first | refine ⟨fun _ => ?_, fun d => absurd rfl d⟩ | refine ⟨fun d => absurd d (by decide), fun _ => ?_⟩)
      exact s_X6_lane a5 16 (by omega) rfl (by decide) (hP _)
    · subst c
      refine s_X2_reasonNow hM hI a5 hl ?_
      unfold wp_X6_of
      refine hX _ ⟨fun _ => ?_, fun c => absurd c (by decide)⟩
      repeat (first | refine ⟨fun _ => ?_, fun d => absurd rfl d⟩ | refine ⟨fun d => absurd d (by decide), fun _ => ?_⟩)
      have h := s_X6_reasonI (σ := σ) (r := σ 12 19 0) (x1 := nI a5) (Q := fun b σ2 => P (rsR (σ 12 19 0) a5) b σ2) a5 hl hI rfl
      rw [sr_self] at h
      exact h (hP _)
    · unfold wp_X6_of
      refine hX _ ⟨fun _ => ?_, fun c => absurd c (by decide)⟩
      exact ⟨fun d => absurd d c0, fun _ => ⟨fun d => absurd d c1, fun _ => ⟨fun d => absurd d c2, fun _ => ⟨fun d => absurd d c3, fun _ => ⟨fun d => absurd d c4, fun _ => ⟨fun d => absurd d c5, fun _ => ⟨fun d => absurd d c6, fun _ => ⟨fun d => absurd d c7, fun _ => hP _⟩⟩⟩⟩⟩⟩⟩⟩
  · refine ⟨fun d => absurd rfl d, fun _ => ?_⟩
    unfold wp_X6_of
    refine s_X6_isLane (fun l hl e => ?_) (fun _ => ⟨fun d => absurd rfl d, fun _ => hP _⟩)
    subst e
    rcases c with z | z
    · exact absurd z (nI_pos (by omega))
    · exact absurd z (nI_ge hl (by decide))
theorem pr_ofHeap (hM : MR (σ 0) (σ 12 19 0)) (hI : IR (σ 12 19 0)) (x y z : Int32) (hP : ∀ v, P v v σ) : wp_X2_heapFact 0 x y z σ (fun a σ1 => wp_X6_ofHeap x y z σ1 (fun b σ2 => P a b σ2)) := by
  unfold wp_X2_heapFact
  refine s_isIndex2 (n := 4) (by decide) (fun l hl e => ?_) (fun c => ?_)
  · subst e
    refine ⟨fun c => absurd c (by decide), fun _ => ⟨vp_in_nI hl (by decide), ?_⟩⟩
    intro a5 e5
    rw [nI_clamp (by omega)] at e5
    subst e5
    obtain ⟨n, hn, he, hh⟩ := hI.2.2.2.2.2.1 a5 hl
    obtain ⟨m2, m3, m4, m5, m6, m7⟩ := hM.2.2.2.1 a5 hl
    have hX : ∀ Q' : Int32 → Sg → Prop, Q' 1 σ → wp_X6_isLane (nI a5) σ Q' := fun Q' q => s_X6_isLane (fun _ _ _ => q) (fun c => absurd c (by
      intro z
      rcases z with z | z
      · exact nI_pos (by omega) z
      · exact nI_ge hl (by decide) z))
    refine s_X1_isHeap a5 n hn (m2.trans he) (fun h hh2 eh => ?_) (fun c => ?_)
    · subst eh
      have hX2 : ∀ Q' : Int32 → Sg → Prop, Q' 1 σ → wp_X6_in (nI h) 0 (nI n - 1) σ Q' := fun Q' q => s_X6_inIdx (n := n) (by omega) rfl (fun _ _ _ => q) (fun c => absurd c (by
        intro z
        rcases z with z | z
        · exact nI_pos (by omega) z
        · exact nI_ge hh2 (by omega) z))
      obtain ⟨k1, k2⟩ := m7 h (by rw [he, nI_clamp (by omega)]; exact hh2)
      refine ⟨fun _ => ?_, fun c => absurd c (by decide)⟩
      refine ⟨fun c => ⟨vp_in_nI hl (by decide), ?_⟩, fun c0 => ⟨fun c => ⟨vp_in_nI hl (by decide), ?_⟩, fun c1 => ?_⟩⟩
      · subst c
        intro a12 e12
        rw [nI_clamp (by omega)] at e12
        subst e12
        refine ⟨vp_in_nI (by omega) (by decide), ?_⟩
        rw [nI_clamp (by omega), k1]
        unfold wp_X6_ofHeap
        refine hX _ ⟨fun c => absurd c (by decide), fun _ => ?_⟩
        refine s_X6_lane a12 0 (by omega) rfl rfl ?_
        rw [Nat.add_zero, he]
        refine hX2 _ ⟨fun _ => ?_, fun c => absurd c (by decide)⟩
        refine ⟨fun d => absurd rfl d, fun _ => ?_⟩
        exact s_X6_heapFlavour a12 h (by omega) rfl rfl (hP _)
      · subst c
        intro a12 e12
        rw [nI_clamp (by omega)] at e12
        subst e12
        refine ⟨vp_in_nI (by omega) (by decide), ?_⟩
        rw [nI_clamp (by omega), k2]
        unfold wp_X6_ofHeap
        refine hX _ ⟨fun c => absurd c (by decide), fun _ => ?_⟩
        refine s_X6_lane a12 0 (by omega) rfl rfl ?_
        rw [Nat.add_zero, he]
        refine hX2 _ ⟨fun _ => ?_, fun c => absurd c (by decide)⟩
        refine ⟨fun _ => ⟨fun d => absurd rfl d, fun _ => ?_⟩, fun d => absurd d (by decide)⟩
        exact s_X6_heapMany a12 h (by omega) rfl rfl (hP _)
      · unfold wp_X6_ofHeap
        refine hX _ ⟨fun c => absurd c (by decide), fun _ => ?_⟩
        refine s_X6_lane a5 0 (by omega) rfl rfl ?_
        rw [Nat.add_zero, he]
        refine hX2 _ ⟨fun _ => ?_, fun c => absurd c (by decide)⟩
        exact ⟨fun _ => ⟨fun _ => hP _, fun d => absurd d c1⟩, fun d => absurd d c0⟩
    · refine ⟨fun d => absurd rfl d, fun _ => ?_⟩
      unfold wp_X6_ofHeap
      refine hX _ ⟨fun c => absurd c (by decide), fun _ => ?_⟩
      refine s_X6_lane a5 0 (by omega) rfl rfl ?_
      rw [Nat.add_zero, he]
      refine s_X6_inIdx (n := n) (by omega) rfl (fun j hj e => ?_) (fun _ => ⟨fun d => absurd rfl d, fun _ => hP _⟩)
      subst e
      rcases c with z | z
      · exact absurd z (nI_pos (by omega))
      · exact absurd z (nI_ge hj (by omega))
  · refine ⟨fun _ => ?_, fun d => absurd rfl d⟩
    unfold wp_X6_ofHeap
    refine s_X6_isLane (fun l hl e => ?_) (fun _ => ⟨fun _ => hP _, fun d => absurd rfl d⟩)
    subst e
    rcases c with z | z
    · exact absurd z (nI_pos (by omega))
    · exact absurd z (nI_ge hl (by decide))
/-- an index of a tin, on both sides -/
theorem s_X6_tinIx {x : Int32} {Q : Int32 → Sg → Prop} (hI : IR (σ 12 19 0)) (h1 : ∀ t, t < nT (σ 12 19 0) → x = nI t → Q 1 σ) (h0 : (x < 0 ∨ nI (nT (σ 12 19 0)) ≤ x) → Q 0 σ) : wp_X6_in x 0 ((σ 12 19 0 72) - 1) σ Q := by
  obtain ⟨g1, g2, -⟩ := IR_nT hI
  exact s_X6_inIdx (n := nT (σ 12 19 0)) (by omega) (by rw [← g2]) h1 h0
theorem s_X6_tinIx1 {Q : Int32 → Sg → Prop} (hI : IR (σ 12 19 0)) {t : Nat} (ht : t < nT (σ 12 19 0)) (h1 : Q 1 σ) : wp_X6_in (nI t) 0 ((σ 12 19 0 72) - 1) σ Q := by
  obtain ⟨g1, g2, -⟩ := IR_nT hI
  refine s_X6_tinIx hI (fun _ _ _ => h1) (fun z => ?_)
  rcases z with z | z
  · exact absurd z (nI_pos (by omega))
  · exact absurd z (nI_ge ht (by omega))
theorem s_X6_tinIx0 {x : Int32} {Q : Int32 → Sg → Prop} (hI : IR (σ 12 19 0)) (c : x < 0 ∨ nI (nT (σ 12 19 0)) ≤ x) (h0 : Q 0 σ) : wp_X6_in x 0 ((σ 12 19 0 72) - 1) σ Q := by
  obtain ⟨g1, g2, -⟩ := IR_nT hI
  refine s_X6_tinIx hI (fun t ht e => ?_) (fun _ => h0)
  subst e
  rcases c with z | z
  · exact absurd z (nI_pos (by omega))
  · exact absurd z (nI_ge ht (by omega))
theorem s_X6_flavIx1 {Q : Int32 → Sg → Prop} {f : Nat} (hf : f < 6) (h1 : Q 1 σ) : wp_X6_isFlavour (nI f) σ Q := by
  refine s_X6_isFlavour (fun _ _ _ => h1) (fun z => ?_)
  rcases z with z | z
  · exact absurd z (nI_pos (by omega))
  · exact absurd z (nI_ge hf (by omega))
theorem s_X6_flavIx0 {x : Int32} {Q : Int32 → Sg → Prop} (c : x < 0 ∨ nI 6 ≤ x) (h0 : Q 0 σ) : wp_X6_isFlavour x σ Q := by
  refine s_X6_isFlavour (fun f hf e => ?_) (fun _ => h0)
  subst e
  rcases c with z | z
  · exact absurd z (nI_pos (by omega))
  · exact absurd z (nI_ge hf (by omega))
theorem s_X6_laneIx1 {Q : Int32 → Sg → Prop} {f : Nat} (hf : f < 4) (h1 : Q 1 σ) : wp_X6_isLane (nI f) σ Q := by
  refine s_X6_isLane (fun _ _ _ => h1) (fun z => ?_)
  rcases z with z | z
  · exact absurd z (nI_pos (by omega))
  · exact absurd z (nI_ge hf (by omega))
theorem s_X6_laneIx0 {x : Int32} {Q : Int32 → Sg → Prop} (c : x < 0 ∨ nI 4 ≤ x) (h0 : Q 0 σ) : wp_X6_isLane x σ Q := by
  refine s_X6_isLane (fun f hf e => ?_) (fun _ => h0)
  subst e
  rcases c with z | z
  · exact absurd z (nI_pos (by omega))
  · exact absurd z (nI_ge hf (by omega))
theorem pr_ofTin (hM : MR (σ 0) (σ 12 19 0)) (hI : IR (σ 12 19 0)) (x y : Int32) (hP : ∀ v, P v v σ) : wp_X2_tinFact 0 x y σ (fun a σ1 => wp_X6_ofTin x y σ1 (fun b σ2 => P a b σ2)) := by
  unfold wp_X2_tinFact
  refine s_X2_isTin hM hI (fun t ht ht2 e => ?_) (fun c => ?_)
  · subst e
    obtain ⟨b1, b2, b3, -⟩ := hM.2.2.2.2 t ht2
    refine ⟨fun _ => ?_, fun c => absurd c (by decide)⟩
    refine ⟨fun c => ⟨vp_in_nI ht2 (by decide), ?_⟩, fun c0 => ⟨fun c => ⟨vp_in_nI ht2 (by decide), ?_⟩, fun c1 => ⟨fun c => ⟨vp_in_nI ht2 (by decide), ?_⟩, fun c2 => ⟨fun c => ⟨vp_in_nI ht2 (by decide), ?_⟩, fun c3 => ?_⟩⟩⟩⟩
    · subst c
      intro a e
      rw [e, nI_clamp (by omega), b2]
      unfold wp_X6_ofTin
      refine s_X6_tinIx1 hI ht ⟨fun _ => ⟨fun d => absurd rfl d, fun _ => ?_⟩, fun c => absurd c (by decide)⟩
      exact s_X6_sweets t ht2 rfl (hP _)
    · subst c
      intro a e
      rw [e, nI_clamp (by omega), b3]
      have fin : ∀ v, v = σ 12 19 0 (73 + 7 * t) → wp_X6_ofTin (nI t) 1 σ (fun b σ2 => P v b σ2) := by
        intro v ev
        unfold wp_X6_ofTin
        refine s_X6_tinIx1 hI ht ⟨fun _ => ⟨fun _ => ⟨fun d => absurd rfl d, fun _ => ?_⟩, fun d => absurd d (by decide)⟩, fun c => absurd c (by decide)⟩
        rw [show ((73 : Int32) + (7 : Int32) * nI t) = nI (73 + 7 * t) by simp only [nI_lit, nI_add, pk_mul], nI_clamp (by omega)]
        refine ⟨vp_in_nI (by omega) (by decide), ?_⟩
        rw [ev]
        exact hP _
      rcases (hI.2.2.2.2.2.2 t ht2).1 with z | z
      · exact ⟨fun _ => fin 0 z.symm, fun d => absurd z d⟩
      · exact ⟨fun d => absurd (z.symm.trans d) (by decide), fun _ => fin 1 z.symm⟩
    · subst c
      intro a e
      rw [e, nI_clamp (by omega), b1]
      unfold wp_X6_ofTin
      refine s_X6_tinIx1 hI ht ⟨fun _ => ⟨fun _ => ⟨fun _ => ⟨fun d => absurd rfl d, fun _ => ?_⟩, fun d => absurd d (by decide)⟩, fun d => absurd d (by decide)⟩, fun c => absurd c (by decide)⟩
      exact s_X6_flavoursOf t ht2 rfl (hP _)
    · subst c
      intro a e
      rw [e, nI_clamp (by omega)]
      refine s_X2_flavoursTakenBy hM hI t ht2 ?_
      unfold wp_X6_ofTin
      refine s_X6_tinIx1 hI ht ⟨fun _ => ⟨fun _ => ⟨fun _ => ⟨fun _ => ⟨fun d => absurd rfl d, fun _ => ?_⟩, fun d => absurd d (by decide)⟩, fun d => absurd d (by decide)⟩, fun d => absurd d (by decide)⟩, fun c => absurd c (by decide)⟩
      exact s_X6_taken t ht2 rfl (hP _)
    · unfold wp_X6_ofTin
      exact s_X6_tinIx1 hI ht ⟨fun _ => ⟨fun _ => ⟨fun _ => ⟨fun _ => ⟨fun _ => hP _, fun d => absurd d c3⟩, fun d => absurd d c2⟩, fun d => absurd d c1⟩, fun d => absurd d c0⟩, fun c => absurd c (by decide)⟩
  · refine ⟨fun d => absurd rfl d, fun _ => ?_⟩
    unfold wp_X6_ofTin
    exact s_X6_tinIx0 hI c ⟨fun d => absurd rfl d, fun _ => hP _⟩
theorem pr_inTin (hM : MR (σ 0) (σ 12 19 0)) (hI : IR (σ 12 19 0)) (x y : Int32) (hP : ∀ v, P v v σ) : wp_X2_sweetsInTin 0 x y σ (fun a σ1 => wp_X6_inTin x y σ1 (fun b σ2 => P a b σ2)) := by
  unfold wp_X2_sweetsInTin
  refine s_X2_isTin hM hI (fun t ht ht2 e => ?_) (fun c => ?_)
  · subst e
    obtain ⟨-, -, -, b4⟩ := hM.2.2.2.2 t ht2
    refine ⟨fun c => absurd c (by decide), fun _ => ?_⟩
    refine s_isIndex2 (n := 6) (by decide) (fun f hf e => ?_) (fun c => ?_)
    · subst e
      refine ⟨fun _ => ⟨vp_in_nI ht2 (by decide), ?_⟩, fun c => absurd c (by decide)⟩
      intro a e
      refine ⟨vp_in_nI hf (by decide), ?_⟩
      rw [e, nI_clamp (n := t) (by omega), nI_clamp (n := f) (by omega), b4 f hf]
      unfold wp_X6_inTin
      refine s_X6_tinIx1 hI ht ⟨fun c => absurd c (by decide), fun _ => s_X6_flavIx1 hf ⟨fun c => absurd c (by decide), fun _ => ?_⟩⟩
      exact s_X6_inside t f (by omega) rfl rfl (hP _)
    · refine ⟨fun d => absurd rfl d, fun _ => ?_⟩
      unfold wp_X6_inTin
      exact s_X6_tinIx1 hI ht ⟨fun c => absurd c (by decide), fun _ => s_X6_flavIx0 c ⟨fun _ => hP _, fun d => absurd rfl d⟩⟩
  · refine ⟨fun _ => ?_, fun d => absurd rfl d⟩
    unfold wp_X6_inTin
    exact s_X6_tinIx0 hI c ⟨fun _ => hP _, fun d => absurd rfl d⟩
theorem pr_flavour (hM : MR (σ 0) (σ 12 19 0)) (hI : IR (σ 12 19 0)) (x y : Int32) (hP : ∀ v, P v v σ) : wp_X2_flavourFact 0 x y σ (fun a σ1 => wp_X6_flavour x y σ1 (fun b σ2 => P a b σ2)) := by
  unfold wp_X2_flavourFact
  refine s_isIndex2 (n := 6) (by decide) (fun f hf e => ?_) (fun c => ?_)
  · subst e
    refine ⟨fun _ => ?_, fun c => absurd c (by decide)⟩
    refine ⟨fun c => ?_, fun c0 => ⟨fun c => ?_, fun c1 => ⟨fun c => ?_, fun c2 => ⟨fun c => ⟨vp_in_nI hf (by decide), ?_⟩, fun c3 => ?_⟩⟩⟩⟩
    · subst c
      refine s_X2_sweetsInHoppers hM hI ?_
      unfold wp_X6_flavour
      refine s_X6_flavIx1 hf ⟨fun _ => ⟨fun d => absurd rfl d, fun _ => ?_⟩, fun c => absurd c (by decide)⟩
      exact s_X6_inHoppers hI (hP _)
    · subst c
      refine s_X2_sweetsInTins f hf hM hI rfl ?_
      unfold wp_X6_flavour wp_X6_flavour_b31
      refine s_X6_flavIx1 hf ⟨fun _ => ⟨fun _ => ⟨fun _ => ?_, fun d => absurd rfl d⟩, fun d => absurd d (by decide)⟩, fun c => absurd c (by decide)⟩
      exact s_X6_inTins f hf hI rfl (hP _)
    · subst c
      refine s_X2_sweetsInTins f hf hM hI rfl ?_
      unfold wp_X6_flavour wp_X6_flavour_b31
      refine s_X6_flavIx1 hf ⟨fun _ => ⟨fun _ => ⟨fun d => absurd d (by decide), fun _ => ⟨fun d => absurd rfl d, fun _ => ?_⟩⟩, fun d => absurd d (by decide)⟩, fun c => absurd c (by decide)⟩
      exact s_X6_inTins f hf hI rfl (hP _)
    · subst c
      rw [nI_clamp (by omega), hM.2.2.1 f hf]
      unfold wp_X6_flavour wp_X6_flavour_b31
      refine s_X6_flavIx1 hf ⟨fun _ => ⟨fun _ => ⟨fun d => absurd d (by decide), fun _ => ⟨fun _ => ⟨fun d => absurd rfl d, fun _ => ?_⟩, fun d => absurd d (by decide)⟩⟩, fun d => absurd d (by decide)⟩, fun c => absurd c (by decide)⟩
      rw [show ((185 : Int32) + nI f) = nI (185 + f) by simp only [nI_lit, nI_add], nI_clamp (by omega)]
      exact ⟨vp_in_nI (by omega) (by decide), hP _⟩
    · unfold wp_X6_flavour wp_X6_flavour_b31
      exact s_X6_flavIx1 hf ⟨fun _ => ⟨fun _ => ⟨fun d => absurd d c1, fun _ => ⟨fun _ => ⟨fun _ => hP _, fun d => absurd d c3⟩, fun d => absurd d c2⟩⟩, fun d => absurd d c0⟩, fun c => absurd c (by decide)⟩
  · refine ⟨fun d => absurd rfl d, fun _ => ?_⟩
    unfold wp_X6_flavour
    exact s_X6_flavIx0 c ⟨fun d => absurd rfl d, fun _ => hP _⟩
theorem pr_count (hM : MR (σ 0) (σ 12 19 0)) (hI : IR (σ 12 19 0)) (h15 : σ 11 15 0 2 = σ 12 18 0 7) (h16 : σ 11 11 0 2 = σ 12 18 0 3) (x : Int32) (hP : ∀ v, P v v σ) : wp_X5_count x σ (fun a σ1 => wp_X6_count x σ1 (fun b σ2 => P a b σ2)) := by
  have lf : ∀ (w : Nat) (y : Int32), 13 ≤ w → w ≤ 16 → y = nI (w - 10) → ∀ (l : Nat) (Q' : Int32 → Sg → Prop), l < 4 → Q' (σ 12 19 0 (4 + 17 * l + w)) σ → wp_X2_laneFact 0 (nI l) y σ Q' := by
    intro w y w1 w2 ey l Q' hl hq
    obtain ⟨m2, m3, m4, m5, m6, m7⟩ := hM.2.2.2.1 l hl
    unfold wp_X2_laneFact
    refine s_isIndex2 (n := 4) (by decide) (fun j hj e => ?_) (fun c => ?_)
    · refine ⟨fun _ => ⟨vp_in_nI hl (by decide), ?_⟩, fun c => absurd c (by decide)⟩
      intro a5 e5
      rw [e5, nI_clamp (by omega)]
      have hw : w = 13 ∨ w = 14 ∨ w = 15 ∨ w = 16 := by omega
      rcases hw with e | e | e | e
      · subst e; subst ey
        rw [m3]
        repeat (first | refine ⟨fun _ => ?_, fun d => absurd rfl d⟩ | refine ⟨fun d => absurd d (by decide), fun _ => ?_⟩)
        exact hq
      · subst e; subst ey
        rw [m4]
        repeat (first | refine ⟨fun _ => ?_, fun d => absurd rfl d⟩ | refine ⟨fun d => absurd d (by decide), fun _ => ?_⟩)
        exact hq
      · subst e; subst ey
        rw [m5]
        repeat (first | refine ⟨fun _ => ?_, fun d => absurd rfl d⟩ | refine ⟨fun d => absurd d (by decide), fun _ => ?_⟩)
        exact hq
      · subst e; subst ey
        rw [m6]
        repeat (first | refine ⟨fun _ => ?_, fun d => absurd rfl d⟩ | refine ⟨fun d => absurd d (by decide), fun _ => ?_⟩)
        exact hq
    · rcases c with z | z
      · exact absurd z (nI_pos (by omega))
      · exact absurd z (nI_ge hl (by omega))
  have lh : ∀ (l : Nat) (Q' : Int32 → Sg → Prop), l < 4 → Q' (hpR (σ 12 19 0) l) σ → wp_X2_laneFact 0 (nI l) 0 σ Q' := by
    intro l Q' hl hq
    obtain ⟨n, hn, he, -⟩ := hI.2.2.2.2.2.1 l hl
    unfold wp_X2_laneFact
    refine s_isIndex2 (n := 4) (by decide) (fun j hj e => ?_) (fun c => ?_)
    · refine ⟨fun _ => ⟨vp_in_nI hl (by decide), ?_⟩, fun c => absurd c (by decide)⟩
      intro a5 e5
      rw [e5, nI_clamp (by omega)]
      exact ⟨fun _ => s_X1_sweetsInHopper hM l n hl hn he hq, fun d => absurd rfl d⟩
    · rcases c with z | z
      · exact absurd z (nI_pos (by omega))
      · exact absurd z (nI_ge hl (by omega))
  unfold wp_X5_count
  refine ⟨fun c => ?_, fun n15 => ⟨fun c => ?_, fun n16 => ?_⟩⟩
  · subst c
    rw [h15]
    unfold wp_X6_count
    repeat (first | refine ⟨fun _ => ?_, fun d => absurd rfl d⟩ | refine ⟨fun d => absurd d (by decide), fun _ => ?_⟩)
    exact hP _
  · subst c
    rw [h16]
    unfold wp_X6_count
    repeat (first | refine ⟨fun _ => ?_, fun d => absurd rfl d⟩ | refine ⟨fun d => absurd d (by decide), fun _ => ?_⟩)
    exact hP _
  · unfold wp_X2_number
    refine ⟨fun c => ?_, fun c0 => ⟨fun c => ?_, fun c1 => ⟨fun c => ?_, fun c2 => ⟨fun c => ?_, fun c3 => ⟨fun c => ?_, fun c4 => ⟨fun c => ?_, fun c5 => ⟨fun c => ?_, fun c6 => ⟨fun c => ?_, fun c7 => ⟨fun c => ?_, fun c8 => ⟨fun c => ?_, fun c9 => ⟨fun c => ?_, fun c10 => ⟨fun c => ?_, fun c11 => ⟨fun c => ?_, fun c12 => ⟨fun c => ?_, fun c13 => ⟨fun c => ?_, fun c14 => ?_⟩⟩⟩⟩⟩⟩⟩⟩⟩⟩⟩⟩⟩⟩⟩
    · subst c
      rw [hM.2.1.2.1]
      unfold wp_X6_count
      repeat (first | refine ⟨fun _ => ?_, fun d => absurd rfl d⟩ | refine ⟨fun d => absurd d (by decide), fun _ => ?_⟩)
      exact hP _
    · subst c
      rw [hM.2.1.1]
      unfold wp_X6_count
      repeat (first | refine ⟨fun _ => ?_, fun d => absurd rfl d⟩ | refine ⟨fun d => absurd d (by decide), fun _ => ?_⟩)
      exact hP _
    · subst c
      refine s_X2_tinsThatAre hM hI ?_
      unfold wp_X6_count
      repeat (first | refine ⟨fun _ => ?_, fun d => absurd rfl d⟩ | refine ⟨fun d => absurd d (by decide), fun _ => ?_⟩)
      exact s_X6_tinSet hI (hP _)
    · subst c
      refine s_X2_tinsThatAre hM hI ?_
      unfold wp_X6_count
      repeat (first | refine ⟨fun _ => ?_, fun d => absurd rfl d⟩ | refine ⟨fun d => absurd d (by decide), fun _ => ?_⟩)
      exact s_X6_tinSet hI (hP _)
    · subst c
      refine s_X2_overLanes _ lh ?_
      unfold wp_X6_count
      repeat (first | refine ⟨fun _ => ?_, fun d => absurd rfl d⟩ | refine ⟨fun d => absurd d (by decide), fun _ => ?_⟩)
      exact s_X6_lanesH hI (hP _)
    · subst c
      refine s_X2_overLanes _ (lf 16 6 (by decide) (by decide) rfl) ?_
      unfold wp_X6_count
      repeat (first | refine ⟨fun _ => ?_, fun d => absurd rfl d⟩ | refine ⟨fun d => absurd d (by decide), fun _ => ?_⟩)
      exact s_X6_lanes 16 (by decide) rfl (hP _)
    · subst c
      refine s_X2_sweetsShipped hM hI ?_
      unfold wp_X6_count
      repeat (first | refine ⟨fun _ => ?_, fun d => absurd rfl d⟩ | refine ⟨fun d => absurd d (by decide), fun _ => ?_⟩)
      exact s_X6_shippedSweets hI (hP _)
    · subst c
      refine s_X2_overLanes _ (lf 13 3 (by decide) (by decide) rfl) ?_
      unfold wp_X6_count
      repeat (first | refine ⟨fun _ => ?_, fun d => absurd rfl d⟩ | refine ⟨fun d => absurd d (by decide), fun _ => ?_⟩)
      exact s_X6_lanes 13 (by decide) rfl (hP _)
    · subst c
      rw [hM.2.1.2.2.1]
      unfold wp_X6_count
      repeat (first | refine ⟨fun _ => ?_, fun d => absurd rfl d⟩ | refine ⟨fun d => absurd d (by decide), fun _ => ?_⟩)
      exact ⟨vp_in_nI (n := 192) (N := 194) (by decide) (by decide), hP _⟩
    · subst c
      rw [hM.2.1.2.2.2]
      unfold wp_X6_count
      repeat (first | refine ⟨fun _ => ?_, fun d => absurd rfl d⟩ | refine ⟨fun d => absurd d (by decide), fun _ => ?_⟩)
      exact ⟨vp_in_nI (n := 193) (N := 194) (by decide) (by decide), hP _⟩
    · subst c
      refine s_X2_standingLanes hM hI ?_
      unfold wp_X6_count
      repeat (first | refine ⟨fun _ => ?_, fun d => absurd rfl d⟩ | refine ⟨fun d => absurd d (by decide), fun _ => ?_⟩)
      exact s_X6_failing hI (hP _)
    · subst c
      rw [hM.1 0 (by decide)]
      unfold wp_X6_count
      repeat (first | refine ⟨fun _ => ?_, fun d => absurd rfl d⟩ | refine ⟨fun d => absurd d (by decide), fun _ => ?_⟩)
      exact ⟨vp_in_nI (n := 0) (N := 194) (by decide) (by decide), hP _⟩
    · subst c
      rw [hM.1 1 (by decide)]
      unfold wp_X6_count
      repeat (first | refine ⟨fun _ => ?_, fun d => absurd rfl d⟩ | refine ⟨fun d => absurd d (by decide), fun _ => ?_⟩)
      exact ⟨vp_in_nI (n := 1) (N := 194) (by decide) (by decide), hP _⟩
    · subst c
      rw [hM.1 2 (by decide)]
      unfold wp_X6_count
      repeat (first | refine ⟨fun _ => ?_, fun d => absurd rfl d⟩ | refine ⟨fun d => absurd d (by decide), fun _ => ?_⟩)
      exact ⟨vp_in_nI (n := 2) (N := 194) (by decide) (by decide), hP _⟩
    · subst c
      rw [hM.1 3 (by decide)]
      unfold wp_X6_count
      repeat (first | refine ⟨fun _ => ?_, fun d => absurd rfl d⟩ | refine ⟨fun d => absurd d (by decide), fun _ => ?_⟩)
      exact ⟨vp_in_nI (n := 3) (N := 194) (by decide) (by decide), hP _⟩
    · unfold wp_X6_count
      exact ⟨fun d => absurd d c0, fun _ => ⟨fun d => absurd d c1, fun _ => ⟨fun d => absurd d c2, fun _ => ⟨fun d => absurd d c3, fun _ => ⟨fun d => absurd d c4, fun _ => ⟨fun d => absurd d c5, fun _ => ⟨fun d => absurd d c6, fun _ => ⟨fun d => absurd d c7, fun _ => ⟨fun d => absurd d c8, fun _ => ⟨fun d => absurd d c9, fun _ => ⟨fun d => absurd d c10, fun _ => ⟨fun d => absurd d c11, fun _ => ⟨fun d => absurd d c12, fun _ => ⟨fun d => absurd d c13, fun _ => ⟨fun d => absurd d c14, fun _ => ⟨fun d => absurd d n15, fun _ => ⟨fun d => absurd d n16, fun _ => hP _⟩⟩⟩⟩⟩⟩⟩⟩⟩⟩⟩⟩⟩⟩⟩⟩⟩
theorem pr_byRoom (hM : MR (σ 0) (σ 12 19 0)) (hI : IR (σ 12 19 0)) (x : Int32) (hP : ∀ v, P v v σ) : wp_X2_tinOfRank 0 x σ (fun a σ1 => wp_X6_byRoom x σ1 (fun b σ2 => P a b σ2)) := s_X2_tinOfRank hM hI (s_X6_byRoom hI (hP _))
theorem pr_byCount (hM : MR (σ 0) (σ 12 19 0)) (hI : IR (σ 12 19 0)) (x : Int32) (hP : ∀ v, P v v σ) : wp_X2_flavourOfRank 0 x σ (fun a σ1 => wp_X6_byCount x σ1 (fun b σ2 => P a b σ2)) := s_X2_flavourOfRank hM hI (s_X6_byCount hI (hP _))
theorem pr_tinsFor (hM : MR (σ 0) (σ 12 19 0)) (hI : IR (σ 12 19 0)) (hP : ∀ v, P v v σ) : wp_X2_tinsForHoppers 0 σ (fun a σ1 => wp_X6_tinsFor σ1 (fun b σ2 => P a b σ2)) := s_X2_tinsForHoppers hM hI (s_X6_tinsFor hI (hP _))
end RP
