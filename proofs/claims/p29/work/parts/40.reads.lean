/-! What the calls that only read answer. -/
abbrev RC (σ : Sg) (r : Nat → Int32) : Prop := MR (σ 0) r ∧ IR r
section RQ
variable {σ : Sg} {Q : Int32 → Sg → Prop} {r : Nat → Int32}
theorem q_lane0 (h : RC σ r) (l : Nat) (hl : l < 4) {x : Int32} (e : x = nI l) (hq : Q (hpR r l) σ) : wp_X2_laneFact 0 x 0 σ Q := by
  subst e
  obtain ⟨hM, hI⟩ := h
  obtain ⟨n, hn, he, hh⟩ := hI.2.2.2.2.2.1 l hl
  obtain ⟨m2, m3, m4, m5, m6, m7⟩ := hM.2.2.2.1 l hl
  unfold wp_X2_laneFact
  refine s_isIndex2 (n := 4) (by decide) (fun _ _ _ => ?_) (fun c => ?_)
  · refine ⟨fun _ => ⟨vp_in_nI hl (by decide), ?_⟩, fun c => absurd c (by decide)⟩
    intro a5 e5
    rw [nI_clamp (by omega)] at e5
    subst e5
    repeat (first | refine ⟨fun _ => ?_, fun d => absurd rfl d⟩ | refine ⟨fun d => absurd d (by decide), fun _ => ?_⟩)
    exact s_X1_sweetsInHopper hM a5 n hl hn he hq
  · rcases c with z | z
    · exact absurd z (nI_pos (by omega))
    · exact absurd z (nI_ge hl (by decide))
theorem q_of0 (h : RC σ r) (l : Nat) (hl : l < 4) {x : Int32} (e : x = nI l) (hq : Q (hpR r l) σ) : wp_X5_of x 0 σ Q := q_lane0 (Q := fun a σ2 => Q a σ2) h l hl e hq
theorem q_lane1 (h : RC σ r) (l : Nat) (hl : l < 4) {x : Int32} (e : x = nI l) (hq : Q (r (4 + 17 * l)) σ) : wp_X2_laneFact 0 x 1 σ Q := by
  subst e
  obtain ⟨hM, hI⟩ := h
  obtain ⟨n, hn, he, hh⟩ := hI.2.2.2.2.2.1 l hl
  obtain ⟨m2, m3, m4, m5, m6, m7⟩ := hM.2.2.2.1 l hl
  unfold wp_X2_laneFact
  refine s_isIndex2 (n := 4) (by decide) (fun _ _ _ => ?_) (fun c => ?_)
  · refine ⟨fun _ => ⟨vp_in_nI hl (by decide), ?_⟩, fun c => absurd c (by decide)⟩
    intro a5 e5
    rw [nI_clamp (by omega)] at e5
    subst e5
    repeat (first | refine ⟨fun _ => ?_, fun d => absurd rfl d⟩ | refine ⟨fun d => absurd d (by decide), fun _ => ?_⟩)
    rw [m2]; exact hq
  · rcases c with z | z
    · exact absurd z (nI_pos (by omega))
    · exact absurd z (nI_ge hl (by decide))
theorem q_of1 (h : RC σ r) (l : Nat) (hl : l < 4) {x : Int32} (e : x = nI l) (hq : Q (r (4 + 17 * l)) σ) : wp_X5_of x 1 σ Q := q_lane1 (Q := fun a σ2 => Q a σ2) h l hl e hq
theorem q_lane2 (h : RC σ r) (l : Nat) (hl : l < 4) {x : Int32} (e : x = nI l) (hq : Q (if r (4 + 17 * l) = 0 then -6 else r (4 + 17 * l + 1)) σ) : wp_X2_laneFact 0 x 2 σ Q := by
  subst e
  obtain ⟨hM, hI⟩ := h
  obtain ⟨n, hn, he, hh⟩ := hI.2.2.2.2.2.1 l hl
  obtain ⟨m2, m3, m4, m5, m6, m7⟩ := hM.2.2.2.1 l hl
  unfold wp_X2_laneFact
  refine s_isIndex2 (n := 4) (by decide) (fun _ _ _ => ?_) (fun c => ?_)
  · refine ⟨fun _ => ⟨vp_in_nI hl (by decide), ?_⟩, fun c => absurd c (by decide)⟩
    intro a5 e5
    rw [nI_clamp (by omega)] at e5
    subst e5
    repeat (first | refine ⟨fun _ => ?_, fun d => absurd rfl d⟩ | refine ⟨fun d => absurd d (by decide), fun _ => ?_⟩)
    refine s_X1_nextFlavour hM a5 n hl hn he ?_
    by_cases z : n = 0
    · rw [if_pos (show r (4 + 17 * a5) = 0 by rw [he, z]; rfl)] at hq
      rw [if_pos z]; exact hq
    · rw [if_neg (show ¬ r (4 + 17 * a5) = 0 by rw [he]; exact nI_ne0 (by omega) (by omega))] at hq
      rw [if_neg z]; exact hq
  · rcases c with z | z
    · exact absurd z (nI_pos (by omega))
    · exact absurd z (nI_ge hl (by decide))
theorem q_of2 (h : RC σ r) (l : Nat) (hl : l < 4) {x : Int32} (e : x = nI l) (hq : Q (if r (4 + 17 * l) = 0 then -6 else r (4 + 17 * l + 1)) σ) : wp_X5_of x 2 σ Q := q_lane2 (Q := fun a σ2 => Q a σ2) h l hl e hq
theorem q_lane3 (h : RC σ r) (l : Nat) (hl : l < 4) {x : Int32} (e : x = nI l) (hq : Q (r (4 + 17 * l + 13)) σ) : wp_X2_laneFact 0 x 3 σ Q := by
  subst e
  obtain ⟨hM, hI⟩ := h
  obtain ⟨n, hn, he, hh⟩ := hI.2.2.2.2.2.1 l hl
  obtain ⟨m2, m3, m4, m5, m6, m7⟩ := hM.2.2.2.1 l hl
  unfold wp_X2_laneFact
  refine s_isIndex2 (n := 4) (by decide) (fun _ _ _ => ?_) (fun c => ?_)
  · refine ⟨fun _ => ⟨vp_in_nI hl (by decide), ?_⟩, fun c => absurd c (by decide)⟩
    intro a5 e5
    rw [nI_clamp (by omega)] at e5
    subst e5
    repeat (first | refine ⟨fun _ => ?_, fun d => absurd rfl d⟩ | refine ⟨fun d => absurd d (by decide), fun _ => ?_⟩)
    rw [m3]; exact hq
  · rcases c with z | z
    · exact absurd z (nI_pos (by omega))
    · exact absurd z (nI_ge hl (by decide))
theorem q_of3 (h : RC σ r) (l : Nat) (hl : l < 4) {x : Int32} (e : x = nI l) (hq : Q (r (4 + 17 * l + 13)) σ) : wp_X5_of x 3 σ Q := q_lane3 (Q := fun a σ2 => Q a σ2) h l hl e hq
theorem q_lane4 (h : RC σ r) (l : Nat) (hl : l < 4) {x : Int32} (e : x = nI l) (hq : Q (r (4 + 17 * l + 14)) σ) : wp_X2_laneFact 0 x 4 σ Q := by
  subst e
  obtain ⟨hM, hI⟩ := h
  obtain ⟨n, hn, he, hh⟩ := hI.2.2.2.2.2.1 l hl
  obtain ⟨m2, m3, m4, m5, m6, m7⟩ := hM.2.2.2.1 l hl
  unfold wp_X2_laneFact
  refine s_isIndex2 (n := 4) (by decide) (fun _ _ _ => ?_) (fun c => ?_)
  · refine ⟨fun _ => ⟨vp_in_nI hl (by decide), ?_⟩, fun c => absurd c (by decide)⟩
    intro a5 e5
    rw [nI_clamp (by omega)] at e5
    subst e5
    repeat (first | refine ⟨fun _ => ?_, fun d => absurd rfl d⟩ | refine ⟨fun d => absurd d (by decide), fun _ => ?_⟩)
    rw [m4]; exact hq
  · rcases c with z | z
    · exact absurd z (nI_pos (by omega))
    · exact absurd z (nI_ge hl (by decide))
theorem q_of4 (h : RC σ r) (l : Nat) (hl : l < 4) {x : Int32} (e : x = nI l) (hq : Q (r (4 + 17 * l + 14)) σ) : wp_X5_of x 4 σ Q := q_lane4 (Q := fun a σ2 => Q a σ2) h l hl e hq
theorem q_lane5 (h : RC σ r) (l : Nat) (hl : l < 4) {x : Int32} (e : x = nI l) (hq : Q (r (4 + 17 * l + 15)) σ) : wp_X2_laneFact 0 x 5 σ Q := by
  subst e
  obtain ⟨hM, hI⟩ := h
  obtain ⟨n, hn, he, hh⟩ := hI.2.2.2.2.2.1 l hl
  obtain ⟨m2, m3, m4, m5, m6, m7⟩ := hM.2.2.2.1 l hl
  unfold wp_X2_laneFact
  refine s_isIndex2 (n := 4) (by decide) (fun _ _ _ => ?_) (fun c => ?_)
  · refine ⟨fun _ => ⟨vp_in_nI hl (by decide), ?_⟩, fun c => absurd c (by decide)⟩
    intro a5 e5
    rw [nI_clamp (by omega)] at e5
    subst e5
    repeat (first | refine ⟨fun _ => ?_, fun d => absurd rfl d⟩ | refine ⟨fun d => absurd d (by decide), fun _ => ?_⟩)
    rw [m5]; exact hq
  · rcases c with z | z
    · exact absurd z (nI_pos (by omega))
    · exact absurd z (nI_ge hl (by decide))
theorem q_of5 (h : RC σ r) (l : Nat) (hl : l < 4) {x : Int32} (e : x = nI l) (hq : Q (r (4 + 17 * l + 15)) σ) : wp_X5_of x 5 σ Q := q_lane5 (Q := fun a σ2 => Q a σ2) h l hl e hq
theorem q_lane6 (h : RC σ r) (l : Nat) (hl : l < 4) {x : Int32} (e : x = nI l) (hq : Q (r (4 + 17 * l + 16)) σ) : wp_X2_laneFact 0 x 6 σ Q := by
  subst e
  obtain ⟨hM, hI⟩ := h
  obtain ⟨n, hn, he, hh⟩ := hI.2.2.2.2.2.1 l hl
  obtain ⟨m2, m3, m4, m5, m6, m7⟩ := hM.2.2.2.1 l hl
  unfold wp_X2_laneFact
  refine s_isIndex2 (n := 4) (by decide) (fun _ _ _ => ?_) (fun c => ?_)
  · refine ⟨fun _ => ⟨vp_in_nI hl (by decide), ?_⟩, fun c => absurd c (by decide)⟩
    intro a5 e5
    rw [nI_clamp (by omega)] at e5
    subst e5
    repeat (first | refine ⟨fun _ => ?_, fun d => absurd rfl d⟩ | refine ⟨fun d => absurd d (by decide), fun _ => ?_⟩)
    rw [m6]; exact hq
  · rcases c with z | z
    · exact absurd z (nI_pos (by omega))
    · exact absurd z (nI_ge hl (by decide))
theorem q_of6 (h : RC σ r) (l : Nat) (hl : l < 4) {x : Int32} (e : x = nI l) (hq : Q (r (4 + 17 * l + 16)) σ) : wp_X5_of x 6 σ Q := q_lane6 (Q := fun a σ2 => Q a σ2) h l hl e hq
theorem q_lane7 (h : RC σ r) (l : Nat) (hl : l < 4) {x : Int32} (e : x = nI l) (hq : Q (rsR r l) σ) : wp_X2_laneFact 0 x 7 σ Q := by
  subst e
  obtain ⟨hM, hI⟩ := h
  obtain ⟨n, hn, he, hh⟩ := hI.2.2.2.2.2.1 l hl
  obtain ⟨m2, m3, m4, m5, m6, m7⟩ := hM.2.2.2.1 l hl
  unfold wp_X2_laneFact
  refine s_isIndex2 (n := 4) (by decide) (fun _ _ _ => ?_) (fun c => ?_)
  · refine ⟨fun _ => ⟨vp_in_nI hl (by decide), ?_⟩, fun c => absurd c (by decide)⟩
    intro a5 e5
    rw [nI_clamp (by omega)] at e5
    subst e5
    repeat (first | refine ⟨fun _ => ?_, fun d => absurd rfl d⟩ | refine ⟨fun d => absurd d (by decide), fun _ => ?_⟩)
    exact s_X2_reasonNow hM hI a5 hl hq
  · rcases c with z | z
    · exact absurd z (nI_pos (by omega))
    · exact absurd z (nI_ge hl (by decide))
theorem q_of7 (h : RC σ r) (l : Nat) (hl : l < 4) {x : Int32} (e : x = nI l) (hq : Q (rsR r l) σ) : wp_X5_of x 7 σ Q := q_lane7 (Q := fun a σ2 => Q a σ2) h l hl e hq
theorem q_ofHeap0 (h : RC σ r) (l q n : Nat) (hl : l < 4) (hn : n ≤ 6) (he : r (4 + 17 * l) = nI n) (hq0 : q < n) {x y : Int32} (e : x = nI l) (e2 : y = nI q) (hq : Q (r (4 + 17 * l + (1 + 2 * q))) σ) : wp_X5_ofHeap x y 0 σ Q := by
  subst e
  subst e2
  obtain ⟨hM, hI⟩ := h
  obtain ⟨m2, m3, m4, m5, m6, m7⟩ := hM.2.2.2.1 l hl
  unfold wp_X5_ofHeap wp_X2_heapFact
  refine s_isIndex2 (n := 4) (by decide) (fun _ _ _ => ?_) (fun c => ?_)
  · refine ⟨fun c => absurd c (by decide), fun _ => ⟨vp_in_nI hl (by decide), ?_⟩⟩
    intro a5 e5
    rw [nI_clamp (by omega)] at e5
    subst e5
    refine s_X1_isHeap a5 n hn (m2.trans he) (fun _ _ _ => ?_) (fun c => ?_)
    · obtain ⟨k1, k2⟩ := m7 q (by rw [he, nI_clamp (by omega)]; exact hq0)
      refine ⟨fun _ => ?_, fun c => absurd c (by decide)⟩
      repeat (first | refine ⟨fun _ => ?_, fun d => absurd rfl d⟩ | refine ⟨fun d => absurd d (by decide), fun _ => ?_⟩)
      refine ⟨vp_in_nI hl (by decide), ?_⟩
      intro a12 e12
      rw [nI_clamp (by omega)] at e12
      subst e12
      refine ⟨vp_in_nI (by omega) (by decide), ?_⟩
      rw [nI_clamp (by omega), k1]
      exact hq
    · rcases c with z | z
      · exact absurd z (nI_pos (by omega))
      · exact absurd z (nI_ge hq0 (by omega))
  · rcases c with z | z
    · exact absurd z (nI_pos (by omega))
    · exact absurd z (nI_ge hl (by decide))
theorem q_ofHeap1 (h : RC σ r) (l q n : Nat) (hl : l < 4) (hn : n ≤ 6) (he : r (4 + 17 * l) = nI n) (hq0 : q < n) {x y : Int32} (e : x = nI l) (e2 : y = nI q) (hq : Q (r (4 + 17 * l + (2 + 2 * q))) σ) : wp_X5_ofHeap x y 1 σ Q := by
  subst e
  subst e2
  obtain ⟨hM, hI⟩ := h
  obtain ⟨m2, m3, m4, m5, m6, m7⟩ := hM.2.2.2.1 l hl
  unfold wp_X5_ofHeap wp_X2_heapFact
  refine s_isIndex2 (n := 4) (by decide) (fun _ _ _ => ?_) (fun c => ?_)
  · refine ⟨fun c => absurd c (by decide), fun _ => ⟨vp_in_nI hl (by decide), ?_⟩⟩
    intro a5 e5
    rw [nI_clamp (by omega)] at e5
    subst e5
    refine s_X1_isHeap a5 n hn (m2.trans he) (fun _ _ _ => ?_) (fun c => ?_)
    · obtain ⟨k1, k2⟩ := m7 q (by rw [he, nI_clamp (by omega)]; exact hq0)
      refine ⟨fun _ => ?_, fun c => absurd c (by decide)⟩
      repeat (first | refine ⟨fun _ => ?_, fun d => absurd rfl d⟩ | refine ⟨fun d => absurd d (by decide), fun _ => ?_⟩)
      refine ⟨vp_in_nI hl (by decide), ?_⟩
      intro a12 e12
      rw [nI_clamp (by omega)] at e12
      subst e12
      refine ⟨vp_in_nI (by omega) (by decide), ?_⟩
      rw [nI_clamp (by omega), k2]
      exact hq
    · rcases c with z | z
      · exact absurd z (nI_pos (by omega))
      · exact absurd z (nI_ge hq0 (by omega))
  · rcases c with z | z
    · exact absurd z (nI_pos (by omega))
    · exact absurd z (nI_ge hl (by decide))
theorem q_ofTin0 (h : RC σ r) (t : Nat) (ht : t < nT r) {x : Int32} (e : x = nI t) (hq : Q (swR r t) σ) : wp_X5_ofTin x 0 σ Q := by
  subst e
  obtain ⟨hM, hI⟩ := h
  have hT := (IR_nT hI).1
  obtain ⟨b1, b2, b3, -⟩ := hM.2.2.2.2 t (by omega)
  unfold wp_X5_ofTin wp_X2_tinFact
  refine s_X2_isTin hM hI (fun _ _ _ _ => ?_) (fun c => ?_)
  · refine ⟨fun _ => ?_, fun c => absurd c (by decide)⟩
    repeat (first | refine ⟨fun _ => ?_, fun d => absurd rfl d⟩ | refine ⟨fun d => absurd d (by decide), fun _ => ?_⟩)
    refine ⟨vp_in_nI (by omega) (by decide), ?_⟩
    intro a ea
    rw [ea, nI_clamp (by omega)]
    rw [b2]; exact hq
  · rcases c with z | z
    · exact absurd z (nI_pos (by omega))
    · exact absurd z (nI_ge ht (by omega))
theorem q_ofTin1 (h : RC σ r) (t : Nat) (ht : t < nT r) {x : Int32} (e : x = nI t) (hq : Q (r (73 + 7 * t)) σ) : wp_X5_ofTin x 1 σ Q := by
  subst e
  obtain ⟨hM, hI⟩ := h
  have hT := (IR_nT hI).1
  obtain ⟨b1, b2, b3, -⟩ := hM.2.2.2.2 t (by omega)
  unfold wp_X5_ofTin wp_X2_tinFact
  refine s_X2_isTin hM hI (fun _ _ _ _ => ?_) (fun c => ?_)
  · refine ⟨fun _ => ?_, fun c => absurd c (by decide)⟩
    repeat (first | refine ⟨fun _ => ?_, fun d => absurd rfl d⟩ | refine ⟨fun d => absurd d (by decide), fun _ => ?_⟩)
    refine ⟨vp_in_nI (by omega) (by decide), ?_⟩
    intro a ea
    rw [ea, nI_clamp (by omega)]
    rw [b3]
    rcases (hI.2.2.2.2.2.2 t (by omega)).1 with z | z
    · rw [z] at hq ⊢
      exact ⟨fun _ => hq, fun d => absurd rfl d⟩
    · rw [z] at hq ⊢
      exact ⟨fun d => absurd d (by decide), fun _ => hq⟩
  · rcases c with z | z
    · exact absurd z (nI_pos (by omega))
    · exact absurd z (nI_ge ht (by omega))
theorem q_ofTin2 (h : RC σ r) (t : Nat) (ht : t < nT r) {x : Int32} (e : x = nI t) (hq : Q (mkR r t) σ) : wp_X5_ofTin x 2 σ Q := by
  subst e
  obtain ⟨hM, hI⟩ := h
  have hT := (IR_nT hI).1
  obtain ⟨b1, b2, b3, -⟩ := hM.2.2.2.2 t (by omega)
  unfold wp_X5_ofTin wp_X2_tinFact
  refine s_X2_isTin hM hI (fun _ _ _ _ => ?_) (fun c => ?_)
  · refine ⟨fun _ => ?_, fun c => absurd c (by decide)⟩
    repeat (first | refine ⟨fun _ => ?_, fun d => absurd rfl d⟩ | refine ⟨fun d => absurd d (by decide), fun _ => ?_⟩)
    refine ⟨vp_in_nI (by omega) (by decide), ?_⟩
    intro a ea
    rw [ea, nI_clamp (by omega)]
    rw [b1]; exact hq
  · rcases c with z | z
    · exact absurd z (nI_pos (by omega))
    · exact absurd z (nI_ge ht (by omega))
theorem q_ofTin3 (h : RC σ r) (t : Nat) (ht : t < nT r) {x : Int32} (e : x = nI t) (hq : Q (tnR r t) σ) : wp_X5_ofTin x 3 σ Q := by
  subst e
  obtain ⟨hM, hI⟩ := h
  have hT := (IR_nT hI).1
  obtain ⟨b1, b2, b3, -⟩ := hM.2.2.2.2 t (by omega)
  unfold wp_X5_ofTin wp_X2_tinFact
  refine s_X2_isTin hM hI (fun _ _ _ _ => ?_) (fun c => ?_)
  · refine ⟨fun _ => ?_, fun c => absurd c (by decide)⟩
    repeat (first | refine ⟨fun _ => ?_, fun d => absurd rfl d⟩ | refine ⟨fun d => absurd d (by decide), fun _ => ?_⟩)
    refine ⟨vp_in_nI (by omega) (by decide), ?_⟩
    intro a ea
    rw [ea, nI_clamp (by omega)]
    exact s_X2_flavoursTakenBy hM hI t (by omega) hq
  · rcases c with z | z
    · exact absurd z (nI_pos (by omega))
    · exact absurd z (nI_ge ht (by omega))
theorem q_inTin (h : RC σ r) (t f : Nat) (ht : t < nT r) (hf : f < 6) {x y : Int32} (e : x = nI t) (e2 : y = nI f) (hq : Q (r (74 + 7 * t + f)) σ) : wp_X5_inTin x y σ Q := by
  subst e
  subst e2
  obtain ⟨hM, hI⟩ := h
  have hT := (IR_nT hI).1
  obtain ⟨-, -, -, b4⟩ := hM.2.2.2.2 t (by omega)
  unfold wp_X5_inTin wp_X2_sweetsInTin
  refine s_X2_isTin hM hI (fun _ _ _ _ => ?_) (fun c => ?_)
  · refine ⟨fun c => absurd c (by decide), fun _ => ?_⟩
    refine s_isIndex2 (n := 6) (by decide) (fun _ _ _ => ?_) (fun c => ?_)
    · refine ⟨fun _ => ⟨vp_in_nI (by omega) (by decide), ?_⟩, fun c => absurd c (by decide)⟩
      intro a ea
      refine ⟨vp_in_nI hf (by decide), ?_⟩
      rw [ea, nI_clamp (n := t) (by omega), nI_clamp (n := f) (by omega), b4 f hf]
      exact hq
    · rcases c with z | z
      · exact absurd z (nI_pos (by omega))
      · exact absurd z (nI_ge hf (by omega))
  · rcases c with z | z
    · exact absurd z (nI_pos (by omega))
    · exact absurd z (nI_ge ht (by omega))
theorem q_flavour0 (h : RC σ r) (f : Nat) (hf : f < 6) {x : Int32} (e : x = nI f) (hq : Q (ihR r (nI f)) σ) : wp_X5_flavour x 0 σ Q := by
  subst e
  obtain ⟨hM, hI⟩ := h
  unfold wp_X5_flavour wp_X2_flavourFact
  refine s_isIndex2 (n := 6) (by decide) (fun _ _ _ => ?_) (fun c => ?_)
  · refine ⟨fun _ => ?_, fun c => absurd c (by decide)⟩
    repeat (first | refine ⟨fun _ => ?_, fun d => absurd rfl d⟩ | refine ⟨fun d => absurd d (by decide), fun _ => ?_⟩)
    exact s_X2_sweetsInHoppers hM hI hq
  · rcases c with z | z
    · exact absurd z (nI_pos (by omega))
    · exact absurd z (nI_ge hf (by omega))
theorem q_flavour1 (h : RC σ r) (f : Nat) (hf : f < 6) {x : Int32} (e : x = nI f) (hq : Q (itR r f 0) σ) : wp_X5_flavour x 1 σ Q := by
  subst e
  obtain ⟨hM, hI⟩ := h
  unfold wp_X5_flavour wp_X2_flavourFact
  refine s_isIndex2 (n := 6) (by decide) (fun _ _ _ => ?_) (fun c => ?_)
  · refine ⟨fun _ => ?_, fun c => absurd c (by decide)⟩
    repeat (first | refine ⟨fun _ => ?_, fun d => absurd rfl d⟩ | refine ⟨fun d => absurd d (by decide), fun _ => ?_⟩)
    exact s_X2_sweetsInTins f hf hM hI rfl hq
  · rcases c with z | z
    · exact absurd z (nI_pos (by omega))
    · exact absurd z (nI_ge hf (by omega))
theorem q_flavour2 (h : RC σ r) (f : Nat) (hf : f < 6) {x : Int32} (e : x = nI f) (hq : Q (itR r f 1) σ) : wp_X5_flavour x 2 σ Q := by
  subst e
  obtain ⟨hM, hI⟩ := h
  unfold wp_X5_flavour wp_X2_flavourFact
  refine s_isIndex2 (n := 6) (by decide) (fun _ _ _ => ?_) (fun c => ?_)
  · refine ⟨fun _ => ?_, fun c => absurd c (by decide)⟩
    repeat (first | refine ⟨fun _ => ?_, fun d => absurd rfl d⟩ | refine ⟨fun d => absurd d (by decide), fun _ => ?_⟩)
    exact s_X2_sweetsInTins f hf hM hI rfl hq
  · rcases c with z | z
    · exact absurd z (nI_pos (by omega))
    · exact absurd z (nI_ge hf (by omega))
theorem q_flavour3 (h : RC σ r) (f : Nat) (hf : f < 6) {x : Int32} (e : x = nI f) (hq : Q (r (185 + f)) σ) : wp_X5_flavour x 3 σ Q := by
  subst e
  obtain ⟨hM, hI⟩ := h
  unfold wp_X5_flavour wp_X2_flavourFact
  refine s_isIndex2 (n := 6) (by decide) (fun _ _ _ => ?_) (fun c => ?_)
  · refine ⟨fun _ => ?_, fun c => absurd c (by decide)⟩
    repeat (first | refine ⟨fun _ => ?_, fun d => absurd rfl d⟩ | refine ⟨fun d => absurd d (by decide), fun _ => ?_⟩)
    refine ⟨vp_in_nI hf (by decide), ?_⟩
    rw [nI_clamp (by omega), hM.2.2.1 f hf]
    exact hq
  · rcases c with z | z
    · exact absurd z (nI_pos (by omega))
    · exact absurd z (nI_ge hf (by omega))
theorem q_byRoom (h : RC σ r) {x : Int32} (hq : Q (brR r x) σ) : wp_X5_byRoom x σ Q := s_X2_tinOfRank (Q := fun a σ2 => Q a σ2) h.1 h.2 hq
theorem q_byCount (h : RC σ r) {x : Int32} (hq : Q (bcR r x) σ) : wp_X5_byCount x σ Q := s_X2_flavourOfRank (Q := fun a σ2 => Q a σ2) h.1 h.2 hq
theorem q_tinsFor (h : RC σ r) (hq : Q (tfoR r) σ) : wp_X5_tinsFor σ Q := s_X2_tinsForHoppers (Q := fun a σ2 => Q a σ2) h.1 h.2 hq
theorem q_count1 (h : RC σ r) (hq : Q (nI (nT r)) σ) : wp_X5_count 1 σ Q := by
  have hM := h.1
  have hI := h.2
  unfold wp_X5_count
  refine ⟨fun d => absurd d (by decide), fun _ => ⟨fun d => absurd d (by decide), fun _ => ?_⟩⟩
  unfold wp_X2_number
  repeat (first | refine ⟨fun _ => ?_, fun d => absurd rfl d⟩ | refine ⟨fun d => absurd d (by decide), fun _ => ?_⟩)
  rw [hM.2.1.1, (IR_nT hI).2.1]; exact hq
theorem q_count2 (h : RC σ r) (hq : Q (tsR r 0) σ) : wp_X5_count 2 σ Q := by
  have hM := h.1
  have hI := h.2
  unfold wp_X5_count
  refine ⟨fun d => absurd d (by decide), fun _ => ⟨fun d => absurd d (by decide), fun _ => ?_⟩⟩
  unfold wp_X2_number
  repeat (first | refine ⟨fun _ => ?_, fun d => absurd rfl d⟩ | refine ⟨fun d => absurd d (by decide), fun _ => ?_⟩)
  exact s_X2_tinsThatAre hM hI hq
theorem q_count3 (h : RC σ r) (hq : Q (tsR r 1) σ) : wp_X5_count 3 σ Q := by
  have hM := h.1
  have hI := h.2
  unfold wp_X5_count
  refine ⟨fun d => absurd d (by decide), fun _ => ⟨fun d => absurd d (by decide), fun _ => ?_⟩⟩
  unfold wp_X2_number
  repeat (first | refine ⟨fun _ => ?_, fun d => absurd rfl d⟩ | refine ⟨fun d => absurd d (by decide), fun _ => ?_⟩)
  exact s_X2_tinsThatAre hM hI hq
theorem q_count4 (h : RC σ r) (hq : Q (lhR r) σ) : wp_X5_count 4 σ Q := by
  have hM := h.1
  have hI := h.2
  unfold wp_X5_count
  refine ⟨fun d => absurd d (by decide), fun _ => ⟨fun d => absurd d (by decide), fun _ => ?_⟩⟩
  unfold wp_X2_number
  repeat (first | refine ⟨fun _ => ?_, fun d => absurd rfl d⟩ | refine ⟨fun d => absurd d (by decide), fun _ => ?_⟩)
  exact s_X2_overLanes _ (fun l Q2 hl h2 => q_lane0 h l hl rfl h2) hq
theorem q_count5 (h : RC σ r) (hq : Q (lnR r 16) σ) : wp_X5_count 5 σ Q := by
  have hM := h.1
  have hI := h.2
  unfold wp_X5_count
  refine ⟨fun d => absurd d (by decide), fun _ => ⟨fun d => absurd d (by decide), fun _ => ?_⟩⟩
  unfold wp_X2_number
  repeat (first | refine ⟨fun _ => ?_, fun d => absurd rfl d⟩ | refine ⟨fun d => absurd d (by decide), fun _ => ?_⟩)
  exact s_X2_overLanes _ (fun l Q2 hl h2 => q_lane6 h l hl rfl h2) hq
theorem q_count6 (h : RC σ r) (hq : Q (ssR r) σ) : wp_X5_count 6 σ Q := by
  have hM := h.1
  have hI := h.2
  unfold wp_X5_count
  refine ⟨fun d => absurd d (by decide), fun _ => ⟨fun d => absurd d (by decide), fun _ => ?_⟩⟩
  unfold wp_X2_number
  repeat (first | refine ⟨fun _ => ?_, fun d => absurd rfl d⟩ | refine ⟨fun d => absurd d (by decide), fun _ => ?_⟩)
  exact s_X2_sweetsShipped hM hI hq
theorem q_count7 (h : RC σ r) (hq : Q (lnR r 13) σ) : wp_X5_count 7 σ Q := by
  have hM := h.1
  have hI := h.2
  unfold wp_X5_count
  refine ⟨fun d => absurd d (by decide), fun _ => ⟨fun d => absurd d (by decide), fun _ => ?_⟩⟩
  unfold wp_X2_number
  repeat (first | refine ⟨fun _ => ?_, fun d => absurd rfl d⟩ | refine ⟨fun d => absurd d (by decide), fun _ => ?_⟩)
  exact s_X2_overLanes _ (fun l Q2 hl h2 => q_lane3 h l hl rfl h2) hq
theorem q_count8 (h : RC σ r) (hq : Q (r 192) σ) : wp_X5_count 8 σ Q := by
  have hM := h.1
  have hI := h.2
  unfold wp_X5_count
  refine ⟨fun d => absurd d (by decide), fun _ => ⟨fun d => absurd d (by decide), fun _ => ?_⟩⟩
  unfold wp_X2_number
  repeat (first | refine ⟨fun _ => ?_, fun d => absurd rfl d⟩ | refine ⟨fun d => absurd d (by decide), fun _ => ?_⟩)
  rw [hM.2.1.2.2.1]; exact hq
theorem q_count9 (h : RC σ r) (hq : Q (r 193) σ) : wp_X5_count 9 σ Q := by
  have hM := h.1
  have hI := h.2
  unfold wp_X5_count
  refine ⟨fun d => absurd d (by decide), fun _ => ⟨fun d => absurd d (by decide), fun _ => ?_⟩⟩
  unfold wp_X2_number
  repeat (first | refine ⟨fun _ => ?_, fun d => absurd rfl d⟩ | refine ⟨fun d => absurd d (by decide), fun _ => ?_⟩)
  rw [hM.2.1.2.2.2]; exact hq
theorem q_count10 (h : RC σ r) (hq : Q (flR r) σ) : wp_X5_count 10 σ Q := by
  have hM := h.1
  have hI := h.2
  unfold wp_X5_count
  refine ⟨fun d => absurd d (by decide), fun _ => ⟨fun d => absurd d (by decide), fun _ => ?_⟩⟩
  unfold wp_X2_number
  repeat (first | refine ⟨fun _ => ?_, fun d => absurd rfl d⟩ | refine ⟨fun d => absurd d (by decide), fun _ => ?_⟩)
  exact s_X2_standingLanes hM hI hq
theorem q_count11 (h : RC σ r) (hq : Q (r 0) σ) : wp_X5_count 11 σ Q := by
  have hM := h.1
  have hI := h.2
  unfold wp_X5_count
  refine ⟨fun d => absurd d (by decide), fun _ => ⟨fun d => absurd d (by decide), fun _ => ?_⟩⟩
  unfold wp_X2_number
  repeat (first | refine ⟨fun _ => ?_, fun d => absurd rfl d⟩ | refine ⟨fun d => absurd d (by decide), fun _ => ?_⟩)
  rw [hM.1 0 (by decide)]; exact hq
theorem q_count13 (h : RC σ r) (hq : Q (r 2) σ) : wp_X5_count 13 σ Q := by
  have hM := h.1
  have hI := h.2
  unfold wp_X5_count
  refine ⟨fun d => absurd d (by decide), fun _ => ⟨fun d => absurd d (by decide), fun _ => ?_⟩⟩
  unfold wp_X2_number
  repeat (first | refine ⟨fun _ => ?_, fun d => absurd rfl d⟩ | refine ⟨fun d => absurd d (by decide), fun _ => ?_⟩)
  rw [hM.1 2 (by decide)]; exact hq
theorem q_count14 (h : RC σ r) (hq : Q (r 3) σ) : wp_X5_count 14 σ Q := by
  have hM := h.1
  have hI := h.2
  unfold wp_X5_count
  refine ⟨fun d => absurd d (by decide), fun _ => ⟨fun d => absurd d (by decide), fun _ => ?_⟩⟩
  unfold wp_X2_number
  repeat (first | refine ⟨fun _ => ?_, fun d => absurd rfl d⟩ | refine ⟨fun d => absurd d (by decide), fun _ => ?_⟩)
  rw [hM.1 3 (by decide)]; exact hq
end RQ
