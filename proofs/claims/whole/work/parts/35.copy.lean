/-! A machine copied. -/
def ur (μ : Nat → Nat → Nat → Int32) (k i : Nat) (f : Nat → Int32) : Nat → Nat → Nat → Int32 := fun a b => if a = k ∧ b = i then f else μ a b
theorem ua_sm (σ : Sg) (m : Nat) (μ : Nat → Nat → Nat → Int32) (k i : Nat) (f : Nat → Int32) : ua (sm σ m μ) m k i f = sm σ m (ur μ k i f) := by
  funext a b c
  unfold ua sm ur
  by_cases h : a = m
  · subst h
    simp
  · simp [h]
theorem ur_eq (μ : Nat → Nat → Nat → Int32) (k i : Nat) (f : Nat → Int32) : ur μ k i f k i = f := by simp [ur]
theorem ur_k (μ : Nat → Nat → Nat → Int32) {k i a : Nat} (f : Nat → Int32) (h : a ≠ k) : ur μ k i f a = μ a := by
  funext b
  simp [ur, h]
theorem ur_i (μ : Nat → Nat → Nat → Int32) {k i a b : Nat} (f : Nat → Int32) (h : b ≠ i) : ur μ k i f a b = μ a b := by
  simp [ur, h]
theorem cpy_lt {f g : Nat → Int32} {n j : Nat} (h : j < n) : va_cpy f g 0 0 n j = f j := by
  show (if 0 ≤ j ∧ j < 0 + n then f (0 + (j - 0)) else g j) = f j
  rw [if_pos ⟨Nat.zero_le j, by omega⟩, Nat.sub_zero, Nat.zero_add]
/-- all that MR reads, the same -/
theorem MR_same {μ ν : Nat → Nat → Nat → Int32} {r : Nat → Int32} (hM : MR ν r) (hI : IR r) (h1 : ∀ j, j < 4 → μ 1 0 j = ν 1 0 j) (h0 : ∀ j, 4 ≤ j → j ≤ 7 → μ 0 0 j = ν 0 0 j) (h4 : ∀ f, f < 6 → μ 4 0 f = ν 4 0 f) (h5 : ∀ l, l < 4 → (∀ k, 2 ≤ k → k ≤ 6 → μ 5 l k = ν 5 l k) ∧ ∀ h, h < 6 → μ 6 l h = ν 6 l h ∧ μ 7 l h = ν 7 l h) (h8 : ∀ t, t < 16 → (∀ k, 1 ≤ k → k ≤ 3 → μ 8 t k = ν 8 t k) ∧ ∀ f, f < 6 → μ 9 t f = ν 9 t f) : MR μ r := by
  obtain ⟨a0, ⟨c4, c5, c6, c7⟩, a2, a3, a4⟩ := hM
  refine ⟨fun j hj => (h1 j hj).trans (a0 j hj), ⟨(h0 4 (by decide) (by decide)).trans c4, (h0 5 (by decide) (by decide)).trans c5, (h0 6 (by decide) (by decide)).trans c6, (h0 7 (by decide) (by decide)).trans c7⟩, fun f hf => (h4 f hf).trans (a2 f hf), fun l hl => ?_, fun t ht => ?_⟩
  · obtain ⟨b2, b3, b4, b5, b6, b7⟩ := a3 l hl
    obtain ⟨g1, g2⟩ := h5 l hl
    have hn := IR_n hI hl
    exact ⟨(g1 2 (by decide) (by decide)).trans b2, (g1 3 (by decide) (by decide)).trans b3, (g1 4 (by decide) (by decide)).trans b4, (g1 5 (by decide) (by decide)).trans b5, (g1 6 (by decide) (by decide)).trans b6, fun h hh => ⟨(g2 h (by omega)).1.trans (b7 h hh).1, (g2 h (by omega)).2.trans (b7 h hh).2⟩⟩
  · obtain ⟨b1, b2, b3, b4⟩ := a4 t ht
    obtain ⟨g1, g2⟩ := h8 t ht
    exact ⟨(g1 1 (by decide) (by decide)).trans b1, (g1 2 (by decide) (by decide)).trans b2, (g1 3 (by decide) (by decide)).trans b3, fun f hf => (g2 f hf).trans (b4 f hf)⟩
section CP
variable {σ : Sg} {Q : Sg → Prop} {m m1 : Nat} {r d : Nat → Int32} {μ : Nat → Nat → Nat → Int32}
theorem s_X1_copyFrom (i : Nat) (hne : m1 ≠ m) (hq : ∀ μ', (∀ a b, ¬ ((a = 5 ∨ a = 6 ∨ a = 7) ∧ b = i) → μ' a b = μ a b) → (∀ k, 2 ≤ k → k ≤ 6 → μ' 5 i k = σ m1 5 i k) → (∀ h, h < 6 → μ' 6 i h = σ m1 6 i h ∧ μ' 7 i h = σ m1 7 i h) → Q (sm σ m μ')) : wp_X1_copyFrom m i m1 i (sm σ m μ) Q := by
  unfold wp_X1_copyFrom
  rintro σ1 rfl
  rw [ua_sm, sm_ne σ _ hne, sm_m]
  rintro σ2 rfl
  rw [ua_sm, sm_ne σ _ hne, sm_m]
  rintro σ3 rfl
  rw [sm_up, sm_ne σ _ hne]
  rintro σ4 rfl
  rw [sm_up, sm_ne σ _ hne]
  rintro σ5 rfl
  rw [sm_up, sm_ne σ _ hne]
  rintro σ6 rfl
  rw [sm_up, sm_ne σ _ hne]
  rintro σ7 rfl
  rw [sm_up, sm_ne σ _ hne]
  refine hq _ (fun a b hab => ?_) (fun k h2 h6 => ?_) (fun h hh => ?_)
  · simp only [um, ur]
    rw [if_neg (by omega), if_neg (by omega), if_neg (by omega), if_neg (by omega), if_neg (by omega), if_neg (by omega), if_neg (by omega)]
  · have hk : k = 2 ∨ k = 3 ∨ k = 4 ∨ k = 5 ∨ k = 6 := by omega
    rcases hk with e | e | e | e | e <;> subst e <;> simp [um, upd]
  · refine ⟨?_, ?_⟩
    · simp [um, ur, cpy_lt hh]
    · simp [um, ur, cpy_lt hh]
theorem s_X4_copyFrom (i : Nat) (hne : m1 ≠ m) (h01 : σ m1 8 i 3 = 0 ∨ σ m1 8 i 3 = 1) (hq : ∀ μ', (∀ a b, ¬ ((a = 8 ∨ a = 9) ∧ b = i) → μ' a b = μ a b) → (∀ k, 1 ≤ k → k ≤ 3 → μ' 8 i k = σ m1 8 i k) → (∀ h, h < 6 → μ' 9 i h = σ m1 9 i h) → Q (sm σ m μ')) : wp_X4_copyFrom m i m1 i (sm σ m μ) Q := by
  unfold wp_X4_copyFrom
  rintro σ1 rfl
  rw [ua_sm, sm_ne σ _ hne, sm_m]
  rintro σ2 rfl
  rw [sm_up, sm_ne σ _ hne]
  rintro σ3 rfl
  rw [sm_up, sm_ne σ _ hne]
  refine ⟨h01, ?_⟩
  rintro σ5 rfl
  rw [sm_up]
  refine hq _ (fun a b hab => ?_) (fun k h2 h6 => ?_) (fun h hh => ?_)
  · simp only [um, ur]
    rw [if_neg (by omega), if_neg (by omega), if_neg (by omega), if_neg (by omega)]
  · have hk : k = 1 ∨ k = 2 ∨ k = 3 := by omega
    rcases hk with e | e | e <;> subst e <;> simp [um, upd, sm_ne σ _ hne]
  · simp [um, ur, cpy_lt hh]
theorem s_X2_copyFrom (hne : m1 ≠ m) (hM : MR (σ m1) r) (hI : IR r) (hq : ∀ μ', MR μ' r → Q (sm σ m μ')) : wp_X2_copyFrom m m1 (sm σ m μ) Q := by
  unfold wp_X2_copyFrom
  rintro σ1 rfl
  rw [ua_sm, sm_ne σ _ hne, sm_m]
  rintro σ2 rfl
  rw [ua_sm, sm_ne σ _ hne, sm_m]
  unfold wp_X2_copyFrom_L24
  refine lpN_rel 4 (fun k a => ∃ μ', a = (nI k, sm σ m μ') ∧ (∀ j, j < 4 → μ' 1 0 j = σ m1 1 0 j) ∧ (∀ j, j < 6 → μ' 4 0 j = σ m1 4 0 j) ∧ ∀ l, l < k → (∀ k, 2 ≤ k → k ≤ 6 → μ' 5 l k = σ m1 5 l k) ∧ ∀ h, h < 6 → μ' 6 l h = σ m1 6 l h ∧ μ' 7 l h = σ m1 7 l h) ?_ ?_ 0 _ (Nat.zero_le _) ⟨_, rfl, ?_, ?_, fun l h => absurd h (Nat.not_lt_zero l)⟩
  · rintro K k a hk ⟨μ', rfl, c1, c4, cl⟩ hK
    dsimp only
    unfold st_X2_copyFrom_L24
    refine ⟨fun c => absurd c (ge_4 hk), fun _ => ⟨vp_in_nI hk (by decide), ?_⟩⟩
    rintro a5 rfl
    refine ⟨vp_in_nI hk (by decide), ?_⟩
    rintro a7 rfl
    rw [nI_clamp (by omega)]
    refine s_X1_copyFrom k hne (fun μ2 q1 q2 q3 => ?_)
    rintro z9 rfl
    refine hK _ ⟨μ2, by rw [nI_1], fun j hj => (congrFun (q1 1 0 (by omega)) j).trans (c1 j hj), fun j hj => (congrFun (q1 4 0 (by omega)) j).trans (c4 j hj), fun l hl => ?_⟩
    by_cases e : l = k
    · subst e
      exact ⟨q2, q3⟩
    · obtain ⟨g1, g2⟩ := cl l (by omega)
      rw [q1 5 l (by omega), q1 6 l (by omega), q1 7 l (by omega)]
      exact ⟨g1, g2⟩
  · rintro K a ⟨μ', rfl, c1, c4, cl⟩
    dsimp only
    unfold st_X2_copyFrom_L24
    refine ⟨fun _ => ?_, fun c => absurd (nI_le (Nat.le_refl 4) (by decide)) c⟩
    unfold wp_X2_copyFrom_L52
    refine lpN_rel 16 (fun k a => ∃ μ', a = (nI k, sm σ m μ') ∧ (∀ j, j < 4 → μ' 1 0 j = σ m1 1 0 j) ∧ (∀ j, j < 6 → μ' 4 0 j = σ m1 4 0 j) ∧ (∀ l, l < 4 → (∀ k, 2 ≤ k → k ≤ 6 → μ' 5 l k = σ m1 5 l k) ∧ ∀ h, h < 6 → μ' 6 l h = σ m1 6 l h ∧ μ' 7 l h = σ m1 7 l h) ∧ ∀ t, t < k → (∀ k, 1 ≤ k → k ≤ 3 → μ' 8 t k = σ m1 8 t k) ∧ ∀ f, f < 6 → μ' 9 t f = σ m1 9 t f) ?_ ?_ 0 _ (Nat.zero_le _) ⟨_, rfl, c1, c4, cl, fun l h => absurd h (Nat.not_lt_zero l)⟩
    · rintro K k a hk ⟨μ', rfl, c1, c4, cl, ct⟩ hK
      dsimp only
      unfold st_X2_copyFrom_L52
      refine ⟨fun c => absurd c (ge_16 hk), fun _ => ⟨vp_in_nI hk (by decide), ?_⟩⟩
      rintro a5 rfl
      refine ⟨vp_in_nI hk (by decide), ?_⟩
      rintro a7 rfl
      rw [nI_clamp (by omega)]
      have h01 : σ m1 8 k 3 = 0 ∨ σ m1 8 k 3 = 1 := by
        rw [(hM.2.2.2.2 k hk).2.2.1]
        exact (hI.2.2.2.2.2.2 k hk).1
      refine s_X4_copyFrom k hne h01 (fun μ2 q1 q2 q3 => ?_)
      rintro z9 rfl
      refine hK _ ⟨μ2, by rw [nI_1], fun j hj => (congrFun (q1 1 0 (by omega)) j).trans (c1 j hj), fun j hj => (congrFun (q1 4 0 (by omega)) j).trans (c4 j hj), fun l hl => ?_, fun t ht => ?_⟩
      · rw [q1 5 l (by omega), q1 6 l (by omega), q1 7 l (by omega)]
        exact cl l hl
      · by_cases e : t = k
        · subst e
          exact ⟨q2, q3⟩
        · obtain ⟨g1, g2⟩ := ct t (by omega)
          rw [q1 8 t (by omega), q1 9 t (by omega)]
          exact ⟨g1, g2⟩
    · rintro K a ⟨μ', rfl, c1, c4, cl, ct⟩
      dsimp only
      unfold st_X2_copyFrom_L52
      refine ⟨fun _ => ?_, fun c => absurd (nI_le (Nat.le_refl 16) (by decide)) c⟩
      rintro σ11 rfl
      rw [sm_up, sm_ne σ _ hne]
      rintro σ12 rfl
      rw [sm_up, sm_ne σ _ hne]
      rintro σ13 rfl
      rw [sm_up, sm_ne σ _ hne]
      rintro σ14 rfl
      rw [sm_up, sm_ne σ _ hne]
      refine hq _ (MR_same hM hI (fun j hj => ?_) (fun j h4 h7 => ?_) (fun f hf => ?_) (fun l hl => ?_) (fun t ht => ?_))
      · rw [um_k _ _ (by decide), um_k _ _ (by decide), um_k _ _ (by decide), um_k _ _ (by decide)]; exact c1 j hj
      · have hk : j = 4 ∨ j = 5 ∨ j = 6 ∨ j = 7 := by omega
        rcases hk with e | e | e | e <;> subst e <;> simp [um, upd]
      · rw [um_k _ _ (by decide), um_k _ _ (by decide), um_k _ _ (by decide), um_k _ _ (by decide)]; exact c4 f hf
      · rw [um_k (a := 5) _ _ (by decide), um_k (a := 5) _ _ (by decide), um_k (a := 5) _ _ (by decide), um_k (a := 5) _ _ (by decide), um_k (a := 6) _ _ (by decide), um_k (a := 6) _ _ (by decide), um_k (a := 6) _ _ (by decide), um_k (a := 6) _ _ (by decide), um_k (a := 7) _ _ (by decide), um_k (a := 7) _ _ (by decide), um_k (a := 7) _ _ (by decide), um_k (a := 7) _ _ (by decide)]
        exact cl l hl
      · rw [um_k (a := 8) _ _ (by decide), um_k (a := 8) _ _ (by decide), um_k (a := 8) _ _ (by decide), um_k (a := 8) _ _ (by decide), um_k (a := 9) _ _ (by decide), um_k (a := 9) _ _ (by decide), um_k (a := 9) _ _ (by decide), um_k (a := 9) _ _ (by decide)]
        exact ct t ht
  · intro j hj
    rw [ur_k _ _ (by decide), ur_eq, cpy_lt hj]
  · intro j hj
    rw [ur_eq, cpy_lt hj]
end CP
