/-! What ties a machine of the class to a row of the reference, and the machine's reads. -/
def IR (r : Nat → Int32) : Prop :=
  (∃ a, 1 ≤ a ∧ a ≤ 9 ∧ r 0 = nI a) ∧ (∃ a, 4 ≤ a ∧ a ≤ 60 ∧ r 1 = nI a) ∧ (∃ a, 1 ≤ a ∧ a ≤ 99 ∧ r 2 = nI a) ∧ (∃ a, 1 ≤ a ∧ a ≤ 2 ∧ r 3 = nI a) ∧
  (∃ T, T ≤ 16 ∧ r 72 = nI T ∧ ∀ t, T ≤ t → t < 16 → r (73 + 7 * t) = 0 ∧ ∀ f, f < 6 → r (74 + 7 * t + f) = 0) ∧
  (∀ l, l < 4 → ∃ n, n ≤ 6 ∧ r (4 + 17 * l) = nI n ∧ ∀ h, h < n → (∃ f, f < 6 ∧ r (4 + 17 * l + (1 + 2 * h)) = nI f) ∧ ∃ s, 1 ≤ s ∧ s ≤ 999 ∧ r (4 + 17 * l + (2 + 2 * h)) = nI s) ∧
  (∀ t, t < 16 → (r (73 + 7 * t) = 0 ∨ r (73 + 7 * t) = 1) ∧ ∀ f, f < 6 → ∃ s, s ≤ 99 ∧ r (74 + 7 * t + f) = nI s)
def MR (μ : Nat → Nat → Nat → Int32) (r : Nat → Int32) : Prop :=
  (∀ j, j < 4 → μ 1 0 j = r j) ∧ (μ 0 0 4 = r 72 ∧ μ 0 0 5 = r 191 ∧ μ 0 0 6 = r 192 ∧ μ 0 0 7 = r 193) ∧ (∀ f, f < 6 → μ 4 0 f = r (185 + f)) ∧
  (∀ l, l < 4 → μ 5 l 2 = r (4 + 17 * l) ∧ μ 5 l 3 = r (4 + 17 * l + 13) ∧ μ 5 l 4 = r (4 + 17 * l + 14) ∧ μ 5 l 5 = r (4 + 17 * l + 15) ∧ μ 5 l 6 = r (4 + 17 * l + 16) ∧ ∀ h, h < (r (4 + 17 * l)).toNatClampNeg → μ 6 l h = r (4 + 17 * l + (1 + 2 * h)) ∧ μ 7 l h = r (4 + 17 * l + (2 + 2 * h))) ∧
  (∀ t, t < 16 → μ 8 t 1 = mkR r t ∧ μ 8 t 2 = swR r t ∧ μ 8 t 3 = r (73 + 7 * t) ∧ ∀ f, f < 6 → μ 9 t f = r (74 + 7 * t + f))
def hoR (r : Nat → Int32) (l : Nat) (x : Int32) : Int32 := sumN (fun h => if r (4 + 17 * l + (1 + 2 * h)) = x then r (4 + 17 * l + (2 + 2 * h)) else 0) (r (4 + 17 * l)).toNatClampNeg
theorem ge_6 {k : Nat} (h : k < 6) : ¬ (6 : Int32) ≤ nI k := nI_ge h (by decide)
theorem ge_4 {k : Nat} (h : k < 4) : ¬ (4 : Int32) ≤ nI k := nI_ge h (by decide)
theorem ge_16 {k : Nat} (h : k < 16) : ¬ (16 : Int32) ≤ nI k := nI_ge h (by decide)
theorem i_add0 (x : Int32) : x + 0 = x := by simp
section CR
variable {σ : Sg} {Q : Int32 → Sg → Prop} {m : Nat} {r : Nat → Int32}
theorem s_X5_isIndex {x n : Int32} (h : Q (if x < 0 then 0 else if n ≤ x then 0 else 1) σ) : wp_X5_isIndex x n σ Q := by
  unfold wp_X5_isIndex
  refine ⟨fun c => ?_, fun c => ⟨fun d => ?_, fun d => ?_⟩⟩
  · rwa [if_pos c] at h
  · rwa [if_neg c, if_pos d] at h
  · rwa [if_neg c, if_neg d] at h
/-- an index, or none -/
theorem s_isIndex2 {x : Int32} {n : Nat} (hn : n < 2 ^ 31) {Q : Int32 → Sg → Prop} (h1 : ∀ j, j < n → x = nI j → Q 1 σ) (h0 : (x < 0 ∨ nI n ≤ x) → Q 0 σ) : wp_X5_isIndex x (nI n) σ Q := by
  refine s_X5_isIndex ?_
  rcases pk_ix x hn with c | c | ⟨j, hj, e⟩
  · rw [if_pos c]; exact h0 (Or.inl c)
  · by_cases d : x < 0
    · rw [if_pos d]; exact h0 (Or.inl d)
    · rw [if_neg d, if_pos c]; exact h0 (Or.inr c)
  · have := h1 j hj e
    subst e
    rw [if_neg (nI_pos (by omega)), if_neg (nI_ge hj hn)]
    exact this
theorem s_X5_isBetween {x a b : Int32} (h : Q (if x < a then 0 else if b < x then 0 else 1) σ) : wp_X5_isBetween x a b σ Q := by
  unfold wp_X5_isBetween
  refine ⟨fun c => ?_, fun c => ⟨fun d => ?_, fun d => ?_⟩⟩
  · rwa [if_pos c] at h
  · rwa [if_neg c, if_pos d] at h
  · rwa [if_neg c, if_neg d] at h
theorem s_X1_isHeap {x : Int32} (l n : Nat) (hn : n ≤ 6) (he : σ m 5 l 2 = nI n) (h1 : ∀ j, j < n → x = nI j → Q 1 σ) (h0 : (x < 0 ∨ nI n ≤ x) → Q 0 σ) : wp_X1_isHeap m l x σ Q := by
  unfold wp_X1_isHeap
  rw [he]
  refine s_isIndex2 (by omega) (fun j hj e => ?_) (fun c => ?_)
  · refine ⟨fun c => absurd c (by decide), fun _ => ?_⟩
    exact ⟨fun c => absurd c (by rw [e]; exact ge_6 (by omega)), fun _ => h1 j hj e⟩
  · exact ⟨fun _ => h0 c, fun c => absurd rfl c⟩
theorem s_X1_nextFlavour (hM : MR (σ m) r) (l n : Nat) (hl : l < 4) (hn : n ≤ 6) (he : r (4 + 17 * l) = nI n) (hq : Q (if n = 0 then -6 else r (4 + 17 * l + 1)) σ) : wp_X1_nextFlavour m l σ Q := by
  unfold wp_X1_nextFlavour
  obtain ⟨h2, -, -, -, -, h6⟩ := hM.2.2.2.1 l hl
  rw [h2.trans he]
  refine ⟨fun c => ?_, fun c => ?_⟩
  · have e : n = 0 := (nI_leI (a := n) (b := 0) (by omega) (by decide)).mp c |> Nat.le_zero.mp
    rw [if_pos e] at hq
    exact hq
  · have e : ¬ n = 0 := fun z => c ((nI_leI (a := n) (b := 0) (by omega) (by decide)).mpr (by omega))
    rw [if_neg e] at hq
    rw [(h6 0 (by rw [he, nI_clamp (by omega)]; omega)).1]
    exact hq
theorem s_X1_sweetsInHopper (hM : MR (σ m) r) (l n : Nat) (hl : l < 4) (hn : n ≤ 6) (he : r (4 + 17 * l) = nI n) (hq : Q (hpR r l) σ) : wp_X1_sweetsInHopper m l σ Q := by
  unfold wp_X1_sweetsInHopper wp_X1_sweetsInHopper_L4
  obtain ⟨h2, -, -, -, -, h6⟩ := hM.2.2.2.1 l hl
  refine lpN_rel n (fun k a => a = (sumN (fun h => r (4 + 17 * l + (2 + 2 * h))) k, nI k, σ)) ?_ ?_ 0 _ (Nat.zero_le _) rfl
  · rintro K k ⟨v1, v2, σ'⟩ hk e hK
    cases e
    dsimp only
    unfold st_X1_sweetsInHopper_L4
    rw [h2, he]
    refine ⟨fun c => absurd c (nI_ge hk (by omega)), fun _ => ⟨fun c => absurd c (ge_6 (by omega)), fun _ => ⟨vp_in_nI (by omega) (by decide), ?_⟩⟩⟩
    rw [nI_clamp (by omega), (h6 k (by rw [he, nI_clamp (by omega)]; exact hk)).2]
    rintro z3 rfl z4 rfl
    exact hK _ (by rw [sumN]; rw [show nI k + 1 = nI (k + 1) from nI_1 k])
  · rintro K ⟨v1, v2, σ'⟩ e
    cases e
    dsimp only
    unfold st_X1_sweetsInHopper_L4
    rw [h2, he]
    refine ⟨fun _ => ?_, fun c => absurd (nI_le (Nat.le_refl n) (by omega)) c⟩
    unfold hpR at hq
    rw [he, nI_clamp (by omega)] at hq
    exact hq
theorem s_X1_sweetsOf (hM : MR (σ m) r) (l n : Nat) {x : Int32} (hl : l < 4) (hn : n ≤ 6) (he : r (4 + 17 * l) = nI n) (hq : Q (hoR r l x) σ) : wp_X1_sweetsOf m l x σ Q := by
  unfold wp_X1_sweetsOf wp_X1_sweetsOf_L4
  obtain ⟨h2, -, -, -, -, h6⟩ := hM.2.2.2.1 l hl
  refine lpN_rel n (fun k a => a = (sumN (fun h => if r (4 + 17 * l + (1 + 2 * h)) = x then r (4 + 17 * l + (2 + 2 * h)) else 0) k, nI k, σ)) ?_ ?_ 0 _ (Nat.zero_le _) rfl
  · rintro K k ⟨v1, v2, σ'⟩ hk e hK
    cases e
    dsimp only
    unfold st_X1_sweetsOf_L4
    obtain ⟨g1, g2⟩ := h6 k (by rw [he, nI_clamp (by omega)]; exact hk)
    rw [h2, he]
    refine ⟨fun c => absurd c (nI_ge hk (by omega)), fun _ => ⟨fun c => absurd c (ge_6 (by omega)), fun _ => ⟨vp_in_nI (by omega) (by decide), ?_⟩⟩⟩
    rw [nI_clamp (by omega), g1]
    refine ⟨fun c => ?_, fun c => ⟨vp_in_nI (by omega) (by decide), ?_⟩⟩
    · rintro z5 rfl
      exact hK _ (by rw [sumN, if_neg c, i_add0]; rw [show nI k + 1 = nI (k + 1) from nI_1 k])
    · rw [g2]
      rintro z4 rfl z5 rfl
      exact hK _ (by rw [sumN, if_pos c]; rw [show nI k + 1 = nI (k + 1) from nI_1 k])
  · rintro K ⟨v1, v2, σ'⟩ e
    cases e
    dsimp only
    unfold st_X1_sweetsOf_L4
    rw [h2, he]
    refine ⟨fun _ => ?_, fun c => absurd (nI_le (Nat.le_refl n) (by omega)) c⟩
    unfold hoR at hq
    rw [he, nI_clamp (by omega)] at hq
    exact hq
theorem s_X4_hasRoomFor (hM : MR (σ m) r) (hI : IR r) {x1 x2 : Int32} (t f : Nat) (ht : t < 16) (e1 : x1 = r 2) (e2 : x2 = r (185 + f)) (hq : Q (if tkB r t f then 1 else 0) σ) : wp_X4_hasRoomFor m t x1 x2 σ Q := by
  subst e1; subst e2
  unfold wp_X4_hasRoomFor
  obtain ⟨h1, h2, h3, -⟩ := hM.2.2.2.2 t ht
  rw [h1, h2, h3]
  refine ⟨fun c => ?_, fun c => ⟨fun d => ?_, fun d => ⟨fun g => ?_, fun g => ?_⟩⟩⟩
  · have e : r (73 + 7 * t) = 1 := (hI.2.2.2.2.2.2 t ht).1.resolve_left c
    have e : tkB r t f = false := by simp [tkB, e]
    rw [e] at hq
    exact hq
  · have e : tkB r t f = false := by simp only [tkB, decide_eq_false (Int32.not_lt.mpr d), Bool.and_false, Bool.false_and]
    rw [e] at hq
    exact hq
  · have e : tkB r t f = false := by simp [tkB, g]
    rw [e] at hq
    exact hq
  · have c1 : ¬ r (73 + 7 * t) = 1 := by rw [c]; decide
    have e : tkB r t f = true := by simp only [tkB, c1, g, not_false_eq_true, decide_true, Bool.true_and, Bool.and_true, decide_eq_true_eq]; exact Int32.not_le.mp d
    rw [e] at hq
    exact hq
theorem s_X2_tinFor (hM : MR (σ m) r) (hI : IR r) {x : Int32} (f : Nat) (hf : f < 6) (e1 : x = nI f := by rfl) (hq : Q (tfR r f) σ) : wp_X2_tinFor m x σ Q := by
  subst e1
  obtain ⟨T, hT2, hT, -⟩ := hI.2.2.2.2.1
  unfold wp_X2_tinFor
  refine s_X5_isIndex ?_
  rw [if_neg (nI_pos (by omega)), if_neg (ge_6 hf)]
  refine ⟨fun _ => ?_, fun c => absurd c (by decide)⟩
  unfold wp_X2_tinFor_L14
  refine lpN_rel T (fun k a => a = (nI k, σ) ∧ ∀ j, j < k → tkB r j f = false) ?_ ?_ 0 _ (Nat.zero_le _) ⟨rfl, fun j h => absurd h (Nat.not_lt_zero j)⟩
  · rintro K k ⟨v2, σ'⟩ hk ⟨e, hj⟩ hK
    cases e
    dsimp only
    unfold st_X2_tinFor_L14
    rw [hM.2.1.1, hT]
    refine ⟨fun c => absurd c (nI_ge hk (by omega)), fun _ => ⟨fun c => absurd c (ge_16 (by omega)), fun _ => ⟨vp_in_nI (by omega) (by decide), ?_⟩⟩⟩
    rintro a7 rfl
    rw [nI_clamp (n := k) (by omega), nI_clamp (n := f) (by omega)]
    refine ⟨vp_in_nI hf (by decide), ?_⟩
    refine s_X4_hasRoomFor hM hI k f (by omega) (hM.1 2 (by decide)) (hM.2.2.1 f hf) ?_
    cases h : tkB r k f with
    | false =>
      refine ⟨fun _ => ?_, fun c => absurd rfl c⟩
      rintro z5 rfl
      refine hK _ ⟨by rw [show nI k + 1 = nI (k + 1) from nI_1 k], fun j hj2 => ?_⟩
      by_cases e : j = k
      · rw [e]; exact h
      · exact hj j (by omega)
    | true =>
      refine ⟨fun c => absurd c (by decide), fun _ => ?_⟩
      rw [tfR_some hT hT2 hk h hj] at hq
      exact hq
  · rintro K ⟨v2, σ'⟩ ⟨e, hj⟩
    cases e
    dsimp only
    unfold st_X2_tinFor_L14
    rw [hM.2.1.1, hT]
    rw [tfR_none hT hT2 hj] at hq
    exact ⟨fun _ => hq, fun c => absurd (nI_le (Nat.le_refl T) (by omega)) c⟩
/-- no sweet, no tin -/
theorem s_X2_tinFor6 (hq : Q (-6) σ) : wp_X2_tinFor m (-6) σ Q := by
  unfold wp_X2_tinFor
  refine s_X5_isIndex ?_
  rw [if_pos (by decide)]
  exact ⟨fun c => absurd rfl c, fun _ => hq⟩
theorem s_X2_foilOfPull (hM : MR (σ m) r) (hq : Q (2 + r 3) σ) : wp_X2_foilOfPull m σ Q := by
  unfold wp_X2_foilOfPull
  rw [hM.1 3 (by decide)]
  exact hq
def evR (r : Nat → Int32) : Int32 := if 2 ≤ r 1 / r 0 then r 1 / r 0 else 2
theorem s_X2_pullsUntilTear (hM : MR (σ m) r) (hI : IR r) (hq : Q (evR r) σ) : wp_X2_pullsUntilTear m σ Q := by
  unfold wp_X2_pullsUntilTear
  rw [hM.1 0 (by decide), hM.1 1 (by decide)]
  rintro z1 rfl
  obtain ⟨a, h1, h2, h3⟩ := hI.1
  refine ⟨fun c => ⟨by rw [h3]; exact nI_ne0 (by omega) (by omega), ?_⟩, fun c => absurd (by rw [h3]; exact nI_le (a := 1) h1 (by omega)) c⟩
  rintro z3 rfl
  have e : (if 2 < r 1 / r 0 then r 1 / r 0 else 2) = evR r := by
    unfold evR
    by_cases d : 2 < r 1 / r 0
    · rw [if_pos d, if_pos (Int32.le_of_lt d)]
    · rw [if_neg d]
      by_cases g : 2 ≤ r 1 / r 0
      · rw [if_pos g]
        exact Int32.le_antisymm g (Int32.not_lt.mp d)
      · rw [if_neg g]
  rw [e]
  exact hq
/-- the reason, from the tin that was found -/
theorem s_X2_reasonOf (hM : MR (σ m) r) (l : Nat) {x : Int32} (hl : l < 4) (hq : Q (if r (4 + 17 * l) = 0 then 1 else if x = -6 then 2 else if 2 + r 3 ≤ r (4 + 17 * l + 13) then 0 else 3) σ) : wp_X2_reasonOf m l x σ Q := by
  unfold wp_X2_reasonOf
  obtain ⟨h2, h3, -⟩ := hM.2.2.2.1 l hl
  rw [h2, h3]
  refine ⟨fun c => ⟨fun d => ?_, fun d => ?_⟩, fun c => ?_⟩
  · refine s_X2_foilOfPull hM ?_
    rw [if_neg c, if_neg d] at hq
    exact ⟨fun g => by rwa [if_pos g] at hq, fun g => by rwa [if_neg g] at hq⟩
  · rwa [if_neg c, if_pos d] at hq
  · rwa [if_pos c] at hq
theorem s_X2_reasonNow (hM : MR (σ m) r) (hI : IR r) (l : Nat) (hl : l < 4) (hq : Q (rsR r l) σ) : wp_X2_reasonNow m l σ Q := by
  unfold wp_X2_reasonNow
  obtain ⟨n, hn, he, hh⟩ := hI.2.2.2.2.2.1 l hl
  refine s_X1_nextFlavour hM l n hl hn he ?_
  unfold rsR at hq
  by_cases c : n = 0
  · rw [if_pos c]
    refine s_X2_tinFor6 ?_
    refine s_X2_reasonOf hM l hl ?_
    have e : r (4 + 17 * l) = 0 := by rw [he, c]; rfl
    rw [if_pos e] at hq ⊢
    exact hq
  · rw [if_neg c]
    obtain ⟨⟨f, hf, ef⟩, -⟩ := hh 0 (by omega)
    refine s_X2_tinFor hM hI f hf ef ?_
    refine s_X2_reasonOf hM l hl ?_
    have ef' : r (4 + 17 * l + 1) = nI f := ef
    rw [ef', nI_clamp (by omega)] at hq
    exact hq
end CR
