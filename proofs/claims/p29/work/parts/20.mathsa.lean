/-! Pure rows: numbers, loops. -/
theorem nI_lit (n : Nat) : (OfNat.ofNat n : Int32) = nI n := rfl
/-- a loop that counts -/
theorem lpN_rel {α : Type} {F : (α → Prop) → α → Prop} (n : Nat) (J : Nat → α → Prop) (step : ∀ (K : α → Prop) (k : Nat) (a : α), k < n → J k a → (∀ a', J (k + 1) a' → K a') → F K a) (last : ∀ (K : α → Prop) (a : α), J n a → F K a) : ∀ (k : Nat) (a : α), k ≤ n → J k a → ∃ m, lpN F m a := by
  have key : ∀ (d k : Nat) (a : α), k + d = n → J k a → lpN F (d + 1) a := by
    intro d
    induction d with
    | zero =>
      intro k a hk ha
      have e : k = n := by omega
      subst e
      exact last _ a ha
    | succ d ih =>
      intro k a hk ha
      exact step _ k a (by omega) ha (fun a' h => ih (k + 1) a' (by omega) h)
  exact fun k a hk ha => ⟨n - k + 1, key (n - k) k a (by omega) ha⟩
def sumN (f : Nat → Int32) : Nat → Int32
  | 0 => 0
  | n + 1 => sumN f n + f n
def orN (f : Nat → Int32) : Nat → Int32
  | 0 => 0
  | n + 1 => orN f n ||| f n
theorem sumN_congr {f g : Nat → Int32} {n : Nat} (h : ∀ k, k < n → f k = g k) : sumN f n = sumN g n := by
  induction n with
  | zero => rfl
  | succ n ih => rw [sumN, sumN, ih (fun k hk => h k (by omega)), h n (by omega)]
theorem orN_congr {f g : Nat → Int32} {n : Nat} (h : ∀ k, k < n → f k = g k) : orN f n = orN g n := by
  induction n with
  | zero => rfl
  | succ n ih => rw [orN, orN, ih (fun k hk => h k (by omega)), h n (by omega)]
/-! The reference's reads, as functions of its row. -/
def hpR (r : Nat → Int32) (l : Nat) : Int32 := sumN (fun h => r (4 + 17 * l + (2 + 2 * h))) (r (4 + 17 * l)).toNatClampNeg
def swR (r : Nat → Int32) (t : Nat) : Int32 := sumN (fun f => r (74 + 7 * t + f)) 6
def bitN (f : Nat) : Int32 := (1 : Int32) <<< (nI f &&& 31)
def mkR (r : Nat → Int32) (t : Nat) : Int32 := orN (fun f => if r (74 + 7 * t + f) ≤ 0 then 0 else bitN f) 6
def tkB (r : Nat → Int32) (t f : Nat) : Bool := decide (¬ r (73 + 7 * t) = 1) && decide (swR r t < r 2) && decide ((mkR r t &&& r (185 + f)) = 0)
def fstN (p : Nat → Bool) : Nat → Nat
  | 0 => 0
  | n + 1 => if fstN p n < n then fstN p n else if p n then n else n + 1
theorem fstN_none {p : Nat → Bool} {n : Nat} (h : ∀ j, j < n → p j = false) : fstN p n = n := by
  induction n with
  | zero => rfl
  | succ n ih => rw [fstN, ih (fun j hj => h j (by omega)), if_neg (Nat.lt_irrefl n), h n (by omega)]; rfl
theorem fstN_eq {p : Nat → Bool} {n k : Nat} (hk : k < n) (h : p k = true) (hj : ∀ j, j < k → p j = false) : fstN p n = k := by
  induction n with
  | zero => omega
  | succ n ih =>
    rw [fstN]
    by_cases e : k < n
    · rw [ih e, if_pos e]
    · have e2 : k = n := by omega
      subst e2
      rw [fstN_none hj, if_neg (Nat.lt_irrefl k), h, if_pos rfl]
def tfR (r : Nat → Int32) (f : Nat) : Int32 := if fstN (fun t => tkB r t f) (r 72).toNatClampNeg < (r 72).toNatClampNeg then nI (fstN (fun t => tkB r t f) (r 72).toNatClampNeg) else -6
def rsR (r : Nat → Int32) (l : Nat) : Int32 := if r (4 + 17 * l) = 0 then 1 else if tfR r (r (4 + 17 * l + 1)).toNatClampNeg = -6 then 2 else if 2 + r 3 ≤ r (4 + 17 * l + 13) then 0 else 3
theorem tfR_some {r : Nat → Int32} {f T k : Nat} (hT : r 72 = nI T) (hT2 : T ≤ 16) (hk : k < T) (h : tkB r k f = true) (hj : ∀ j, j < k → tkB r j f = false) : tfR r f = nI k := by
  unfold tfR
  rw [hT, nI_clamp (by omega), fstN_eq hk h hj, if_pos hk]
theorem tfR_none {r : Nat → Int32} {f T : Nat} (hT : r 72 = nI T) (hT2 : T ≤ 16) (hj : ∀ j, j < T → tkB r j f = false) : tfR r f = -6 := by
  unfold tfR
  rw [hT, nI_clamp (by omega), fstN_none hj, if_neg (Nat.lt_irrefl T)]
section RR
variable {σ : Sg} {Q : Int32 → Sg → Prop}
end RR

/-! What ties a machine of the class to a row of the reference, and the machine's reads. -/
def IR (r : Nat → Int32) : Prop :=
  (∃ a, 1 ≤ a ∧ a ≤ 9 ∧ r 0 = nI a) ∧ (∃ a, 4 ≤ a ∧ a ≤ 60 ∧ r 1 = nI a) ∧ (∃ a, 1 ≤ a ∧ a ≤ 99 ∧ r 2 = nI a) ∧ (∃ a, 1 ≤ a ∧ a ≤ 2 ∧ r 3 = nI a) ∧
  (∃ T, T ≤ 16 ∧ r 72 = nI T ∧ ∀ t, T ≤ t → t < 16 → r (73 + 7 * t) = 0 ∧ ∀ f, f < 6 → r (74 + 7 * t + f) = 0) ∧
  (∀ l, l < 4 → ∃ n, n ≤ 6 ∧ r (4 + 17 * l) = nI n ∧ ∀ h, h < n → (∃ f, f < 6 ∧ r (4 + 17 * l + (1 + 2 * h)) = nI f) ∧ ∃ s, 1 ≤ s ∧ s ≤ 999 ∧ r (4 + 17 * l + (2 + 2 * h)) = nI s) ∧
  (∀ t, t < 16 → (r (73 + 7 * t) = 0 ∨ r (73 + 7 * t) = 1) ∧ ∀ f, f < 6 → ∃ s, s ≤ 99 ∧ r (74 + 7 * t + f) = nI s)
def MR (μ : Nat → Nat → Nat → Int32) (r : Nat → Int32) : Prop :=
  (∀ j, j < 4 → μ 1 0 j = r j) ∧ (μ 0 0 4 = r 72 ∧ μ 0 0 5 = r 191 ∧ μ 0 0 6 = r 192 ∧ μ 0 0 7 = r 193) ∧ (∀ f, f < 6 → μ 4 0 f = r (185 + f)) ∧
  (∀ l, l < 4 → μ 5 l 2 = r (4 + 17 * l) ∧ μ 5 l 3 = r (4 + 17 * l + 13) ∧ μ 5 l 4 = r (4 + 17 * l + 14) ∧ μ 5 l 5 = r (4 + 17 * l + 15) ∧ μ 5 l 6 = r (4 + 17 * l + 16) ∧ ∀ h, h < (r (4 + 17 * l)).toNatClampNeg → μ 6 l h = r (4 + 17 * l + (1 + 2 * h)) ∧ μ 7 l h = r (4 + 17 * l + (2 + 2 * h))) ∧
  (∀ t, t < 16 → μ 8 t 1 = mkR r t ∧ μ 8 t 2 = swR r t ∧ μ 8 t 3 = r (73 + 7 * t) ∧ ∀ f, f < 6 → μ 9 t f = r (74 + 7 * t + f))
def hoR (r : Nat → Int32) (l : Nat) (x : Int32) : Int32 := sumN (fun h => if r (4 + 17 * l + (1 + 2 * h)) = x then r (4 + 17 * l + (2 + 2 * h)) else 0) (r (4 + 17 * l)).toNatClampNeg
theorem ge_6 {k : Nat} (h : k < 6) : ¬ (6 : Int32) ≤ nI k := nI_ge h (by decide)
theorem ge_4 {k : Nat} (h : k < 4) : ¬ (4 : Int32) ≤ nI k := nI_ge h (by decide)
theorem ge_16 {k : Nat} (h : k < 16) : ¬ (16 : Int32) ≤ nI k := nI_ge h (by decide)
theorem i_add0 (x : Int32) : x + 0 = x := by simp
section CR
variable {σ : Sg} {Q : Int32 → Sg → Prop} {m : Nat} {r : Nat → Int32}
theorem s_X5_isIndex {x n : Int32} (h : Q (if x < 0 then 0 else if n ≤ x then 0 else 1) σ) : wp_X5_isIndex x n σ Q := by
  unfold wp_X5_isIndex
  refine ⟨fun c => ?_, fun c => ⟨fun d => ?_, fun d => ?_⟩⟩
  · rwa [if_pos c] at h
  · rwa [if_neg c, if_pos d] at h
  · rwa [if_neg c, if_neg d] at h
/-- an index, or none -/
theorem s_isIndex2 {x : Int32} {n : Nat} (hn : n < 2 ^ 31) {Q : Int32 → Sg → Prop} (h1 : ∀ j, j < n → x = nI j → Q 1 σ) (h0 : (x < 0 ∨ nI n ≤ x) → Q 0 σ) : wp_X5_isIndex x (nI n) σ Q := by
  refine s_X5_isIndex ?_
  rcases pk_ix x hn with c | c | ⟨j, hj, e⟩
  · rw [if_pos c]; exact h0 (Or.inl c)
  · by_cases d : x < 0
    · rw [if_pos d]; exact h0 (Or.inl d)
    · rw [if_neg d, if_pos c]; exact h0 (Or.inr c)
  · have := h1 j hj e
    subst e
    rw [if_neg (nI_pos (by omega)), if_neg (nI_ge hj hn)]
    exact this
theorem s_X5_isBetween {x a b : Int32} (h : Q (if x < a then 0 else if b < x then 0 else 1) σ) : wp_X5_isBetween x a b σ Q := by
  unfold wp_X5_isBetween
  refine ⟨fun c => ?_, fun c => ⟨fun d => ?_, fun d => ?_⟩⟩
  · rwa [if_pos c] at h
  · rwa [if_neg c, if_pos d] at h
  · rwa [if_neg c, if_neg d] at h
theorem s_X1_isHeap {x : Int32} (l n : Nat) (hn : n ≤ 6) (he : σ m 5 l 2 = nI n) (h1 : ∀ j, j < n → x = nI j → Q 1 σ) (h0 : (x < 0 ∨ nI n ≤ x) → Q 0 σ) : wp_X1_isHeap m l x σ Q := by
  unfold wp_X1_isHeap
  rw [he]
  refine s_isIndex2 (by omega) (fun j hj e => ?_) (fun c => ?_)
  · refine ⟨fun c => absurd c (by decide), fun _ => ?_⟩
    exact ⟨fun c => absurd c (by rw [e]; exact ge_6 (by omega)), fun _ => h1 j hj e⟩
  · exact ⟨fun _ => h0 c, fun c => absurd rfl c⟩
theorem s_X1_nextFlavour (hM : MR (σ m) r) (l n : Nat) (hl : l < 4) (hn : n ≤ 6) (he : r (4 + 17 * l) = nI n) (hq : Q (if n = 0 then -6 else r (4 + 17 * l + 1)) σ) : wp_X1_nextFlavour m l σ Q := by
  unfold wp_X1_nextFlavour
  obtain ⟨h2, -, -, -, -, h6⟩ := hM.2.2.2.1 l hl
  rw [h2.trans he]
  refine ⟨fun c => ?_, fun c => ?_⟩
  · have e : n = 0 := (nI_leI (a := n) (b := 0) (by omega) (by decide)).mp c |> Nat.le_zero.mp
    rw [if_pos e] at hq
    exact hq
  · have e : ¬ n = 0 := fun z => c ((nI_leI (a := n) (b := 0) (by omega) (by decide)).mpr (by omega))
    rw [if_neg e] at hq
    rw [(h6 0 (by rw [he, nI_clamp (by omega)]; omega)).1]
    exact hq
theorem s_X1_sweetsInHopper (hM : MR (σ m) r) (l n : Nat) (hl : l < 4) (hn : n ≤ 6) (he : r (4 + 17 * l) = nI n) (hq : Q (hpR r l) σ) : wp_X1_sweetsInHopper m l σ Q := by
  unfold wp_X1_sweetsInHopper wp_X1_sweetsInHopper_L4
  obtain ⟨h2, -, -, -, -, h6⟩ := hM.2.2.2.1 l hl
  refine lpN_rel n (fun k a => a = (sumN (fun h => r (4 + 17 * l + (2 + 2 * h))) k, nI k, σ)) ?_ ?_ 0 _ (Nat.zero_le _) rfl
  · rintro K k ⟨v1, v2, σ'⟩ hk e hK
    cases e
    dsimp only
    unfold st_X1_sweetsInHopper_L4
    rw [h2, he]
    refine ⟨fun c => absurd c (nI_ge hk (by omega)), fun _ => ⟨fun c => absurd c (ge_6 (by omega)), fun _ => ⟨vp_in_nI (by omega) (by decide), ?_⟩⟩⟩
    rw [nI_clamp (by omega), (h6 k (by rw [he, nI_clamp (by omega)]; exact hk)).2]
    rintro z3 rfl z4 rfl
    exact hK _ (by rw [sumN]; rw [show nI k + 1 = nI (k + 1) from nI_1 k])
  · rintro K ⟨v1, v2, σ'⟩ e
    cases e
    dsimp only
    unfold st_X1_sweetsInHopper_L4
    rw [h2, he]
    refine ⟨fun _ => ?_, fun c => absurd (nI_le (Nat.le_refl n) (by omega)) c⟩
    unfold hpR at hq
    rw [he, nI_clamp (by omega)] at hq
    exact hq
theorem s_X1_sweetsOf (hM : MR (σ m) r) (l n : Nat) {x : Int32} (hl : l < 4) (hn : n ≤ 6) (he : r (4 + 17 * l) = nI n) (hq : Q (hoR r l x) σ) : wp_X1_sweetsOf m l x σ Q := by
  unfold wp_X1_sweetsOf wp_X1_sweetsOf_L4
  obtain ⟨h2, -, -, -, -, h6⟩ := hM.2.2.2.1 l hl
  refine lpN_rel n (fun k a => a = (sumN (fun h => if r (4 + 17 * l + (1 + 2 * h)) = x then r (4 + 17 * l + (2 + 2 * h)) else 0) k, nI k, σ)) ?_ ?_ 0 _ (Nat.zero_le _) rfl
  · rintro K k ⟨v1, v2, σ'⟩ hk e hK
    cases e
    dsimp only
    unfold st_X1_sweetsOf_L4
    obtain ⟨g1, g2⟩ := h6 k (by rw [he, nI_clamp (by omega)]; exact hk)
    rw [h2, he]
    refine ⟨fun c => absurd c (nI_ge hk (by omega)), fun _ => ⟨fun c => absurd c (ge_6 (by omega)), fun _ => ⟨vp_in_nI (by omega) (by decide), ?_⟩⟩⟩
    rw [nI_clamp (by omega), g1]
    refine ⟨fun c => ?_, fun c => ⟨vp_in_nI (by omega) (by decide), ?_⟩⟩
    · rintro z5 rfl
      exact hK _ (by rw [sumN, if_neg c, i_add0]; rw [show nI k + 1 = nI (k + 1) from nI_1 k])
    · rw [g2]
      rintro z4 rfl z5 rfl
      exact hK _ (by rw [sumN, if_pos c]; rw [show nI k + 1 = nI (k + 1) from nI_1 k])
  · rintro K ⟨v1, v2, σ'⟩ e
    cases e
    dsimp only
    unfold st_X1_sweetsOf_L4
    rw [h2, he]
    refine ⟨fun _ => ?_, fun c => absurd (nI_le (Nat.le_refl n) (by omega)) c⟩
    unfold hoR at hq
    rw [he, nI_clamp (by omega)] at hq
    exact hq
theorem s_X4_hasRoomFor (hM : MR (σ m) r) (hI : IR r) {x1 x2 : Int32} (t f : Nat) (ht : t < 16) (e1 : x1 = r 2) (e2 : x2 = r (185 + f)) (hq : Q (if tkB r t f then 1 else 0) σ) : wp_X4_hasRoomFor m t x1 x2 σ Q := by
  subst e1; subst e2
  unfold wp_X4_hasRoomFor
  obtain ⟨h1, h2, h3, -⟩ := hM.2.2.2.2 t ht
  rw [h1, h2, h3]
  refine ⟨fun c => ?_, fun c => ⟨fun d => ?_, fun d => ⟨fun g => ?_, fun g => ?_⟩⟩⟩
  · have e : r (73 + 7 * t) = 1 := (hI.2.2.2.2.2.2 t ht).1.resolve_left c
    have e : tkB r t f = false := by simp [tkB, e]
    rw [e] at hq
    exact hq
  · have e : tkB r t f = false := by simp only [tkB, decide_eq_false (Int32.not_lt.mpr d), Bool.and_false, Bool.false_and]
    rw [e] at hq
    exact hq
  · have e : tkB r t f = false := by simp [tkB, g]
    rw [e] at hq
    exact hq
  · have c1 : ¬ r (73 + 7 * t) = 1 := by rw [c]; decide
    have e : tkB r t f = true := by simp only [tkB, c1, g, not_false_eq_true, decide_true, Bool.true_and, Bool.and_true, decide_eq_true_eq]; exact Int32.not_le.mp d
    rw [e] at hq
    exact hq
theorem s_X2_tinFor (hM : MR (σ m) r) (hI : IR r) {x : Int32} (f : Nat) (hf : f < 6) (e1 : x = nI f := by rfl) (hq : Q (tfR r f) σ) : wp_X2_tinFor m x σ Q := by
  subst e1
  obtain ⟨T, hT2, hT, -⟩ := hI.2.2.2.2.1
  unfold wp_X2_tinFor
  refine s_X5_isIndex ?_
  rw [if_neg (nI_pos (by omega)), if_neg (ge_6 hf)]
  refine ⟨fun _ => ?_, fun c => absurd c (by decide)⟩
  unfold wp_X2_tinFor_L14
  refine lpN_rel T (fun k a => a = (nI k, σ) ∧ ∀ j, j < k → tkB r j f = false) ?_ ?_ 0 _ (Nat.zero_le _) ⟨rfl, fun j h => absurd h (Nat.not_lt_zero j)⟩
  · rintro K k ⟨v2, σ'⟩ hk ⟨e, hj⟩ hK
    cases e
    dsimp only
    unfold st_X2_tinFor_L14
    rw [hM.2.1.1, hT]
    refine ⟨fun c => absurd c (nI_ge hk (by omega)), fun _ => ⟨fun c => absurd c (ge_16 (by omega)), fun _ => ⟨vp_in_nI (by omega) (by decide), ?_⟩⟩⟩
    rintro a7 rfl
    rw [nI_clamp (n := k) (by omega), nI_clamp (n := f) (by omega)]
    refine ⟨vp_in_nI hf (by decide), ?_⟩
    refine s_X4_hasRoomFor hM hI k f (by omega) (hM.1 2 (by decide)) (hM.2.2.1 f hf) ?_
    cases h : tkB r k f with
    | false =>
      refine ⟨fun _ => ?_, fun c => absurd rfl c⟩
      rintro z5 rfl
      refine hK _ ⟨by rw [show nI k + 1 = nI (k + 1) from nI_1 k], fun j hj2 => ?_⟩
      by_cases e : j = k
      · rw [e]; exact h
      · exact hj j (by omega)
    | true =>
      refine ⟨fun c => absurd c (by decide), fun _ => ?_⟩
      rw [tfR_some hT hT2 hk h hj] at hq
      exact hq
  · rintro K ⟨v2, σ'⟩ ⟨e, hj⟩
    cases e
    dsimp only
    unfold st_X2_tinFor_L14
    rw [hM.2.1.1, hT]
    rw [tfR_none hT hT2 hj] at hq
    exact ⟨fun _ => hq, fun c => absurd (nI_le (Nat.le_refl T) (by omega)) c⟩
/-- no sweet, no tin -/
theorem s_X2_tinFor6 (hq : Q (-6) σ) : wp_X2_tinFor m (-6) σ Q := by
  unfold wp_X2_tinFor
  refine s_X5_isIndex ?_
  rw [if_pos (by decide)]
  exact ⟨fun c => absurd rfl c, fun _ => hq⟩
theorem s_X2_foilOfPull (hM : MR (σ m) r) (hq : Q (2 + r 3) σ) : wp_X2_foilOfPull m σ Q := by
  unfold wp_X2_foilOfPull
  rw [hM.1 3 (by decide)]
  exact hq
def evR (r : Nat → Int32) : Int32 := if 2 ≤ r 1 / r 0 then r 1 / r 0 else 2
theorem s_X2_pullsUntilTear (hM : MR (σ m) r) (hI : IR r) (hq : Q (evR r) σ) : wp_X2_pullsUntilTear m σ Q := by
  unfold wp_X2_pullsUntilTear
  rw [hM.1 0 (by decide), hM.1 1 (by decide)]
  rintro z1 rfl
  obtain ⟨a, h1, h2, h3⟩ := hI.1
  refine ⟨fun c => ⟨by rw [h3]; exact nI_ne0 (by omega) (by omega), ?_⟩, fun c => absurd (by rw [h3]; exact nI_le (a := 1) h1 (by omega)) c⟩
  rintro z3 rfl
  have e : (if 2 < r 1 / r 0 then r 1 / r 0 else 2) = evR r := by
    unfold evR
    by_cases d : 2 < r 1 / r 0
    · rw [if_pos d, if_pos (Int32.le_of_lt d)]
    · rw [if_neg d]
      by_cases g : 2 ≤ r 1 / r 0
      · rw [if_pos g]
        exact Int32.le_antisymm g (Int32.not_lt.mp d)
      · rw [if_neg g]
  rw [e]
  exact hq
/-- the reason, from the tin that was found -/
theorem s_X2_reasonOf (hM : MR (σ m) r) (l : Nat) {x : Int32} (hl : l < 4) (hq : Q (if r (4 + 17 * l) = 0 then 1 else if x = -6 then 2 else if 2 + r 3 ≤ r (4 + 17 * l + 13) then 0 else 3) σ) : wp_X2_reasonOf m l x σ Q := by
  unfold wp_X2_reasonOf
  obtain ⟨h2, h3, -⟩ := hM.2.2.2.1 l hl
  rw [h2, h3]
  refine ⟨fun c => ⟨fun d => ?_, fun d => ?_⟩, fun c => ?_⟩
  · refine s_X2_foilOfPull hM ?_
    rw [if_neg c, if_neg d] at hq
    exact ⟨fun g => by rwa [if_pos g] at hq, fun g => by rwa [if_neg g] at hq⟩
  · rwa [if_neg c, if_pos d] at hq
  · rwa [if_pos c] at hq
theorem s_X2_reasonNow (hM : MR (σ m) r) (hI : IR r) (l : Nat) (hl : l < 4) (hq : Q (rsR r l) σ) : wp_X2_reasonNow m l σ Q := by
  unfold wp_X2_reasonNow
  obtain ⟨n, hn, he, hh⟩ := hI.2.2.2.2.2.1 l hl
  refine s_X1_nextFlavour hM l n hl hn he ?_
  unfold rsR at hq
  by_cases c : n = 0
  · rw [if_pos c]
    refine s_X2_tinFor6 ?_
    refine s_X2_reasonOf hM l hl ?_
    have e : r (4 + 17 * l) = 0 := by rw [he, c]; rfl
    rw [if_pos e] at hq ⊢
    exact hq
  · rw [if_neg c]
    obtain ⟨⟨f, hf, ef⟩, -⟩ := hh 0 (by omega)
    refine s_X2_tinFor hM hI f hf ef ?_
    refine s_X2_reasonOf hM l hl ?_
    have ef' : r (4 + 17 * l + 1) = nI f := ef
    rw [ef', nI_clamp (by omega)] at hq
    exact hq
end CR

/-! States and rows under writes. -/
/-- the reference's row set; a machine set -/
def sr (σ : Sg) (r : Nat → Int32) : Sg := ua σ 12 19 0 r
def sm (σ : Sg) (m : Nat) (μ : Nat → Nat → Nat → Int32) : Sg := fun a => if a = m then μ else σ a
def um (μ : Nat → Nat → Nat → Int32) (k i j : Nat) (x : Int32) : Nat → Nat → Nat → Int32 := fun a b => if a = k ∧ b = i then upd (μ k i) j x else μ a b
theorem sr_row (σ : Sg) (r : Nat → Int32) : sr σ r 12 19 0 = r := by simp [sr, ua]
theorem sr_self (σ : Sg) : sr σ (σ 12 19 0) = σ := by
  funext a b c
  unfold sr ua
  split
  · next h => rw [h.1, h.2.1, h.2.2]
  · rfl
theorem sr_up (σ : Sg) (r : Nat → Int32) (j : Nat) (x : Int32) : up (sr σ r) 12 19 0 j x = sr σ (upd r j x) := by
  unfold up
  rw [sr_row]
  funext a b c
  unfold sr ua
  split <;> rfl
theorem sr_ne (σ : Sg) (r : Nat → Int32) {a : Nat} (h : a ≠ 12) : sr σ r a = σ a := by
  funext b c
  unfold sr ua
  rw [if_neg (fun z => h z.1)]
theorem sr_ne2 (σ : Sg) (r : Nat → Int32) {b : Nat} (h : b ≠ 19) : sr σ r 12 b = σ 12 b := by
  funext c
  unfold sr ua
  rw [if_neg (fun z => h z.2.1)]
theorem sm_m (σ : Sg) (m : Nat) (μ : Nat → Nat → Nat → Int32) : sm σ m μ m = μ := if_pos rfl
theorem sm_ne (σ : Sg) {m a : Nat} (μ : Nat → Nat → Nat → Int32) (h : a ≠ m) : sm σ m μ a = σ a := if_neg h
theorem sm_self (σ : Sg) (m : Nat) : sm σ m (σ m) = σ := by
  funext a
  unfold sm
  split
  · next h => rw [h]
  · rfl
theorem sm_sm (σ : Sg) (m : Nat) (μ ν : Nat → Nat → Nat → Int32) : sm (sm σ m μ) m ν = sm σ m ν := by
  funext a
  unfold sm
  split <;> rfl
theorem up_sm (σ : Sg) (m k i j : Nat) (x : Int32) : up σ m k i j x = sm σ m (um (σ m) k i j x) := by
  funext a b c
  unfold up ua sm um
  by_cases h : a = m
  · subst h
    simp
  · simp [h]
theorem sm_up (σ : Sg) (m : Nat) (μ : Nat → Nat → Nat → Int32) (k i j : Nat) (x : Int32) : up (sm σ m μ) m k i j x = sm σ m (um μ k i j x) := by
  rw [up_sm, sm_m, sm_sm]
theorem um_eq (μ : Nat → Nat → Nat → Int32) (k i j : Nat) (x : Int32) : um μ k i j x k i j = x := by simp [um, upd]
theorem um_row (μ : Nat → Nat → Nat → Int32) (k i j : Nat) (x : Int32) : um μ k i j x k i = upd (μ k i) j x := by simp [um]
theorem um_k (μ : Nat → Nat → Nat → Int32) {k i j a : Nat} (x : Int32) (h : a ≠ k) : um μ k i j x a = μ a := by
  funext b
  simp [um, h]
theorem um_i (μ : Nat → Nat → Nat → Int32) {k i j a b : Nat} (x : Int32) (h : b ≠ i) : um μ k i j x a b = μ a b := by
  simp [um, h]
theorem um_j (μ : Nat → Nat → Nat → Int32) {k i j c : Nat} (x : Int32) (h : c ≠ j) : um μ k i j x k i c = μ k i c := by simp [um, upd, h]
theorem upd_comm {f : Nat → Int32} {j k : Nat} (h : j ≠ k) (x y : Int32) : upd (upd f j x) k y = upd (upd f k y) j x := by
  funext q
  unfold upd
  by_cases h1 : q = k
  · rw [if_pos h1, if_neg (fun z => h (z.symm.trans h1)), if_pos h1]
  · rw [if_neg h1]
    by_cases h2 : q = j
    · rw [if_pos h2, if_pos h2]
    · rw [if_neg h2, if_neg h2, if_neg h1]
theorem ln_ne {l l' w w' : Nat} (hw : w < 17) (hw' : w' < 17) (h : w ≠ w') : 4 + 17 * l + w ≠ 4 + 17 * l' + w' := by
  rcases Nat.lt_trichotomy l l' with z | z | z <;> omega
theorem swR_congr {r s : Nat → Int32} {t : Nat} (h : ∀ f, f < 6 → r (74 + 7 * t + f) = s (74 + 7 * t + f)) : swR r t = swR s t := sumN_congr h
theorem mkR_congr {r s : Nat → Int32} {t : Nat} (h : ∀ f, f < 6 → r (74 + 7 * t + f) = s (74 + 7 * t + f)) : mkR r t = mkR s t := orN_congr (fun f hf => by rw [h f hf])
/-- a row's place that nothing of IR reads -/
theorem IR_upd {r : Nat → Int32} {j : Nat} (x : Int32) (h : IR r) (h0 : 3 < j) (h1 : j ≠ 72) (h2 : j < 73 ∨ 185 ≤ j) (h3 : ∀ l w, l < 4 → w < 13 → j ≠ 4 + 17 * l + w) : IR (upd r j x) := by
  obtain ⟨a0, a1, a2, a3, a4, a5, a6⟩ := h
  refine ⟨?_, ?_, ?_, ?_, ?_, ?_, ?_⟩
  · rwa [pk_un (by omega)]
  · rwa [pk_un (by omega)]
  · rwa [pk_un (by omega)]
  · rwa [pk_un (by omega)]
  · obtain ⟨T, b1, b2, b3⟩ := a4
    refine ⟨T, b1, by rw [pk_un (by omega)]; exact b2, fun t ht1 ht2 => ?_⟩
    obtain ⟨c1, c2⟩ := b3 t ht1 ht2
    exact ⟨by rw [pk_un (by omega)]; exact c1, fun f hf => by rw [pk_un (by omega)]; exact c2 f hf⟩
  · intro l hl
    obtain ⟨n, b1, b2, b3⟩ := a5 l hl
    refine ⟨n, b1, by rw [pk_un (j := 4 + 17 * l) (fun e => h3 l 0 hl (by decide) e.symm)]; exact b2, fun h hh => ?_⟩
    rw [pk_un (fun e => h3 l (1 + 2 * h) hl (by omega) e.symm), pk_un (fun e => h3 l (2 + 2 * h) hl (by omega) e.symm)]
    exact b3 h hh
  · intro t ht
    obtain ⟨c1, c2⟩ := a6 t ht
    exact ⟨by rw [pk_un (by omega)]; exact c1, fun f hf => by rw [pk_un (by omega)]; exact c2 f hf⟩
theorem IR_n {r : Nat → Int32} (h : IR r) {l : Nat} (hl : l < 4) : (r (4 + 17 * l)).toNatClampNeg ≤ 6 := by
  obtain ⟨n, b1, b2, -⟩ := h.2.2.2.2.2.1 l hl
  rw [b2, nI_clamp (by omega)]
  exact b1
/-- a lane's number beside its hopper: 3 foil, 4 pulls, 5 torn, 6 wrapped -/
theorem MR_lane {μ : Nat → Nat → Nat → Int32} {r : Nat → Int32} (h : MR μ r) (hI : IR r) {l k : Nat} (hl : l < 4) (hk1 : 3 ≤ k) (hk2 : k ≤ 6) (x : Int32) : MR (um μ 5 l k x) (upd r (4 + 17 * l + (10 + k)) x) := by
  obtain ⟨a0, a1, a2, a3, a4⟩ := h
  refine ⟨fun j hj => ?_, ?_, fun f hf => ?_, fun l' hl' => ?_, fun t ht => ?_⟩
  · rw [um_k _ _ (by decide), pk_un (by omega)]; exact a0 j hj
  · rw [um_k _ _ (by decide), pk_un (by omega), pk_un (by omega), pk_un (by omega), pk_un (by omega)]; exact a1
  · rw [um_k _ _ (by decide), pk_un (by omega)]; exact a2 f hf
  · obtain ⟨b2, b3, b4, b5, b6, b7⟩ := a3 l' hl'
    have hn := IR_n hI hl'
    rw [um_k _ _ (by decide : 6 ≠ 5), um_k _ _ (by decide : 7 ≠ 5), pk_un (j := 4 + 17 * l') (by omega)]
    have key : ∀ c, 3 ≤ c → c ≤ 6 → μ 5 l' c = r (4 + 17 * l' + (10 + c)) → um μ 5 l k x 5 l' c = upd r (4 + 17 * l + (10 + k)) x (4 + 17 * l' + (10 + c)) := by
      intro c hc1 hc2 e
      by_cases hh : l' = l
      · subst hh
        by_cases hc : c = k
        · subst hc
          rw [um_eq, pk_us]
        · rw [um_j _ _ hc, pk_un (by omega)]; exact e
      · rw [um_i _ _ hh, pk_un (by omega)]; exact e
    refine ⟨?_, key 3 (by decide) (by decide) b3, key 4 (by decide) (by decide) b4, key 5 (by decide) (by decide) b5, key 6 (by decide) (by decide) b6, fun h hh => ?_⟩
    · by_cases e : l' = l
      · subst e
        rw [um_j _ _ (by omega)]; exact b2
      · rw [um_i _ _ e]; exact b2
    · rw [pk_un (ln_ne (by omega) (by omega) (by omega)), pk_un (ln_ne (by omega) (by omega) (by omega))]; exact b7 h hh
  · obtain ⟨b1, b2, b3, b4⟩ := a4 t ht
    rw [um_k _ _ (by decide : 8 ≠ 5), um_k _ _ (by decide : 9 ≠ 5), pk_un (j := 73 + 7 * t) (by omega), mkR_congr (s := r) (fun f hf => pk_un (by omega)), swR_congr (s := r) (fun f hf => pk_un (by omega))]
    exact ⟨b1, b2, b3, fun f hf => by rw [pk_un (by omega)]; exact b4 f hf⟩
/-- why a lane stood still: no part of it -/
theorem MR_last {μ : Nat → Nat → Nat → Int32} {r : Nat → Int32} (h : MR μ r) {l : Nat} (x : Int32) : MR (um μ 5 l 7 x) r := by
  obtain ⟨a0, a1, a2, a3, a4⟩ := h
  refine ⟨fun j hj => ?_, ?_, fun f hf => ?_, fun l' hl' => ?_, fun t ht => ?_⟩
  · rw [um_k _ _ (by decide)]; exact a0 j hj
  · rw [um_k _ _ (by decide)]; exact a1
  · rw [um_k _ _ (by decide)]; exact a2 f hf
  · rw [um_k _ _ (by decide : 6 ≠ 5), um_k _ _ (by decide : 7 ≠ 5)]
    by_cases e : l' = l
    · subst e
      rw [um_j _ _ (by decide), um_j _ _ (by decide), um_j _ _ (by decide), um_j _ _ (by decide), um_j _ _ (by decide)]
      exact a3 l' hl'
    · rw [um_i _ _ e]
      exact a3 l' hl'
  · rw [um_k _ _ (by decide : 8 ≠ 5), um_k _ _ (by decide : 9 ≠ 5)]; exact a4 t ht
/-- the machine's own numbers: ticks, foil pulled, foil wasted -/
theorem MR_glob {μ : Nat → Nat → Nat → Int32} {r : Nat → Int32} (h : MR μ r) (hI : IR r) {k : Nat} (hk1 : 5 ≤ k) (hk2 : k ≤ 7) (x : Int32) : MR (um μ 0 0 k x) (upd r (186 + k) x) := by
  obtain ⟨a0, ⟨c4, c5, c6, c7⟩, a2, a3, a4⟩ := h
  refine ⟨fun j hj => ?_, ?_, fun f hf => ?_, fun l' hl' => ?_, fun t ht => ?_⟩
  · rw [um_k _ _ (by decide), pk_un (by omega)]; exact a0 j hj
  · have key : ∀ c, 5 ≤ c → c ≤ 7 → μ 0 0 c = r (186 + c) → um μ 0 0 k x 0 0 c = upd r (186 + k) x (186 + c) := by
      intro c h1 h2 e
      by_cases hc : c = k
      · subst hc
        rw [um_eq, pk_us]
      · rw [um_j _ _ hc, pk_un (by omega)]; exact e
    exact ⟨by rw [um_j _ _ (by omega), pk_un (by omega)]; exact c4, key 5 (by decide) (by decide) c5, key 6 (by decide) (by decide) c6, key 7 (by decide) (by decide) c7⟩
  · rw [um_k _ _ (by decide), pk_un (by omega)]; exact a2 f hf
  · obtain ⟨b2, b3, b4, b5, b6, b7⟩ := a3 l' hl'
    have hn := IR_n hI hl'
    rw [um_k _ _ (by decide : 5 ≠ 0), um_k _ _ (by decide : 6 ≠ 0), um_k _ _ (by decide : 7 ≠ 0), pk_un (j := 4 + 17 * l') (by omega), pk_un (by omega), pk_un (by omega), pk_un (by omega), pk_un (by omega)]
    exact ⟨b2, b3, b4, b5, b6, fun h hh => by rw [pk_un (by omega), pk_un (by omega)]; exact b7 h hh⟩
  · obtain ⟨b1, b2, b3, b4⟩ := a4 t ht
    rw [um_k _ _ (by decide : 8 ≠ 0), um_k _ _ (by decide : 9 ≠ 0), pk_un (j := 73 + 7 * t) (by omega), mkR_congr (s := r) (fun f hf => pk_un (by omega)), swR_congr (s := r) (fun f hf => pk_un (by omega))]
    exact ⟨b1, b2, b3, fun f hf => by rw [pk_un (by omega)]; exact b4 f hf⟩

/-! A sweet into a tin; a sweet out of a hopper. -/
theorem sum_nI {f : Nat → Int32} {n b : Nat} (hb : n * b < 2 ^ 30) (h : ∀ k, k < n → ∃ s, s ≤ b ∧ f k = nI s) : ∃ S, S ≤ n * b ∧ sumN f n = nI S ∧ ∀ k s, k < n → f k = nI s → s ≤ b → s ≤ S := by
  induction n with
  | zero => exact ⟨0, Nat.zero_le _, rfl, fun k s hk => absurd hk (Nat.not_lt_zero k)⟩
  | succ n ih =>
    have e : (n + 1) * b = n * b + b := Nat.succ_mul n b
    obtain ⟨S, h1, h2, h3⟩ := ih (by omega) (fun k hk => h k (by omega))
    obtain ⟨s, g1, g2⟩ := h n (by omega)
    refine ⟨S + s, by omega, by rw [sumN, h2, g2, nI_add], fun k s' hk e' hs' => ?_⟩
    by_cases hkn : k = n
    · subst hkn
      have : s' = s := (nI_eq (by omega) (by omega)).mp (e'.symm.trans g2)
      omega
    · have := h3 k s' (by omega) e' hs'
      omega
theorem sumN_one {g : Nat → Int32} {n k : Nat} (hk : k < n) : sumN (fun q => if q = k then g q + 1 else g q) n = sumN g n + 1 := by
  induction n with
  | zero => omega
  | succ n ih =>
    rw [sumN, sumN]
    by_cases e : k = n
    · subst e
      rw [if_pos rfl, sumN_congr (g := g) (fun q hq => if_neg (by omega)), Int32.add_assoc]
    · rw [ih (by omega), if_neg (fun z => e z.symm), Int32.add_assoc, Int32.add_comm 1, ← Int32.add_assoc]
theorem orN_one {g : Nat → Int32} {b : Int32} {n k : Nat} (hk : k < n) (hg : g k = 0 ∨ g k = b) : orN (fun q => if q = k then b else g q) n = orN g n ||| b := by
  induction n with
  | zero => omega
  | succ n ih =>
    rw [orN, orN]
    by_cases e : k = n
    · subst e
      rw [if_pos rfl, orN_congr (g := g) (fun q hq => if_neg (by omega))]
      rcases hg with z | z
      · rw [z]; simp
      · rw [z, Int32.or_assoc, Int32.or_self]
    · rw [ih (by omega), if_neg (fun z => e z.symm), Int32.or_assoc, Int32.or_comm b, ← Int32.or_assoc]
def addT (r : Nat → Int32) (t f : Nat) : Nat → Int32 := upd r (74 + 7 * t + f) (r (74 + 7 * t + f) + 1)
theorem addT_f {r : Nat → Int32} {t f g : Nat} : addT r t f (74 + 7 * t + g) = if g = f then r (74 + 7 * t + g) + 1 else r (74 + 7 * t + g) := by
  unfold addT
  by_cases e : g = f
  · subst e
    rw [pk_us, if_pos rfl]
  · rw [pk_un (by omega), if_neg e]
/-- a tin that takes a sweet has fewer than 99 -/
theorem tk_le {r : Nat → Int32} (hI : IR r) {t f g : Nat} (ht : t < 16) (hg : g < 6) (h : tkB r t f = true) : ∃ s, s ≤ 98 ∧ r (74 + 7 * t + g) = nI s := by
  obtain ⟨S, h1, h2, h3⟩ := sum_nI (f := fun q => r (74 + 7 * t + q)) (n := 6) (b := 99) (by decide) (hI.2.2.2.2.2.2 t ht).2
  obtain ⟨s, g1, g2⟩ := (hI.2.2.2.2.2.2 t ht).2 g hg
  obtain ⟨a, b1, b2, b3⟩ := hI.2.2.1
  have hs := h3 g s hg g2 g1
  simp only [tkB, Bool.and_eq_true, decide_eq_true_eq] at h
  have hlt : swR r t < r 2 := h.1.2
  rw [show swR r t = nI S from h2, b3, nI_ltI (by omega) (by omega)] at hlt
  exact ⟨s, by omega, g2⟩
theorem IR_addT {r : Nat → Int32} (hI : IR r) {t f T : Nat} (ht : t < T) (hT : r 72 = nI T) (hT2 : T ≤ 16) (hf : f < 6) (h : tkB r t f = true) : IR (addT r t f) := by
  obtain ⟨s, hs1, hs2⟩ := tk_le hI (show t < 16 by omega) hf h
  obtain ⟨a0, a1, a2, a3, a4, a5, a6⟩ := hI
  unfold addT
  refine ⟨?_, ?_, ?_, ?_, ?_, ?_, ?_⟩
  · rwa [pk_un (by omega)]
  · rwa [pk_un (by omega)]
  · rwa [pk_un (by omega)]
  · rwa [pk_un (by omega)]
  · obtain ⟨T', b1, b2, b3⟩ := a4
    have e : T' = T := (nI_eq (by omega) (by omega)).mp (b2.symm.trans hT)
    subst e
    refine ⟨T', b1, by rw [pk_un (by omega)]; exact b2, fun u hu1 hu2 => ?_⟩
    obtain ⟨c1, c2⟩ := b3 u hu1 hu2
    exact ⟨by rw [pk_un (by omega)]; exact c1, fun g hg => by rw [pk_un (by omega)]; exact c2 g hg⟩
  · intro l hl
    obtain ⟨n, b1, b2, b3⟩ := a5 l hl
    refine ⟨n, b1, by rw [pk_un (by omega)]; exact b2, fun q hq => ?_⟩
    rw [pk_un (by omega), pk_un (by omega)]
    exact b3 q hq
  · intro u hu
    obtain ⟨c1, c2⟩ := a6 u hu
    refine ⟨by rw [pk_un (by omega)]; exact c1, fun g hg => ?_⟩
    by_cases e : 74 + 7 * u + g = 74 + 7 * t + f
    · rw [e, pk_us, hs2]
      exact ⟨s + 1, by omega, nI_1 s⟩
    · rw [pk_un e]; exact c2 g hg
theorem MR_addT {μ : Nat → Nat → Nat → Int32} {r : Nat → Int32} (hM : MR μ r) (hI : IR r) {t f : Nat} (ht : t < 16) (hf : f < 6) (h : tkB r t f = true) : MR (um (um (um μ 9 t f (μ 9 t f + 1)) 8 t 1 (μ 8 t 1 ||| bitN f)) 8 t 2 (μ 8 t 2 + 1)) (addT r t f) := by
  obtain ⟨s, hs1, hs2⟩ := tk_le hI ht hf h
  obtain ⟨a0, a1, a2, a3, a4⟩ := hM
  obtain ⟨d1, d2, d3, d4⟩ := a4 t ht
  have oth : ∀ j, (∀ g, g < 6 → j ≠ 74 + 7 * t + g) → addT r t f j = r j := fun j hj => pk_un (hj f hf)
  refine ⟨fun j hj => ?_, ?_, fun f hf => ?_, fun l' hl' => ?_, fun u hu => ?_⟩
  · rw [um_k _ _ (by decide), um_k _ _ (by decide), um_k _ _ (by decide), oth _ (by omega)]; exact a0 j hj
  · rw [um_k _ _ (by decide), um_k _ _ (by decide), um_k _ _ (by decide), oth _ (by omega), oth _ (by omega), oth _ (by omega), oth _ (by omega)]; exact a1
  · rw [um_k _ _ (by decide), um_k _ _ (by decide), um_k _ _ (by decide), oth _ (by omega)]; exact a2 f hf
  · obtain ⟨b2, b3, b4, b5, b6, b7⟩ := a3 l' hl'
    have hn := IR_n hI hl'
    rw [um_k _ _ (by decide : 5 ≠ 8), um_k _ _ (by decide : 5 ≠ 8), um_k _ _ (by decide : 5 ≠ 9), um_k _ _ (by decide : 6 ≠ 8), um_k _ _ (by decide : 6 ≠ 8), um_k _ _ (by decide : 6 ≠ 9), um_k _ _ (by decide : 7 ≠ 8), um_k _ _ (by decide : 7 ≠ 8), um_k _ _ (by decide : 7 ≠ 9),
      oth (4 + 17 * l') (by omega), oth _ (by omega), oth _ (by omega), oth _ (by omega), oth _ (by omega)]
    exact ⟨b2, b3, b4, b5, b6, fun q hq => by rw [oth _ (by omega), oth _ (by omega)]; exact b7 q hq⟩
  · rw [um_k _ _ (by decide : 9 ≠ 8), um_k _ _ (by decide : 9 ≠ 8), oth (73 + 7 * u) (by omega)]
    by_cases e : u = t
    · subst e
      refine ⟨?_, ?_, ?_, fun g hg => ?_⟩
      · rw [um_j _ _ (by decide), um_eq, d1]
        have e1 : mkR (addT r u f) u = orN (fun q => if q = f then bitN f else if r (74 + 7 * u + q) ≤ 0 then 0 else bitN q) 6 := by
          unfold mkR
          refine orN_congr (fun q hq => ?_)
          rw [addT_f]
          by_cases z : q = f
          · subst z
            rw [if_pos rfl, if_pos rfl, if_neg]
            rw [hs2, nI_1]
            exact nI_nle (by omega) (by omega)
          · rw [if_neg z, if_neg z]
        rw [e1, orN_one (g := fun q => if r (74 + 7 * u + q) ≤ 0 then 0 else bitN q) hf]
        · rfl
        · by_cases z : r (74 + 7 * u + f) ≤ 0
          · exact Or.inl (if_pos z)
          · exact Or.inr (if_neg z)
      · rw [um_eq, d2]
        have e1 : swR (addT r u f) u = sumN (fun q => if q = f then r (74 + 7 * u + q) + 1 else r (74 + 7 * u + q)) 6 := sumN_congr (fun q hq => addT_f)
        rw [e1, sumN_one (g := fun q => r (74 + 7 * u + q)) hf]
        rfl
      · rw [um_j _ _ (by decide), um_j _ _ (by decide), um_k _ _ (by decide : 8 ≠ 9)]; exact d3
      · rw [addT_f]
        by_cases z : g = f
        · subst z
          rw [if_pos rfl, um_eq, d4 g hg]
        · rw [if_neg z, um_j _ _ z]; exact d4 g hg
    · obtain ⟨b1, b2, b3, b4⟩ := a4 u hu
      rw [um_i (k := 8) _ _ e, um_i (k := 8) _ _ e, um_k _ _ (by decide : 8 ≠ 9), um_i (k := 9) _ _ e, mkR_congr (s := r) (fun g hg => oth _ (by omega)), swR_congr (s := r) (fun g hg => oth _ (by omega))]
      exact ⟨b1, b2, b3, fun g hg => by rw [oth _ (by omega)]; exact b4 g hg⟩
/-- the heaps behind the first one move up -/
def shR (r : Nat → Int32) (a c : Nat) : Nat → Int32 := fun j => if a ≤ j ∧ j < a + c then r (j + 2) else r j
theorem shR_0 (r : Nat → Int32) (a : Nat) : shR r a 0 = r := by
  funext j
  exact if_neg (by omega)
theorem shR_s (r : Nat → Int32) (a k : Nat) : upd (shR r a k) (a + k) (shR r a k (a + k + 2)) = shR r a (k + 1) := by
  funext j
  unfold upd shR
  by_cases e : j = a + k
  · subst e
    rw [if_pos rfl, if_neg (by omega), if_pos (by omega)]
  · rw [if_neg e]
    by_cases z : a ≤ j ∧ j < a + k
    · rw [if_pos z, if_pos (by omega)]
    · rw [if_neg z, if_neg (by omega)]
def takeR (r : Nat → Int32) (l : Nat) : Nat → Int32 :=
  if r (4 + 17 * l + 2) - 1 = 0 then upd (upd (shR (upd (upd r (4 + 17 * l + 2) (r (4 + 17 * l + 2) - 1)) (4 + 17 * l) (nI ((r (4 + 17 * l)).toNatClampNeg - 1))) (4 + 17 * l + 1) (2 * ((r (4 + 17 * l)).toNatClampNeg - 1))) (4 + 17 * l + (1 + 2 * ((r (4 + 17 * l)).toNatClampNeg - 1))) 0) (4 + 17 * l + (2 + 2 * ((r (4 + 17 * l)).toNatClampNeg - 1))) 0
  else upd r (4 + 17 * l + 2) (r (4 + 17 * l + 2) - 1)
/-- outside the hopper nothing moves -/
theorem takeR_out {r : Nat → Int32} {l j : Nat} (hn : (r (4 + 17 * l)).toNatClampNeg ≤ 6) (h0 : 0 < (r (4 + 17 * l)).toNatClampNeg) (h : j < 4 + 17 * l ∨ 4 + 17 * l + 13 ≤ j) : takeR r l j = r j := by
  unfold takeR
  split
  · rw [pk_un (by omega), pk_un (by omega)]
    unfold shR
    rw [if_neg (by omega), pk_un (by omega), pk_un (by omega)]
  · rw [pk_un (by omega)]
theorem takeR_gone {r : Nat → Int32} {l n : Nat} (hl : l < 4) (hn : n ≤ 6) (h0 : 0 < n) (he : r (4 + 17 * l) = nI n) (hs : r (4 + 17 * l + 2) - 1 = 0) : takeR r l (4 + 17 * l) = nI (n - 1) ∧ ∀ h, h < n - 1 → takeR r l (4 + 17 * l + (1 + 2 * h)) = r (4 + 17 * l + (1 + 2 * (h + 1))) ∧ takeR r l (4 + 17 * l + (2 + 2 * h)) = r (4 + 17 * l + (2 + 2 * (h + 1))) := by
  have e : (r (4 + 17 * l)).toNatClampNeg = n := by rw [he]; exact nI_clamp (by omega)
  unfold takeR
  rw [if_pos hs, e]
  refine ⟨?_, fun h hh => ⟨?_, ?_⟩⟩
  · rw [pk_un (by omega), pk_un (by omega)]
    unfold shR
    rw [if_neg (by omega), pk_us]
  · rw [pk_un (by omega), pk_un (by omega)]
    unfold shR
    rw [if_pos (by omega), pk_un (by omega), pk_un (by omega)]
    rw [show 4 + 17 * l + (1 + 2 * h) + 2 = 4 + 17 * l + (1 + 2 * (h + 1)) by omega]
  · rw [pk_un (by omega), pk_un (by omega)]
    unfold shR
    rw [if_pos (by omega), pk_un (by omega), pk_un (by omega)]
    rw [show 4 + 17 * l + (2 + 2 * h) + 2 = 4 + 17 * l + (2 + 2 * (h + 1)) by omega]
theorem takeR_stay {r : Nat → Int32} {l : Nat} (hs : ¬ r (4 + 17 * l + 2) - 1 = 0) : takeR r l = upd r (4 + 17 * l + 2) (r (4 + 17 * l + 2) - 1) := by
  unfold takeR
  rw [if_neg hs]
theorem nI_m1 {s : Nat} (h : 1 ≤ s) : nI s - 1 = nI (s - 1) := pk_sub (b := 1) h
theorem nI_z {s : Nat} (h : s < 2 ^ 31) (e : nI s = 0) : s = 0 := (nI_eq (b := 0) h (by decide)).mp e
theorem IR_take {r : Nat → Int32} (hI : IR r) {l : Nat} (hl : l < 4) (h0 : ¬ r (4 + 17 * l) = 0) : IR (takeR r l) := by
  obtain ⟨n, hn, he, hh⟩ := hI.2.2.2.2.2.1 l hl
  have e : (r (4 + 17 * l)).toNatClampNeg = n := by rw [he]; exact nI_clamp (by omega)
  have hn0 : 0 < n := Nat.pos_of_ne_zero (fun z => h0 (by rw [he, z]; rfl))
  have out : ∀ j, (j < 4 + 17 * l ∨ 4 + 17 * l + 13 ≤ j) → takeR r l j = r j := fun j hj => takeR_out (by omega) (by omega) hj
  obtain ⟨a0, a1, a2, a3, a4, a5, a6⟩ := hI
  refine ⟨?_, ?_, ?_, ?_, ?_, ?_, ?_⟩
  · rwa [out _ (by omega)]
  · rwa [out _ (by omega)]
  · rwa [out _ (by omega)]
  · rwa [out _ (by omega)]
  · obtain ⟨T, b1, b2, b3⟩ := a4
    refine ⟨T, b1, by rw [out _ (by omega)]; exact b2, fun t ht1 ht2 => ?_⟩
    obtain ⟨c1, c2⟩ := b3 t ht1 ht2
    exact ⟨by rw [out _ (by omega)]; exact c1, fun f hf => by rw [out _ (by omega)]; exact c2 f hf⟩
  · intro l' hl'
    by_cases z : l' = l
    · subst z
      obtain ⟨⟨f0, hf0, ef0⟩, s0, hs1, hs2, es0⟩ := hh 0 hn0
      have es0' : r (4 + 17 * l' + 2) = nI s0 := es0
      by_cases g : r (4 + 17 * l' + 2) - 1 = 0
      · obtain ⟨g1, g2⟩ := takeR_gone hl hn hn0 he g
        refine ⟨n - 1, by omega, g1, fun h hh2 => ?_⟩
        rw [(g2 h hh2).1, (g2 h hh2).2]
        exact hh (h + 1) (by omega)
      · rw [takeR_stay g]
        refine ⟨n, hn, by rw [pk_un (by omega)]; exact he, fun h hh2 => ?_⟩
        rw [pk_un (by omega)]
        refine ⟨(hh h hh2).1, ?_⟩
        by_cases y : h = 0
        · subst y
          rw [show 4 + 17 * l' + (2 + 2 * 0) = 4 + 17 * l' + 2 by omega, pk_us, es0', nI_m1 hs1]
          rw [es0', nI_m1 hs1] at g
          exact ⟨s0 - 1, Nat.pos_of_ne_zero (fun q => g (by rw [q]; rfl)), by omega, rfl⟩
        · rw [pk_un (by omega)]
          exact (hh h hh2).2
    · obtain ⟨n', b1, b2, b3⟩ := a5 l' hl'
      have far : ∀ w, w < 13 → 4 + 17 * l' + w < 4 + 17 * l ∨ 4 + 17 * l + 13 ≤ 4 + 17 * l' + w := by
        intro w hw
        rcases Nat.lt_trichotomy l l' with q | q | q <;> omega
      refine ⟨n', b1, by rw [out (4 + 17 * l') (far 0 (by decide))]; exact b2, fun h hh2 => ?_⟩
      rw [out _ (far _ (by omega)), out _ (far _ (by omega))]
      exact b3 h hh2
  · intro t ht
    obtain ⟨c1, c2⟩ := a6 t ht
    exact ⟨by rw [out _ (by omega)]; exact c1, fun f hf => by rw [out _ (by omega)]; exact c2 f hf⟩

