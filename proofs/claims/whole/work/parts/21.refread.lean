/-! The reference's reads, as functions of its row. -/
def hpR (r : Nat → Int32) (l : Nat) : Int32 := sumN (fun h => r (4 + 17 * l + (2 + 2 * h))) (r (4 + 17 * l)).toNatClampNeg
def swR (r : Nat → Int32) (t : Nat) : Int32 := sumN (fun f => r (74 + 7 * t + f)) 6
def bitN (f : Nat) : Int32 := (1 : Int32) <<< (nI f &&& 31)
def mkR (r : Nat → Int32) (t : Nat) : Int32 := orN (fun f => if r (74 + 7 * t + f) ≤ 0 then 0 else bitN f) 6
def tkB (r : Nat → Int32) (t f : Nat) : Bool := decide (¬ r (73 + 7 * t) = 1) && decide (swR r t < r 2) && decide ((mkR r t &&& r (185 + f)) = 0)
def fstN (p : Nat → Bool) : Nat → Nat
  | 0 => 0
  | n + 1 => if fstN p n < n then fstN p n else if p n then n else n + 1
theorem fstN_none {p : Nat → Bool} {n : Nat} (h : ∀ j, j < n → p j = false) : fstN p n = n := by
  induction n with
  | zero => rfl
  | succ n ih => rw [fstN, ih (fun j hj => h j (by omega)), if_neg (Nat.lt_irrefl n), h n (by omega)]; rfl
theorem fstN_eq {p : Nat → Bool} {n k : Nat} (hk : k < n) (h : p k = true) (hj : ∀ j, j < k → p j = false) : fstN p n = k := by
  induction n with
  | zero => omega
  | succ n ih =>
    rw [fstN]
    by_cases e : k < n
    · rw [ih e, if_pos e]
    · have e2 : k = n := by omega
      subst e2
      rw [fstN_none hj, if_neg (Nat.lt_irrefl k), h, if_pos rfl]
def tfR (r : Nat → Int32) (f : Nat) : Int32 := if fstN (fun t => tkB r t f) (r 72).toNatClampNeg < (r 72).toNatClampNeg then nI (fstN (fun t => tkB r t f) (r 72).toNatClampNeg) else -6
def rsR (r : Nat → Int32) (l : Nat) : Int32 := if r (4 + 17 * l) = 0 then 1 else if tfR r (r (4 + 17 * l + 1)).toNatClampNeg = -6 then 2 else if 2 + r 3 ≤ r (4 + 17 * l + 13) then 0 else 3
theorem tfR_some {r : Nat → Int32} {f T k : Nat} (hT : r 72 = nI T) (hT2 : T ≤ 16) (hk : k < T) (h : tkB r k f = true) (hj : ∀ j, j < k → tkB r j f = false) : tfR r f = nI k := by
  unfold tfR
  rw [hT, nI_clamp (by omega), fstN_eq hk h hj, if_pos hk]
theorem tfR_none {r : Nat → Int32} {f T : Nat} (hT : r 72 = nI T) (hT2 : T ≤ 16) (hj : ∀ j, j < T → tkB r j f = false) : tfR r f = -6 := by
  unfold tfR
  rw [hT, nI_clamp (by omega), fstN_none hj, if_neg (Nat.lt_irrefl T)]
section RR
variable {σ : Sg} {Q : Int32 → Sg → Prop}
theorem s_X6_in {x a b : Int32} (h : Q (if x < a then 0 else if b < x then 0 else 1) σ) : wp_X6_in x a b σ Q := by
  unfold wp_X6_in
  refine ⟨fun c => ?_, fun c => ⟨fun d => ?_, fun d => ?_⟩⟩
  · rwa [if_pos c] at h
  · rwa [if_neg c, if_pos d] at h
  · rwa [if_neg c, if_neg d] at h
theorem s_X6_inT {x a b : Int32} (h1 : ¬ x < a) (h2 : ¬ b < x) (h : Q 1 σ) : wp_X6_in x a b σ Q := s_X6_in (by rw [if_neg h1, if_neg h2]; exact h)
theorem s_X6_lane {x1 x2 : Int32} (l w : Nat) (h : 4 + 17 * l + w < 194) (e1 : x1 = nI l := by rfl) (e2 : x2 = nI w := by rfl) (hq : Q (σ 12 19 0 (4 + 17 * l + w)) σ) : wp_X6_lane x1 x2 σ Q := by
  subst e1; subst e2
  unfold wp_X6_lane
  simp only [nI_lit, nI_add, pk_mul]
  refine ⟨vp_in_nI h (by omega), ?_⟩
  rw [nI_clamp (by omega)]
  exact hq
theorem s_X6_heapFlavour {x1 x2 : Int32} (l h : Nat) (hb : 4 + 17 * l + (1 + 2 * h) < 194) (e1 : x1 = nI l := by rfl) (e2 : x2 = nI h := by rfl) (hq : Q (σ 12 19 0 (4 + 17 * l + (1 + 2 * h))) σ) : wp_X6_heapFlavour x1 x2 σ Q :=
  s_X6_lane l (1 + 2 * h) hb e1 (by rw [e2]; simp only [nI_lit, nI_add, pk_mul]) hq
theorem s_X6_heapMany {x1 x2 : Int32} (l h : Nat) (hb : 4 + 17 * l + (2 + 2 * h) < 194) (e1 : x1 = nI l := by rfl) (e2 : x2 = nI h := by rfl) (hq : Q (σ 12 19 0 (4 + 17 * l + (2 + 2 * h))) σ) : wp_X6_heapMany x1 x2 σ Q :=
  s_X6_lane l (2 + 2 * h) hb e1 (by rw [e2]; simp only [nI_lit, nI_add, pk_mul]) hq
theorem s_X6_inHopper {x1 : Int32} (l n : Nat) (hl : l < 4) (hn : n ≤ 6) (e1 : x1 = nI l := by rfl) (he : σ 12 19 0 (4 + 17 * l) = nI n) (hq : Q (hpR (σ 12 19 0) l) σ) : wp_X6_inHopper x1 σ Q := by
  unfold wp_X6_inHopper wp_X6_inHopper_L4
  refine lpN_rel n (fun k a => a = (sumN (fun h => σ 12 19 0 (4 + 17 * l + (2 + 2 * h))) k, nI k, σ)) ?_ ?_ 0 _ (Nat.zero_le _) rfl
  · rintro K k ⟨v2, v3, σ'⟩ hk e hK
    cases e
    dsimp only
    refine s_X6_lane l 0 (by omega) e1 rfl ?_
    rw [Nat.add_zero, he]
    refine ⟨fun c => absurd c (nI_ge hk (by omega)), fun _ => ?_⟩
    refine s_X6_heapMany l k (by omega) e1 rfl ?_
    rintro z6 rfl z7 rfl
    exact hK _ (by rw [sumN]; rw [show nI k + 1 = nI (k + 1) from nI_1 k])
  · rintro K ⟨v2, v3, σ'⟩ e
    cases e
    dsimp only
    refine s_X6_lane l 0 (by omega) e1 rfl ?_
    rw [Nat.add_zero, he]
    refine ⟨fun _ => ?_, fun c => absurd (nI_le (Nat.le_refl n) (by omega)) c⟩
    unfold hpR at hq
    rw [he, nI_clamp (by omega)] at hq
    exact hq
theorem s_X6_inside {x1 x2 : Int32} (t f : Nat) (hb : 74 + 7 * t + f < 194) (e1 : x1 = nI t := by rfl) (e2 : x2 = nI f := by rfl) (hq : Q (σ 12 19 0 (74 + 7 * t + f)) σ) : wp_X6_inside x1 x2 σ Q := by
  subst e1; subst e2
  unfold wp_X6_inside
  simp only [nI_lit, nI_add, pk_mul]
  rw [show 73 + 7 * t + 1 + f = 74 + 7 * t + f by omega]
  refine ⟨vp_in_nI hb (by omega), ?_⟩
  rw [nI_clamp (by omega)]
  exact hq
theorem s_X6_isShipped {x1 : Int32} (t : Nat) (ht : t < 16) (e1 : x1 = nI t := by rfl) (hq : Q (if σ 12 19 0 (73 + 7 * t) = 1 then 1 else 0) σ) : wp_X6_isShipped x1 σ Q := by
  subst e1
  unfold wp_X6_isShipped
  rw [show ((73 : Int32) + (7 : Int32) * nI t) = nI (73 + 7 * t) by simp only [nI_lit, nI_add, pk_mul]]
  refine ⟨vp_in_nI (by omega) (by omega), ?_⟩
  rw [nI_clamp (by omega)]
  exact ⟨fun c => by rwa [if_neg c] at hq, fun c => by rwa [if_pos c] at hq⟩
theorem s_X6_sweets {x1 : Int32} (t : Nat) (ht : t < 16) (e1 : x1 = nI t := by rfl) (hq : Q (swR (σ 12 19 0) t) σ) : wp_X6_sweets x1 σ Q := by
  unfold wp_X6_sweets wp_X6_sweets_L4
  refine lpN_rel 6 (fun k a => a = (sumN (fun f => σ 12 19 0 (74 + 7 * t + f)) k, nI k, σ)) ?_ ?_ 0 _ (Nat.zero_le _) rfl
  · rintro K k ⟨v2, v3, σ'⟩ hk e hK
    cases e
    dsimp only
    refine ⟨fun c => absurd c (nI_ge hk (by decide)), fun _ => ?_⟩
    refine s_X6_inside t k (by omega) e1 rfl ?_
    rintro z4 rfl z5 rfl
    exact hK _ (by rw [sumN]; rw [show nI k + 1 = nI (k + 1) from nI_1 k])
  · rintro K ⟨v2, v3, σ'⟩ e
    cases e
    dsimp only
    exact ⟨fun _ => hq, fun c => absurd (nI_le (Nat.le_refl 6) (by omega)) c⟩
theorem s_X6_flavoursOf {x1 : Int32} (t : Nat) (ht : t < 16) (e1 : x1 = nI t := by rfl) (hq : Q (mkR (σ 12 19 0) t) σ) : wp_X6_flavoursOf x1 σ Q := by
  unfold wp_X6_flavoursOf wp_X6_flavoursOf_L4
  refine lpN_rel 6 (fun k a => a = (orN (fun f => if σ 12 19 0 (74 + 7 * t + f) ≤ 0 then 0 else bitN f) k, nI k, σ)) ?_ ?_ 0 _ (Nat.zero_le _) rfl
  · rintro K k ⟨v2, v3, σ'⟩ hk e hK
    cases e
    dsimp only
    refine ⟨fun c => absurd c (nI_ge hk (by decide)), fun _ => ?_⟩
    refine s_X6_inside t k (by omega) e1 rfl ?_
    refine ⟨fun c => ?_, fun c => ?_⟩
    · rintro z4 rfl z5 rfl
      exact hK _ (by rw [orN, if_pos c]; rw [show nI k + 1 = nI (k + 1) from nI_1 k])
    · rintro z4 rfl z5 rfl
      exact hK _ (by rw [orN, if_neg c]; rw [show nI k + 1 = nI (k + 1) from nI_1 k]; rfl)
  · rintro K ⟨v2, v3, σ'⟩ e
    cases e
    dsimp only
    exact ⟨fun _ => hq, fun c => absurd (nI_le (Nat.le_refl 6) (by omega)) c⟩
theorem s_X6_takes {x1 x2 : Int32} (t f : Nat) (ht : t < 16) (hf : f < 6) (e1 : x1 = nI t := by rfl) (e2 : x2 = nI f := by rfl) (hq : Q (if tkB (σ 12 19 0) t f then 1 else 0) σ) : wp_X6_takes x1 x2 σ Q := by
  unfold wp_X6_takes
  refine s_X6_isShipped t ht e1 ?_
  by_cases c1 : σ 12 19 0 (73 + 7 * t) = 1
  · rw [if_pos c1]
    have e : tkB (σ 12 19 0) t f = false := by simp [tkB, c1]
    rw [e] at hq
    exact ⟨fun _ => hq, fun c => absurd c (by decide)⟩
  · rw [if_neg c1]
    refine ⟨fun c => absurd rfl c, fun _ => ?_⟩
    refine s_X6_sweets t ht e1 ?_
    refine ⟨fun c => ?_, fun c => ?_⟩
    · have e : tkB (σ 12 19 0) t f = false := by simp only [tkB, decide_eq_false (Int32.not_lt.mpr c), Bool.and_false, Bool.false_and]
      rw [e] at hq
      exact hq
    · refine s_X6_flavoursOf t ht e1 ?_
      rw [e2, show ((185 : Int32) + nI f) = nI (185 + f) by simp only [nI_lit, nI_add]]
      refine ⟨vp_in_nI (by omega) (by omega), ?_⟩
      rw [nI_clamp (by omega)]
      refine ⟨fun d => ?_, fun d => ?_⟩
      · have e : tkB (σ 12 19 0) t f = false := by simp [tkB, d]
        rw [e] at hq
        exact hq
      · have e : tkB (σ 12 19 0) t f = true := by simp only [tkB, c1, d, not_false_eq_true, decide_true, Bool.true_and, Bool.and_true, decide_eq_true_eq]; exact Int32.not_le.mp c
        rw [e] at hq
        exact hq
theorem s_X6_tinFor {x1 : Int32} (f T : Nat) (hf : f < 6) (hT : σ 12 19 0 72 = nI T) (hT2 : T ≤ 16) (e1 : x1 = nI f := by rfl) (hq : Q (tfR (σ 12 19 0) f) σ) : wp_X6_tinFor x1 σ Q := by
  unfold wp_X6_tinFor wp_X6_tinFor_L2
  refine lpN_rel T (fun k a => a = (nI k, σ) ∧ ∀ j, j < k → tkB (σ 12 19 0) j f = false) ?_ ?_ 0 _ (Nat.zero_le _) ⟨rfl, fun j h => absurd h (Nat.not_lt_zero j)⟩
  · rintro K k ⟨v2, σ'⟩ hk ⟨e, hj⟩ hK
    cases e
    dsimp only
    refine ⟨fun c => ?_, fun _ => ?_⟩
    · rw [hT] at c
      exact absurd c (nI_ge hk (by omega))
    · refine s_X6_takes k f (by omega) hf rfl e1 ?_
      cases h : tkB (σ 12 19 0) k f with
      | false =>
        refine ⟨fun _ => ?_, fun c => absurd rfl c⟩
        rintro z5 rfl
        refine hK _ ⟨by rw [show nI k + 1 = nI (k + 1) from nI_1 k], fun j hj2 => ?_⟩
        by_cases e : j = k
        · rw [e]; exact h
        · exact hj j (by omega)
      | true =>
        refine ⟨fun c => absurd c (by decide), fun _ => ?_⟩
        rw [tfR_some hT hT2 hk h hj] at hq
        exact hq
  · rintro K ⟨v2, σ'⟩ ⟨e, hj⟩
    cases e
    dsimp only
    rw [tfR_none hT hT2 hj] at hq
    exact ⟨fun _ => hq, fun c => absurd (by rw [hT]; exact nI_le (Nat.le_refl T) (by omega)) c⟩
theorem s_X6_reason {x1 : Int32} (l n f T : Nat) (hl : l < 4) (hn : n ≤ 6) (hf : 0 < n → f < 6 ∧ σ 12 19 0 (4 + 17 * l + 1) = nI f) (he : σ 12 19 0 (4 + 17 * l) = nI n) (hT : σ 12 19 0 72 = nI T) (hT2 : T ≤ 16) (e1 : x1 = nI l := by rfl) (hq : Q (rsR (σ 12 19 0) l) σ) : wp_X6_reason x1 σ Q := by
  unfold wp_X6_reason
  refine s_X6_lane l 0 (by omega) e1 rfl ?_
  unfold rsR at hq
  rw [Nat.add_zero]
  refine ⟨fun c => ?_, fun c => ?_⟩
  · rw [if_neg c] at hq
    obtain ⟨hf1, hf2⟩ := hf (Nat.pos_of_ne_zero (fun z => c (by rw [he, z]; rfl)))
    rw [hf2, nI_clamp (by omega)] at hq
    refine s_X6_heapFlavour l 0 (by omega) e1 rfl ?_
    refine s_X6_tinFor f T hf1 hT hT2 hf2 ?_
    refine ⟨fun d => ?_, fun d => ?_⟩
    · rw [if_neg d] at hq
      refine s_X6_lane l 13 (by omega) e1 rfl ?_
      exact ⟨fun g => by rwa [if_pos g] at hq, fun g => by rwa [if_neg g] at hq⟩
    · rwa [if_pos d] at hq
  · rwa [if_pos c] at hq
end RR
