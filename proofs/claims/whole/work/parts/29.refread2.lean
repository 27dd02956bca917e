/-! More reads of the reference. -/
theorem lp_acc {F : (Int32 × Int32 × Sg → Prop) → Int32 × Int32 × Sg → Prop} {σ : Sg} (n : Nat) (f : Nat → Int32) (hs : ∀ (K : Int32 × Int32 × Sg → Prop) (k : Nat), k < n → K (f (k + 1), nI (k + 1), σ) → F K (f k, nI k, σ)) (hl : ∀ K : Int32 × Int32 × Sg → Prop, F K (f n, nI n, σ)) : ∃ m, lpN F m (f 0, nI 0, σ) := by
  refine lpN_rel n (fun k a => a = (f k, nI k, σ)) ?_ ?_ 0 _ (Nat.zero_le _) rfl
  · rintro K k a hk rfl hK
    exact hs K k hk (hK _ rfl)
  · rintro K a rfl
    exact hl K
theorem sumN_ext {f : Nat → Int32} {T n : Nat} (h : T ≤ n) (h0 : ∀ k, T ≤ k → k < n → f k = 0) : sumN f n = sumN f T := by
  induction n with
  | zero => have e : T = 0 := by omega
            rw [e]
  | succ n ih =>
    by_cases e : T = n + 1
    · rw [e]
    · rw [sumN, h0 n (by omega) (by omega), i_add0]
      exact ih (by omega) (fun k h1 h2 => h0 k h1 (by omega))
theorem orN_ext {f : Nat → Int32} {T n : Nat} (h : T ≤ n) (h0 : ∀ k, T ≤ k → k < n → f k = 0) : orN f n = orN f T := by
  induction n with
  | zero => have e : T = 0 := by omega
            rw [e]
  | succ n ih =>
    by_cases e : T = n + 1
    · rw [e]
    · rw [orN, h0 n (by omega) (by omega)]
      simp only [Int32.or_zero]
      exact ih (by omega) (fun k h1 h2 => h0 k h1 (by omega))
def nT (r : Nat → Int32) : Nat := (r 72).toNatClampNeg
def ihR (r : Nat → Int32) (x : Int32) : Int32 := sumN (fun l => hoR r l x) 4
def itR (r : Nat → Int32) (f : Nat) (x : Int32) : Int32 := sumN (fun t => if r (73 + 7 * t) = x then r (74 + 7 * t + f) else 0) (nT r)
def iaR (r : Nat → Int32) (f : Nat) : Int32 := itR r f 0 + itR r f 1
def opB (r : Nat → Int32) (t : Nat) : Bool := decide (¬ r (73 + 7 * t) = 1)
def bfB (r : Nat → Int32) (o t : Nat) : Bool := decide (swR r t < swR r o) || (decide (swR r o = swR r t) && decide (o < t))
def ahR (r : Nat → Int32) (t : Nat) : Int32 := sumN (fun o => if opB r o && bfB r o t then 1 else 0) (nT r)
def brR (r : Nat → Int32) (x : Int32) : Int32 := if fstN (fun t => opB r t && decide (ahR r t = x)) (nT r) < nT r then nI (fstN (fun t => opB r t && decide (ahR r t = x)) (nT r)) else -1
def cfB (r : Nat → Int32) (o f : Nat) : Bool := decide (iaR r f < iaR r o) || (decide (iaR r o = iaR r f) && decide (o < f))
def cfR (r : Nat → Int32) (f : Nat) : Int32 := sumN (fun o => if cfB r o f then 1 else 0) 6
def bcR (r : Nat → Int32) (x : Int32) : Int32 := if fstN (fun f => decide (¬ iaR r f ≤ 0) && decide (cfR r f = x)) 6 < 6 then nI (fstN (fun f => decide (¬ iaR r f ≤ 0) && decide (cfR r f = x)) 6) else -1
def tsR (r : Nat → Int32) (x : Int32) : Int32 := orN (fun t => if r (73 + 7 * t) = x then bitN t else 0) (nT r)
def lnR (r : Nat → Int32) (w : Nat) : Int32 := sumN (fun l => r (4 + 17 * l + w)) 4
def lhR (r : Nat → Int32) : Int32 := sumN (fun l => hpR r l) 4
def ssR (r : Nat → Int32) : Int32 := sumN (fun f => itR r f 1) 6
def flR (r : Nat → Int32) : Int32 := orN (fun l => if rsR r l ≤ 0 then 0 else bitN l) 4
def tnR (r : Nat → Int32) (t : Nat) : Int32 := orN (fun f => if tkB r t f then bitN f else 0) 6
def tfoR (r : Nat → Int32) : Int32 := sumN (fun f => (ihR r (nI f) + r 2 - 1) / r 2) 6
theorem nT_of {r : Nat → Int32} {T : Nat} (h : r 72 = nI T) (h2 : T ≤ 16) : nT r = T := by unfold nT; rw [h, nI_clamp (by omega)]
theorem IR_nT {r : Nat → Int32} (hI : IR r) : nT r ≤ 16 ∧ r 72 = nI (nT r) ∧ ∀ t, nT r ≤ t → t < 16 → r (73 + 7 * t) = 0 ∧ ∀ f, f < 6 → r (74 + 7 * t + f) = 0 := by
  obtain ⟨T, h1, h2, h3⟩ := hI.2.2.2.2.1
  rw [nT_of h2 h1]
  exact ⟨h1, h2, h3⟩
/-- what a find gives: the first that is so, or the other answer -/
theorem fstN_cases (p : Nat → Bool) (n : Nat) : (fstN p n = n ∧ ∀ j, j < n → p j = false) ∨ (fstN p n < n ∧ p (fstN p n) = true ∧ ∀ j, j < fstN p n → p j = false) := by
  by_cases h : ∃ k, k < n ∧ p k = true
  · obtain ⟨k, ⟨h1, h2⟩, h3⟩ := pk_least (fun k => k < n ∧ p k = true) h
    have hj : ∀ j, j < k → p j = false := fun j hj => by
      cases e : p j with
      | false => rfl
      | true => exact absurd ⟨by omega, e⟩ (h3 j hj)
    have e := fstN_eq h1 h2 hj
    exact Or.inr ⟨by rw [e]; exact h1, by rw [e]; exact h2, by rw [e]; exact hj⟩
  · have hj : ∀ j, j < n → p j = false := fun j hj => by
      cases e : p j with
      | false => rfl
      | true => exact absurd ⟨j, hj, e⟩ h
    exact Or.inl ⟨fstN_none hj, hj⟩
section RB
variable {σ : Sg} {Q : Int32 → Sg → Prop}
theorem s_X6_isLane {x : Int32} (h1 : ∀ l, l < 4 → x = nI l → Q 1 σ) (h0 : (x < 0 ∨ nI 4 ≤ x) → Q 0 σ) : wp_X6_isLane x σ Q := by
  unfold wp_X6_isLane
  refine s_X6_in ?_
  rcases pk_ix x (show (4 : Nat) < 2 ^ 31 by decide) with c | c | ⟨l, hl, e⟩
  · rw [if_pos c]; exact ⟨Or.inl rfl, h0 (Or.inl c)⟩
  · by_cases d : x < 0
    · rw [if_pos d]; exact ⟨Or.inl rfl, h0 (Or.inl d)⟩
    · have g : (3 : Int32) < x := Int32.lt_of_lt_of_le (by decide : (3 : Int32) < nI 4) c
      rw [if_neg d, if_pos g]; exact ⟨Or.inl rfl, h0 (Or.inr c)⟩
  · have q := h1 l hl e
    subst e
    rw [if_neg (nI_pos (by omega)), if_neg (show ¬ (3 : Int32) < nI l from nI_nlt (b := l) (a := 3) (by omega) (by decide))]
    exact ⟨Or.inr rfl, q⟩
theorem s_X6_isFlavour {x : Int32} (h1 : ∀ l, l < 6 → x = nI l → Q 1 σ) (h0 : (x < 0 ∨ nI 6 ≤ x) → Q 0 σ) : wp_X6_isFlavour x σ Q := by
  unfold wp_X6_isFlavour
  refine s_X6_in ?_
  rcases pk_ix x (show (6 : Nat) < 2 ^ 31 by decide) with c | c | ⟨l, hl, e⟩
  · rw [if_pos c]; exact ⟨Or.inl rfl, h0 (Or.inl c)⟩
  · by_cases d : x < 0
    · rw [if_pos d]; exact ⟨Or.inl rfl, h0 (Or.inl d)⟩
    · have g : (5 : Int32) < x := Int32.lt_of_lt_of_le (by decide : (5 : Int32) < nI 6) c
      rw [if_neg d, if_pos g]; exact ⟨Or.inl rfl, h0 (Or.inr c)⟩
  · have q := h1 l hl e
    subst e
    rw [if_neg (nI_pos (by omega)), if_neg (show ¬ (5 : Int32) < nI l from nI_nlt (b := l) (a := 5) (by omega) (by decide))]
    exact ⟨Or.inr rfl, q⟩
/-- an index below a count, as the reference asks it -/
theorem s_X6_inIdx {x y : Int32} {n : Nat} (hn : n < 2 ^ 30) (hy : y = nI n - 1) (h1 : ∀ j, j < n → x = nI j → Q 1 σ) (h0 : (x < 0 ∨ nI n ≤ x) → Q 0 σ) : wp_X6_in x 0 y σ Q := by
  subst hy
  refine s_X6_in ?_
  by_cases d : x < 0
  · rw [if_pos d]; exact h0 (Or.inl d)
  · rw [if_neg d]
    obtain ⟨j, hj, rfl⟩ := nI_of d
    by_cases z : j < n
    · have e : nI n - 1 = nI (n - 1) := nI_m1 (by omega)
      rw [e, if_neg (nI_nlt (by omega) (by omega))]
      exact h1 j z rfl
    · have g : nI n - 1 < nI j := by
        show nI n - nI 1 < nI j
        rw [Int32.lt_iff_toInt_lt, pk_sub_toInt (b := 1) (by omega) (by decide), nI_toInt hj]
        omega
      rw [if_pos g]
      exact h0 (Or.inr (nI_le (by omega) hj))
theorem s_X6_taken {x1 : Int32} (t : Nat) (ht : t < 16) (e1 : x1 = nI t := by rfl) (hq : Q (tnR (σ 12 19 0) t) σ) : wp_X6_taken x1 σ Q := by
  unfold wp_X6_taken wp_X6_taken_L4
  refine lp_acc 6 (orN (fun f => if tkB (σ 12 19 0) t f then bitN f else 0)) (fun K k hk hK => ?_) (fun K => ?_)
  · dsimp only
    unfold st_X6_taken_L4
    refine ⟨fun c => absurd c (ge_6 hk), fun _ => ?_⟩
    refine s_X6_takes t k ht hk e1 rfl ?_
    unfold wp_X6_taken_b27
    rw [orN] at hK
    cases h : tkB (σ 12 19 0) t k with
    | false =>
      rw [h] at hK
      refine ⟨fun _ => ?_, fun c => absurd rfl c⟩
      rintro z5 rfl z6 rfl
      rw [nI_1]
      exact hK
    | true =>
      rw [h] at hK
      refine ⟨fun c => absurd c (by decide), fun _ => ?_⟩
      rintro z5 rfl z6 rfl
      rw [nI_1]
      exact hK
  · exact ⟨fun _ => hq, fun c => absurd (nI_le (Nat.le_refl 6) (by decide)) c⟩
theorem s_X6_inHoppers {x1 : Int32} (hI : IR (σ 12 19 0)) (hq : Q (ihR (σ 12 19 0) x1) σ) : wp_X6_inHoppers x1 σ Q := by
  unfold wp_X6_inHoppers wp_X6_inHoppers_L4
  refine lp_acc 4 (sumN (fun l => hoR (σ 12 19 0) l x1)) (fun K l hl hK => ?_) (fun K => ?_)
  · dsimp only
    unfold st_X6_inHoppers_L4
    refine ⟨fun c => absurd c (ge_4 hl), fun _ => ?_⟩
    obtain ⟨n, hn, he, -⟩ := hI.2.2.2.2.2.1 l hl
    unfold wp_X6_inHoppers_L12
    refine lpN_rel n (fun k a => a = (sumN (fun l => hoR (σ 12 19 0) l x1) l + sumN (fun h => if σ 12 19 0 (4 + 17 * l + (1 + 2 * h)) = x1 then σ 12 19 0 (4 + 17 * l + (2 + 2 * h)) else 0) k, nI l, nI k, σ)) ?_ ?_ 0 _ (Nat.zero_le _) (by rw [sumN, i_add0]; rfl)
    · rintro K2 k ⟨w1, w2, w3, σ'⟩ hk e hK2
      cases e
      dsimp only
      unfold st_X6_inHoppers_L12
      refine s_X6_lane l 0 (by omega) rfl rfl ?_
      rw [Nat.add_zero, he]
      refine ⟨fun c => absurd c (nI_ge hk (by omega)), fun _ => ?_⟩
      refine s_X6_heapFlavour l k (by omega) rfl rfl ?_
      unfold wp_X6_inHoppers_b46
      refine ⟨fun c => ?_, fun c => ?_⟩
      · rintro z11 rfl z12 rfl
        exact hK2 _ (by rw [sumN, if_neg c, nI_1, Int32.add_assoc])
      · refine s_X6_heapMany l k (by omega) rfl rfl ?_
        rintro z11 rfl z12 rfl
        exact hK2 _ (by rw [sumN, if_pos c, nI_1, Int32.add_assoc])
    · rintro K2 ⟨w1, w2, w3, σ'⟩ e
      cases e
      dsimp only
      unfold st_X6_inHoppers_L12
      refine s_X6_lane l 0 (by omega) rfl rfl ?_
      rw [Nat.add_zero, he]
      refine ⟨fun _ => ?_, fun c => absurd (nI_le (Nat.le_refl n) (by omega)) c⟩
      rintro z5 rfl
      rw [nI_1]
      rw [sumN] at hK
      have e : hoR (σ 12 19 0) l x1 = sumN (fun h => if σ 12 19 0 (4 + 17 * l + (1 + 2 * h)) = x1 then σ 12 19 0 (4 + 17 * l + (2 + 2 * h)) else 0) n := by
        unfold hoR
        rw [he, nI_clamp (by omega)]
      rw [← e]
      exact hK
  · exact ⟨fun _ => hq, fun c => absurd (nI_le (Nat.le_refl 4) (by decide)) c⟩
theorem s_X6_inTins {x1 x2 : Int32} (f : Nat) (hf : f < 6) (hI : IR (σ 12 19 0)) (e1 : x1 = nI f := by rfl) (hq : Q (itR (σ 12 19 0) f x2) σ) : wp_X6_inTins x1 x2 σ Q := by
  obtain ⟨h1, h2, -⟩ := IR_nT hI
  unfold wp_X6_inTins wp_X6_inTins_L5
  refine lp_acc (nT (σ 12 19 0)) (sumN (fun t => if σ 12 19 0 (73 + 7 * t) = x2 then σ 12 19 0 (74 + 7 * t + f) else 0)) (fun K k hk hK => ?_) (fun K => ?_)
  · dsimp only
    unfold st_X6_inTins_L5
    rw [h2]
    refine ⟨fun c => absurd c (nI_ge hk (by omega)), fun _ => ?_⟩
    rw [show ((73 : Int32) + (7 : Int32) * nI k) = nI (73 + 7 * k) by simp only [nI_lit, nI_add, pk_mul], nI_clamp (by omega)]
    refine ⟨vp_in_nI (by omega) (by decide), ?_⟩
    unfold wp_X6_inTins_b46
    rw [sumN] at hK
    refine ⟨fun c => ?_, fun c => ?_⟩
    · rintro z5 rfl z6 rfl
      rw [if_neg c] at hK
      rw [nI_1]
      exact hK
    · refine s_X6_inside k f (by omega) rfl e1 ?_
      rintro z5 rfl z6 rfl
      rw [if_pos c] at hK
      rw [nI_1]
      exact hK
  · dsimp only
    unfold st_X6_inTins_L5
    rw [h2]
    exact ⟨fun _ => hq, fun c => absurd (nI_le (Nat.le_refl _) (by omega)) c⟩
theorem s_X6_inAll {x1 : Int32} (f : Nat) (hf : f < 6) (hI : IR (σ 12 19 0)) (e1 : x1 = nI f := by rfl) (hq : Q (iaR (σ 12 19 0) f) σ) : wp_X6_inAll x1 σ Q :=
  s_X6_inTins f hf hI e1 (s_X6_inTins f hf hI e1 hq)
theorem s_X6_byRoom {x1 : Int32} (hI : IR (σ 12 19 0)) (hq : Q (brR (σ 12 19 0) x1) σ) : wp_X6_byRoom x1 σ Q := by
  obtain ⟨h1, h2, -⟩ := IR_nT hI
  unfold wp_X6_byRoom wp_X6_byRoom_L2
  refine lpN_rel (nT (σ 12 19 0)) (fun t a => a = (nI t, σ) ∧ ∀ j, j < t → (opB (σ 12 19 0) j && decide (ahR (σ 12 19 0) j = x1)) = false) ?_ ?_ 0 _ (Nat.zero_le _) ⟨rfl, fun j h => absurd h (Nat.not_lt_zero j)⟩
  · rintro K t ⟨w1, σ'⟩ ht ⟨e, hj⟩ hK
    cases e
    dsimp only
    unfold st_X6_byRoom_L2
    rw [h2]
    refine ⟨fun c => absurd c (nI_ge ht (by omega)), fun _ => ?_⟩
    unfold wp_X6_byRoom_L18
    refine lpN_rel (nT (σ 12 19 0)) (fun o a => a = (nI t, sumN (fun o => if opB (σ 12 19 0) o && bfB (σ 12 19 0) o t then 1 else 0) o, nI o, σ)) ?_ ?_ 0 _ (Nat.zero_le _) rfl
    · rintro K2 o ⟨u1, u2, u3, σ'⟩ ho e hK2
      cases e
      dsimp only
      unfold st_X6_byRoom_L18
      rw [h2]
      refine ⟨fun c => absurd c (nI_ge ho (by omega)), fun _ => ?_⟩
      have adv : ∀ b : Bool, b = bfB (σ 12 19 0) o t → ∀ s0 : Int32, s0 = (if b then 1 else 0) → wp_X6_byRoom_b69 x1 (fun v2 σ => K (v2, σ)) (fun v2 v3 v4 σ => K2 (v2, v3, v4, σ)) Q (nI t) (sumN (fun o => if opB (σ 12 19 0) o && bfB (σ 12 19 0) o t then 1 else 0) o) (nI o) s0 σ := by
        rintro b hb s0 rfl
        unfold wp_X6_byRoom_b69
        refine s_X6_isShipped o (by omega) rfl ?_
        unfold wp_X6_byRoom_b90 wp_X6_byRoom_b91
        by_cases c : σ 12 19 0 (73 + 7 * o) = 1
        · rw [if_pos c]
          refine ⟨fun _ => ?_, fun d => absurd d (by decide)⟩
          rintro z23 rfl z24 rfl
          exact hK2 _ (by rw [sumN, nI_1]; simp [opB, c])
        · rw [if_neg c]
          refine ⟨fun d => absurd rfl d, fun _ => ?_⟩
          cases b with
          | false =>
            refine ⟨fun _ => ?_, fun d => absurd rfl d⟩
            rintro z23 rfl z24 rfl
            exact hK2 _ (by rw [sumN, nI_1, ← hb]; simp)
          | true =>
            refine ⟨fun d => absurd d (by decide), fun _ => ?_⟩
            rintro z23 rfl z24 rfl
            exact hK2 _ (by rw [sumN, nI_1, ← hb]; simp [opB, c])
      refine s_X6_sweets o (by omega) rfl ?_
      refine s_X6_sweets t (by omega) rfl ?_
      unfold wp_X6_byRoom_b64 wp_X6_byRoom_b68
      refine ⟨fun c => ?_, fun c => ?_⟩
      · exact adv true (by simp [bfB, c]) _ rfl
      · refine s_X6_sweets o (by omega) rfl ?_
        refine s_X6_sweets t (by omega) rfl ?_
        refine ⟨fun d => ?_, fun d => ⟨fun g => ?_, fun g => ?_⟩⟩
        · exact adv false (by simp [bfB, c, d]) _ rfl
        · have g' : ¬ o < t := by
            have := (nI_leI (a := t) (b := o) (by omega) (by omega)).mp g
            omega
          exact adv false (by simp [bfB, c, g']) _ rfl
        · have g' : o < t := by
            rw [nI_leI (by omega) (by omega)] at g
            omega
          exact adv true (by simp [bfB, d, g']) _ rfl
    · rintro K2 ⟨u1, u2, u3, σ'⟩ e
      cases e
      dsimp only
      unfold st_X6_byRoom_L18
      rw [h2]
      refine ⟨fun _ => ?_, fun c => absurd (nI_le (Nat.le_refl _) (by omega)) c⟩
      have next : (opB (σ 12 19 0) t && decide (ahR (σ 12 19 0) t = x1)) = false → wp_X6_byRoom_b114 x1 (fun v2 σ => K (v2, σ)) Q (nI t) σ := by
        intro hf
        unfold wp_X6_byRoom_b114
        rintro z18 rfl
        refine hK _ ⟨by rw [nI_1], fun j hj2 => ?_⟩
        by_cases q : j = t
        · rw [q]; exact hf
        · exact hj j (by omega)
      refine s_X6_isShipped t (by omega) rfl ?_
      by_cases c : σ 12 19 0 (73 + 7 * t) = 1
      · rw [if_pos c]
        exact ⟨fun _ => next (by simp [opB, c]), fun d => absurd d (by decide)⟩
      · rw [if_neg c]
        refine ⟨fun d => absurd rfl d, fun _ => ⟨fun d => ?_, fun d => ?_⟩⟩
        · have d' : ¬ ahR (σ 12 19 0) t = x1 := d
          exact next (by simp [d'])
        · have d' : ahR (σ 12 19 0) t = x1 := d
          have hp : (opB (σ 12 19 0) t && decide (ahR (σ 12 19 0) t = x1)) = true := by simp [opB, c, d']
          unfold brR at hq
          rw [fstN_eq ht hp hj, if_pos ht] at hq
          exact hq
  · rintro K ⟨w1, σ'⟩ ⟨e, hj⟩
    cases e
    dsimp only
    unfold st_X6_byRoom_L2
    rw [h2]
    refine ⟨fun _ => ?_, fun c => absurd (nI_le (Nat.le_refl _) (by omega)) c⟩
    unfold brR at hq
    rw [fstN_none hj, if_neg (Nat.lt_irrefl _)] at hq
    exact hq
theorem s_X6_byCount {x1 : Int32} (hI : IR (σ 12 19 0)) (hq : Q (bcR (σ 12 19 0) x1) σ) : wp_X6_byCount x1 σ Q := by
  unfold wp_X6_byCount wp_X6_byCount_L2
  refine lpN_rel 6 (fun t a => a = (nI t, σ) ∧ ∀ j, j < t → (decide (¬ iaR (σ 12 19 0) j ≤ 0) && decide (cfR (σ 12 19 0) j = x1)) = false) ?_ ?_ 0 _ (Nat.zero_le _) ⟨rfl, fun j h => absurd h (Nat.not_lt_zero j)⟩
  · rintro K t ⟨w1, σ'⟩ ht ⟨e, hj⟩ hK
    cases e
    dsimp only
    unfold st_X6_byCount_L2
    refine ⟨fun c => absurd c (ge_6 ht), fun _ => ?_⟩
    unfold wp_X6_byCount_L13
    refine lpN_rel 6 (fun o a => a = (nI t, sumN (fun o => if cfB (σ 12 19 0) o t then 1 else 0) o, nI o, σ)) ?_ ?_ 0 _ (Nat.zero_le _) rfl
    · rintro K2 o ⟨u1, u2, u3, σ'⟩ ho e hK2
      cases e
      dsimp only
      unfold st_X6_byCount_L13
      refine ⟨fun c => absurd c (ge_6 ho), fun _ => ?_⟩
      refine s_X6_inAll o ho hI rfl ?_
      refine s_X6_inAll t ht hI rfl ?_
      unfold wp_X6_byCount_b55 wp_X6_byCount_b59 wp_X6_byCount_b60
      refine ⟨fun c => ?_, fun c => ?_⟩
      · rintro z19 rfl z20 rfl
        exact hK2 _ (by rw [sumN, nI_1]; simp [cfB, c])
      · refine s_X6_inAll o ho hI rfl ?_
        refine s_X6_inAll t ht hI rfl ?_
        refine ⟨fun d => ?_, fun d => ⟨fun g => ?_, fun g => ?_⟩⟩
        · rintro z19 rfl z20 rfl
          exact hK2 _ (by rw [sumN, nI_1]; simp [cfB, c, d])
        · have g' : ¬ o < t := by
            have := (nI_leI (a := t) (b := o) (by omega) (by omega)).mp g
            omega
          rintro z19 rfl z20 rfl
          exact hK2 _ (by rw [sumN, nI_1]; simp [cfB, c, g'])
        · have g' : o < t := by
            rw [nI_leI (by omega) (by omega)] at g
            omega
          rintro z19 rfl z20 rfl
          exact hK2 _ (by rw [sumN, nI_1]; simp [cfB, d, g'])
    · rintro K2 ⟨u1, u2, u3, σ'⟩ e
      cases e
      dsimp only
      unfold st_X6_byCount_L13
      refine ⟨fun _ => ?_, fun c => absurd (nI_le (Nat.le_refl 6) (by decide)) c⟩
      have next : (decide (¬ iaR (σ 12 19 0) t ≤ 0) && decide (cfR (σ 12 19 0) t = x1)) = false → wp_X6_byCount_b83 x1 (fun v2 σ => K (v2, σ)) Q (nI t) σ := by
        intro hf
        unfold wp_X6_byCount_b83
        rintro z18 rfl
        refine hK _ ⟨by rw [nI_1], fun j hj2 => ?_⟩
        by_cases q : j = t
        · rw [q]; exact hf
        · exact hj j (by omega)
      refine s_X6_inAll t ht hI rfl ?_
      refine ⟨fun c => next (by simp [c]), fun c => ⟨fun d => ?_, fun d => ?_⟩⟩
      · have d' : ¬ cfR (σ 12 19 0) t = x1 := d
        exact next (by simp [d'])
      · have d' : cfR (σ 12 19 0) t = x1 := d
        have hp : (decide (¬ iaR (σ 12 19 0) t ≤ 0) && decide (cfR (σ 12 19 0) t = x1)) = true := by rw [decide_eq_true c, decide_eq_true d']; rfl
        unfold bcR at hq
        rw [fstN_eq ht hp hj, if_pos ht] at hq
        exact hq
  · rintro K ⟨w1, σ'⟩ ⟨e, hj⟩
    cases e
    dsimp only
    unfold st_X6_byCount_L2
    refine ⟨fun _ => ?_, fun c => absurd (nI_le (Nat.le_refl 6) (by decide)) c⟩
    unfold bcR at hq
    rw [fstN_none hj, if_neg (Nat.lt_irrefl _)] at hq
    exact hq
theorem s_X6_tinSet {x1 : Int32} (hI : IR (σ 12 19 0)) (hq : Q (tsR (σ 12 19 0) x1) σ) : wp_X6_tinSet x1 σ Q := by
  obtain ⟨h1, h2, -⟩ := IR_nT hI
  unfold wp_X6_tinSet wp_X6_tinSet_L4
  refine lp_acc (nT (σ 12 19 0)) (orN (fun t => if σ 12 19 0 (73 + 7 * t) = x1 then bitN t else 0)) (fun K k hk hK => ?_) (fun K => ?_)
  · dsimp only
    unfold st_X6_tinSet_L4
    rw [h2]
    refine ⟨fun c => absurd c (nI_ge hk (by omega)), fun _ => ?_⟩
    rw [show ((73 : Int32) + (7 : Int32) * nI k) = nI (73 + 7 * k) by simp only [nI_lit, nI_add, pk_mul], nI_clamp (by omega)]
    refine ⟨vp_in_nI (by omega) (by decide), ?_⟩
    unfold wp_X6_tinSet_b39
    rw [orN] at hK
    refine ⟨fun c => ?_, fun c => ?_⟩
    · rintro z5 rfl z6 rfl
      rw [if_neg c] at hK
      rw [nI_1]
      exact hK
    · rintro z5 rfl z6 rfl
      rw [if_pos c] at hK
      rw [nI_1]
      exact hK
  · dsimp only
    unfold st_X6_tinSet_L4
    rw [h2]
    exact ⟨fun _ => hq, fun c => absurd (nI_le (Nat.le_refl _) (by omega)) c⟩
theorem s_X6_lanes {x1 : Int32} (w : Nat) (hw : w < 17) (e1 : x1 = nI w := by rfl) (hq : Q (lnR (σ 12 19 0) w) σ) : wp_X6_lanes x1 σ Q := by
  unfold wp_X6_lanes wp_X6_lanes_L4
  refine lp_acc 4 (sumN (fun l => σ 12 19 0 (4 + 17 * l + w))) (fun K k hk hK => ?_) (fun K => ?_)
  · dsimp only
    unfold st_X6_lanes_L4
    refine ⟨fun c => absurd c (ge_4 hk), fun _ => ⟨fun _ => ?_, fun c => absurd (by rw [e1]; exact nI_pos' (by omega)) c⟩⟩
    refine s_X6_lane k w (by omega) rfl e1 ?_
    unfold wp_X6_lanes_b28
    rintro z7 rfl z8 rfl
    rw [nI_1]
    exact hK
  · exact ⟨fun _ => hq, fun c => absurd (nI_le (Nat.le_refl 4) (by decide)) c⟩
theorem s_X6_lanesH (hI : IR (σ 12 19 0)) (hq : Q (lhR (σ 12 19 0)) σ) : wp_X6_lanes (-1) σ Q := by
  unfold wp_X6_lanes wp_X6_lanes_L4
  refine lp_acc 4 (sumN (fun l => hpR (σ 12 19 0) l)) (fun K k hk hK => ?_) (fun K => ?_)
  · dsimp only
    unfold st_X6_lanes_L4
    refine ⟨fun c => absurd c (ge_4 hk), fun _ => ⟨fun c => absurd c (by decide), fun _ => ?_⟩⟩
    obtain ⟨n, hn, he, -⟩ := hI.2.2.2.2.2.1 k hk
    refine s_X6_inHopper k n hk hn rfl he ?_
    unfold wp_X6_lanes_b28
    rintro z7 rfl z8 rfl
    rw [nI_1]
    exact hK
  · exact ⟨fun _ => hq, fun c => absurd (nI_le (Nat.le_refl 4) (by decide)) c⟩
theorem s_X6_shippedSweets (hI : IR (σ 12 19 0)) (hq : Q (ssR (σ 12 19 0)) σ) : wp_X6_shippedSweets σ Q := by
  unfold wp_X6_shippedSweets wp_X6_shippedSweets_L4
  refine lp_acc 6 (sumN (fun f => itR (σ 12 19 0) f 1)) (fun K k hk hK => ?_) (fun K => ?_)
  · dsimp only
    unfold st_X6_shippedSweets_L4
    refine ⟨fun c => absurd c (ge_6 hk), fun _ => ?_⟩
    refine s_X6_inTins k hk hI rfl ?_
    rintro z7 rfl z8 rfl
    rw [nI_1]
    exact hK
  · exact ⟨fun _ => hq, fun c => absurd (nI_le (Nat.le_refl 6) (by decide)) c⟩
theorem s_X6_failing (hI : IR (σ 12 19 0)) (hq : Q (flR (σ 12 19 0)) σ) : wp_X6_failing σ Q := by
  unfold wp_X6_failing wp_X6_failing_L4
  refine lp_acc 4 (orN (fun l => if rsR (σ 12 19 0) l ≤ 0 then 0 else bitN l)) (fun K k hk hK => ?_) (fun K => ?_)
  · dsimp only
    unfold st_X6_failing_L4
    refine ⟨fun c => absurd c (ge_4 hk), fun _ => ?_⟩
    have h := s_X6_reasonI (σ := σ) (r := σ 12 19 0) (x1 := nI k) (Q := fun r2 σ3 => ((r2 ≤ 0 → wp_X6_failing_b25 (fun v1 v2 σ => K (v1, v2, σ)) Q (nI k) (0 : Int32) (orN (fun l => if rsR (σ 12 19 0) l ≤ 0 then 0 else bitN l) k) σ3) ∧ (¬ r2 ≤ 0 → wp_X6_failing_b25 (fun v1 v2 σ => K (v1, v2, σ)) Q (nI k) ((1 : Int32) <<< (nI k &&& 31)) (orN (fun l => if rsR (σ 12 19 0) l ≤ 0 then 0 else bitN l) k) σ3))) k hk hI rfl
    rw [sr_self] at h
    refine h ?_
    unfold wp_X6_failing_b25
    rw [orN] at hK
    refine ⟨fun c => ?_, fun c => ?_⟩
    · rintro z5 rfl z6 rfl
      rw [if_pos c] at hK
      rw [nI_1]
      exact hK
    · rintro z5 rfl z6 rfl
      rw [if_neg c] at hK
      rw [nI_1]
      exact hK
  · exact ⟨fun _ => hq, fun c => absurd (nI_le (Nat.le_refl 4) (by decide)) c⟩
end RB
