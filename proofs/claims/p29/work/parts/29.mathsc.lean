/-! More reads of the reference. -/
theorem lp_acc {F : (Int32 × Int32 × Sg → Prop) → Int32 × Int32 × Sg → Prop} {σ : Sg} (n : Nat) (f : Nat → Int32) (hs : ∀ (K : Int32 × Int32 × Sg → Prop) (k : Nat), k < n → K (f (k + 1), nI (k + 1), σ) → F K (f k, nI k, σ)) (hl : ∀ K : Int32 × Int32 × Sg → Prop, F K (f n, nI n, σ)) : ∃ m, lpN F m (f 0, nI 0, σ) := by
  refine lpN_rel n (fun k a => a = (f k, nI k, σ)) ?_ ?_ 0 _ (Nat.zero_le _) rfl
  · rintro K k a hk rfl hK
    exact hs K k hk (hK _ rfl)
  · rintro K a rfl
    exact hl K
theorem sumN_ext {f : Nat → Int32} {T n : Nat} (h : T ≤ n) (h0 : ∀ k, T ≤ k → k < n → f k = 0) : sumN f n = sumN f T := by
  induction n with
  | zero => have e : T = 0 := by omega
            rw [e]
  | succ n ih =>
    by_cases e : T = n + 1
    · rw [e]
    · rw [sumN, h0 n (by omega) (by omega), i_add0]
      exact ih (by omega) (fun k h1 h2 => h0 k h1 (by omega))
theorem orN_ext {f : Nat → Int32} {T n : Nat} (h : T ≤ n) (h0 : ∀ k, T ≤ k → k < n → f k = 0) : orN f n = orN f T := by
  induction n with
  | zero => have e : T = 0 := by omega
            rw [e]
  | succ n ih =>
    by_cases e : T = n + 1
    · rw [e]
    · rw [orN, h0 n (by omega) (by omega)]
      simp only [Int32.or_zero]
      exact ih (by omega) (fun k h1 h2 => h0 k h1 (by omega))
def nT (r : Nat → Int32) : Nat := (r 72).toNatClampNeg
def ihR (r : Nat → Int32) (x : Int32) : Int32 := sumN (fun l => hoR r l x) 4
def itR (r : Nat → Int32) (f : Nat) (x : Int32) : Int32 := sumN (fun t => if r (73 + 7 * t) = x then r (74 + 7 * t + f) else 0) (nT r)
def iaR (r : Nat → Int32) (f : Nat) : Int32 := itR r f 0 + itR r f 1
def opB (r : Nat → Int32) (t : Nat) : Bool := decide (¬ r (73 + 7 * t) = 1)
def bfB (r : Nat → Int32) (o t : Nat) : Bool := decide (swR r t < swR r o) || (decide (swR r o = swR r t) && decide (o < t))
def ahR (r : Nat → Int32) (t : Nat) : Int32 := sumN (fun o => if opB r o && bfB r o t then 1 else 0) (nT r)
def brR (r : Nat → Int32) (x : Int32) : Int32 := if fstN (fun t => opB r t && decide (ahR r t = x)) (nT r) < nT r then nI (fstN (fun t => opB r t && decide (ahR r t = x)) (nT r)) else -1
def cfB (r : Nat → Int32) (o f : Nat) : Bool := decide (iaR r f < iaR r o) || (decide (iaR r o = iaR r f) && decide (o < f))
def cfR (r : Nat → Int32) (f : Nat) : Int32 := sumN (fun o => if cfB r o f then 1 else 0) 6
def bcR (r : Nat → Int32) (x : Int32) : Int32 := if fstN (fun f => decide (¬ iaR r f ≤ 0) && decide (cfR r f = x)) 6 < 6 then nI (fstN (fun f => decide (¬ iaR r f ≤ 0) && decide (cfR r f = x)) 6) else -1
def tsR (r : Nat → Int32) (x : Int32) : Int32 := orN (fun t => if r (73 + 7 * t) = x then bitN t else 0) (nT r)
def lnR (r : Nat → Int32) (w : Nat) : Int32 := sumN (fun l => r (4 + 17 * l + w)) 4
def lhR (r : Nat → Int32) : Int32 := sumN (fun l => hpR r l) 4
def ssR (r : Nat → Int32) : Int32 := sumN (fun f => itR r f 1) 6
def flR (r : Nat → Int32) : Int32 := orN (fun l => if rsR r l ≤ 0 then 0 else bitN l) 4
def tnR (r : Nat → Int32) (t : Nat) : Int32 := orN (fun f => if tkB r t f then bitN f else 0) 6
def tfoR (r : Nat → Int32) : Int32 := sumN (fun f => (ihR r (nI f) + r 2 - 1) / r 2) 6
theorem nT_of {r : Nat → Int32} {T : Nat} (h : r 72 = nI T) (h2 : T ≤ 16) : nT r = T := by unfold nT; rw [h, nI_clamp (by omega)]
theorem IR_nT {r : Nat → Int32} (hI : IR r) : nT r ≤ 16 ∧ r 72 = nI (nT r) ∧ ∀ t, nT r ≤ t → t < 16 → r (73 + 7 * t) = 0 ∧ ∀ f, f < 6 → r (74 + 7 * t + f) = 0 := by
  obtain ⟨T, h1, h2, h3⟩ := hI.2.2.2.2.1
  rw [nT_of h2 h1]
  exact ⟨h1, h2, h3⟩
/-- what a find gives: the first that is so, or the other answer -/
theorem fstN_cases (p : Nat → Bool) (n : Nat) : (fstN p n = n ∧ ∀ j, j < n → p j = false) ∨ (fstN p n < n ∧ p (fstN p n) = true ∧ ∀ j, j < fstN p n → p j = false) := by
  by_cases h : ∃ k, k < n ∧ p k = true
  · obtain ⟨k, ⟨h1, h2⟩, h3⟩ := pk_least (fun k => k < n ∧ p k = true) h
    have hj : ∀ j, j < k → p j = false := fun j hj => by
      cases e : p j with
      | false => rfl
      | true => exact absurd ⟨by omega, e⟩ (h3 j hj)
    have e := fstN_eq h1 h2 hj
    exact Or.inr ⟨by rw [e]; exact h1, by rw [e]; exact h2, by rw [e]; exact hj⟩
  · have hj : ∀ j, j < n → p j = false := fun j hj => by
      cases e : p j with
      | false => rfl
      | true => exact absurd ⟨j, hj, e⟩ h
    exact Or.inl ⟨fstN_none hj, hj⟩
section RB
variable {σ : Sg} {Q : Int32 → Sg → Prop}
end RB

/-! More reads of the class, and the calls that only read. -/
section CB
variable {σ : Sg} {Q : Int32 → Sg → Prop} {m : Nat} {r : Nat → Int32}
theorem s_X2_isTin {x : Int32} (hM : MR (σ m) r) (hI : IR r) (h1 : ∀ t, t < nT r → t < 16 → x = nI t → Q 1 σ) (h0 : (x < 0 ∨ nI (nT r) ≤ x) → Q 0 σ) : wp_X2_isTin m x σ Q := by
  obtain ⟨g1, g2, -⟩ := IR_nT hI
  unfold wp_X2_isTin
  rw [hM.2.1.1, g2]
  refine s_isIndex2 (by omega) (fun j hj e => ?_) (fun c => ?_)
  · refine ⟨fun c => absurd c (by decide), fun _ => ?_⟩
    exact ⟨fun c => absurd c (by rw [e]; exact ge_16 (by omega)), fun _ => h1 j hj (by omega) e⟩
  · exact ⟨fun _ => h0 c, fun c => absurd rfl c⟩
theorem s_X2_isTin2 {x : Int32} (hM : MR (σ m) r) (hI : IR r) (t : Nat) (ht : t < 16) (e : x = nI t := by rfl) (hq : Q (if t < nT r then 1 else 0) σ) : wp_X2_isTin m x σ Q := by
  subst e
  obtain ⟨g1, -, -⟩ := IR_nT hI
  refine s_X2_isTin hM hI (fun j hj _ e => ?_) (fun c => ?_)
  · rw [if_pos (by rw [(nI_eq (by omega) (by omega)).mp e]; exact hj)] at hq
    exact hq
  · have z : ¬ t < nT r := by
      rcases c with c | c
      · exact absurd c (nI_pos (by omega))
      · have := (nI_leI (a := nT r) (b := t) (by omega) (by omega)).mp c
        omega
    rw [if_neg z] at hq
    exact hq
theorem s_X2_isOpen {x : Int32} (hM : MR (σ m) r) (hI : IR r) (t : Nat) (ht : t < 16) (e : x = nI t := by rfl) (hq : Q (if decide (t < nT r) && opB r t then 1 else 0) σ) : wp_X2_isOpen m x σ Q := by
  subst e
  unfold wp_X2_isOpen
  refine s_X2_isTin2 hM hI t ht rfl ?_
  by_cases c : t < nT r
  · rw [if_pos c]
    refine ⟨fun c => absurd c (by decide), fun _ => ⟨vp_in_nI (by omega) (by decide), ?_⟩⟩
    rintro a5 rfl
    rw [nI_clamp (by omega), (hM.2.2.2.2 t ht).2.2.1]
    rcases (hI.2.2.2.2.2.2 t ht).1 with z | z
    · refine ⟨fun d => absurd z d, fun _ => ?_⟩
      simp [opB, z, c] at hq
      exact hq
    · refine ⟨fun _ => ?_, fun d => absurd (z.symm.trans d) (by decide)⟩
      simp [opB, z] at hq
      exact hq
  · rw [if_neg c]
    refine ⟨fun _ => ?_, fun d => absurd rfl d⟩
    simp [c] at hq
    exact hq
theorem s_X2_flavoursTakenBy (hM : MR (σ m) r) (hI : IR r) (t : Nat) (ht : t < 16) (hq : Q (tnR r t) σ) : wp_X2_flavoursTakenBy m t σ Q := by
  unfold wp_X2_flavoursTakenBy wp_X2_flavoursTakenBy_L4
  refine lp_acc 6 (orN (fun f => if tkB r t f then bitN f else 0)) (fun K k hk hK => ?_) (fun K => ?_)
  · dsimp only
    unfold st_X2_flavoursTakenBy_L4
    refine ⟨fun c => absurd c (ge_6 hk), fun _ => ⟨vp_in_nI (by omega) (by decide), ?_⟩⟩
    rw [nI_clamp (by omega)]
    refine s_X4_hasRoomFor hM hI t k ht (hM.1 2 (by decide)) (hM.2.2.1 k hk) ?_
    unfold wp_X2_flavoursTakenBy_b35
    rw [orN] at hK
    cases h : tkB r t k with
    | false =>
      rw [h] at hK
      refine ⟨fun _ => ?_, fun c => absurd rfl c⟩
      rintro z6 rfl
      rw [nI_1]
      have hK' := hK
      simp at hK'
      exact hK'
    | true =>
      rw [h] at hK
      refine ⟨fun c => absurd c (by decide), fun _ => ?_⟩
      rintro z5 rfl z6 rfl
      rw [nI_1]
      exact hK
  · exact ⟨fun _ => hq, fun c => absurd (nI_le (Nat.le_refl 6) (by decide)) c⟩
theorem s_X2_tinsThatAre {x : Int32} (hM : MR (σ m) r) (hI : IR r) (hq : Q (tsR r x) σ) : wp_X2_tinsThatAre m x σ Q := by
  obtain ⟨g1, g2, -⟩ := IR_nT hI
  unfold wp_X2_tinsThatAre wp_X2_tinsThatAre_L4
  refine lp_acc 16 (orN (fun t => if t < nT r ∧ r (73 + 7 * t) = x then bitN t else 0)) (fun K k hk hK => ?_) (fun K => ?_)
  · dsimp only
    unfold st_X2_tinsThatAre_L4
    refine ⟨fun c => absurd c (ge_16 hk), fun _ => ?_⟩
    refine s_X2_isTin2 hM hI k hk rfl ?_
    unfold wp_X2_tinsThatAre_b37
    rw [orN] at hK
    by_cases c : k < nT r
    · rw [if_pos c]
      refine ⟨fun c => absurd c (by decide), fun _ => ⟨vp_in_nI (by omega) (by decide), ?_⟩⟩
      rintro a6 rfl
      rw [nI_clamp (by omega), (hM.2.2.2.2 k hk).2.2.1]
      refine ⟨fun d => ?_, fun d => ?_⟩
      · rintro z9 rfl
        rw [if_neg (fun z => d z.2), Int32.or_zero] at hK
        rw [nI_1]
        exact hK
      · rintro z8 rfl z9 rfl
        rw [if_pos ⟨c, d⟩] at hK
        rw [nI_1]
        exact hK
    · rw [if_neg c]
      refine ⟨fun _ => ?_, fun d => absurd rfl d⟩
      rintro z9 rfl
      rw [if_neg (fun z => c z.1), Int32.or_zero] at hK
      rw [nI_1]
      exact hK
  · refine ⟨fun _ => ?_, fun c => absurd (nI_le (Nat.le_refl 16) (by decide)) c⟩
    rw [orN_ext g1 (fun k h1 _ => if_neg (fun z => by omega)), orN_congr (g := fun t => if r (73 + 7 * t) = x then bitN t else 0) (fun k hk => by simp only [hk, true_and])]
    exact hq
theorem s_X2_sweetsInTins {x1 x2 : Int32} (f : Nat) (hf : f < 6) (hM : MR (σ m) r) (hI : IR r) (e1 : x1 = nI f := by rfl) (hq : Q (itR r f x2) σ) : wp_X2_sweetsInTins m x1 x2 σ Q := by
  subst e1
  obtain ⟨g1, g2, g3⟩ := IR_nT hI
  unfold wp_X2_sweetsInTins wp_X2_sweetsInTins_L5
  refine lp_acc 16 (sumN (fun t => if r (73 + 7 * t) = x2 then r (74 + 7 * t + f) else 0)) (fun K k hk hK => ?_) (fun K => ?_)
  · dsimp only
    unfold st_X2_sweetsInTins_L5
    refine ⟨fun c => absurd c (ge_16 hk), fun _ => ⟨vp_in_nI (by omega) (by decide), ?_⟩⟩
    rintro a3 rfl
    obtain ⟨-, -, b3, b4⟩ := hM.2.2.2.2 k hk
    rw [nI_clamp (by omega), b3]
    unfold wp_X2_sweetsInTins_b41
    rw [sumN] at hK
    refine ⟨fun d => ?_, fun d => ⟨vp_in_nI (by omega) (by decide), ?_⟩⟩
    · rintro z8 rfl
      rw [if_neg d, i_add0] at hK
      rw [nI_1]
      exact hK
    · intro a6 e6
      rw [e6, nI_clamp (n := f) (by omega), b4 f hf]
      refine ⟨vp_in_nI hf (by decide), ?_⟩
      rintro z7 rfl z8 rfl
      rw [if_pos d] at hK
      rw [nI_1]
      exact hK
  · refine ⟨fun _ => ?_, fun c => absurd (nI_le (Nat.le_refl 16) (by decide)) c⟩
    rw [sumN_ext g1 (fun k h1 h2 => by rw [(g3 k h1 h2).2 f hf]; split <;> rfl)]
    exact hq
theorem s_X2_sweetsInAllTins {x1 : Int32} (f : Nat) (hf : f < 6) (hM : MR (σ m) r) (hI : IR r) (e1 : x1 = nI f := by rfl) (hq : Q (iaR r f) σ) : wp_X2_sweetsInAllTins m x1 σ Q :=
  s_X2_sweetsInTins f hf hM hI e1 (s_X2_sweetsInTins f hf hM hI e1 hq)
theorem s_X2_sweetsShipped (hM : MR (σ m) r) (hI : IR r) (hq : Q (ssR r) σ) : wp_X2_sweetsShipped m σ Q := by
  unfold wp_X2_sweetsShipped wp_X2_sweetsShipped_L4
  refine lp_acc 6 (sumN (fun f => itR r f 1)) (fun K k hk hK => ?_) (fun K => ?_)
  · dsimp only
    unfold st_X2_sweetsShipped_L4
    refine ⟨fun c => absurd c (ge_6 hk), fun _ => ?_⟩
    refine s_X2_sweetsInTins k hk hM hI rfl ?_
    rintro z4 rfl z5 rfl
    rw [nI_1]
    exact hK
  · exact ⟨fun _ => hq, fun c => absurd (nI_le (Nat.le_refl 6) (by decide)) c⟩
theorem s_X2_sweetsInHoppers {x1 : Int32} (hM : MR (σ m) r) (hI : IR r) (hq : Q (ihR r x1) σ) : wp_X2_sweetsInHoppers m x1 σ Q := by
  unfold wp_X2_sweetsInHoppers wp_X2_sweetsInHoppers_L4
  refine lp_acc 4 (sumN (fun l => hoR r l x1)) (fun K l hl hK => ?_) (fun K => ?_)
  · dsimp only
    unfold st_X2_sweetsInHoppers_L4
    refine ⟨fun c => absurd c (ge_4 hl), fun _ => ⟨vp_in_nI (by omega) (by decide), ?_⟩⟩
    rintro a3 rfl
    obtain ⟨n, hn, he, -⟩ := hI.2.2.2.2.2.1 l hl
    rw [nI_clamp (by omega)]
    refine s_X1_sweetsOf hM l n hl hn he ?_
    rintro z6 rfl z7 rfl
    rw [nI_1]
    exact hK
  · exact ⟨fun _ => hq, fun c => absurd (nI_le (Nat.le_refl 4) (by decide)) c⟩
theorem s_X2_openTinsAhead {x : Int32} (hM : MR (σ m) r) (hI : IR r) (t : Nat) (ht : t < 16) (e1 : x = nI t := by rfl) (hq : Q (ahR r t) σ) : wp_X2_openTinsAhead m x σ Q := by
  subst e1
  obtain ⟨g1, g2, g3⟩ := IR_nT hI
  unfold wp_X2_openTinsAhead wp_X2_openTinsAhead_L4
  refine lp_acc 16 (sumN (fun o => if decide (o < nT r) && opB r o && bfB r o t then 1 else 0)) (fun K k hk hK => ?_) (fun K => ?_)
  · dsimp only
    unfold st_X2_openTinsAhead_L4
    refine ⟨fun c => absurd c (ge_16 hk), fun _ => ⟨vp_in_nI (by omega) (by decide), ?_⟩⟩
    rintro a3 rfl
    refine ⟨vp_in_nI (by omega) (by decide), ?_⟩
    rintro a5 rfl
    rw [nI_clamp (n := k) (by omega), nI_clamp (n := t) (by omega), (hM.2.2.2.2 k hk).2.1, (hM.2.2.2.2 t ht).2.1]
    have adv : ∀ b : Bool, b = bfB r k t → ∀ s0 : Int32, s0 = (if b then 1 else 0) → wp_X2_openTinsAhead_b62 m (nI t) (fun v2 v3 σ => K (v2, v3, σ)) Q (sumN (fun o => if decide (o < nT r) && opB r o && bfB r o t then 1 else 0) k) (nI k) s0 σ := by
      rintro b hb s0 rfl
      unfold wp_X2_openTinsAhead_b62 wp_X2_openTinsAhead_b80
      refine s_X2_isOpen hM hI k hk rfl ?_
      rw [sumN, ← hb] at hK
      cases h : (decide (k < nT r) && opB r k) with
      | false =>
        rw [h] at hK
        refine ⟨fun _ => ?_, fun d => absurd rfl d⟩
        rintro z18 rfl
        rw [nI_1]
        have hK' : K (sumN (fun o => if decide (o < nT r) && opB r o && bfB r o t then 1 else 0) k + 0, nI (k + 1), σ) := hK
        rw [i_add0] at hK'
        exact hK'
      | true =>
        rw [h] at hK
        refine ⟨fun d => absurd d (by decide), fun _ => ?_⟩
        cases b with
        | false =>
          refine ⟨fun _ => ?_, fun d => absurd rfl d⟩
          rintro z18 rfl
          rw [nI_1]
          have hK' : K (sumN (fun o => if decide (o < nT r) && opB r o && bfB r o t then 1 else 0) k + 0, nI (k + 1), σ) := hK
          rw [i_add0] at hK'
          exact hK'
        | true =>
          refine ⟨fun d => absurd d (by decide), fun _ => ?_⟩
          rintro z17 rfl z18 rfl
          rw [nI_1]
          exact hK
    unfold wp_X2_openTinsAhead_b61 wp_X2_openTinsAhead_b57
    refine ⟨fun c => ?_, fun c => ⟨vp_in_nI (by omega) (by decide), ?_⟩⟩
    · exact adv true (by simp [bfB, c]) _ rfl
    · intro a8 e8
      refine ⟨vp_in_nI (by omega) (by decide), ?_⟩
      intro a10 e10
      rw [e8, e10, (hM.2.2.2.2 k hk).2.1, (hM.2.2.2.2 t ht).2.1]
      refine ⟨fun d => ?_, fun d => ⟨fun g => ?_, fun g => ?_⟩⟩
      · exact adv false (by simp [bfB, c, d]) _ rfl
      · have g' : ¬ k < t := by
          have := (nI_leI (a := t) (b := k) (by omega) (by omega)).mp g
          omega
        exact adv false (by simp [bfB, c, g']) _ rfl
      · have g' : k < t := by
          rw [nI_leI (by omega) (by omega)] at g
          omega
        exact adv true (by simp [bfB, d, g']) _ rfl
  · refine ⟨fun _ => ?_, fun c => absurd (nI_le (Nat.le_refl 16) (by decide)) c⟩
    rw [sumN_ext g1 (fun k h1 _ => by simp [Nat.not_lt.mpr h1]), sumN_congr (g := fun o => if opB r o && bfB r o t then 1 else 0) (fun k hk => by simp only [hk, decide_true, Bool.true_and])]
    exact hq
theorem s_X2_tinOfRank {x : Int32} (hM : MR (σ m) r) (hI : IR r) (hq : Q (brR r x) σ) : wp_X2_tinOfRank m x σ Q := by
  obtain ⟨g1, g2, g3⟩ := IR_nT hI
  unfold wp_X2_tinOfRank wp_X2_tinOfRank_L2
  refine lpN_rel 16 (fun t a => a = (nI t, σ) ∧ ∀ j, j < t → j < nT r → (opB r j && decide (ahR r j = x)) = false) ?_ ?_ 0 _ (Nat.zero_le _) ⟨rfl, fun j h => absurd h (Nat.not_lt_zero j)⟩
  · rintro K t ⟨w1, σ'⟩ ht ⟨e, hj⟩ hK
    cases e
    dsimp only
    unfold st_X2_tinOfRank_L2
    refine ⟨fun c => absurd c (ge_16 ht), fun _ => ?_⟩
    have next : (t < nT r → (opB r t && decide (ahR r t = x)) = false) → wp_X2_tinOfRank_b27 m x (fun v2 σ => K (v2, σ)) Q (nI t) σ := by
      intro hf
      unfold wp_X2_tinOfRank_b27
      rintro z8 rfl
      refine hK _ ⟨by rw [nI_1], fun j hj2 hj3 => ?_⟩
      by_cases q : j = t
      · rw [q]; exact hf (q ▸ hj3)
      · exact hj j (by omega) hj3
    refine s_X2_isOpen hM hI t ht rfl ?_
    by_cases c : t < nT r
    · cases h : opB r t with
      | false =>
        rw [decide_eq_true c]
        exact ⟨fun _ => next (fun _ => by rw [h]; rfl), fun d => absurd rfl d⟩
      | true =>
        rw [decide_eq_true c]
        refine ⟨fun d => absurd d (by decide), fun _ => ?_⟩
        refine s_X2_openTinsAhead hM hI t ht rfl ⟨fun d => next (fun _ => by simp [d]), fun d => ?_⟩
        have hp : (opB r t && decide (ahR r t = x)) = true := by simp [h, d]
        unfold brR at hq
        rw [fstN_eq c hp (fun j z => hj j z (by omega)), if_pos c] at hq
        exact hq
    · rw [decide_eq_false c]
      exact ⟨fun _ => next (fun z => absurd z c), fun d => absurd rfl d⟩
  · rintro K ⟨w1, σ'⟩ ⟨e, hj⟩
    cases e
    dsimp only
    unfold st_X2_tinOfRank_L2
    refine ⟨fun _ => ?_, fun c => absurd (nI_le (Nat.le_refl 16) (by decide)) c⟩
    unfold brR at hq
    rw [fstN_none (fun j z => hj j (by omega) z), if_neg (Nat.lt_irrefl _)] at hq
    exact hq
theorem s_X2_flavoursAhead {x : Int32} (hM : MR (σ m) r) (hI : IR r) (t : Nat) (ht : t < 6) (e1 : x = nI t := by rfl) (hq : Q (cfR r t) σ) : wp_X2_flavoursAhead m x σ Q := by
  subst e1
  unfold wp_X2_flavoursAhead
  refine s_X2_sweetsInAllTins t ht hM hI rfl ?_
  unfold wp_X2_flavoursAhead_L11
  refine lpN_rel 6 (fun o a => a = (iaR r t, sumN (fun o => if cfB r o t then 1 else 0) o, nI o, σ)) ?_ ?_ 0 _ (Nat.zero_le _) rfl
  · rintro K o ⟨u1, u2, u3, σ'⟩ ho e hK
    cases e
    dsimp only
    unfold st_X2_flavoursAhead_L11
    refine ⟨fun c => absurd c (ge_6 ho), fun _ => ?_⟩
    refine s_X2_sweetsInAllTins o ho hM hI rfl ?_
    unfold wp_X2_flavoursAhead_b44 wp_X2_flavoursAhead_b47
    refine ⟨fun c => ?_, fun c => ⟨fun d => ?_, fun d => ⟨fun g => ?_, fun g => ?_⟩⟩⟩
    · rintro z10 rfl z9 rfl
      exact hK _ (by rw [sumN, nI_1]; simp [cfB, c])
    · rintro z9 rfl
      exact hK _ (by rw [sumN, nI_1]; simp [cfB, c, d])
    · have g' : ¬ o < t := by
        have := (nI_leI (a := t) (b := o) (by omega) (by omega)).mp g
        omega
      rintro z9 rfl
      exact hK _ (by rw [sumN, nI_1]; simp [cfB, c, g'])
    · have g' : o < t := by
        rw [nI_leI (by omega) (by omega)] at g
        omega
      rintro z10 rfl z9 rfl
      exact hK _ (by rw [sumN, nI_1]; simp [cfB, d, g'])
  · rintro K ⟨u1, u2, u3, σ'⟩ e
    cases e
    dsimp only
    unfold st_X2_flavoursAhead_L11
    exact ⟨fun _ => hq, fun c => absurd (nI_le (Nat.le_refl 6) (by decide)) c⟩
theorem s_X2_flavourOfRank {x : Int32} (hM : MR (σ m) r) (hI : IR r) (hq : Q (bcR r x) σ) : wp_X2_flavourOfRank m x σ Q := by
  unfold wp_X2_flavourOfRank wp_X2_flavourOfRank_L2
  refine lpN_rel 6 (fun t a => a = (nI t, σ) ∧ ∀ j, j < t → (decide (¬ iaR r j ≤ 0) && decide (cfR r j = x)) = false) ?_ ?_ 0 _ (Nat.zero_le _) ⟨rfl, fun j h => absurd h (Nat.not_lt_zero j)⟩
  · rintro K t ⟨w1, σ'⟩ ht ⟨e, hj⟩ hK
    cases e
    dsimp only
    unfold st_X2_flavourOfRank_L2
    refine ⟨fun c => absurd c (ge_6 ht), fun _ => ?_⟩
    have next : (decide (¬ iaR r t ≤ 0) && decide (cfR r t = x)) = false → wp_X2_flavourOfRank_b27 m x (fun v2 σ => K (v2, σ)) Q (nI t) σ := by
      intro hf
      unfold wp_X2_flavourOfRank_b27
      rintro z8 rfl
      refine hK _ ⟨by rw [nI_1], fun j hj2 => ?_⟩
      by_cases q : j = t
      · rw [q]; exact hf
      · exact hj j (by omega)
    refine s_X2_sweetsInAllTins t ht hM hI rfl ?_
    refine ⟨fun c => next (by simp [c]), fun c => ?_⟩
    refine s_X2_flavoursAhead hM hI t ht rfl ⟨fun d => next (by simp [d]), fun d => ?_⟩
    have hp : (decide (¬ iaR r t ≤ 0) && decide (cfR r t = x)) = true := by rw [decide_eq_true c, decide_eq_true d]; rfl
    unfold bcR at hq
    rw [fstN_eq ht hp hj, if_pos ht] at hq
    exact hq
  · rintro K ⟨w1, σ'⟩ ⟨e, hj⟩
    cases e
    dsimp only
    unfold st_X2_flavourOfRank_L2
    refine ⟨fun _ => ?_, fun c => absurd (nI_le (Nat.le_refl 6) (by decide)) c⟩
    unfold bcR at hq
    rw [fstN_none hj, if_neg (Nat.lt_irrefl _)] at hq
    exact hq
theorem s_X2_tinsForHoppers (hM : MR (σ m) r) (hI : IR r) (hq : Q (tfoR r) σ) : wp_X2_tinsForHoppers m σ Q := by
  unfold wp_X2_tinsForHoppers
  rw [hM.1 2 (by decide)]
  obtain ⟨a, a1, a2, a3⟩ := hI.2.2.1
  rintro z1 rfl
  refine ⟨fun _ => ?_, fun c => absurd (by rw [a3]; exact nI_le (a := 1) a1 (by omega)) c⟩
  unfold wp_X2_tinsForHoppers_L18
  refine lpN_rel 6 (fun f z => z = (r 2, sumN (fun f => (ihR r (nI f) + r 2 - 1) / r 2) f, nI f, σ)) ?_ ?_ 0 _ (Nat.zero_le _) rfl
  · rintro K f ⟨u1, u2, u3, σ'⟩ hf e hK
    cases e
    dsimp only
    unfold st_X2_tinsForHoppers_L18
    refine ⟨fun c => absurd c (ge_6 hf), fun _ => ?_⟩
    refine s_X2_sweetsInHoppers hM hI ⟨by rw [a3]; exact nI_ne0 (by omega) (by omega), ?_⟩
    rintro z6 rfl z7 rfl
    exact hK _ (by rw [sumN, nI_1])
  · rintro K ⟨u1, u2, u3, σ'⟩ e
    cases e
    dsimp only
    unfold st_X2_tinsForHoppers_L18
    exact ⟨fun _ => hq, fun c => absurd (nI_le (Nat.le_refl 6) (by decide)) c⟩
theorem rsR_le (r : Nat → Int32) (l : Nat) : rsR r l ≤ 0 ↔ rsR r l = 0 := by
  unfold rsR
  repeat' split
  all_goals decide
theorem s_X2_standingLanes (hM : MR (σ m) r) (hI : IR r) (hq : Q (flR r) σ) : wp_X2_standingLanes m σ Q := by
  unfold wp_X2_standingLanes wp_X2_standingLanes_L4
  refine lp_acc 4 (orN (fun l => if rsR r l ≤ 0 then 0 else bitN l)) (fun K k hk hK => ?_) (fun K => ?_)
  · dsimp only
    unfold st_X2_standingLanes_L4
    refine ⟨fun c => absurd c (ge_4 hk), fun _ => ⟨vp_in_nI (by omega) (by decide), ?_⟩⟩
    rintro a3 rfl
    rw [nI_clamp (by omega)]
    refine s_X2_reasonNow hM hI k hk ?_
    unfold wp_X2_standingLanes_b28
    rw [orN] at hK
    refine ⟨fun c => ?_, fun c => ?_⟩
    · rintro z8 rfl
      rw [if_pos ((rsR_le r k).mpr c), Int32.or_zero] at hK
      rw [nI_1]
      exact hK
    · rintro z7 rfl z8 rfl
      rw [if_neg (fun z => c ((rsR_le r k).mp z))] at hK
      rw [nI_1]
      exact hK
  · exact ⟨fun _ => hq, fun c => absurd (nI_le (Nat.le_refl 4) (by decide)) c⟩
/-- a fact of a lane, summed -/
theorem s_X2_overLanes {x : Int32} (g : Nat → Int32) (hg : ∀ (l : Nat) (Q' : Int32 → Sg → Prop), l < 4 → Q' (g l) σ → wp_X2_laneFact m (nI l) x σ Q') (hq : Q (sumN g 4) σ) : wp_X2_overLanes m x σ Q := by
  unfold wp_X2_overLanes wp_X2_overLanes_L4
  refine lp_acc 4 (sumN g) (fun K k hk hK => ?_) (fun K => ?_)
  · dsimp only
    unfold st_X2_overLanes_L4
    refine ⟨fun c => absurd c (ge_4 hk), fun _ => ?_⟩
    refine hg k _ hk ?_
    rintro z4 rfl z5 rfl
    rw [nI_1]
    exact hK
  · exact ⟨fun _ => hq, fun c => absurd (nI_le (Nat.le_refl 4) (by decide)) c⟩
theorem s_laneIx {x y : Int32} (l : Nat) (hl : l < 4) (e : x = nI l) (h : wp_X2_laneFact m (nI l) y σ Q) : wp_X2_laneFact m x y σ Q := e ▸ h
end CB

/-! Changes of a row, on both sides. -/
def tb (x : Int32) (i : Nat) : Bool := x.toBitVec.getLsbD i
theorem tb_ext {x y : Int32} (h : ∀ i, i < 32 → tb x i = tb y i) : x = y := Int32.toBitVec_inj.mp (BitVec.eq_of_getLsbD_eq (fun i hi => h i hi))
theorem tb_or (x y : Int32) (i : Nat) : tb (x ||| y) i = (tb x i || tb y i) := by unfold tb; rw [Int32.toBitVec_or, BitVec.getLsbD_or]
theorem tb_and (x y : Int32) (i : Nat) : tb (x &&& y) i = (tb x i && tb y i) := by unfold tb; rw [Int32.toBitVec_and, BitVec.getLsbD_and]
theorem tb_xor (x y : Int32) (i : Nat) : tb (x ^^^ y) i = (tb x i ^^ tb y i) := by unfold tb; rw [Int32.toBitVec_xor, BitVec.getLsbD_xor]
theorem tb_0 (i : Nat) : tb 0 i = false := BitVec.getLsbD_zero
theorem tb_bits : ∀ o, o < 32 → ∀ i, i < 32 → tb (bitN o) i = decide (o = i) := by decide +kernel
theorem tb_bit {o i : Nat} (ho : o < 32) (hi : i < 32) : tb (bitN o) i = decide (o = i) := tb_bits o ho i hi
theorem tb_amt : ∀ n, n < 32 → ((nI n &&& 31).toBitVec.smod 32).toNat = n := by decide +kernel
theorem tb_shr (o : Nat) (ho : o < 32) (x : Int32) : tb (x >>> (nI o &&& 31)) 0 = tb x o := by
  unfold tb
  rw [Int32.toBitVec_shiftRight]
  show (x.toBitVec.sshiftRight ((nI o &&& 31).toBitVec.smod 32).toNat).getLsbD 0 = _
  rw [tb_amt o ho, BitVec.getLsbD_sshiftRight]
  simp [ho]
theorem tb_test {x : Int32} {o : Nat} (ho : o < 32) : (x &&& bitN o) = 0 ↔ tb x o = false := by
  constructor
  · intro h
    have e := congrArg (fun z => tb z o) h
    simp only [tb_and, tb_0, tb_bit ho ho, decide_true, Bool.and_true] at e
    exact e
  · intro h
    refine tb_ext (fun i hi => ?_)
    rw [tb_and, tb_0, tb_bit ho hi]
    by_cases e : o = i
    · subst e; rw [h]; rfl
    · rw [decide_eq_false e, Bool.and_false]
theorem tb_one {x : Int32} : (x &&& 1) = 1 ↔ tb x 0 = true := by
  have b0 : (1 : Int32) = bitN 0 := by decide +kernel
  rw [b0]
  constructor
  · intro h
    have e := congrArg (fun z => tb z 0) h
    simp only [tb_and, tb_bit (show (0 : Nat) < 32 by decide) (show (0 : Nat) < 32 by decide), decide_true, Bool.and_true] at e
    exact e
  · intro h
    refine tb_ext (fun i hi => ?_)
    rw [tb_and, tb_bit (by decide) hi]
    by_cases e : 0 = i
    · subst e; rw [h]; rfl
    · rw [decide_eq_false e, Bool.and_false]
theorem tb_orN {f : Nat → Int32} {n i : Nat} : tb (orN f n) i = true ↔ ∃ k, k < n ∧ tb (f k) i = true := by
  induction n with
  | zero => rw [orN, tb_0]; exact ⟨fun h => absurd h (by decide), fun ⟨k, h, _⟩ => absurd h (Nat.not_lt_zero k)⟩
  | succ n ih =>
    rw [orN, tb_or, Bool.or_eq_true, ih]
    constructor
    · rintro (⟨k, h1, h2⟩ | h)
      · exact ⟨k, by omega, h2⟩
      · exact ⟨n, Nat.lt_succ_self n, h⟩
    · rintro ⟨k, h1, h2⟩
      by_cases e : k = n
      · subst e; exact Or.inr h2
      · exact Or.inl ⟨k, by omega, h2⟩
theorem tb_mk {r : Nat → Int32} {t f : Nat} (hf : f < 6) : tb (mkR r t) f = true ↔ ¬ r (74 + 7 * t + f) ≤ 0 := by
  unfold mkR
  rw [tb_orN]
  constructor
  · rintro ⟨k, hk, h⟩ c
    by_cases d : r (74 + 7 * t + k) ≤ 0
    · rw [if_pos d, tb_0] at h; exact absurd h (by decide)
    · rw [if_neg d, tb_bit (by omega) (by omega), decide_eq_true_eq] at h
      subst h
      exact d c
  · intro c
    exact ⟨f, hf, by rw [if_neg c, tb_bit (by omega) (by omega)]; exact decide_eq_true rfl⟩
theorem tb_two {x : Int32} {f o : Nat} (hf : f < 32) (ho : o < 32) : (x &&& (bitN f ||| bitN o)) = (bitN f ||| bitN o) ↔ tb x f = true ∧ tb x o = true := by
  constructor
  · intro h
    have e1 := congrArg (fun z => tb z f) h
    have e2 := congrArg (fun z => tb z o) h
    simp only [tb_and, tb_or, tb_bit hf hf, decide_true, Bool.true_or, Bool.and_true] at e1
    simp only [tb_and, tb_or, tb_bit ho ho, decide_true, Bool.or_true, Bool.and_true] at e2
    exact ⟨e1, e2⟩
  · rintro ⟨h1, h2⟩
    refine tb_ext (fun i hi => ?_)
    rw [tb_and, tb_or, tb_bit hf hi, tb_bit ho hi]
    by_cases e : f = i
    · subst e; rw [h1]; simp
    · by_cases e2 : o = i
      · subst e2; rw [h2]; simp
      · simp [e, e2]
def obB (x : Int32) (n : Nat) : Bool := decide (x < 0) || decide (nI n ≤ x)
def otB (x a b : Int32) : Bool := decide (x < a) || decide (b < x)
theorem ob_1 {x : Int32} {n : Nat} (c : x < 0 ∨ nI n ≤ x) : obB x n = true := by
  unfold obB
  rcases c with c | c
  · rw [decide_eq_true c]; rfl
  · rw [decide_eq_true c, Bool.or_true]
theorem ob_0 {j n : Nat} (h : j < n) (hn : n < 2 ^ 31) : obB (nI j) n = false := by
  unfold obB
  rw [decide_eq_false (nI_pos (by omega)), decide_eq_false (nI_ge h hn)]; rfl
/-- a number between bounds -/
theorem s_X5_bt {σ : Sg} {Q : Int32 → Sg → Prop} {x a b : Int32} (h1 : otB x a b = false → Q 1 σ) (h0 : otB x a b = true → Q 0 σ) : wp_X5_isBetween x a b σ Q := by
  unfold otB at h1 h0
  refine s_X5_isBetween ?_
  by_cases c : x < a
  · rw [if_pos c]; exact h0 (by rw [decide_eq_true c]; rfl)
  · rw [if_neg c]
    by_cases d : b < x
    · rw [if_pos d]; exact h0 (by rw [decide_eq_true d, Bool.or_true])
    · rw [if_neg d]; exact h1 (by rw [decide_eq_false c, decide_eq_false d]; rfl)
/-- a number that lies between two small ones is small -/
theorem bt_nI {x : Int32} {a b : Nat} (hb : b < 2 ^ 31) (ha : a ≤ b) (h : otB x (nI a) (nI b) = false) : ∃ s, a ≤ s ∧ s ≤ b ∧ x = nI s := by
  unfold otB at h
  rw [Bool.or_eq_false_iff, decide_eq_false_iff_not, decide_eq_false_iff_not] at h
  obtain ⟨c, d⟩ := h
  have c0 : ¬ x < 0 := fun z => c (Int32.lt_of_lt_of_le z (nI_le (a := 0) (Nat.zero_le a) (by omega)))
  obtain ⟨s, hs, rfl⟩ := nI_of c0
  refine ⟨s, ?_, ?_, rfl⟩
  · exact (nI_leI (by omega) hs).mp (Int32.not_lt.mp c)
  · exact (nI_leI hs hb).mp (Int32.not_lt.mp d)
theorem upd_eq (f : Nat → Int32) (j : Nat) : upd f j (f j) = f := by
  funext q
  unfold upd
  split
  · next h => rw [h]
  · rfl
def setR (r : Nat → Int32) (x y : Int32) : Int32 × (Nat → Int32) := if obB x 4 then (-2, r) else if otB y (lst x.toNatClampNeg) (mst x.toNatClampNeg) then (-2, r) else (r x.toNatClampNeg, upd r x.toNatClampNeg y)
def placeR (r : Nat → Int32) (l f : Nat) : Nat := if 0 < (r (4 + 17 * l)).toNatClampNeg ∧ r (4 + 17 * l + (1 + 2 * ((r (4 + 17 * l)).toNatClampNeg - 1))) = nI f then (r (4 + 17 * l)).toNatClampNeg - 1 else (r (4 + 17 * l)).toNatClampNeg
def putR (r : Nat → Int32) (l f : Nat) (z : Int32) : Nat → Int32 :=
  upd (upd (upd r (4 + 17 * l + (1 + 2 * placeR r l f)) (nI f)) (4 + 17 * l + (2 + 2 * placeR r l f)) (if placeR r l f = (r (4 + 17 * l)).toNatClampNeg then z else r (4 + 17 * l + (2 + 2 * placeR r l f)) + z)) (4 + 17 * l) (nI (placeR r l f + 1))
def addR (r : Nat → Int32) (l f : Nat) (z : Int32) : Int32 × (Nat → Int32) := if placeR r l f = 6 then (-4, r) else if hpR r l + z ≤ 999 then (hpR (putR r l f z) l, putR r l f z) else (-4, r)
def heapsR (r : Nat → Int32) (x y z : Int32) : Int32 × (Nat → Int32) := if obB x 4 then (-1, r) else if obB y 6 then (-1, r) else if otB z 1 200 then (-2, r) else addR r x.toNatClampNeg y.toNatClampNeg z
def foilsR (r : Nat → Int32) (x y : Int32) : Int32 × (Nat → Int32) := if obB x 4 then (-1, r) else if otB y 1 999 then (-2, r) else if r (4 + 17 * x.toNatClampNeg + 13) + y ≤ 9999 then (r (4 + 17 * x.toNatClampNeg + 13) + y, upd r (4 + 17 * x.toNatClampNeg + 13) (r (4 + 17 * x.toNatClampNeg + 13) + y)) else (-4, r)
def tinsR (r : Nat → Int32) : Int32 × (Nat → Int32) := if nT r = 16 then (-4, r) else (nI (nT r), upd r 72 (nI (nT r + 1)))
def shipsR (r : Nat → Int32) (x : Int32) : Int32 × (Nat → Int32) := if obB x (nT r) then (-1, r) else if r (73 + 7 * x.toNatClampNeg) = 1 then (-5, r) else if swR r x.toNatClampNeg = 0 then (-5, r) else (swR r x.toNatClampNeg, upd r (73 + 7 * x.toNatClampNeg) 1)
def turnR (r : Nat → Int32) (f o : Nat) : Nat → Int32 := upd (upd r (185 + f) (r (185 + f) ^^^ bitN o)) (185 + o) (r (185 + o) ^^^ bitN f)
def bothB (r : Nat → Int32) (f o t : Nat) : Bool := opB r t && (tb (mkR r t) f && tb (mkR r t) o)
def apartR (r : Nat → Int32) (x y : Int32) : Int32 × (Nat → Int32) := if obB x 6 then (-1, r) else if obB y 6 then (-1, r) else if x = y then (-2, r) else if tb (r (185 + x.toNatClampNeg)) y.toNatClampNeg then (0, turnR r x.toNatClampNeg y.toNatClampNeg) else if fstN (bothB r x.toNatClampNeg y.toNatClampNeg) (nT r) < nT r then (-5, r) else (1, turnR r x.toNatClampNeg y.toNatClampNeg)
def goesR (r d : Nat → Int32) (x : Int32) : Int32 × (Nat → Int32) × (Nat → Int32) := if otB x 1 99 then (-2, r, d) else if r 191 + x ≤ 9999 then runsC x.toNatClampNeg r d else (-5, r, d)
section CH
variable {σ : Sg} {Q : Int32 → Sg → Prop} {m : Nat} {r d : Nat → Int32} {μ : Nat → Nat → Nat → Int32}
theorem MR_set {x : Int32} {j : Nat} (hj : j < 4) (hM : MR μ r) (hI : IR r) : MR (um μ 1 0 j x) (upd r j x) := by
  obtain ⟨a0, a1, a2, a3, a4⟩ := hM
  refine ⟨fun i hi => ?_, ?_, fun f hf => ?_, fun l hl => ?_, fun t ht => ?_⟩
  · by_cases e : i = j
    · subst e; rw [um_eq, pk_us]
    · rw [um_j _ _ e, pk_un e]; exact a0 i hi
  · rw [um_k _ _ (by decide), pk_un (by omega), pk_un (by omega), pk_un (by omega), pk_un (by omega)]; exact a1
  · rw [um_k _ _ (by decide), pk_un (by omega)]; exact a2 f hf
  · rw [um_k _ _ (by decide : 5 ≠ 1), um_k _ _ (by decide : 6 ≠ 1), um_k _ _ (by decide : 7 ≠ 1), pk_un (j := 4 + 17 * l) (by omega), pk_un (by omega), pk_un (by omega), pk_un (by omega), pk_un (by omega)]
    obtain ⟨b2, b3, b4, b5, b6, b7⟩ := a3 l hl
    exact ⟨b2, b3, b4, b5, b6, fun h hh => by rw [pk_un (by omega), pk_un (by omega)]; exact b7 h hh⟩
  · obtain ⟨b1, b2, b3, b4⟩ := a4 t ht
    rw [um_k _ _ (by decide : 8 ≠ 1), um_k _ _ (by decide : 9 ≠ 1), pk_un (j := 73 + 7 * t) (by omega), mkR_congr (s := r) (fun f hf => pk_un (by omega)), swR_congr (s := r) (fun f hf => pk_un (by omega))]
    exact ⟨b1, b2, b3, fun f hf => by rw [pk_un (by omega)]; exact b4 f hf⟩
theorem IR_set {x y : Int32} (hI : IR r) : IR (setR r x y).2 := by
  unfold setR
  by_cases c : obB x 4 = true
  · rw [if_pos c]; exact hI
  · rw [if_neg c]
    by_cases d : otB y (lst x.toNatClampNeg) (mst x.toNatClampNeg) = true
    · rw [if_pos d]; exact hI
    · rw [if_neg d]
      rw [Bool.not_eq_true] at d
      rcases pk_ix x (show (4 : Nat) < 2 ^ 31 by decide) with c2 | c2 | ⟨j, hj, e⟩
      · exact absurd (ob_1 (Or.inl c2)) c
      · exact absurd (ob_1 (Or.inr c2)) c
      · subst e
        rw [nI_clamp (by omega)] at d ⊢
        show IR (upd r j y)
        obtain ⟨a0, a1, a2, a3, a4, a5, a6⟩ := hI
        have hj4 : j = 0 ∨ j = 1 ∨ j = 2 ∨ j = 3 := by omega
        have rest : ∀ i, 4 ≤ i → upd r j y i = r i := fun i hi => pk_un (by omega)
        refine ⟨?_, ?_, ?_, ?_, ?_, ?_, ?_⟩
        · by_cases e : j = 0
          · subst e
            obtain ⟨s, h1, h2, h3⟩ := bt_nI (a := 1) (b := 9) (by decide) (by decide) d
            exact ⟨s, h1, h2, by rw [← h3]; exact pk_us⟩
          · rw [pk_un (fun z => e z.symm)]; exact a0
        · by_cases e : j = 1
          · subst e
            obtain ⟨s, h1, h2, h3⟩ := bt_nI (a := 4) (b := 60) (by decide) (by decide) d
            exact ⟨s, h1, h2, by rw [← h3]; exact pk_us⟩
          · rw [pk_un (fun z => e z.symm)]; exact a1
        · by_cases e : j = 2
          · subst e
            obtain ⟨s, h1, h2, h3⟩ := bt_nI (a := 1) (b := 99) (by decide) (by decide) d
            exact ⟨s, h1, h2, by rw [← h3]; exact pk_us⟩
          · rw [pk_un (fun z => e z.symm)]; exact a2
        · by_cases e : j = 3
          · subst e
            obtain ⟨s, h1, h2, h3⟩ := bt_nI (a := 1) (b := 2) (by decide) (by decide) d
            exact ⟨s, h1, h2, by rw [← h3]; exact pk_us⟩
          · rw [pk_un (fun z => e z.symm)]; exact a3
        · obtain ⟨T, b1, b2, b3⟩ := a4
          exact ⟨T, b1, by rw [rest _ (by decide)]; exact b2, fun t h1 h2 => by rw [rest _ (by omega)]; exact ⟨(b3 t h1 h2).1, fun f hf => by rw [rest _ (by omega)]; exact (b3 t h1 h2).2 f hf⟩⟩
        · intro l hl
          obtain ⟨n, b1, b2, b3⟩ := a5 l hl
          exact ⟨n, b1, by rw [rest _ (by omega)]; exact b2, fun h hh => by rw [rest _ (by omega), rest _ (by omega)]; exact b3 h hh⟩
        · intro t ht
          rw [rest _ (by omega)]
          exact ⟨(a6 t ht).1, fun f hf => by rw [rest _ (by omega)]; exact (a6 t ht).2 f hf⟩
theorem s_X2_changeSetting {x y : Int32} (hM : MR μ r) (hI : IR r) (hq : ∀ μ', MR μ' (setR r x y).2 → Q (setR r x y).1 (sm σ m μ')) : wp_X2_changeSetting m x y (sm σ m μ) Q := by
  unfold wp_X2_changeSetting
  refine s_isIndex2 (n := 4) (by decide) (fun j hj e => ?_) (fun c => ?_)
  · subst e
    unfold setR at hq
    rw [ob_0 hj (by decide), nI_clamp (by omega)] at hq
    refine ⟨fun _ => ⟨vp_in_nI hj (by decide), vp_in_nI hj (by decide), ?_⟩, fun c => absurd c (by decide)⟩
    rw [nI_clamp (by omega)]
    refine s_X5_bt (fun c => ⟨fun _ => ⟨vp_in_nI hj (by decide), ?_⟩, fun c => absurd c (by decide)⟩) (fun c => ⟨fun d => absurd rfl d, fun _ => ?_⟩)
    · rintro z7 rfl
      refine ⟨vp_in_nI hj (by decide), ?_⟩
      rintro σ8 rfl
      rw [sm_up, sm_m, hM.1 j hj]
      rw [c] at hq
      exact hq _ (MR_set hj hM hI)
    · rw [c] at hq
      exact hq μ hM
  · refine ⟨fun d => absurd rfl d, fun _ => ?_⟩
    unfold setR at hq
    rw [ob_1 c] at hq
    exact hq μ hM
theorem s_X2_addFoil {x y : Int32} (hM : MR μ r) (hI : IR r) (hq : ∀ μ', MR μ' (foilsR r x y).2 → Q (foilsR r x y).1 (sm σ m μ')) : wp_X2_addFoil m x y (sm σ m μ) Q := by
  unfold wp_X2_addFoil
  unfold foilsR at hq
  refine s_isIndex2 (n := 4) (by decide) (fun j hj e => ?_) (fun c => ?_)
  · subst e
    rw [ob_0 hj (by decide), nI_clamp (by omega)] at hq
    refine ⟨fun _ => ?_, fun c => absurd c (by decide)⟩
    refine s_X5_bt (fun c => ⟨fun _ => ⟨vp_in_nI hj (by decide), ?_⟩, fun c => absurd c (by decide)⟩) (fun c => ⟨fun d => absurd rfl d, fun _ => ?_⟩)
    · intro a8 e8
      rw [nI_clamp (by omega)] at e8
      subst e8
      rw [c] at hq
      rw [sm_m, (hM.2.2.2.1 a8 hj).2.1]
      refine ⟨fun g => ⟨vp_in_nI hj (by decide), ?_⟩, fun g => ?_⟩
      · intro a11 e11
        rw [nI_clamp (by omega)] at e11
        subst e11
        rw [(hM.2.2.2.1 a11 hj).2.1]
        rintro σ12 rfl
        refine ⟨vp_in_nI hj (by decide), ?_⟩
        intro a14 e14
        rw [nI_clamp (by omega)] at e14
        subst e14
        rw [sm_up, sm_m, um_eq]
        rw [if_pos g] at hq
        exact hq _ (MR_lane hM hI hj (by decide) (by decide) _)
      · rw [if_neg g] at hq
        exact hq μ hM
    · rw [c] at hq
      exact hq μ hM
  · refine ⟨fun d => absurd rfl d, fun _ => ?_⟩
    rw [ob_1 c] at hq
    exact hq μ hM
theorem IR_foil {x y : Int32} (hI : IR r) : IR (foilsR r x y).2 := by
  unfold foilsR
  by_cases c : obB x 4 = true
  · rw [if_pos c]; exact hI
  · rw [if_neg c]
    by_cases d : otB y 1 999 = true
    · rw [if_pos d]; exact hI
    · rw [if_neg d]
      rcases pk_ix x (show (4 : Nat) < 2 ^ 31 by decide) with c2 | c2 | ⟨j, hj, e⟩
      · exact absurd (ob_1 (Or.inl c2)) c
      · exact absurd (ob_1 (Or.inr c2)) c
      · subst e
        rw [nI_clamp (by omega)]
        by_cases g : r (4 + 17 * j + 13) + y ≤ 9999
        · rw [if_pos g]
          exact IR_upd _ hI (by omega) (by omega) (by omega) (fun l w hl hw => ln_ne (by decide) (by omega) (by omega))
        · rw [if_neg g]; exact hI
theorem IR_tins (hI : IR r) : IR (tinsR r).2 := by
  unfold tinsR
  by_cases c : nT r = 16
  · rw [if_pos c]; exact hI
  · rw [if_neg c]
    show IR (upd r 72 (nI (nT r + 1)))
    obtain ⟨g1, g2, g3⟩ := IR_nT hI
    obtain ⟨a0, a1, a2, a3, a4, a5, a6⟩ := hI
    refine ⟨by rw [pk_un (by decide)]; exact a0, by rw [pk_un (by decide)]; exact a1, by rw [pk_un (by decide)]; exact a2, by rw [pk_un (by decide)]; exact a3, ⟨nT r + 1, by omega, pk_us, fun t h1 h2 => ?_⟩, fun l hl => ?_, fun t ht => ?_⟩
    · rw [pk_un (by omega)]
      exact ⟨(g3 t (by omega) h2).1, fun f hf => by rw [pk_un (by omega)]; exact (g3 t (by omega) h2).2 f hf⟩
    · obtain ⟨n, b1, b2, b3⟩ := a5 l hl
      exact ⟨n, b1, by rw [pk_un (by omega)]; exact b2, fun h hh => by rw [pk_un (by omega), pk_un (by omega)]; exact b3 h hh⟩
    · rw [pk_un (by omega)]
      exact ⟨(a6 t ht).1, fun f hf => by rw [pk_un (by omega)]; exact (a6 t ht).2 f hf⟩
theorem MR_tins {x : Int32} (hM : MR μ r) (hI : IR r) : MR (um μ 0 0 4 x) (upd r 72 x) := by
  obtain ⟨a0, ⟨c4, c5, c6, c7⟩, a2, a3, a4⟩ := hM
  refine ⟨fun i hi => ?_, ?_, fun f hf => ?_, fun l hl => ?_, fun t ht => ?_⟩
  · rw [um_k _ _ (by decide), pk_un (by omega)]; exact a0 i hi
  · rw [um_eq, um_j _ _ (by decide), um_j _ _ (by decide), um_j _ _ (by decide), pk_us, pk_un (by decide), pk_un (by decide), pk_un (by decide)]; exact ⟨rfl, c5, c6, c7⟩
  · rw [um_k _ _ (by decide), pk_un (by omega)]; exact a2 f hf
  · have hn := IR_n hI hl
    rw [um_k _ _ (by decide : 5 ≠ 0), um_k _ _ (by decide : 6 ≠ 0), um_k _ _ (by decide : 7 ≠ 0), pk_un (j := 4 + 17 * l) (by omega), pk_un (by omega), pk_un (by omega), pk_un (by omega), pk_un (by omega)]
    obtain ⟨b2, b3, b4, b5, b6, b7⟩ := a3 l hl
    exact ⟨b2, b3, b4, b5, b6, fun h hh => by rw [pk_un (by omega), pk_un (by omega)]; exact b7 h hh⟩
  · obtain ⟨b1, b2, b3, b4⟩ := a4 t ht
    rw [um_k _ _ (by decide : 8 ≠ 0), um_k _ _ (by decide : 9 ≠ 0), pk_un (j := 73 + 7 * t) (by omega), mkR_congr (s := r) (fun f hf => pk_un (by omega)), swR_congr (s := r) (fun f hf => pk_un (by omega))]
    exact ⟨b1, b2, b3, fun f hf => by rw [pk_un (by omega)]; exact b4 f hf⟩
theorem s_X2_addTin (hM : MR μ r) (hI : IR r) (hq : ∀ μ', MR μ' (tinsR r).2 → Q (tinsR r).1 (sm σ m μ')) : wp_X2_addTin m (sm σ m μ) Q := by
  obtain ⟨g1, g2, -⟩ := IR_nT hI
  unfold wp_X2_addTin
  unfold tinsR at hq
  rw [sm_m, hM.2.1.1, g2]
  by_cases c : nT r = 16
  · rw [if_pos c] at hq
    refine ⟨fun d => absurd d (by rw [c]; decide), fun _ => hq μ hM⟩
  · rw [if_neg c] at hq
    refine ⟨fun _ => ?_, fun d => absurd (show nI (nT r) < nI 16 from (nI_ltI (by omega) (by decide)).mpr (by omega)) d⟩
    rintro σ2 rfl
    rw [sm_up, sm_m, um_eq, nI_1, nI_m1 (by omega), Nat.add_sub_cancel]
    exact hq _ (MR_tins hM hI)
theorem IR_ship {x : Int32} (hI : IR r) : IR (shipsR r x).2 := by
  unfold shipsR
  obtain ⟨g1, g2, g3⟩ := IR_nT hI
  by_cases c : obB x (nT r) = true
  · rw [if_pos c]; exact hI
  · rw [if_neg c]
    by_cases d : r (73 + 7 * x.toNatClampNeg) = 1
    · rw [if_pos d]; exact hI
    · rw [if_neg d]
      by_cases e : swR r x.toNatClampNeg = 0
      · rw [if_pos e]; exact hI
      · rw [if_neg e]
        rcases pk_ix x (show nT r < 2 ^ 31 by omega) with c2 | c2 | ⟨j, hj, e⟩
        · exact absurd (ob_1 (Or.inl c2)) c
        · exact absurd (ob_1 (Or.inr c2)) c
        · subst e
          rw [nI_clamp (by omega)]
          show IR (upd r (73 + 7 * j) 1)
          obtain ⟨a0, a1, a2, a3, a4, a5, a6⟩ := hI
          refine ⟨by rw [pk_un (by omega)]; exact a0, by rw [pk_un (by omega)]; exact a1, by rw [pk_un (by omega)]; exact a2, by rw [pk_un (by omega)]; exact a3, ⟨nT r, g1, by rw [pk_un (by omega)]; exact g2, fun t h1 h2 => ?_⟩, fun l hl => ?_, fun t ht => ?_⟩
          · rw [pk_un (by omega)]
            exact ⟨(g3 t h1 h2).1, fun f hf => by rw [pk_un (by omega)]; exact (g3 t h1 h2).2 f hf⟩
          · obtain ⟨n, b1, b2, b3⟩ := a5 l hl
            exact ⟨n, b1, by rw [pk_un (by omega)]; exact b2, fun h hh => by rw [pk_un (by omega), pk_un (by omega)]; exact b3 h hh⟩
          · refine ⟨?_, fun f hf => by rw [pk_un (by omega)]; exact (a6 t ht).2 f hf⟩
            by_cases q : t = j
            · subst q; rw [pk_us]; exact Or.inr rfl
            · rw [pk_un (by omega)]; exact (a6 t ht).1
theorem MR_ship {t : Nat} (ht : t < 16) (hM : MR μ r) (hI : IR r) : MR (um μ 8 t 3 1) (upd r (73 + 7 * t) 1) := by
  obtain ⟨a0, a1, a2, a3, a4⟩ := hM
  refine ⟨fun i hi => ?_, ?_, fun f hf => ?_, fun l hl => ?_, fun t' ht' => ?_⟩
  · rw [um_k _ _ (by decide), pk_un (by omega)]; exact a0 i hi
  · rw [um_k _ _ (by decide), pk_un (by omega), pk_un (by omega), pk_un (by omega), pk_un (by omega)]; exact a1
  · rw [um_k _ _ (by decide), pk_un (by omega)]; exact a2 f hf
  · have hn := IR_n hI hl
    rw [um_k _ _ (by decide : 5 ≠ 8), um_k _ _ (by decide : 6 ≠ 8), um_k _ _ (by decide : 7 ≠ 8), pk_un (j := 4 + 17 * l) (by omega), pk_un (by omega), pk_un (by omega), pk_un (by omega), pk_un (by omega)]
    obtain ⟨b2, b3, b4, b5, b6, b7⟩ := a3 l hl
    exact ⟨b2, b3, b4, b5, b6, fun h hh => by rw [pk_un (by omega), pk_un (by omega)]; exact b7 h hh⟩
  · obtain ⟨b1, b2, b3, b4⟩ := a4 t' ht'
    rw [um_k _ _ (by decide : 9 ≠ 8), mkR_congr (s := r) (fun f hf => pk_un (by omega)), swR_congr (s := r) (fun f hf => pk_un (by omega))]
    by_cases q : t' = t
    · subst q
      rw [um_eq, pk_us, um_j _ _ (by decide), um_j _ _ (by decide)]
      exact ⟨b1, b2, rfl, fun f hf => by rw [pk_un (by omega)]; exact b4 f hf⟩
    · rw [um_i _ _ q, pk_un (j := 73 + 7 * t') (by omega)]
      exact ⟨b1, b2, b3, fun f hf => by rw [pk_un (by omega)]; exact b4 f hf⟩
theorem s_X2_shipTin {x : Int32} (hM : MR μ r) (hI : IR r) (hq : ∀ μ', MR μ' (shipsR r x).2 → Q (shipsR r x).1 (sm σ m μ')) : wp_X2_shipTin m x (sm σ m μ) Q := by
  unfold wp_X2_shipTin
  unfold shipsR at hq
  have hM' : MR (sm σ m μ m) r := by rw [sm_m]; exact hM
  obtain ⟨g1, g2, -⟩ := IR_nT hI
  refine s_X2_isTin hM' hI (fun t ht ht2 e => ?_) (fun c => ?_)
  · subst e
    rw [ob_0 ht (by omega), nI_clamp (by omega)] at hq
    refine ⟨fun _ => ⟨vp_in_nI ht2 (by decide), ?_⟩, fun c => absurd c (by decide)⟩
    intro a5 e5
    rw [nI_clamp (by omega)] at e5
    subst e5
    obtain ⟨b1, b2, b3, -⟩ := hM.2.2.2.2 a5 ht2
    rw [sm_m, b3]
    rcases (hI.2.2.2.2.2.2 a5 ht2).1 with z | z
    · refine ⟨fun d => absurd z d, fun _ => ⟨vp_in_nI ht2 (by decide), ?_⟩⟩
      rw [if_neg (show ¬ false = true by decide), if_neg (by rw [z]; decide)] at hq
      intro a8 e8
      rw [nI_clamp (by omega)] at e8
      subst e8
      rw [b2]
      refine ⟨fun d => ⟨vp_in_nI ht2 (by decide), ?_⟩, fun d => ?_⟩
      · intro a11 e11
        rw [nI_clamp (by omega)] at e11
        subst e11
        rintro σ12 rfl
        refine ⟨vp_in_nI ht2 (by decide), ?_⟩
        intro a14 e14
        rw [nI_clamp (by omega)] at e14
        subst e14
        rw [sm_up, sm_m, um_j _ _ (by decide), b2]
        rw [if_neg d] at hq
        exact hq _ (MR_ship ht2 hM hI)
      · rw [if_pos d] at hq
        exact hq μ hM
    · refine ⟨fun _ => ?_, fun d => absurd (z.symm.trans d) (by decide)⟩
      rw [if_neg (show ¬ false = true by decide), if_pos z] at hq
      exact hq μ hM
  · refine ⟨fun d => absurd rfl d, fun _ => ?_⟩
    rw [ob_1 c] at hq
    exact hq μ hM
end CH

