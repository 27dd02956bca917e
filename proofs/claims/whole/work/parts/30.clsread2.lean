/-! More reads of the class, and the calls that only read. -/
section CB
variable {σ : Sg} {Q : Int32 → Sg → Prop} {m : Nat} {r : Nat → Int32}
theorem s_X2_isTin {x : Int32} (hM : MR (σ m) r) (hI : IR r) (h1 : ∀ t, t < nT r → t < 16 → x = nI t → Q 1 σ) (h0 : (x < 0 ∨ nI (nT r) ≤ x) → Q 0 σ) : wp_X2_isTin m x σ Q := by
  obtain ⟨g1, g2, -⟩ := IR_nT hI
  unfold wp_X2_isTin
  rw [hM.2.1.1, g2]
  refine s_isIndex2 (by omega) (fun j hj e => ?_) (fun c => ?_)
  · refine ⟨fun c => absurd c (by decide), fun _ => ?_⟩
    exact ⟨fun c => absurd c (by rw [e]; exact ge_16 (by omega)), fun _ => h1 j hj (by omega) e⟩
  · exact ⟨fun _ => h0 c, fun c => absurd rfl c⟩
theorem s_X2_isTin2 {x : Int32} (hM : MR (σ m) r) (hI : IR r) (t : Nat) (ht : t < 16) (e : x = nI t := by rfl) (hq : Q (if t < nT r then 1 else 0) σ) : wp_X2_isTin m x σ Q := by
  subst e
  obtain ⟨g1, -, -⟩ := IR_nT hI
  refine s_X2_isTin hM hI (fun j hj _ e => ?_) (fun c => ?_)
  · rw [if_pos (by rw [(nI_eq (by omega) (by omega)).mp e]; exact hj)] at hq
    exact hq
  · have z : ¬ t < nT r := by
      rcases c with c | c
      · exact absurd c (nI_pos (by omega))
      · have := (nI_leI (a := nT r) (b := t) (by omega) (by omega)).mp c
        omega
    rw [if_neg z] at hq
    exact hq
theorem s_X2_isOpen {x : Int32} (hM : MR (σ m) r) (hI : IR r) (t : Nat) (ht : t < 16) (e : x = nI t := by rfl) (hq : Q (if decide (t < nT r) && opB r t then 1 else 0) σ) : wp_X2_isOpen m x σ Q := by
  subst e
  unfold wp_X2_isOpen
  refine s_X2_isTin2 hM hI t ht rfl ?_
  by_cases c : t < nT r
  · rw [if_pos c]
    refine ⟨fun c => absurd c (by decide), fun _ => ⟨vp_in_nI (by omega) (by decide), ?_⟩⟩
    rintro a5 rfl
    rw [nI_clamp (by omega), (hM.2.2.2.2 t ht).2.2.1]
    rcases (hI.2.2.2.2.2.2 t ht).1 with z | z
    · refine ⟨fun d => absurd z d, fun _ => ?_⟩
      simp [opB, z, c] at hq
      exact hq
    · refine ⟨fun _ => ?_, fun d => absurd (z.symm.trans d) (by decide)⟩
      simp [opB, z] at hq
      exact hq
  · rw [if_neg c]
    refine ⟨fun _ => ?_, fun d => absurd rfl d⟩
    simp [c] at hq
    exact hq
theorem s_X2_flavoursTakenBy (hM : MR (σ m) r) (hI : IR r) (t : Nat) (ht : t < 16) (hq : Q (tnR r t) σ) : wp_X2_flavoursTakenBy m t σ Q := by
  unfold wp_X2_flavoursTakenBy wp_X2_flavoursTakenBy_L4
  refine lp_acc 6 (orN (fun f => if tkB r t f then bitN f else 0)) (fun K k hk hK => ?_) (fun K => ?_)
  · dsimp only
    unfold st_X2_flavoursTakenBy_L4
    refine ⟨fun c => absurd c (ge_6 hk), fun _ => ⟨vp_in_nI (by omega) (by decide), ?_⟩⟩
    rw [nI_clamp (by omega)]
    refine s_X4_hasRoomFor hM hI t k ht (hM.1 2 (by decide)) (hM.2.2.1 k hk) ?_
    unfold wp_X2_flavoursTakenBy_b35
    rw [orN] at hK
    cases h : tkB r t k with
    | false =>
      rw [h] at hK
      refine ⟨fun _ => ?_, fun c => absurd rfl c⟩
      rintro z6 rfl
      rw [nI_1]
      have hK' := hK
      simp at hK'
      exact hK'
    | true =>
      rw [h] at hK
      refine ⟨fun c => absurd c (by decide), fun _ => ?_⟩
      rintro z5 rfl z6 rfl
      rw [nI_1]
      exact hK
  · exact ⟨fun _ => hq, fun c => absurd (nI_le (Nat.le_refl 6) (by decide)) c⟩
theorem s_X2_tinsThatAre {x : Int32} (hM : MR (σ m) r) (hI : IR r) (hq : Q (tsR r x) σ) : wp_X2_tinsThatAre m x σ Q := by
  obtain ⟨g1, g2, -⟩ := IR_nT hI
  unfold wp_X2_tinsThatAre wp_X2_tinsThatAre_L4
  refine lp_acc 16 (orN (fun t => if t < nT r ∧ r (73 + 7 * t) = x then bitN t else 0)) (fun K k hk hK => ?_) (fun K => ?_)
  · dsimp only
    unfold st_X2_tinsThatAre_L4
    refine ⟨fun c => absurd c (ge_16 hk), fun _ => ?_⟩
    refine s_X2_isTin2 hM hI k hk rfl ?_
    unfold wp_X2_tinsThatAre_b37
    rw [orN] at hK
    by_cases c : k < nT r
    · rw [if_pos c]
      refine ⟨fun c => absurd c (by decide), fun _ => ⟨vp_in_nI (by omega) (by decide), ?_⟩⟩
      rintro a6 rfl
      rw [nI_clamp (by omega), (hM.2.2.2.2 k hk).2.2.1]
      refine ⟨fun d => ?_, fun d => ?_⟩
      · rintro z9 rfl
        rw [if_neg (fun z => d z.2), Int32.or_zero] at hK
        rw [nI_1]
        exact hK
      · rintro z8 rfl z9 rfl
        rw [if_pos ⟨c, d⟩] at hK
        rw [nI_1]
        exact hK
    · rw [if_neg c]
      refine ⟨fun _ => ?_, fun d => absurd rfl d⟩
      rintro z9 rfl
      rw [if_neg (fun z => c z.1), Int32.or_zero] at hK
      rw [nI_1]
      exact hK
  · refine ⟨fun _ => ?_, fun c => absurd (nI_le (Nat.le_refl 16) (by decide)) c⟩
    rw [orN_ext g1 (fun k h1 _ => if_neg (fun z => by omega)), orN_congr (g := fun t => if r (73 + 7 * t) = x then bitN t else 0) (fun k hk => by simp only [hk, true_and])]
    exact hq
theorem s_X2_sweetsInTins {x1 x2 : Int32} (f : Nat) (hf : f < 6) (hM : MR (σ m) r) (hI : IR r) (e1 : x1 = nI f := by rfl) (hq : Q (itR r f x2) σ) : wp_X2_sweetsInTins m x1 x2 σ Q := by
  subst e1
  obtain ⟨g1, g2, g3⟩ := IR_nT hI
  unfold wp_X2_sweetsInTins wp_X2_sweetsInTins_L5
  refine lp_acc 16 (sumN (fun t => if r (73 + 7 * t) = x2 then r (74 + 7 * t + f) else 0)) (fun K k hk hK => ?_) (fun K => ?_)
  · dsimp only
    unfold st_X2_sweetsInTins_L5
    refine ⟨fun c => absurd c (ge_16 hk), fun _ => ⟨vp_in_nI (by omega) (by decide), ?_⟩⟩
    rintro a3 rfl
    obtain ⟨-, -, b3, b4⟩ := hM.2.2.2.2 k hk
    rw [nI_clamp (by omega), b3]
    unfold wp_X2_sweetsInTins_b41
    rw [sumN] at hK
    refine ⟨fun d => ?_, fun d => ⟨vp_in_nI (by omega) (by decide), ?_⟩⟩
    · rintro z8 rfl
      rw [if_neg d, i_add0] at hK
      rw [nI_1]
      exact hK
    · intro a6 e6
      rw [e6, nI_clamp (n := f) (by omega), b4 f hf]
      refine ⟨vp_in_nI hf (by decide), ?_⟩
      rintro z7 rfl z8 rfl
      rw [if_pos d] at hK
      rw [nI_1]
      exact hK
  · refine ⟨fun _ => ?_, fun c => absurd (nI_le (Nat.le_refl 16) (by decide)) c⟩
    rw [sumN_ext g1 (fun k h1 h2 => by rw [(g3 k h1 h2).2 f hf]; split <;> rfl)]
    exact hq
theorem s_X2_sweetsInAllTins {x1 : Int32} (f : Nat) (hf : f < 6) (hM : MR (σ m) r) (hI : IR r) (e1 : x1 = nI f := by rfl) (hq : Q (iaR r f) σ) : wp_X2_sweetsInAllTins m x1 σ Q :=
  s_X2_sweetsInTins f hf hM hI e1 (s_X2_sweetsInTins f hf hM hI e1 hq)
theorem s_X2_sweetsShipped (hM : MR (σ m) r) (hI : IR r) (hq : Q (ssR r) σ) : wp_X2_sweetsShipped m σ Q := by
  unfold wp_X2_sweetsShipped wp_X2_sweetsShipped_L4
  refine lp_acc 6 (sumN (fun f => itR r f 1)) (fun K k hk hK => ?_) (fun K => ?_)
  · dsimp only
    unfold st_X2_sweetsShipped_L4
    refine ⟨fun c => absurd c (ge_6 hk), fun _ => ?_⟩
    refine s_X2_sweetsInTins k hk hM hI rfl ?_
    rintro z4 rfl z5 rfl
    rw [nI_1]
    exact hK
  · exact ⟨fun _ => hq, fun c => absurd (nI_le (Nat.le_refl 6) (by decide)) c⟩
theorem s_X2_sweetsInHoppers {x1 : Int32} (hM : MR (σ m) r) (hI : IR r) (hq : Q (ihR r x1) σ) : wp_X2_sweetsInHoppers m x1 σ Q := by
  unfold wp_X2_sweetsInHoppers wp_X2_sweetsInHoppers_L4
  refine lp_acc 4 (sumN (fun l => hoR r l x1)) (fun K l hl hK => ?_) (fun K => ?_)
  · dsimp only
    unfold st_X2_sweetsInHoppers_L4
    refine ⟨fun c => absurd c (ge_4 hl), fun _ => ⟨vp_in_nI (by omega) (by decide), ?_⟩⟩
    rintro a3 rfl
    obtain ⟨n, hn, he, -⟩ := hI.2.2.2.2.2.1 l hl
    rw [nI_clamp (by omega)]
    refine s_X1_sweetsOf hM l n hl hn he ?_
    rintro z6 rfl z7 rfl
    rw [nI_1]
    exact hK
  · exact ⟨fun _ => hq, fun c => absurd (nI_le (Nat.le_refl 4) (by decide)) c⟩
theorem s_X2_openTinsAhead {x : Int32} (hM : MR (σ m) r) (hI : IR r) (t : Nat) (ht : t < 16) (e1 : x = nI t := by rfl) (hq : Q (ahR r t) σ) : wp_X2_openTinsAhead m x σ Q := by
  subst e1
  obtain ⟨g1, g2, g3⟩ := IR_nT hI
  unfold wp_X2_openTinsAhead wp_X2_openTinsAhead_L4
  refine lp_acc 16 (sumN (fun o => if decide (o < nT r) && opB r o && bfB r o t then 1 else 0)) (fun K k hk hK => ?_) (fun K => ?_)
  · dsimp only
    unfold st_X2_openTinsAhead_L4
    refine ⟨fun c => absurd c (ge_16 hk), fun _ => ⟨vp_in_nI (by omega) (by decide), ?_⟩⟩
    rintro a3 rfl
    refine ⟨vp_in_nI (by omega) (by decide), ?_⟩
    rintro a5 rfl
    rw [nI_clamp (n := k) (by omega), nI_clamp (n := t) (by omega), (hM.2.2.2.2 k hk).2.1, (hM.2.2.2.2 t ht).2.1]
    have adv : ∀ b : Bool, b = bfB r k t → ∀ s0 : Int32, s0 = (if b then 1 else 0) → wp_X2_openTinsAhead_b62 m (nI t) (fun v2 v3 σ => K (v2, v3, σ)) Q (sumN (fun o => if decide (o < nT r) && opB r o && bfB r o t then 1 else 0) k) (nI k) s0 σ := by
      rintro b hb s0 rfl
      unfold wp_X2_openTinsAhead_b62 wp_X2_openTinsAhead_b80
      refine s_X2_isOpen hM hI k hk rfl ?_
      rw [sumN, ← hb] at hK
      cases h : (decide (k < nT r) && opB r k) with
      | false =>
        rw [h] at hK
        refine ⟨fun _ => ?_, fun d => absurd rfl d⟩
        rintro z18 rfl
        rw [nI_1]
        have hK' : K (sumN (fun o => if decide (o < nT r) && opB r o && bfB r o t then 1 else 0) k + 0, nI (k + 1), σ) := hK
        rw [i_add0] at hK'
        exact hK'
      | true =>
        rw [h] at hK
        refine ⟨fun d => absurd d (by decide), fun _ => ?_⟩
        cases b with
        | false =>
          refine ⟨fun _ => ?_, fun d => absurd rfl d⟩
          rintro z18 rfl
          rw [nI_1]
          have hK' : K (sumN (fun o => if decide (o < nT r) && opB r o && bfB r o t then 1 else 0) k + 0, nI (k + 1), σ) := hK
          rw [i_add0] at hK'
          exact hK'
        | true =>
          refine ⟨fun d => absurd d (by decide), fun _ => ?_⟩
          rintro z17 rfl z18 rfl
          rw [nI_1]
          exact hK
    unfold wp_X2_openTinsAhead_b61 wp_X2_openTinsAhead_b57
    refine ⟨fun c => ?_, fun c => ⟨vp_in_nI (by omega) (by decide), ?_⟩⟩
    · exact adv true (by simp [bfB, c]) _ rfl
    · intro a8 e8
      refine ⟨vp_in_nI (by omega) (by decide), ?_⟩
      intro a10 e10
      rw [e8, e10, (hM.2.2.2.2 k hk).2.1, (hM.2.2.2.2 t ht).2.1]
      refine ⟨fun d => ?_, fun d => ⟨fun g => ?_, fun g => ?_⟩⟩
      · exact adv false (by simp [bfB, c, d]) _ rfl
      · have g' : ¬ k < t := by
          have := (nI_leI (a := t) (b := k) (by omega) (by omega)).mp g
          omega
        exact adv false (by simp [bfB, c, g']) _ rfl
      · have g' : k < t := by
          rw [nI_leI (by omega) (by omega)] at g
          omega
        exact adv true (by simp [bfB, d, g']) _ rfl
  · refine ⟨fun _ => ?_, fun c => absurd (nI_le (Nat.le_refl 16) (by decide)) c⟩
    rw [sumN_ext g1 (fun k h1 _ => by simp [Nat.not_lt.mpr h1]), sumN_congr (g := fun o => if opB r o && bfB r o t then 1 else 0) (fun k hk => by simp only [hk, decide_true, Bool.true_and])]
    exact hq
theorem s_X2_tinOfRank {x : Int32} (hM : MR (σ m) r) (hI : IR r) (hq : Q (brR r x) σ) : wp_X2_tinOfRank m x σ Q := by
  obtain ⟨g1, g2, g3⟩ := IR_nT hI
  unfold wp_X2_tinOfRank wp_X2_tinOfRank_L2
  refine lpN_rel 16 (fun t a => a = (nI t, σ) ∧ ∀ j, j < t → j < nT r → (opB r j && decide (ahR r j = x)) = false) ?_ ?_ 0 _ (Nat.zero_le _) ⟨rfl, fun j h => absurd h (Nat.not_lt_zero j)⟩
  · rintro K t ⟨w1, σ'⟩ ht ⟨e, hj⟩ hK
    cases e
    dsimp only
    unfold st_X2_tinOfRank_L2
    refine ⟨fun c => absurd c (ge_16 ht), fun _ => ?_⟩
    have next : (t < nT r → (opB r t && decide (ahR r t = x)) = false) → wp_X2_tinOfRank_b27 m x (fun v2 σ => K (v2, σ)) Q (nI t) σ := by
      intro hf
      unfold wp_X2_tinOfRank_b27
      rintro z8 rfl
      refine hK _ ⟨by rw [nI_1], fun j hj2 hj3 => ?_⟩
      by_cases q : j = t
      · rw [q]; exact hf (q ▸ hj3)
      · exact hj j (by omega) hj3
    refine s_X2_isOpen hM hI t ht rfl ?_
    by_cases c : t < nT r
    · cases h : opB r t with
      | false =>
        rw [decide_eq_true c]
        exact ⟨fun _ => next (fun _ => by rw [h]; rfl), fun d => absurd rfl d⟩
      | true =>
        rw [decide_eq_true c]
        refine ⟨fun d => absurd d (by decide), fun _ => ?_⟩
        refine s_X2_openTinsAhead hM hI t ht rfl ⟨fun d => next (fun _ => by simp [d]), fun d => ?_⟩
        have hp : (opB r t && decide (ahR r t = x)) = true := by simp [h, d]
        unfold brR at hq
        rw [fstN_eq c hp (fun j z => hj j z (by omega)), if_pos c] at hq
        exact hq
    · rw [decide_eq_false c]
      exact ⟨fun _ => next (fun z => absurd z c), fun d => absurd rfl d⟩
  · rintro K ⟨w1, σ'⟩ ⟨e, hj⟩
    cases e
    dsimp only
    unfold st_X2_tinOfRank_L2
    refine ⟨fun _ => ?_, fun c => absurd (nI_le (Nat.le_refl 16) (by decide)) c⟩
    unfold brR at hq
    rw [fstN_none (fun j z => hj j (by omega) z), if_neg (Nat.lt_irrefl _)] at hq
    exact hq
theorem s_X2_flavoursAhead {x : Int32} (hM : MR (σ m) r) (hI : IR r) (t : Nat) (ht : t < 6) (e1 : x = nI t := by rfl) (hq : Q (cfR r t) σ) : wp_X2_flavoursAhead m x σ Q := by
  subst e1
  unfold wp_X2_flavoursAhead
  refine s_X2_sweetsInAllTins t ht hM hI rfl ?_
  unfold wp_X2_flavoursAhead_L11
  refine lpN_rel 6 (fun o a => a = (iaR r t, sumN (fun o => if cfB r o t then 1 else 0) o, nI o, σ)) ?_ ?_ 0 _ (Nat.zero_le _) rfl
  · rintro K o ⟨u1, u2, u3, σ'⟩ ho e hK
    cases e
    dsimp only
    unfold st_X2_flavoursAhead_L11
    refine ⟨fun c => absurd c (ge_6 ho), fun _ => ?_⟩
    refine s_X2_sweetsInAllTins o ho hM hI rfl ?_
    unfold wp_X2_flavoursAhead_b44 wp_X2_flavoursAhead_b47
    refine ⟨fun c => ?_, fun c => ⟨fun d => ?_, fun d => ⟨fun g => ?_, fun g => ?_⟩⟩⟩
    · rintro z10 rfl z9 rfl
      exact hK _ (by rw [sumN, nI_1]; simp [cfB, c])
    · rintro z9 rfl
      exact hK _ (by rw [sumN, nI_1]; simp [cfB, c, d])
    · have g' : ¬ o < t := by
        have := (nI_leI (a := t) (b := o) (by omega) (by omega)).mp g
        omega
      rintro z9 rfl
      exact hK _ (by rw [sumN, nI_1]; simp [cfB, c, g'])
    · have g' : o < t := by
        rw [nI_leI (by omega) (by omega)] at g
        omega
      rintro z10 rfl z9 rfl
      exact hK _ (by rw [sumN, nI_1]; simp [cfB, d, g'])
  · rintro K ⟨u1, u2, u3, σ'⟩ e
    cases e
    dsimp only
    unfold st_X2_flavoursAhead_L11
    exact ⟨fun _ => hq, fun c => absurd (nI_le (Nat.le_refl 6) (by decide)) c⟩
theorem s_X2_flavourOfRank {x : Int32} (hM : MR (σ m) r) (hI : IR r) (hq : Q (bcR r x) σ) : wp_X2_flavourOfRank m x σ Q := by
  unfold wp_X2_flavourOfRank wp_X2_flavourOfRank_L2
  refine lpN_rel 6 (fun t a => a = (nI t, σ) ∧ ∀ j, j < t → (decide (¬ iaR r j ≤ 0) && decide (cfR r j = x)) = false) ?_ ?_ 0 _ (Nat.zero_le _) ⟨rfl, fun j h => absurd h (Nat.not_lt_zero j)⟩
  · rintro K t ⟨w1, σ'⟩ ht ⟨e, hj⟩ hK
    cases e
    dsimp only
    unfold st_X2_flavourOfRank_L2
    refine ⟨fun c => absurd c (ge_6 ht), fun _ => ?_⟩
    have next : (decide (¬ iaR r t ≤ 0) && decide (cfR r t = x)) = false → wp_X2_flavourOfRank_b27 m x (fun v2 σ => K (v2, σ)) Q (nI t) σ := by
      intro hf
      unfold wp_X2_flavourOfRank_b27
      rintro z8 rfl
      refine hK _ ⟨by rw [nI_1], fun j hj2 => ?_⟩
      by_cases q : j = t
      · rw [q]; exact hf
      · exact hj j (by omega)
    refine s_X2_sweetsInAllTins t ht hM hI rfl ?_
    refine ⟨fun c => next (by simp [c]), fun c => ?_⟩
    refine s_X2_flavoursAhead hM hI t ht rfl ⟨fun d => next (by simp [d]), fun d => ?_⟩
    have hp : (decide (¬ iaR r t ≤ 0) && decide (cfR r t = x)) = true := by rw [decide_eq_true c, decide_eq_true d]; rfl
    unfold bcR at hq
    rw [fstN_eq ht hp hj, if_pos ht] at hq
    exact hq
  · rintro K ⟨w1, σ'⟩ ⟨e, hj⟩
    cases e
    dsimp only
    unfold st_X2_flavourOfRank_L2
    refine ⟨fun _ => ?_, fun c => absurd (nI_le (Nat.le_refl 6) (by decide)) c⟩
    unfold bcR at hq
    rw [fstN_none hj, if_neg (Nat.lt_irrefl _)] at hq
    exact hq
theorem s_X2_tinsForHoppers (hM : MR (σ m) r) (hI : IR r) (hq : Q (tfoR r) σ) : wp_X2_tinsForHoppers m σ Q := by
  unfold wp_X2_tinsForHoppers
  rw [hM.1 2 (by decide)]
  obtain ⟨a, a1, a2, a3⟩ := hI.2.2.1
  rintro z1 rfl
  refine ⟨fun _ => ?_, fun c => absurd (by rw [a3]; exact nI_le (a := 1) a1 (by omega)) c⟩
  unfold wp_X2_tinsForHoppers_L18
  refine lpN_rel 6 (fun f z => z = (r 2, sumN (fun f => (ihR r (nI f) + r 2 - 1) / r 2) f, nI f, σ)) ?_ ?_ 0 _ (Nat.zero_le _) rfl
  · rintro K f ⟨u1, u2, u3, σ'⟩ hf e hK
    cases e
    dsimp only
    unfold st_X2_tinsForHoppers_L18
    refine ⟨fun c => absurd c (ge_6 hf), fun _ => ?_⟩
    refine s_X2_sweetsInHoppers hM hI ⟨by rw [a3]; exact nI_ne0 (by omega) (by omega), ?_⟩
    rintro z6 rfl z7 rfl
    exact hK _ (by rw [sumN, nI_1])
  · rintro K ⟨u1, u2, u3, σ'⟩ e
    cases e
    dsimp only
    unfold st_X2_tinsForHoppers_L18
    exact ⟨fun _ => hq, fun c => absurd (nI_le (Nat.le_refl 6) (by decide)) c⟩
theorem s_X6_tinsFor (hI : IR (σ 12 19 0)) (hq : Q (tfoR (σ 12 19 0)) σ) : wp_X6_tinsFor σ Q := by
  obtain ⟨a, a1, a2, a3⟩ := hI.2.2.1
  unfold wp_X6_tinsFor wp_X6_tinsFor_L4
  refine lp_acc 6 (sumN (fun f => (ihR (σ 12 19 0) (nI f) + (σ 12 19 0) 2 - 1) / (σ 12 19 0) 2)) (fun K k hk hK => ?_) (fun K => ?_)
  · dsimp only
    unfold st_X6_tinsFor_L4
    refine ⟨fun c => absurd c (ge_6 hk), fun _ => ?_⟩
    refine s_X6_inHoppers hI ⟨by rw [a3]; exact nI_ne0 (by omega) (by omega), ?_⟩
    rintro z4 rfl z5 rfl
    rw [nI_1]
    exact hK
  · exact ⟨fun _ => hq, fun c => absurd (nI_le (Nat.le_refl 6) (by decide)) c⟩
theorem rsR_le (r : Nat → Int32) (l : Nat) : rsR r l ≤ 0 ↔ rsR r l = 0 := by
  unfold rsR
  repeat' split
  all_goals decide
theorem s_X2_standingLanes (hM : MR (σ m) r) (hI : IR r) (hq : Q (flR r) σ) : wp_X2_standingLanes m σ Q := by
  unfold wp_X2_standingLanes wp_X2_standingLanes_L4
  refine lp_acc 4 (orN (fun l => if rsR r l ≤ 0 then 0 else bitN l)) (fun K k hk hK => ?_) (fun K => ?_)
  · dsimp only
    unfold st_X2_standingLanes_L4
    refine ⟨fun c => absurd c (ge_4 hk), fun _ => ⟨vp_in_nI (by omega) (by decide), ?_⟩⟩
    rintro a3 rfl
    rw [nI_clamp (by omega)]
    refine s_X2_reasonNow hM hI k hk ?_
    unfold wp_X2_standingLanes_b28
    rw [orN] at hK
    refine ⟨fun c => ?_, fun c => ?_⟩
    · rintro z8 rfl
      rw [if_pos ((rsR_le r k).mpr c), Int32.or_zero] at hK
      rw [nI_1]
      exact hK
    · rintro z7 rfl z8 rfl
      rw [if_neg (fun z => c ((rsR_le r k).mp z))] at hK
      rw [nI_1]
      exact hK
  · exact ⟨fun _ => hq, fun c => absurd (nI_le (Nat.le_refl 4) (by decide)) c⟩
/-- a fact of a lane, summed -/
theorem s_X2_overLanes {x : Int32} (g : Nat → Int32) (hg : ∀ (l : Nat) (Q' : Int32 → Sg → Prop), l < 4 → Q' (g l) σ → wp_X2_laneFact m (nI l) x σ Q') (hq : Q (sumN g 4) σ) : wp_X2_overLanes m x σ Q := by
  unfold wp_X2_overLanes wp_X2_overLanes_L4
  refine lp_acc 4 (sumN g) (fun K k hk hK => ?_) (fun K => ?_)
  · dsimp only
    unfold st_X2_overLanes_L4
    refine ⟨fun c => absurd c (ge_4 hk), fun _ => ?_⟩
    refine hg k _ hk ?_
    rintro z4 rfl z5 rfl
    rw [nI_1]
    exact hK
  · exact ⟨fun _ => hq, fun c => absurd (nI_le (Nat.le_refl 4) (by decide)) c⟩
theorem s_laneIx {x y : Int32} (l : Nat) (hl : l < 4) (e : x = nI l) (h : wp_X2_laneFact m (nI l) y σ Q) : wp_X2_laneFact m x y σ Q := e ▸ h
end CB
