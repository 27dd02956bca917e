/-! The history, on both sides. -/
theorem up_m {σ : Sg} {m k i j a : Nat} {x : Int32} (h : a ≠ m) : up σ m k i j x a = σ a := by
  funext b c
  show (if a = m ∧ b = k ∧ c = i then _ else σ a b c) = _
  rw [if_neg (fun z => h z.1)]
theorem up_k {σ : Sg} {m k i j b : Nat} {x : Int32} (h : b ≠ k) : up σ m k i j x m b = σ m b := by
  funext c
  show (if m = m ∧ b = k ∧ c = i then _ else σ m b c) = _
  rw [if_neg (fun z => h z.2.1)]
theorem up_r {σ : Sg} {m k i j : Nat} {x : Int32} : up σ m k i j x m k i = upd (σ m k i) j x := by
  show (if m = m ∧ k = k ∧ i = i then _ else _) = _
  rw [if_pos ⟨rfl, rfl, rfl⟩]
theorem up_j {σ : Sg} {m k i j c : Nat} {x : Int32} (h : c ≠ j) : up σ m k i j x m k i c = σ m k i c := by
  rw [up_r, pk_un h]
theorem up_e {σ : Sg} {m k i j : Nat} {x : Int32} : up σ m k i j x m k i j = x := by
  rw [up_r, pk_us]
theorem ua_r {σ : Sg} {m k i : Nat} {f : Nat → Int32} : ua σ m k i f m k i = f := by
  show (if m = m ∧ k = k ∧ i = i then _ else _) = _
  rw [if_pos ⟨rfl, rfl, rfl⟩]
theorem ua_m {σ : Sg} {m k i a : Nat} {f : Nat → Int32} (h : a ≠ m) : ua σ m k i f a = σ a := by
  funext b c
  show (if a = m ∧ b = k ∧ c = i then _ else σ a b c) = _
  rw [if_neg (fun z => h z.1)]
theorem ua_k {σ : Sg} {m k i b : Nat} {f : Nat → Int32} (h : b ≠ k) : ua σ m k i f m b = σ m b := by
  funext c
  show (if m = m ∧ b = k ∧ c = i then _ else σ m b c) = _
  rw [if_neg (fun z => h z.2.1)]
theorem ua_up {σ : Sg} {m k i j : Nat} {f : Nat → Int32} {x : Int32} : up (ua σ m k i f) m k i j x = ua σ m k i (upd f j x) := by
  unfold up
  rw [ua_r]
  funext a b c
  unfold ua
  split <;> rfl
theorem ua_self (σ : Sg) (m k i : Nat) : ua σ m k i (σ m k i) = σ := by
  funext a b c
  unfold ua
  split
  · next h => rw [h.1, h.2.1, h.2.2]
  · rfl
def PM (p : Nat → Nat) : Prop := (∀ j, j < 7 → 2 ≤ p j ∧ p j ≤ 8) ∧ (∀ i j, i < 7 → j < 7 → p i = p j → i = j)
theorem PM_comp {p : Nat → Nat} (h : PM p) (s : Nat → Nat) (h1 : ∀ j, j < 7 → s j < 7) (h2 : ∀ i j, i < 7 → j < 7 → s i = s j → i = j) : PM (fun j => p (s j)) :=
  ⟨fun j hj => h.1 _ (h1 j hj), fun i j hi hj e => h2 i j hi hj (h.2 _ _ (h1 i hi) (h1 j hj) e)⟩
def CH (σ : Sg) (p : Nat → Nat) (D : Nat) (b : Nat → Nat → Int32) : Prop := PM p ∧ (∀ j, j < 6 → σ 11 12 0 j = nI (p j)) ∧ σ 11 11 0 1 = nI (p 6) ∧ D ≤ 6 ∧ σ 11 11 0 2 = nI D ∧ ∀ j, j < D → MR (σ (p j)) (b j) ∧ IR (b j)
def nxt (D : Nat) : Nat := if D = 6 then 6 else D + 1
def psh (D : Nat) (b : Nat → Nat → Int32) (s : Nat → Int32) : Nat → Nat → Int32 := fun j => if D = 6 then (if j = 5 then s else b (j + 1)) else if j = D then s else b j
section HI
variable {τ : Sg} {p : Nat → Nat} {D : Nat} {b : Nat → Nat → Int32} {s : Nat → Int32}
theorem s_rec19 {Q : Int32 → Sg → Prop} {a : Int32} (hC : CH τ p D b) (hD : D < 6) (hMs : MR (τ (p 6)) s) (hIs : IR s) (hq : ∀ τ' p', (∀ m, m ≠ 11 → τ' m = τ m) → (∀ k, k ≠ 11 → k ≠ 12 → τ' 11 k = τ 11 k) → CH τ' p' (D + 1) (fun j => if j = D then s else b j) → Q a τ') : wp_X0_record_b19 a Q τ := by
  obtain ⟨c1, c2, c3, c4, c5, c6⟩ := hC
  unfold wp_X0_record_b19
  rw [c5]
  refine s_X5_isIndex ?_
  rw [if_neg (nI_pos (by omega)), if_neg (ge_6 hD)]
  refine ⟨fun _ => ?_, fun c => absurd c (by decide)⟩
  rw [c5, nI_clamp (by omega), c2 D hD]
  refine ⟨vp_in_nI hD (by decide), ?_⟩
  have pD := c1.1 D (by omega)
  have p6 := c1.1 6 (by omega)
  intro b8 e8
  rw [nI_clamp (by omega)] at e8
  subst e8
  refine ⟨by omega, ?_⟩
  intro b9 e9
  rw [c3, nI_clamp (by omega)] at e9
  subst e9
  refine ⟨by omega, vp_in_nI hD (by decide), ?_⟩
  rintro σ10 rfl σ11 rfl σ12 rfl
  have sw : ∀ j, j < 7 → (if j = D then 6 else if j = 6 then D else j) < 7 := by
    intro j hj
    split
    · omega
    · split <;> omega
  refine hq _ (fun j => p (if j = D then 6 else if j = 6 then D else j)) (fun m hm => ?_) (fun k h1 h2 => ?_) ⟨PM_comp c1 _ sw ?_, fun j hj => ?_, ?_, by omega, ?_, fun j hj => ?_⟩
  · rw [up_m hm, up_m hm, up_m hm]
  · rw [up_k h1, up_k h1, up_k h2]
  · intro i j hi hj e
    split at e <;> split at e <;> (try split at e) <;> (try split at e) <;> omega
  · dsimp only
    rw [up_k (by decide), up_k (by decide), up_r]
    by_cases e : j = D
    · rw [e, pk_us, if_pos rfl]
    · rw [pk_un e, if_neg e, if_neg (by omega)]
      exact c2 j hj
  · dsimp only
    rw [up_j (by decide), up_e, if_neg (by omega), if_pos rfl]
  · rw [up_e, up_j (by decide), up_k (by decide), c5, nI_1]
  · have q1 := c1.1 _ (sw j (by omega))
    dsimp only
    rw [up_m (by omega), up_m (by omega), up_m (by omega)]
    by_cases e : j = D
    · rw [if_pos e, if_pos e]
      exact ⟨hMs, hIs⟩
    · rw [if_neg e, if_neg e, if_neg (by omega)]
      exact c6 j (by omega)
theorem s_X0_dropOldest {Q : Sg → Prop} (hC : CH τ p 6 b) (hq : ∀ τ' p', (∀ m, m ≠ 11 → τ' m = τ m) → (∀ k, k ≠ 11 → k ≠ 12 → τ' 11 k = τ 11 k) → p' 6 = p 6 → CH τ' p' 5 (fun j => b (j + 1)) → Q τ') : wp_X0_dropOldest τ Q := by
  obtain ⟨c1, c2, c3, c4, c5, c6⟩ := hC
  unfold wp_X0_dropOldest
  have p0 := c1.1 0 (by omega)
  intro b2 e2
  rw [show ((0 : Int32).toNatClampNeg) = 0 from rfl, c2 0 (by decide), nI_clamp (by omega)] at e2
  subst e2
  refine ⟨by omega, ?_⟩
  unfold wp_X0_dropOldest_L9
  refine lpN_rel 5 (fun k z => z = (p 0, nI k, ua τ 11 12 0 (shL (τ 11 12 0) k))) ?_ ?_ 0 _ (Nat.zero_le _) (by rw [shL_0, ua_self]; rfl)
  · rintro K k z hk rfl hK
    dsimp only
    unfold st_X0_dropOldest_L9
    refine ⟨by omega, ?_⟩
    rw [nI_1]
    refine ⟨fun c => absurd c (ge_6 (by omega)), fun _ => ⟨vp_in_nI (by omega) (by decide), ?_⟩⟩
    have e : shL (τ 11 12 0) k (k + 1) = nI (p (k + 1)) := by
      unfold shL
      rw [if_neg (by omega)]
      exact c2 (k + 1) (by omega)
    have pk := c1.1 (k + 1) (by omega)
    intro b7 e7
    rw [nI_clamp (by omega), ua_r, e, nI_clamp (by omega)] at e7
    refine ⟨by omega, vp_in_nI (by omega) (by decide), ?_⟩
    rintro σ8 rfl z9 rfl
    rw [e7, nI_clamp (by omega), ua_up, ← e, shL_s]
    exact hK _ rfl
  · rintro K z rfl
    dsimp only
    unfold st_X0_dropOldest_L9
    refine ⟨by omega, fun _ => ?_, fun c => absurd (show (6 : Int32) ≤ nI 5 + 1 by decide) c⟩
    rintro σ4 rfl σ5 rfl
    rw [ua_up]
    refine hq _ (fun j => p (if j < 5 then j + 1 else if j = 5 then 0 else 6)) (fun m hm => ?_) (fun k h1 h2 => ?_) rfl ⟨PM_comp c1 _ (fun j hj => ?_) (fun i j hi hj e => ?_), fun j hj => ?_, ?_, by decide, ?_, fun j hj => ?_⟩
    · rw [up_m hm, ua_m hm]
    · rw [up_k h1, ua_k h2]
    · split
      · omega
      · split <;> omega
    · split at e <;> split at e <;> (try split at e) <;> (try split at e) <;> omega
    · dsimp only
      rw [up_k (by decide), ua_r]
      by_cases e : j = 5
      · rw [e, pk_us]; rfl
      · rw [pk_un e, if_pos (by omega)]
        unfold shL
        rw [if_pos (by omega)]
        exact c2 (j + 1) (by omega)
    · rw [up_j (by decide), ua_k (by decide)]
      exact c3
    · rw [up_e]; rfl
    · have q1 := c1.1 (j + 1) (by omega)
      show MR (up _ 11 11 0 2 5 (p (if j < 5 then j + 1 else if j = 5 then 0 else 6))) (b (j + 1)) ∧ IR (b (j + 1))
      rw [if_pos hj, up_m (by omega), ua_m (by omega)]
      exact c6 (j + 1) (by omega)
theorem s_X0_record {Q : Int32 → Sg → Prop} {a : Int32} (hC : CH τ p D b) (hMs : MR (τ (p 6)) s) (hIs : IR s) (ha : ¬ a < 0) (hq : ∀ τ' p', (∀ m, m ≠ 11 → τ' m = τ m) → (∀ k, k ≠ 11 → k ≠ 12 → τ' 11 k = τ 11 k) → CH τ' p' (nxt D) (psh D b s) → Q a τ') : wp_X0_record a τ Q := by
  have c5 := hC.2.2.2.2.1
  have c4 := hC.2.2.2.1
  unfold wp_X0_record
  rw [c5]
  refine ⟨fun _ => ⟨fun c => ?_, fun c => ?_⟩, fun c => absurd (Int32.not_lt.mp ha) c⟩
  · have hD : D < 6 := (nI_ltI (a := D) (b := 6) (by omega) (by decide)).mp c
    refine s_rec19 hC hD hMs hIs (fun τ' p' h1 h2 h3 => hq τ' p' h1 h2 ?_)
    have e1 : nxt D = D + 1 := if_neg (by omega)
    have e2 : psh D b s = fun j => if j = D then s else b j := by
      funext j
      unfold psh
      rw [if_neg (by omega)]
    rw [e1, e2]
    exact h3
  · have hD : D = 6 := by
      by_cases q : D < 6
      · exact absurd ((nI_ltI (a := D) (b := 6) (by omega) (by decide)).mpr q) c
      · omega
    subst hD
    refine s_X0_dropOldest hC (fun τ1 p1 h1 h2 h6 h3 => ?_)
    have p6 := hC.1.1 6 (by omega)
    refine s_rec19 h3 (by decide) (s := s) (by rw [h6, h1 _ (by omega)]; exact hMs) hIs (fun τ' p' g1 g2 g3 => hq τ' p' (fun m hm => (g1 m hm).trans (h1 m hm)) (fun k k1 k2 => (g2 k k1 k2).trans (h2 k k1 k2)) ?_)
    have e1 : nxt 6 = 6 := rfl
    have e2 : psh 6 b s = fun j => if j = 5 then s else b (j + 1) := rfl
    rw [e1, e2]
    exact g3
/-- the reference's record -/
def mvN (k : Nat) (B : Nat → Int32) : Nat → Int32 := fun q => if q < k then B (194 + q) else B q
theorem mvN_s (k : Nat) (B : Nat → Int32) : upd (mvN k B) k (mvN k B (194 + k)) = mvN (k + 1) B := by
  funext q
  unfold upd mvN
  by_cases h : q = k
  · rw [if_pos h, if_neg (by omega), if_pos (by omega), h]
  · rw [if_neg h]
    by_cases h2 : q < k
    · rw [if_pos h2, if_pos (by omega)]
    · rw [if_neg h2, if_neg (by omega)]
def wrN (o k : Nat) (r B : Nat → Int32) : Nat → Int32 := fun q => if o ≤ q ∧ q < o + k then r (q - o) else B q
theorem wrN_0 (o : Nat) (r B : Nat → Int32) : wrN o 0 r B = B := by
  funext q
  unfold wrN
  rw [if_neg (by omega)]
theorem wrN_s (o k : Nat) (r B : Nat → Int32) : upd (wrN o k r B) (o + k) (r k) = wrN o (k + 1) r B := by
  funext q
  unfold upd wrN
  by_cases h : q = o + k
  · rw [if_pos h, if_pos (by omega), show q - o = k by omega]
  · rw [if_neg h]
    by_cases h2 : o ≤ q ∧ q < o + k
    · rw [if_pos h2, if_pos (by omega)]
    · rw [if_neg h2, if_neg (by omega)]
theorem s_X6_rec50 {Q : Sg → Prop} (hD : D < 6) (hk : τ 12 18 0 3 = nI D) (hq : Q (up (ua τ 12 21 0 (wrN (194 * D) 194 (τ 12 19 0) (τ 12 21 0))) 12 18 0 3 (nI (D + 1)))) : wp_X6_record_b50 Q τ := by
  unfold wp_X6_record_b50 wp_X6_record_L52
  refine lpN_rel 194 (fun k z => z = (nI k, ua τ 12 21 0 (wrN (194 * D) k (τ 12 19 0) (τ 12 21 0)))) ?_ ?_ 0 _ (Nat.zero_le _) (by rw [wrN_0, ua_self]; rfl)
  · rintro K k z hk2 rfl hK
    dsimp only
    unfold st_X6_record_L52
    have e1 : ua τ 12 21 0 (wrN (194 * D) k (τ 12 19 0) (τ 12 21 0)) 12 18 = τ 12 18 := ua_k (by decide)
    have e2 : ua τ 12 21 0 (wrN (194 * D) k (τ 12 19 0) (τ 12 21 0)) 12 19 = τ 12 19 := ua_k (by decide)
    rw [e1, e2, hk, show (((194 : Int32) * nI D) + nI k) = nI (194 * D + k) by simp only [nI_lit, nI_add, pk_mul], nI_clamp (n := k) (by omega), nI_clamp (by omega)]
    refine ⟨fun c => absurd c (ge_194 hk2), fun _ => ⟨vp_in_nI hk2 (by decide), vp_in_nI (by omega) (by decide), ?_⟩⟩
    rintro σ4 rfl z5 rfl
    rw [ua_up, wrN_s, nI_1]
    exact hK _ rfl
  · rintro K z rfl
    dsimp only
    unfold st_X6_record_L52
    refine ⟨fun _ => ?_, fun c => absurd (nI_le (Nat.le_refl 194) (by decide)) c⟩
    have e1 : ua τ 12 21 0 (wrN (194 * D) 194 (τ 12 19 0) (τ 12 21 0)) 12 18 = τ 12 18 := ua_k (by decide)
    rintro σ3 rfl
    rw [e1, hk, nI_1]
    exact hq
theorem wr_read {o j q : Nat} {r B : Nat → Int32} (hq : q < 194) : wrN (194 * o) 194 r B (194 * j + q) = if j = o then r q else B (194 * j + q) := by
  unfold wrN
  by_cases e : j = o
  · subst e
    rw [if_pos (by omega), if_pos rfl, show 194 * j + q - 194 * j = q by omega]
  · rw [if_neg e, if_neg (by omega)]
theorem s_X6_record {Q : Sg → Prop} (hD : D ≤ 6) (hk : τ 12 18 0 3 = nI D) (hq : ∀ τ', (∀ m, m ≠ 12 → τ' m = τ m) → (∀ k, k ≠ 18 → k ≠ 21 → τ' 12 k = τ 12 k) → (∀ j, j ≠ 3 → τ' 12 18 0 j = τ 12 18 0 j) → τ' 12 18 0 3 = nI (nxt D) → (∀ j q, j < nxt D → q < 194 → τ' 12 21 0 (194 * j + q) = psh D (bfR τ) (τ 12 19 0) j q) → Q τ') : wp_X6_record τ Q := by
  unfold wp_X6_record
  rw [hk]
  refine ⟨fun c => ?_, fun c => ?_⟩
  · have h6 : D ≠ 6 := fun e => c (by rw [e]; rfl)
    refine s_X6_rec50 (by omega) hk (hq _ (fun m hm => ?_) (fun k h1 h2 => ?_) (fun j hj => ?_) ?_ (fun j q hj hq2 => ?_))
    · rw [up_m hm, ua_m hm]
    · rw [up_k h1, ua_k h2]
    · rw [up_j hj, ua_k (by decide)]
    · rw [up_e]
      unfold nxt
      rw [if_neg h6]
    · rw [up_k (by decide), ua_r, wr_read hq2]
      unfold psh bfR
      rw [if_neg h6]
      split <;> rfl
  · have h6 : D = 6 := (nI_eq (b := 6) (by omega) (by decide)).mp c
    subst h6
    unfold wp_X6_record_L11
    refine lpN_rel 970 (fun k z => z = (nI k, ua τ 12 21 0 (mvN k (τ 12 21 0)))) ?_ ?_ 0 _ (Nat.zero_le _) ?_
    · rintro K k z hk2 rfl hK
      dsimp only
      unfold st_X6_record_L11
      rw [show ((194 : Int32) + nI k) = nI (194 + k) by simp only [nI_lit, nI_add], nI_clamp (n := k) (by omega), nI_clamp (by omega), ua_r]
      refine ⟨fun c => absurd c (show ¬ nI 970 ≤ nI k from nI_ge hk2 (by decide)), fun _ => ⟨vp_in_nI (by omega) (by decide), vp_in_nI (by omega) (by decide), ?_⟩⟩
      rintro σ8 rfl z9 rfl
      rw [ua_up, mvN_s, nI_1]
      exact hK _ rfl
    · rintro K z rfl
      dsimp only
      unfold st_X6_record_L11
      refine ⟨fun _ => ?_, fun c => absurd (nI_le (Nat.le_refl 970) (by decide)) c⟩
      rintro σ7 rfl
      have e0 : ua τ 12 21 0 (mvN 970 (τ 12 21 0)) 12 18 = τ 12 18 := ua_k (by decide)
      rw [e0, hk]
      refine s_X6_rec50 (D := 5) (by decide) (by rw [up_e]; decide) (hq _ (fun m hm => ?_) (fun k h1 h2 => ?_) (fun j hj => ?_) ?_ (fun j q hj hq2 => ?_))
      · rw [up_m hm, ua_m hm, up_m hm, ua_m hm]
      · rw [up_k h1, ua_k h2, up_k h1, ua_k h2]
      · rw [up_j hj, ua_k (by decide), up_j hj, ua_k (by decide)]
      · rw [up_e]; rfl
      · rw [up_k (by decide), ua_r, wr_read hq2, up_k (b := 19) (by decide), ua_k (b := 19) (by decide), up_k (b := 21) (by decide), ua_r]
        show _ = (if j = 5 then τ 12 19 0 else bfR τ (j + 1)) q
        by_cases e : j = 5
        · rw [if_pos e, if_pos e]
        · have hj6 : j < 6 := hj
          rw [if_neg e, if_neg e]
          unfold mvN bfR
          rw [if_pos (by omega), show 194 + (194 * j + q) = 194 * (j + 1) + q by omega]
    · have e : mvN 0 (τ 12 21 0) = τ 12 21 0 := by
        funext q
        unfold mvN
        rw [if_neg (Nat.not_lt_zero q)]
      rw [e, ua_self]
      rfl
end HI
