/-! Ranks: by a key, the most first, of as many the lower one. -/
def cnt (p : Nat → Bool) : Nat → Nat
  | 0 => 0
  | n + 1 => cnt p n + if p n then 1 else 0
theorem cnt_sum (p : Nat → Bool) (n : Nat) : sumN (fun o => if p o then 1 else 0) n = nI (cnt p n) := by
  induction n with
  | zero => rfl
  | succ n ih =>
    rw [sumN, cnt, ih]
    by_cases c : p n = true
    · rw [if_pos c, if_pos c, nI_1]
    · rw [if_neg c, if_neg c, i_add0, Nat.add_zero]
theorem cnt_congr {p q : Nat → Bool} {n : Nat} (h : ∀ o, o < n → p o = q o) : cnt p n = cnt q n := by
  induction n with
  | zero => rfl
  | succ n ih => rw [cnt, cnt, ih (fun o ho => h o (by omega)), h n (by omega)]
theorem cnt_le (p : Nat → Bool) (n : Nat) : cnt p n ≤ n := by
  induction n with
  | zero => exact Nat.le_refl 0
  | succ n ih =>
    rw [cnt]
    split <;> omega
theorem cnt_lt {p : Nat → Bool} {n a : Nat} (ha : a < n) (h : p a = false) : cnt p n < n := by
  induction n with
  | zero => omega
  | succ n ih =>
    rw [cnt]
    by_cases c : a = n
    · subst c
      rw [if_neg (by rw [h]; decide)]
      have := cnt_le p a
      omega
    · have := ih (by omega)
      split <;> omega
theorem cnt_mono {p q : Nat → Bool} {n : Nat} (h : ∀ o, o < n → p o = true → q o = true) : cnt p n ≤ cnt q n := by
  induction n with
  | zero => exact Nat.le_refl 0
  | succ n ih =>
    have i := ih (fun o ho => h o (by omega))
    rw [cnt, cnt]
    by_cases c : p n = true
    · rw [if_pos c, if_pos (h n (by omega) c)]
      omega
    · rw [if_neg c]
      split <;> omega
theorem cnt_strict {p q : Nat → Bool} {n a : Nat} (h : ∀ o, o < n → p o = true → q o = true) (ha : a < n) (h1 : p a = false) (h2 : q a = true) : cnt p n < cnt q n := by
  induction n with
  | zero => omega
  | succ n ih =>
    rw [cnt, cnt]
    by_cases c : a = n
    · subst c
      have := cnt_mono (p := p) (q := q) (n := a) (fun o ho => h o (by omega))
      rw [if_neg (by rw [h1]; decide), if_pos h2]
      omega
    · have i := ih (fun o ho => h o (by omega)) (by omega)
      by_cases d : p n = true
      · rw [if_pos d, if_pos (h n (by omega) d)]
        omega
      · rw [if_neg d]
        split <;> omega
theorem cnt_one {p q : Nat → Bool} {a : Nat} : ∀ {n : Nat}, (∀ o, o < n → p o = true → q o = true ∨ o = a) → cnt p n ≤ cnt q n + if a < n then 1 else 0 := by
  intro n
  induction n with
  | zero => intro _; exact Nat.zero_le _
  | succ n ih =>
    intro h
    have i := ih (fun o ho => h o (by omega))
    rw [cnt, cnt]
    by_cases c : p n = true
    · rw [if_pos c]
      rcases h n (by omega) c with d | d
      · rw [if_pos d]
        by_cases g : a < n
        · rw [if_pos g] at i
          rw [if_pos (by omega)]
          omega
        · rw [if_neg g] at i
          split <;> omega
      · rw [if_neg (by omega)] at i
        rw [if_pos (c := a < n + 1) (by omega)]
        split <;> omega
    · rw [if_neg c]
      by_cases g : a < n
      · rw [if_pos g] at i
        rw [if_pos (c := a < n + 1) (by omega)]
        split <;> omega
      · rw [if_neg g] at i
        split <;> split <;> omega
/-- as many as there are numbers for -/
theorem cnt_inj : ∀ (k : Nat) {p : Nat → Bool} {n : Nat} {f : Nat → Nat}, (∀ o, o < n → p o = true → f o < k) → (∀ a b, a < n → b < n → p a = true → p b = true → f a = f b → a = b) → cnt p n ≤ k := by
  intro k
  induction k with
  | zero =>
    intro p n f h1 h2
    have : cnt p n = cnt (fun _ => false) n := cnt_congr (fun o ho => by
      cases c : p o with
      | false => rfl
      | true => exact absurd (h1 o ho c) (by omega))
    rw [this]
    clear this h1 h2
    induction n with
    | zero => exact Nat.le_refl 0
    | succ n ih => rw [cnt, if_neg (by decide)]; exact ih
  | succ k ih =>
    intro p n f h1 h2
    have i := ih (p := fun o => p o && decide (f o < k)) (n := n) (f := f) (fun o ho hp => by
      simp only [Bool.and_eq_true, decide_eq_true_eq] at hp
      exact hp.2) (fun a b ha hb pa pb e => by
      simp only [Bool.and_eq_true, decide_eq_true_eq] at pa pb
      exact h2 a b ha hb pa.1 pb.1 e)
    by_cases c : ∃ a, a < n ∧ p a = true ∧ f a = k
    · obtain ⟨a, a1, a2, a3⟩ := c
      have j := cnt_one (p := p) (q := fun o => p o && decide (f o < k)) (a := a) (n := n) (fun o ho hp => by
        by_cases d : f o < k
        · exact Or.inl (by rw [hp, decide_eq_true d]; rfl)
        · have := h1 o ho hp
          exact Or.inr (h2 o a ho a1 hp a2 (by omega)))
      rw [if_pos a1] at j
      omega
    · have j := cnt_mono (p := p) (q := fun o => p o && decide (f o < k)) (n := n) (fun o ho hp => by
        have h3 := h1 o ho hp
        have h4 : f o ≠ k := fun z => c ⟨o, ho, hp, z⟩
        rw [hp, decide_eq_true (show f o < k by omega)]
        rfl)
      omega
def bfK (key : Nat → Nat) (o t : Nat) : Bool := decide (key t < key o ∨ (key o = key t ∧ o < t))
theorem bfK_iff {key : Nat → Nat} {o t : Nat} : bfK key o t = true ↔ key t < key o ∨ (key o = key t ∧ o < t) := by unfold bfK; rw [decide_eq_true_eq]
def rkK (key : Nat → Nat) (p : Nat → Bool) (N t : Nat) : Nat := cnt (fun o => p o && bfK key o t) N
section RK
variable {key : Nat → Nat} {p : Nat → Bool} {N : Nat}
theorem rk_lt {a b : Nat} (ha : a < N) (pa : p a = true) (h : bfK key a b = true) : rkK key p N a < rkK key p N b := by
  refine cnt_strict (a := a) (fun o ho hp => ?_) ha ?_ ?_
  · simp only [Bool.and_eq_true] at hp ⊢
    refine ⟨hp.1, bfK_iff.mpr ?_⟩
    have h1 := bfK_iff.mp hp.2
    have h2 := bfK_iff.mp h
    omega
  · have : bfK key a a = false := by
      unfold bfK
      rw [decide_eq_false (by omega)]
    rw [this, Bool.and_false]
  · rw [pa, h]; rfl
theorem rk_ord {a b : Nat} (hb : b < N) (pb : p b = true) (h : rkK key p N a < rkK key p N b) : bfK key a b = true := by
  cases c : bfK key b a with
  | true => have := rk_lt hb pb c; omega
  | false =>
    have n1 : ¬ (key a < key b ∨ (key b = key a ∧ b < a)) := fun z => by
      rw [bfK_iff.mpr z] at c
      exact absurd c (by decide)
    have ne : a ≠ b := fun z => by rw [z] at h; omega
    exact bfK_iff.mpr (by omega)
theorem rk_eq {a b : Nat} (ha : a < N) (hb : b < N) (pa : p a = true) (pb : p b = true) (h : rkK key p N a = rkK key p N b) : a = b := by
  by_cases c : a = b
  · exact c
  · exfalso
    by_cases d : key b < key a ∨ (key a = key b ∧ a < b)
    · have := rk_lt ha pa (bfK_iff.mpr d); omega
    · have := rk_lt hb pb (bfK_iff.mpr (show key a < key b ∨ (key b = key a ∧ b < a) by omega)); omega
theorem rk_stop {k : Nat} (h : ∀ t, t < N → p t = true → rkK key p N t ≠ k) : ∀ (m t : Nat), t < N → p t = true → rkK key p N t = m → m < k := by
  intro m
  induction m using Nat.strongRecOn with
  | _ m ih =>
    intro t ht pt em
    have hk := h t ht pt
    have : rkK key p N t ≤ k := by
      refine cnt_inj k (f := rkK key p N) (fun o ho hp => ?_) (fun a b ha hb pa pb e => ?_)
      · simp only [Bool.and_eq_true] at hp
        have := rk_lt (N := N) ho hp.1 hp.2
        exact ih (rkK key p N o) (by omega) o ho hp.1 rfl
      · simp only [Bool.and_eq_true] at pa pb
        exact rk_eq ha hb pa.1 pb.1 e
    omega
/-- how many ranks there are -/
theorem rk_K : ∃ K, K ≤ N ∧ (∀ k, k < K → ∃ t, t < N ∧ p t = true ∧ rkK key p N t = k) ∧ ∀ t, t < N → p t = true → rkK key p N t < K := by
  have hN : ∀ t, t < N → p t = true → rkK key p N t ≠ N := by
    intro t ht _ e
    have : rkK key p N t < N := cnt_lt (a := t) ht (by
      have : bfK key t t = false := by
        unfold bfK
        rw [decide_eq_false (by omega)]
      rw [this, Bool.and_false])
    omega
  obtain ⟨K, k1, k2⟩ := pk_least (fun k => ∀ t, t < N → p t = true → rkK key p N t ≠ k) ⟨N, hN⟩
  refine ⟨K, ?_, fun k hk => ?_, fun t ht pt => rk_stop k1 _ t ht pt rfl⟩
  · by_cases c : K ≤ N
    · exact c
    · exact absurd hN (k2 N (by omega))
  · by_cases c : ∃ t, t < N ∧ p t = true ∧ rkK key p N t = k
    · exact c
    · exact absurd (fun t ht pt e => c ⟨t, ht, pt, e⟩) (k2 k hk)
end RK
section RR
variable {σ : Sg} {Q : Int32 → Sg → Prop} {r : Nat → Int32}
def kyT (r : Nat → Int32) (t : Nat) : Nat := (swR r t).toNatClampNeg
def kyF (r : Nat → Int32) (f : Nat) : Nat := (iaR r f).toNatClampNeg
theorem kyT_eq (hI : IR r) {t : Nat} (ht : t < 16) : swR r t = nI (kyT r t) ∧ kyT r t ≤ 594 := by
  obtain ⟨S, s1, s2, -⟩ := sw_nn hI ht
  have e : kyT r t = S := by unfold kyT; rw [s2, nI_clamp (by omega)]
  rw [e]
  exact ⟨s2, s1⟩
theorem it_nn (hI : IR r) {f : Nat} (hf : f < 6) (x : Int32) : ∃ S, S ≤ 1584 ∧ itR r f x = nI S := by
  have hT := (IR_nT hI).1
  have hb : nT r * 99 ≤ 1584 := by omega
  obtain ⟨S, h1, h2, -⟩ := sum_nI (f := fun t => if r (73 + 7 * t) = x then r (74 + 7 * t + f) else 0) (n := nT r) (b := 99) (by omega) (fun k hk => by
    by_cases c : r (73 + 7 * k) = x
    · rw [if_pos c]
      exact (hI.2.2.2.2.2.2 k (by omega)).2 f hf
    · rw [if_neg c]
      exact ⟨0, by omega, rfl⟩)
  exact ⟨S, by omega, h2⟩
theorem kyF_eq (hI : IR r) {f : Nat} (hf : f < 6) : iaR r f = nI (kyF r f) ∧ kyF r f ≤ 3168 := by
  obtain ⟨S, s1, s2⟩ := it_nn hI hf 0
  obtain ⟨S', s3, s4⟩ := it_nn hI hf 1
  have e0 : iaR r f = nI (S + S') := by unfold iaR; rw [s2, s4, nI_add]
  have e : kyF r f = S + S' := by unfold kyF; rw [e0, nI_clamp (by omega)]
  rw [e]
  exact ⟨e0, by omega⟩
theorem bfT_eq (hI : IR r) {o t : Nat} (ho : o < 16) (ht : t < 16) : bfB r o t = bfK (kyT r) o t := by
  obtain ⟨a1, a2⟩ := kyT_eq hI ho
  obtain ⟨b1, b2⟩ := kyT_eq hI ht
  unfold bfB bfK
  rw [a1, b1, Bool.decide_or, Bool.decide_and]
  congr 1
  · exact decide_eq_decide.mpr (nI_ltI (by omega) (by omega))
  · congr 1
    exact decide_eq_decide.mpr (nI_eq (by omega) (by omega))
theorem cfF_eq (hI : IR r) {o t : Nat} (ho : o < 6) (ht : t < 6) : cfB r o t = bfK (kyF r) o t := by
  obtain ⟨a1, a2⟩ := kyF_eq hI ho
  obtain ⟨b1, b2⟩ := kyF_eq hI ht
  unfold cfB bfK
  rw [a1, b1, Bool.decide_or, Bool.decide_and]
  congr 1
  · exact decide_eq_decide.mpr (nI_ltI (by omega) (by omega))
  · congr 1
    exact decide_eq_decide.mpr (nI_eq (by omega) (by omega))
def meF (r : Nat → Int32) (f : Nat) : Bool := decide (¬ iaR r f ≤ 0)
theorem meF_iff (hI : IR r) {f : Nat} (hf : f < 6) : meF r f = true ↔ 0 < kyF r f := by
  obtain ⟨b1, b2⟩ := kyF_eq hI hf
  unfold meF
  rw [decide_eq_true_eq, b1]
  refine ⟨fun c => Nat.pos_of_ne_zero (fun z => c (by rw [z]; decide)), fun c => nI_nle c (by omega)⟩
theorem ah_eq (hI : IR r) {t : Nat} (ht : t < 16) : ahR r t = nI (rkK (kyT r) (opB r) (nT r) t) := by
  have hT := (IR_nT hI).1
  unfold ahR
  rw [cnt_sum (fun o => opB r o && bfB r o t)]
  congr 1
  exact cnt_congr (fun o ho => by rw [bfT_eq hI (by omega) ht])
theorem cf_eq (hI : IR r) {f : Nat} (hf : f < 6) (hm : meF r f = true) : cfR r f = nI (rkK (kyF r) (meF r) 6 f) := by
  unfold cfR
  rw [cnt_sum (fun o => cfB r o f)]
  congr 1
  refine cnt_congr (fun o ho => ?_)
  rw [cfF_eq hI ho hf]
  cases c : bfK (kyF r) o f with
  | false => rw [Bool.and_false]
  | true =>
    have h1 := bfK_iff.mp c
    have h2 := (meF_iff hI hf).mp hm
    rw [(meF_iff hI ho).mpr (by omega)]
    rfl
/-- the tin of a rank; none -/
theorem br_some (hI : IR r) {k : Nat} (hk : k < 2 ^ 30) (h : ∃ t, t < nT r ∧ opB r t = true ∧ rkK (kyT r) (opB r) (nT r) t = k) : ∃ t, t < nT r ∧ opB r t = true ∧ rkK (kyT r) (opB r) (nT r) t = k ∧ brR r (nI k) = nI t := by
  have hT := (IR_nT hI).1
  rcases fstN_cases (fun t => opB r t && decide (ahR r t = nI k)) (nT r) with ⟨-, q⟩ | ⟨q1, q2, -⟩
  · obtain ⟨t, t1, t2, t3⟩ := h
    have := q t t1
    rw [t2, decide_eq_true (by rw [ah_eq hI (by omega), t3])] at this
    exact absurd this (by decide)
  · simp only [Bool.and_eq_true, decide_eq_true_eq] at q2
    refine ⟨_, q1, q2.1, ?_, if_pos q1⟩
    have e := q2.2
    rw [ah_eq hI (by omega)] at e
    have := cnt_le (fun o => opB r o && bfK (kyT r) o (fstN (fun t => opB r t && decide (ahR r t = nI k)) (nT r))) (nT r)
    exact (nI_eq (by unfold rkK; omega) (by omega)).mp e
theorem br_none (hI : IR r) {k : Nat} (hk : k < 2 ^ 30) (h : ∀ t, t < nT r → opB r t = true → rkK (kyT r) (opB r) (nT r) t < k) : brR r (nI k) = -1 := by
  have hT := (IR_nT hI).1
  rcases fstN_cases (fun t => opB r t && decide (ahR r t = nI k)) (nT r) with ⟨q1, -⟩ | ⟨q1, q2, -⟩
  · exact if_neg (by omega)
  · simp only [Bool.and_eq_true, decide_eq_true_eq] at q2
    have e := q2.2
    rw [ah_eq hI (by omega)] at e
    have h3 := h _ q1 q2.1
    have := (nI_eq (by omega) (by omega)).mp e
    omega
theorem bc_some (hI : IR r) {k : Nat} (hk : k < 2 ^ 30) (h : ∃ t, t < 6 ∧ meF r t = true ∧ rkK (kyF r) (meF r) 6 t = k) : ∃ t, t < 6 ∧ meF r t = true ∧ rkK (kyF r) (meF r) 6 t = k ∧ bcR r (nI k) = nI t := by
  rcases fstN_cases (fun f => decide (¬ iaR r f ≤ 0) && decide (cfR r f = nI k)) 6 with ⟨-, q⟩ | ⟨q1, q2, -⟩
  · obtain ⟨t, t1, t2, t3⟩ := h
    have h4 := q t t1
    have h5 : decide (¬ iaR r t ≤ 0) = true := t2
    rw [h5, decide_eq_true (by rw [cf_eq hI t1 t2, t3])] at h4
    exact absurd h4 (by decide)
  · have q3 := Bool.and_eq_true_iff.mp q2
    refine ⟨_, q1, q3.1, ?_, if_pos q1⟩
    have e := of_decide_eq_true q3.2
    rw [cf_eq hI q1 q3.1] at e
    have := cnt_le (fun o => meF r o && bfK (kyF r) o (fstN (fun f => decide (¬ iaR r f ≤ 0) && decide (cfR r f = nI k)) 6)) 6
    exact (nI_eq (by unfold rkK; omega) (by omega)).mp e
theorem bc_none (hI : IR r) {k : Nat} (hk : k < 2 ^ 30) (h : ∀ t, t < 6 → meF r t = true → rkK (kyF r) (meF r) 6 t < k) : bcR r (nI k) = -1 := by
  rcases fstN_cases (fun f => decide (¬ iaR r f ≤ 0) && decide (cfR r f = nI k)) 6 with ⟨q1, -⟩ | ⟨q1, q2, -⟩
  · exact if_neg (by omega)
  · have q3 := Bool.and_eq_true_iff.mp q2
    have e := of_decide_eq_true q3.2
    rw [cf_eq hI q1 q3.1] at e
    have h3 := h _ q1 q3.1
    have := (nI_eq (by omega) (by omega)).mp e
    omega
end RR
