/-! The relation of the class's object and the reference, and the questions of what would be. -/
def RN (σ : Sg) : Prop := MR (σ 0) (σ 12 19 0) ∧ IR (σ 12 19 0)
def bfR (σ : Sg) (j : Nat) : Nat → Int32 := fun q => σ 12 21 0 (194 * j + q)
def kpR (σ : Sg) (j : Nat) : Nat → Int32 := fun q => σ 12 22 0 (194 * j + q)
def RH (σ : Sg) (p : Nat → Nat) (D : Nat) : Prop := (∀ j, j < 7 → 2 ≤ p j ∧ p j ≤ 8) ∧ (∀ i j, i < 7 → j < 7 → p i = p j → i = j) ∧ (∀ j, j < 6 → σ 11 12 0 j = nI (p j)) ∧ σ 11 11 0 1 = nI (p 6) ∧ D ≤ 6 ∧ σ 11 11 0 2 = nI D ∧ σ 12 18 0 3 = nI D ∧ ∀ j, j < D → MR (σ (p j)) (bfR σ j) ∧ IR (bfR σ j)
def RS (σ : Sg) : Prop := ∀ j, j < 2 → σ 11 13 0 j = nI (9 + j) ∧ σ 11 14 0 j = σ 12 23 0 j ∧ (σ 12 23 0 j = 0 ∨ σ 12 23 0 j = 1) ∧ (¬ σ 12 23 0 j = 0 → MR (σ (9 + j)) (kpR σ j) ∧ IR (kpR σ j))
def RP (σ : Sg) (L : Nat) : Prop := L ≤ 80 ∧ σ 11 15 0 2 = nI L ∧ σ 12 18 0 7 = nI L ∧ ∀ j, j < L → ∃ c, 33 ≤ c ∧ c ≤ 126 ∧ σ 11 16 0 j = nI c ∧ σ 12 24 0 j = nI c
def Rel (σ : Sg) : Prop := RN σ ∧ (∃ p D, RH σ p D) ∧ RS σ ∧ ∃ L, RP σ L
/-- what MR and IR read of a row -/
theorem mk_ext {r s : Nat → Int32} (h : ∀ q, q < 194 → s q = r q) : ∀ t, t < 16 → mkR s t = mkR r t ∧ swR s t = swR r t := fun t ht => ⟨mkR_congr (fun f hf => h _ (by omega)), swR_congr (fun f hf => h _ (by omega))⟩
theorem IR_ext {r s : Nat → Int32} (h : ∀ q, q < 194 → s q = r q) (hI : IR r) : IR s := by
  obtain ⟨a0, a1, a2, a3, ⟨T, b1, b2, b3⟩, a5, a6⟩ := hI
  refine ⟨by rw [h _ (by decide)]; exact a0, by rw [h _ (by decide)]; exact a1, by rw [h _ (by decide)]; exact a2, by rw [h _ (by decide)]; exact a3, ⟨T, b1, by rw [h _ (by decide)]; exact b2, fun t h1 h2 => ?_⟩, fun l hl => ?_, fun t ht => ?_⟩
  · rw [h _ (by omega)]
    exact ⟨(b3 t h1 h2).1, fun f hf => by rw [h _ (by omega)]; exact (b3 t h1 h2).2 f hf⟩
  · obtain ⟨n, c1, c2, c3⟩ := a5 l hl
    exact ⟨n, c1, by rw [h _ (by omega)]; exact c2, fun k hk => by rw [h _ (by omega), h _ (by omega)]; exact c3 k hk⟩
  · rw [h _ (by omega)]
    exact ⟨(a6 t ht).1, fun f hf => by rw [h _ (by omega)]; exact (a6 t ht).2 f hf⟩
theorem MR_ext {μ : Nat → Nat → Nat → Int32} {r s : Nat → Int32} (h : ∀ q, q < 194 → s q = r q) (hI : IR r) (hM : MR μ r) : MR μ s := by
  obtain ⟨a0, ⟨c4, c5, c6, c7⟩, a2, a3, a4⟩ := hM
  refine ⟨fun j hj => by rw [h _ (by omega)]; exact a0 j hj, ⟨by rw [h _ (by decide)]; exact c4, by rw [h _ (by decide)]; exact c5, by rw [h _ (by decide)]; exact c6, by rw [h _ (by decide)]; exact c7⟩, fun f hf => by rw [h _ (by omega)]; exact a2 f hf, fun l hl => ?_, fun t ht => ?_⟩
  · obtain ⟨b2, b3, b4, b5, b6, b7⟩ := a3 l hl
    have hn := IR_n hI hl
    rw [h (4 + 17 * l) (by omega), h _ (by omega), h _ (by omega), h _ (by omega), h _ (by omega)]
    exact ⟨b2, b3, b4, b5, b6, fun k hk => by rw [h _ (by omega), h _ (by omega)]; exact b7 k hk⟩
  · obtain ⟨b1, b2, b3, b4⟩ := a4 t ht
    rw [(mk_ext h t ht).1, (mk_ext h t ht).2, h (73 + 7 * t) (by omega)]
    exact ⟨b1, b2, b3, fun f hf => by rw [h _ (by omega)]; exact b4 f hf⟩
/-- the relation over a change of what it doesn't speak of -/
theorem Rel_congr {σ τ : Sg} (h : Rel σ) (hm : ∀ m, m < 11 → m ≠ 1 → τ m = σ m) (h1 : ∀ k, k = 11 ∨ k = 12 ∨ k = 13 ∨ k = 14 ∨ k = 16 → τ 11 k = σ 11 k) (h15 : τ 11 15 0 2 = σ 11 15 0 2) (h2 : ∀ k, k = 21 ∨ k = 22 ∨ k = 23 ∨ k = 24 → τ 12 k = σ 12 k) (h3 : τ 12 18 0 3 = σ 12 18 0 3) (h7 : τ 12 18 0 7 = σ 12 18 0 7) (hs : ∀ q, q < 194 → τ 12 19 0 q = σ 12 19 0 q) : Rel τ := by
  obtain ⟨⟨n1, n2⟩, ⟨p, D, p1, p2, p3, p4, p5, p6, p7, p8⟩, s, L, l1, l2, l3, l4⟩ := h
  refine ⟨⟨?_, IR_ext hs n2⟩, ⟨p, D, p1, p2, ?_, ?_, p5, ?_, ?_, fun j hj => ?_⟩, fun j hj => ?_, L, l1, ?_, ?_, fun j hj => ?_⟩
  · rw [hm 0 (by decide) (by decide)]; exact MR_ext hs n2 n1
  · rw [h1 12 (by decide)]; exact p3
  · rw [h1 11 (by decide)]; exact p4
  · rw [h1 11 (by decide)]; exact p6
  · rw [h3]; exact p7
  · have e : bfR τ j = bfR σ j := by unfold bfR; rw [h2 21 (by decide)]
    rw [e, hm (p j) (by have := p1 j (by omega); omega) (by have := p1 j (by omega); omega)]
    exact p8 j hj
  · have e : kpR τ j = kpR σ j := by unfold kpR; rw [h2 22 (by decide)]
    rw [e, hm (9 + j) (by omega) (by omega), h1 13 (by decide), h1 14 (by decide), h2 23 (by decide)]
    exact s j hj
  · rw [h15]; exact l2
  · rw [h7]; exact l3
  · rw [h1 16 (by decide), h2 24 (by decide)]; exact l4 j hj
def sa (σ : Sg) (a : Nat → Int32) : Sg := ua σ 12 20 0 a
theorem sa_up (σ : Sg) (a d r : Nat → Int32) (j : Nat) (x : Int32) : up (sr (sd (sa σ a) d) r) 12 20 0 j x = sr (sd (sa σ (upd a j x)) d) r := by
  unfold up
  have e : sr (sd (sa σ a) d) r 12 20 0 = a := by
    rw [sr_ne2 _ _ (by decide)]
    simp [sd, sa, ua]
  rw [e]
  funext b c k
  unfold sr sd sa ua
  by_cases h : b = 12 ∧ c = 20 ∧ k = 0
  · rw [if_pos h, if_neg (by omega), if_neg (by omega), if_pos h]
  · rw [if_neg h]
    split
    · rfl
    · split
      · rfl
      · rfl
theorem sa_row (σ : Sg) (a d r : Nat → Int32) : sr (sd (sa σ a) d) r 12 20 0 = a := by
  rw [sr_ne2 _ _ (by decide)]
  simp [sd, sa, ua]
theorem sa_self (σ : Sg) : sr (sd (sa σ (σ 12 20 0)) (σ 12 25 0)) (σ 12 19 0) = σ := by
  have e : sa σ (σ 12 20 0) = σ := by
    funext a b c
    unfold sa ua
    split
    · next h => rw [h.1, h.2.1, h.2.2]
    · rfl
  rw [e]
  exact srd_self σ
def cpN (n : Nat) (f g : Nat → Int32) : Nat → Int32 := fun q => if q < n then f q else g q
theorem cpN_0 (f g : Nat → Int32) : cpN 0 f g = g := by
  funext q
  unfold cpN
  rw [if_neg (Nat.not_lt_zero q)]
theorem cpN_s (n : Nat) (f g : Nat → Int32) : upd (cpN n f g) n (f n) = cpN (n + 1) f g := by
  funext q
  unfold upd cpN
  by_cases h : q = n
  · rw [if_pos h, if_pos (by omega), h]
  · rw [if_neg h]
    by_cases h2 : q < n
    · rw [if_pos h2, if_pos (by omega)]
    · rw [if_neg h2, if_neg (by omega)]
theorem cpN_lt {n q : Nat} {f g : Nat → Int32} (h : q < n) : cpN n f g q = f q := if_pos h
theorem ge_194 {k : Nat} (h : k < 194) : ¬ (194 : Int32) ≤ nI k := nI_ge h (by decide)
section PA
variable {σ : Sg} {Q : Sg → Prop} {r d a : Nat → Int32}
theorem s_X6_putAside (hq : Q (sr (sd (sa σ (cpN 194 r a)) d) r)) : wp_X6_putAside (sr (sd (sa σ a) d) r) Q := by
  unfold wp_X6_putAside wp_X6_putAside_L2
  refine lpN_rel 194 (fun k z => z = (nI k, sr (sd (sa σ (cpN k r a)) d) r)) ?_ ?_ 0 _ (Nat.zero_le _) (by rw [cpN_0]; rfl)
  · rintro K k z hk rfl hK
    dsimp only
    unfold st_X6_putAside_L2
    refine ⟨fun c => absurd c (ge_194 hk), fun _ => ⟨vp_in_nI hk (by decide), vp_in_nI hk (by decide), ?_⟩⟩
    rintro σ2 rfl z3 rfl
    rw [nI_clamp (by omega), sr_row, sa_up, cpN_s, nI_1]
    exact hK _ rfl
  · rintro K z rfl
    exact ⟨fun _ => hq, fun c => absurd (nI_le (Nat.le_refl 194) (by decide)) c⟩
theorem s_X6_putBack (hq : Q (sr (sd (sa σ a) d) (cpN 194 a r))) : wp_X6_putBack (sr (sd (sa σ a) d) r) Q := by
  unfold wp_X6_putBack wp_X6_putBack_L2
  refine lpN_rel 194 (fun k z => z = (nI k, sr (sd (sa σ a) d) (cpN k a r))) ?_ ?_ 0 _ (Nat.zero_le _) (by rw [cpN_0]; rfl)
  · rintro K k z hk rfl hK
    dsimp only
    unfold st_X6_putBack_L2
    refine ⟨fun c => absurd c (ge_194 hk), fun _ => ⟨vp_in_nI hk (by decide), vp_in_nI hk (by decide), ?_⟩⟩
    rintro σ2 rfl z3 rfl
    rw [nI_clamp (by omega), sa_row, sr_up, cpN_s, nI_1]
    exact hK _ rfl
  · rintro K z rfl
    exact ⟨fun _ => hq, fun c => absurd (nI_le (Nat.le_refl 194) (by decide)) c⟩
end PA
/-- after a question: machine 1, what was put aside and what stood have changed, no more -/
theorem Rel_asked {σ : Sg} {μ : Nat → Nat → Nat → Int32} {a d r : Nat → Int32} (h : Rel σ) (hr : ∀ q, q < 194 → r q = σ 12 19 0 q) : Rel (sr (sd (sa (sm σ 1 μ) a) d) r) := by
  refine Rel_congr h (fun m h1 h2 => ?_) (fun k hk => ?_) ?_ (fun k hk => ?_) ?_ ?_ (fun q hq => ?_)
  · rw [sr_ne _ _ (by omega)]
    funext b c
    show (if m = 12 ∧ b = 25 ∧ c = 0 then d else sa (sm σ 1 μ) a m b c) = _
    rw [if_neg (by omega)]
    show (if m = 12 ∧ b = 20 ∧ c = 0 then a else sm σ 1 μ m b c) = _
    rw [if_neg (by omega), sm_ne _ _ h2]
  · rw [sr_ne _ _ (by decide)]
    funext c
    show (if 11 = 12 ∧ k = 25 ∧ c = 0 then d else sa (sm σ 1 μ) a 11 k c) = _
    rw [if_neg (by omega)]
    show (if 11 = 12 ∧ k = 20 ∧ c = 0 then a else sm σ 1 μ 11 k c) = _
    rw [if_neg (by omega), sm_ne _ _ (by decide)]
  · rfl
  · rw [sr_ne2 _ _ (by omega)]
    funext c
    show (if 12 = 12 ∧ k = 25 ∧ c = 0 then d else sa (sm σ 1 μ) a 12 k c) = _
    rw [if_neg (by omega)]
    show (if 12 = 12 ∧ k = 20 ∧ c = 0 then a else sm σ 1 μ 12 k c) = _
    rw [if_neg (by omega), sm_ne _ _ (by decide)]
  · rfl
  · rfl
  · rw [sr_row]; exact hr q hq
/-! counts are small; reasons are not the answer 'none' -/
theorem laneC_w {n l : Nat} : ∀ {r : Nat → Int32}, ∃ W, W ≤ n ∧ (laneC n l r).2.1 = nI W := by
  induction n with
  | zero => exact fun {r} => ⟨0, Nat.le_refl 0, rfl⟩
  | succ n ih =>
    intro r
    unfold laneC
    by_cases c : rsR r l = 0
    · rw [if_pos c]
      obtain ⟨W, h1, h2⟩ := ih (r := (tryR r l).2)
      have h3 : ∃ b, b ≤ 1 ∧ (tryR r l).1 = nI b := by
        unfold tryR
        by_cases t : tearsB r l = true
        · rw [if_pos t]; exact ⟨0, by decide, rfl⟩
        · rw [if_neg t]; exact ⟨1, by decide, rfl⟩
      obtain ⟨b, h4, h5⟩ := h3
      exact ⟨b + W, by omega, by show (tryR r l).1 + _ = _; rw [h2, h5, nI_add]⟩
    · rw [if_neg c]
      exact ⟨0, Nat.zero_le _, rfl⟩
theorem laneC_rs {n l : Nat} : ∀ {r : Nat → Int32}, ¬ (laneC n l r).1 = -6 := by
  induction n with
  | zero => exact fun {r} => by show ¬ (0 : Int32) = -6; decide
  | succ n ih =>
    intro r
    unfold laneC
    by_cases c : rsR r l = 0
    · rw [if_pos c]; exact ih (r := (tryR r l).2)
    · rw [if_neg c]
      show ¬ rsR r l = -6
      unfold rsR
      repeat' split
      all_goals decide
theorem lanesC_w {n : Nat} : ∀ {k : Nat} {r d : Nat → Int32}, k + n ≤ 4 → IR r → ∃ W, W ≤ 9 * n ∧ (lanesC n k r d).1 = nI W := by
  induction n with
  | zero => exact fun _ _ => ⟨0, Nat.zero_le _, rfl⟩
  | succ n ih =>
    intro k r d hk h
    obtain ⟨h1, h2⟩ := laneC_IR (n := (r 0).toNatClampNeg) (l := k) (by omega) h
    obtain ⟨W, w1, w2⟩ := ih (k := k + 1) (d := upd d k (laneC (r 0).toNatClampNeg k r).1) (by omega) h1
    obtain ⟨V, v1, v2⟩ := laneC_w (n := (r 0).toNatClampNeg) (l := k) (r := r)
    obtain ⟨a, a1, a2, a3⟩ := h.1
    rw [a3, nI_clamp (by omega)] at v1
    exact ⟨V + W, by omega, by show _ + _ = _; rw [w2, v2, nI_add]⟩
theorem lanesC_rs {n : Nat} : ∀ {k l : Nat} {r d : Nat → Int32}, (¬ d l = -6 ∨ (k ≤ l ∧ l < k + n)) → ¬ (lanesC n k r d).2.2 l = -6 := by
  induction n with
  | zero => intro k l r d h; rcases h with h | h; exact h; omega
  | succ n ih =>
    intro k l r d h
    refine ih (k := k + 1) (l := l) (r := (laneC (r 0).toNatClampNeg k r).2.2) (d := upd d k (laneC (r 0).toNatClampNeg k r).1) ?_
    by_cases e : l = k
    · subst e
      exact Or.inl (by rw [pk_us]; exact laneC_rs)
    · rcases h with h | h
      · exact Or.inl (by rw [pk_un e]; exact h)
      · exact Or.inr (by omega)
theorem tickC_rs {l : Nat} {r d : Nat → Int32} (hl : l < 4) : ¬ (tickC r d).2.2 l = -6 := lanesC_rs (n := 4) (k := 0) (l := l) (r := r) (d := d) (Or.inr ⟨Nat.zero_le l, by omega⟩)
theorem lanesC_d {n : Nat} : ∀ {k : Nat} {r d e : Nat → Int32}, (lanesC n k r d).1 = (lanesC n k r e).1 ∧ (lanesC n k r d).2.1 = (lanesC n k r e).2.1 := by
  induction n with
  | zero => exact ⟨rfl, rfl⟩
  | succ n ih =>
    intro k r d e
    obtain ⟨h1, h2⟩ := ih (k := k + 1) (r := (laneC (r 0).toNatClampNeg k r).2.2) (d := upd d k (laneC (r 0).toNatClampNeg k r).1) (e := upd e k (laneC (r 0).toNatClampNeg k r).1)
    exact ⟨congrArg (fun z => (laneC (r 0).toNatClampNeg k r).2.1 + z) h1, h2⟩
theorem tickC_d (r d e : Nat → Int32) : (tickC r d).1 = (tickC r e).1 ∧ (tickC r d).2.1 = (tickC r e).2.1 := by
  obtain ⟨h1, h2⟩ := lanesC_d (n := 4) (k := 0) (r := r) (d := d) (e := e)
  refine ⟨h1, ?_⟩
  show upd _ 191 _ = upd _ 191 _
  rw [h2]
theorem runsC_d {n : Nat} : ∀ (r d e : Nat → Int32), (runsC n r d).1 = (runsC n r e).1 := by
  induction n with
  | zero => exact fun _ _ _ => rfl
  | succ n ih =>
    intro r d e
    obtain ⟨h1, h2⟩ := tickC_d r d e
    rw [runsC_s, runsC_s]
    show (tickC r d).1 + _ = (tickC r e).1 + _
    rw [h1, h2, ih _ (tickC r d).2.2 (tickC r e).2.2]
theorem runsC_w {n : Nat} : ∀ {r d : Nat → Int32}, n ≤ 99 → IR r → ∃ W, W ≤ 36 * n ∧ (runsC n r d).1 = nI W := by
  induction n with
  | zero => exact fun _ _ => ⟨0, Nat.zero_le _, rfl⟩
  | succ n ih =>
    intro r d hn h
    obtain ⟨V, v1, v2⟩ := lanesC_w (n := 4) (k := 0) (r := r) (d := d) (by omega) h
    obtain ⟨W, w1, w2⟩ := ih (r := (tickC r d).2.1) (d := (tickC r d).2.2) (by omega) (tickC_IR h).1
    refine ⟨V + W, by omega, ?_⟩
    rw [runsC_s]
    show (tickC r d).1 + _ = _
    rw [w2]
    show (lanesC 4 0 r d).1 + _ = _
    rw [v2, nI_add]
