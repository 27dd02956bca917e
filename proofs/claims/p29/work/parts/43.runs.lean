/-! What stays true over a lane's tries, a tick and a run; how many pulls they are. -/
theorem i_0 (x : Int32) : x + nI 0 = x := by rw [nI_0]; exact i_add0 x
theorem i_ad (x : Int32) (a b : Nat) : x + nI a + nI b = x + nI (a + b) := by rw [Int32.add_assoc, nI_add]
section RN
variable {l : Nat}
theorem laneC_inv (hl : l < 4) : ∀ {n : Nat} {r : Nat → Int32}, IR r → JR r → JR (laneC n l r).2.2 ∧ (laneC n l r).2.2 191 = r 191 ∧ (∀ B p, GR r B p → GR (laneC n l r).2.2 (B + 4 * n) (fun k => if k = l then p k + n else p k)) ∧ (∀ k, k < 4 → k ≠ l → (laneC n l r).2.2 (4 + 17 * k + 14) = r (4 + 17 * k + 14)) ∧ ∃ c, c ≤ n ∧ (laneC n l r).2.2 (4 + 17 * l + 14) = r (4 + 17 * l + 14) + nI c ∧ ((laneC n l r).1 = 0 → c = n) ∧ (¬ (laneC n l r).1 = 0 → c < n) := by
  intro n
  induction n with
  | zero =>
    intro r hI hJ
    refine ⟨hJ, rfl, fun B p hG => hG.mono (by omega) (fun k hk => ?_), fun k _ _ => rfl, 0, Nat.le_refl 0, (i_0 _).symm, fun _ => rfl, fun z => absurd rfl z⟩
    split <;> omega
  | succ n ih =>
    intro r hI hJ
    unfold laneC
    by_cases c : rsR r l = 0
    · rw [if_pos c]
      obtain ⟨h1, h2, h3, h4, q, q1, q2, q3, q4⟩ := ih (IR_try hI hl c) (JR_try hI hl c hJ)
      refine ⟨h1, h2.trans (try_191 hI hl c), fun B p hG => (h3 _ _ (GR_try hI hl c hG)).mono (by omega) (fun k hk => ?_), fun k hk hkl => ?_, q + 1, by omega, ?_, fun z => by rw [q3 z], fun z => by have := q4 z; omega⟩
      · by_cases z : k = l
        · rw [if_pos z, if_pos z, if_pos z]; omega
        · rw [if_neg z, if_neg z, if_neg z]; omega
      · show (laneC n l (tryR r l).2).2.2 (4 + 17 * k + 14) = _
        rw [h4 k hk hkl, try_14 hI hl c hk, if_neg hkl]
      · show (laneC n l (tryR r l).2).2.2 (4 + 17 * l + 14) = _
        rw [q2, try_14 hI hl c hl, if_pos rfl, Int32.add_assoc]
        rw [show (1 : Int32) + nI q = nI (q + 1) by rw [show (1 : Int32) = nI 1 from rfl, nI_add, Nat.add_comm]]
    · rw [if_neg c]
      refine ⟨hJ, rfl, fun B p hG => hG.mono (by omega) (fun k hk => ?_), fun k _ _ => rfl, 0, Nat.zero_le _, (i_0 _).symm, fun z => absurd z c, fun _ => Nat.succ_pos n⟩
      split <;> omega
/-- what a lane's tries in a tick did: c pulls of N, all if it didn't stand still -/
def PL (N : Nat) (x y why : Int32) : Prop := ∃ c, c ≤ N ∧ y = x + nI c ∧ (why = 0 → c = N) ∧ (¬ why = 0 → c < N)
theorem lanesC_inv : ∀ {n k : Nat} {r d : Nat → Int32} {N : Nat}, k + n ≤ 4 → IR r → JR r → r 0 = nI N → N ≤ 9 → JR (lanesC n k r d).2.1 ∧ (lanesC n k r d).2.1 191 = r 191 ∧ (∀ B p, GR r B p → GR (lanesC n k r d).2.1 (B + 36 * n) (fun j => if k ≤ j ∧ j < k + n then p j + 9 else p j)) ∧ (∀ j, j < 4 → ¬ (k ≤ j ∧ j < k + n) → (lanesC n k r d).2.1 (4 + 17 * j + 14) = r (4 + 17 * j + 14) ∧ (lanesC n k r d).2.2 j = d j) ∧ ∀ j, k ≤ j → j < k + n → PL N (r (4 + 17 * j + 14)) ((lanesC n k r d).2.1 (4 + 17 * j + 14)) ((lanesC n k r d).2.2 j) := by
  intro n
  induction n with
  | zero =>
    intro k r d N hk hI hJ hN hN9
    refine ⟨hJ, rfl, fun B p hG => hG.mono (by omega) (fun j hj => ?_), fun j _ _ => ⟨rfl, rfl⟩, fun j h1 h2 => by omega⟩
    split <;> omega
  | succ n ih =>
    intro k r d N hk hI hJ hN hN9
    have eN : (r 0).toNatClampNeg = N := by rw [hN]; exact nI_clamp (by omega)
    have hkl : k < 4 := by omega
    obtain ⟨a1, a2, a3, a4, c, c1, c2, c3, c4⟩ := laneC_inv (l := k) hkl (n := (r 0).toNatClampNeg) hI hJ
    obtain ⟨i1, i2⟩ := laneC_IR (n := (r 0).toNatClampNeg) (l := k) hkl hI
    obtain ⟨b1, b2, b3, b4, b5⟩ := ih (k := k + 1) (d := upd d k (laneC (r 0).toNatClampNeg k r).1) (N := N) (by omega) i1 a1 ((i2 0 (by omega)).trans hN) hN9
    refine ⟨b1, b2.trans a2, fun B p hG => (b3 _ _ (a3 _ _ hG)).mono (by omega) (fun j hj => ?_), fun j hj hn => ?_, fun j h1 h2 => ?_⟩
    · by_cases z : j = k
      · subst z
        rw [if_neg (by omega), if_pos rfl, if_pos (by omega)]
        omega
      · rw [if_neg (c := j = k) z]
        by_cases y : k + 1 ≤ j ∧ j < k + 1 + n
        · rw [if_pos y, if_pos (by omega)]; omega
        · rw [if_neg y, if_neg (by omega)]; omega
    · obtain ⟨e1, e2⟩ := b4 j hj (by omega)
      exact ⟨e1.trans (a4 j hj (by omega)), e2.trans (pk_un (by omega))⟩
    · by_cases z : j = k
      · subst z
        obtain ⟨e1, e2⟩ := b4 j hkl (by omega)
        refine ⟨c, by omega, e1.trans c2, fun w => ?_, fun w => ?_⟩
        · rw [c3 (by rw [← pk_us (f := d) (k := j) (x := (laneC (r 0).toNatClampNeg j r).1), ← e2]; exact w), eN]
        · have := c4 (fun y => w (by rw [show (lanesC (n + 1) j r d).2.2 j = upd d j (laneC (r 0).toNatClampNeg j r).1 j from e2, pk_us]; exact y))
          omega
      · have hp := b5 j (by omega) (by omega)
        rw [a4 j (by omega) z] at hp
        exact hp
theorem tickC_inv {r d : Nat → Int32} {N : Nat} (hI : IR r) (hJ : JR r) (hN : r 0 = nI N) (hN9 : N ≤ 9) : JR (tickC r d).2.1 ∧ (tickC r d).2.1 191 = r 191 + 1 ∧ (∀ B p, GR r B p → GR (tickC r d).2.1 (B + 144) (fun j => p j + 9)) ∧ ∀ j, j < 4 → PL N (r (4 + 17 * j + 14)) ((tickC r d).2.1 (4 + 17 * j + 14)) ((tickC r d).2.2 j) := by
  obtain ⟨b1, b2, b3, b4, b5⟩ := lanesC_inv (n := 4) (k := 0) (d := d) (by omega) hI hJ hN hN9
  have e : ∀ j, j ≠ 191 → (tickC r d).2.1 j = (lanesC 4 0 r d).2.1 j := fun j hj => pk_un hj
  refine ⟨JR_congr (fun j h1 h2 h3 h4 => e j (by omega)) b1, ?_, fun B p hG => ?_, fun j hj => ?_⟩
  · show upd (lanesC 4 0 r d).2.1 191 ((lanesC 4 0 r d).2.1 191 + 1) 191 = _
    rw [pk_us, b2]
  · refine GR_congr (e _ (by omega)) (e _ (by omega)) (fun l hl => e _ (by omega)) ((b3 B p hG).mono (by omega) (fun j hj => ?_))
    rw [if_pos (by omega)]
    omega
  · rw [e _ (by omega)]
    exact b5 j (by omega) (by omega)
theorem runsC_inv : ∀ {n : Nat} {r d : Nat → Int32} {N T : Nat}, IR r → JR r → r 0 = nI N → N ≤ 9 → r 191 = nI T → JR (runsC n r d).2.1 ∧ (runsC n r d).2.1 191 = nI (T + n) ∧ ∀ B p, GR r B p → GR (runsC n r d).2.1 (B + 144 * n) (fun j => p j + 9 * n) := by
  intro n
  induction n with
  | zero =>
    intro r d N T hI hJ hN hN9 hT
    exact ⟨hJ, hT, fun B p hG => hG.mono (by omega) (fun j hj => by omega)⟩
  | succ n ih =>
    intro r d N T hI hJ hN hN9 hT
    obtain ⟨b1, b2, b3, -⟩ := tickC_inv (d := d) hI hJ hN hN9
    obtain ⟨i1, i2⟩ := tickC_IR (d := d) hI
    obtain ⟨c1, c2, c3⟩ := ih (d := (tickC r d).2.2) (T := T + 1) i1 b1 ((i2 0 (by omega)).trans hN) hN9 (by rw [b2, hT, nI_1])
    refine ⟨c1, by rw [show T + (n + 1) = T + 1 + n by omega]; exact c2, fun B p hG => (c3 _ _ (b3 _ _ hG)).mono (by omega) (fun j hj => by omega)⟩
/-- foil at the lanes -/
def LR (r : Nat → Int32) : Prop := ∀ l, l < 4 → ∃ q, q ≤ 9999 ∧ r (4 + 17 * l + 13) = nI q
theorem try_13 {r : Nat → Int32} (hI : IR r) (hl : l < 4) (hc : rsR r l = 0) {k : Nat} (hk : k < 4) : (tryR r l).2 (4 + 17 * k + 13) = if k = l then r (4 + 17 * k + 13) - (2 + r 3) else r (4 + 17 * k + 13) := by
  have e : (tryR r l).2 (4 + 17 * k + 13) = pullR r l (4 + 17 * k + 13) := by
    rcases try_cases hI hl hc with e | ⟨t, f, ht, hf, hk2, h0, e⟩
    · rw [e]
      unfold tornR
      rw [pk_un (by omega), pk_un (by omega)]
    · rw [e]
      exact wr_ne (IR_pull hI hl) hl h0 hf (by omega) (by omega) (fun q hq => by omega)
  rw [e]
  by_cases z : k = l
  · rw [if_pos z, z]
    unfold pullR
    rw [pk_un (by omega), pk_un (by omega), pk_us]
  · rw [if_neg z]; exact pullR_ne r (by omega) (by omega) (by omega)
theorem LR_try {r : Nat → Int32} (hI : IR r) (hl : l < 4) (hc : rsR r l = 0) (h : LR r) : LR (tryR r l).2 := by
  intro k hk
  obtain ⟨q, q1, q2⟩ := h k hk
  rw [try_13 hI hl hc hk]
  by_cases z : k = l
  · subst z
    rw [if_pos rfl]
    obtain ⟨tw, w1, w2, w3⟩ := hI.2.2.2.1
    have e2 : (2 : Int32) + r 3 = nI (2 + tw) := by rw [w3]; exact nI_add 2 tw
    have hle : (2 : Int32) + r 3 ≤ r (4 + 17 * k + 13) := by
      by_cases c : (2 : Int32) + r 3 ≤ r (4 + 17 * k + 13)
      · exact c
      · exfalso
        unfold rsR at hc
        rw [if_neg c] at hc
        by_cases c1 : r (4 + 17 * k) = 0
        · rw [if_pos c1] at hc; exact absurd hc (by decide)
        · rw [if_neg c1] at hc
          by_cases c2 : tfR r (r (4 + 17 * k + 1)).toNatClampNeg = -6
          · rw [if_pos c2] at hc; exact absurd hc (by decide)
          · rw [if_neg c2] at hc; exact absurd hc (by decide)
    rw [e2, q2] at hle ⊢
    have h3 := (nI_leI (by omega) (by omega)).mp hle
    exact ⟨q - (2 + tw), by omega, pk_sub h3⟩
  · rw [if_neg z]
    exact ⟨q, q1, q2⟩
theorem LR_congr {r s : Nat → Int32} (e : ∀ l, l < 4 → s (4 + 17 * l + 13) = r (4 + 17 * l + 13)) (h : LR r) : LR s := fun l hl => by rw [e l hl]; exact h l hl
theorem laneC_LR (hl : l < 4) : ∀ {n : Nat} {r : Nat → Int32}, IR r → LR r → LR (laneC n l r).2.2 := by
  intro n
  induction n with
  | zero => exact fun _ h => h
  | succ n ih =>
    intro r hI h
    unfold laneC
    by_cases c : rsR r l = 0
    · rw [if_pos c]
      exact ih (IR_try hI hl c) (LR_try hI hl c h)
    · rw [if_neg c]
      exact h
theorem lanesC_LR : ∀ {n k : Nat} {r d : Nat → Int32}, k + n ≤ 4 → IR r → LR r → LR (lanesC n k r d).2.1 := by
  intro n
  induction n with
  | zero => exact fun _ _ h => h
  | succ n ih =>
    intro k r d hk hI h
    exact ih (k := k + 1) (d := upd d k (laneC (r 0).toNatClampNeg k r).1) (by omega) (laneC_IR (by omega) hI).1 (laneC_LR (by omega) hI h)
theorem runsC_LR : ∀ {n : Nat} {r d : Nat → Int32}, IR r → LR r → LR (runsC n r d).2.1 := by
  intro n
  induction n with
  | zero => exact fun _ h => h
  | succ n ih =>
    intro r d hI h
    refine ih (d := (tickC r d).2.2) (tickC_IR hI).1 (LR_congr (fun l hl => ?_) (lanesC_LR (n := 4) (k := 0) (d := d) (by omega) hI h))
    exact pk_un (by omega)
/-- what is known of a machine between the law's calls -/
def NV (r : Nat → Int32) : Prop := JR r ∧ TR r ∧ LR r
theorem NV_runs {n : Nat} {r d : Nat → Int32} {T : Nat} (hI : IR r) (h : NV r) (hT : r 191 = nI T) (hn : T + n ≤ 9999) : NV (runsC n r d).2.1 := by
  obtain ⟨hJ, ⟨T', t1, t2, t3⟩, hL⟩ := h
  have e : T' = T := (nI_eq (by omega) (by omega)).mp (t2.symm.trans hT)
  subst e
  obtain ⟨N, n1, n2, n3⟩ := hI.1
  obtain ⟨c1, c2, c3⟩ := runsC_inv (n := n) (d := d) hI hJ n3 n2 hT
  exact ⟨c1, ⟨T' + n, hn, c2, (c3 _ _ t3).mono (by omega) (fun j hj => by omega)⟩, runsC_LR hI hL⟩
theorem goes_eq {r d : Nat → Int32} {n T : Nat} (h1 : 1 ≤ n) (h2 : n ≤ 99) (hT : r 191 = nI T) (hT2 : T ≤ 9999) : goesR r d (nI n) = if T + n ≤ 9999 then runsC n r d else (-5, r, d) := by
  unfold goesR
  rw [if_neg (by rw [show (1 : Int32) = nI 1 from rfl, show (99 : Int32) = nI 99 from rfl, ot_ok h1 h2 (by decide)]; decide), hT, nI_add, nI_clamp (by omega)]
  by_cases c : T + n ≤ 9999
  · rw [if_pos c, if_pos (show nI (T + n) ≤ (9999 : Int32) from (nI_le c (by decide) : nI (T + n) ≤ nI 9999))]
  · rw [if_neg c, if_neg (show ¬ nI (T + n) ≤ (9999 : Int32) from (nI_ge (by omega) (by omega) : ¬ nI (T + n) ≤ nI 9999))]
theorem NV_goes {r d : Nat → Int32} {n : Nat} (hI : IR r) (h : NV r) (h1 : 1 ≤ n) (h2 : n ≤ 99) : NV (goesR r d (nI n)).2.1 := by
  obtain ⟨T, t1, t2, -⟩ := id h.2.1
  rw [goes_eq h1 h2 t2 t1]
  by_cases c : T + n ≤ 9999
  · rw [if_pos c]; exact NV_runs hI h t2 c
  · rw [if_neg c]; exact h
end RN
