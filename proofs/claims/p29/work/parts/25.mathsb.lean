/-! The reference's tries, ticks and runs. -/
theorem shR_upd {r : Nat → Int32} {a c j : Nat} {x : Int32} (h : j < a ∨ a + c + 2 ≤ j) : shR (upd r j x) a c = upd (shR r a c) j x := by
  funext q
  show (if a ≤ q ∧ q < a + c then (if q + 2 = j then x else r (q + 2)) else (if q = j then x else r q)) = if q = j then x else (if a ≤ q ∧ q < a + c then r (q + 2) else r q)
  by_cases e : q = j
  · subst e
    rw [if_neg (by omega), if_pos rfl, if_pos rfl]
  · rw [if_neg e, if_neg e]
    by_cases z : a ≤ q ∧ q < a + c
    · rw [if_pos z, if_pos z, if_neg (by omega)]
    · rw [if_neg z, if_neg z]
theorem takeR_upd {r : Nat → Int32} {l j : Nat} {x : Int32} (hn : (r (4 + 17 * l)).toNatClampNeg ≤ 6) (h : j < 4 + 17 * l ∨ 4 + 17 * l + 13 ≤ j) : takeR (upd r j x) l = upd (takeR r l) j x := by
  unfold takeR
  rw [pk_un (j := 4 + 17 * l + 2) (by omega), pk_un (j := 4 + 17 * l) (by omega)]
  split
  · rw [upd_comm (j := j) (k := 4 + 17 * l + 2) (by omega), upd_comm (j := j) (k := 4 + 17 * l) (by omega)]
    by_cases z : (r (4 + 17 * l)).toNatClampNeg = 0
    · rw [z, shR_upd (by omega), upd_comm (j := j) (by omega), upd_comm (j := j) (by omega)]
    · rw [shR_upd (by omega), upd_comm (j := j) (by omega), upd_comm (j := j) (by omega)]
  · rw [upd_comm (j := j) (by omega)]
section RT
variable {σ : Sg} {r : Nat → Int32}
/-- a pull; a tear; a wrap; a try; a lane's tries; a tick; a run: what they give, and the row behind -/
def pullR (r : Nat → Int32) (l : Nat) : Nat → Int32 := upd (upd (upd r (4 + 17 * l + 13) (r (4 + 17 * l + 13) - (2 + r 3))) (4 + 17 * l + 14) (r (4 + 17 * l + 14) + 1)) 192 (r 192 + (2 + r 3))
def tornR (r : Nat → Int32) (l : Nat) : Nat → Int32 := upd (upd r (4 + 17 * l + 15) (r (4 + 17 * l + 15) + 1)) 193 (r 193 + (2 + r 3))
def wrapR (r : Nat → Int32) (l t f : Nat) : Nat → Int32 := upd (addT (takeR r l) t f) (4 + 17 * l + 16) (r (4 + 17 * l + 16) + 1)
def tearsB (r : Nat → Int32) (l : Nat) : Bool := decide ((r (4 + 17 * l + 14) + 1) - (r (4 + 17 * l + 14) + 1) / evR r * evR r = 0)
def tryR (r : Nat → Int32) (l : Nat) : Int32 × (Nat → Int32) := if tearsB r l then (0, tornR (pullR r l) l) else (1, wrapR (pullR r l) l (tfR r (r (4 + 17 * l + 1)).toNatClampNeg).toNatClampNeg (r (4 + 17 * l + 1)).toNatClampNeg)
def laneC : Nat → Nat → (Nat → Int32) → Int32 × Int32 × (Nat → Int32)
  | 0, _, r => (0, 0, r)
  | n + 1, l, r => if rsR r l = 0 then ((laneC n l (tryR r l).2).1, (tryR r l).1 + (laneC n l (tryR r l).2).2.1, (laneC n l (tryR r l).2).2.2) else (rsR r l, 0, r)
theorem pullR_ne (r : Nat → Int32) {l j : Nat} (h1 : j ≠ 4 + 17 * l + 13) (h2 : j ≠ 4 + 17 * l + 14) (h3 : j ≠ 192) : pullR r l j = r j := by
  unfold pullR
  rw [pk_un h3, pk_un h2, pk_un h1]
theorem tkB_congr {r s : Nat → Int32} {t f : Nat} (h1 : r (73 + 7 * t) = s (73 + 7 * t)) (h2 : ∀ g, g < 6 → r (74 + 7 * t + g) = s (74 + 7 * t + g)) (h3 : r 2 = s 2) (h4 : r (185 + f) = s (185 + f)) : tkB r t f = tkB s t f := by
  unfold tkB
  rw [h1, swR_congr h2, mkR_congr h2, h3, h4]
theorem fstN_congr {p q : Nat → Bool} {n : Nat} (h : ∀ k, k < n → p k = q k) : fstN p n = fstN q n := by
  induction n with
  | zero => rfl
  | succ n ih => rw [fstN, fstN, ih (fun k hk => h k (by omega)), h n (by omega)]
theorem tfR_congr {r s : Nat → Int32} {f : Nat} (h0 : r 72 = s 72) (hn : (s 72).toNatClampNeg ≤ 16) (h : ∀ t, t < 16 → tkB r t f = tkB s t f) : tfR r f = tfR s f := by
  unfold tfR
  rw [h0, fstN_congr (q := fun t => tkB s t f) (fun k hk => h k (by omega))]
theorem IR_T {r : Nat → Int32} (hI : IR r) : (r 72).toNatClampNeg ≤ 16 := by
  obtain ⟨T, h1, h2, -⟩ := hI.2.2.2.2.1
  rw [h2, nI_clamp (by omega)]
  exact h1
theorem IR_pull {r : Nat → Int32} (hI : IR r) {l : Nat} (hl : l < 4) : IR (pullR r l) := by
  unfold pullR
  refine IR_upd _ (IR_upd _ (IR_upd _ hI (by omega) (by omega) (by omega) (fun l' w hl' hw => ln_ne (by omega) (by omega) (by omega))) (by omega) (by omega) (by omega) (fun l' w hl' hw => ln_ne (by omega) (by omega) (by omega))) (by omega) (by omega) (by omega) (fun l' w hl' hw => by omega)
theorem tf_pull {r : Nat → Int32} (hI : IR r) {l f : Nat} (hl : l < 4) (hf : f < 6) : tfR (pullR r l) f = tfR r f := by
  refine tfR_congr (pullR_ne r (by omega) (by omega) (by omega)) (IR_T hI) (fun t ht => tkB_congr (pullR_ne r (by omega) (by omega) (by omega)) (fun g hg => pullR_ne r (by omega) (by omega) (by omega)) (pullR_ne r (by omega) (by omega) (by omega)) (pullR_ne r (by omega) (by omega) (by omega)))
/-- where a lane's reason is 0: its heap, its tin -/
theorem rs_0 {r : Nat → Int32} (hI : IR r) {l : Nat} (hl : l < 4) (h : rsR r l = 0) : ¬ r (4 + 17 * l) = 0 ∧ ∃ f t T, f < 6 ∧ r (4 + 17 * l + 1) = nI f ∧ t < T ∧ T ≤ 16 ∧ r 72 = nI T ∧ tfR r f = nI t ∧ tkB r t f = true := by
  unfold rsR at h
  by_cases c : r (4 + 17 * l) = 0
  · rw [if_pos c] at h
    exact absurd h (by decide)
  · rw [if_neg c] at h
    obtain ⟨n, hn, he, hh⟩ := hI.2.2.2.2.2.1 l hl
    have hn0 : 0 < n := Nat.pos_of_ne_zero (fun z => c (by rw [he, z]; rfl))
    obtain ⟨⟨f, hf, ef⟩, -⟩ := hh 0 hn0
    have ef' : r (4 + 17 * l + 1) = nI f := ef
    rw [ef', nI_clamp (by omega)] at h
    obtain ⟨T, hT2, hT, -⟩ := hI.2.2.2.2.1
    have hx : ¬ tfR r f = -6 := by
      intro z
      rw [if_pos z] at h
      exact absurd h (by decide)
    refine ⟨c, f, ?_⟩
    by_cases q : ∃ t, t < T ∧ tkB r t f = true
    · obtain ⟨t, ⟨q1, q2⟩, q3⟩ := pk_least (fun t => t < T ∧ tkB r t f = true) q
      refine ⟨t, T, hf, ef', q1, hT2, hT, tfR_some hT hT2 q1 q2 (fun j hj => ?_), q2⟩
      cases e : tkB r j f with
      | false => rfl
      | true => exact absurd ⟨by omega, e⟩ (q3 j hj)
    · exact absurd (tfR_none hT hT2 (fun j hj => by
        cases e : tkB r j f with
        | false => rfl
        | true => exact absurd ⟨j, hj, e⟩ q)) hx
theorem tryR_ne (r : Nat → Int32) {l j : Nat} (hI : IR r) (hl : l < 4) (h0 : ¬ r (4 + 17 * l) = 0) (hj : j < 4) : (tryR r l).2 j = r j := by
  unfold tryR
  split
  · show tornR (pullR r l) l j = r j
    unfold tornR
    rw [pk_un (by omega), pk_un (by omega), pullR_ne r (by omega) (by omega) (by omega)]
  · show wrapR (pullR r l) l _ _ j = r j
    obtain ⟨n, hn, he, -⟩ := hI.2.2.2.2.2.1 l hl
    have hn0 : 0 < n := Nat.pos_of_ne_zero (fun z => h0 (by rw [he, z]; rfl))
    have e : (pullR r l (4 + 17 * l)).toNatClampNeg = n := by rw [pullR_ne r (by omega) (by omega) (by omega), he]; exact nI_clamp (by omega)
    unfold wrapR addT
    rw [pk_un (by omega), pk_un (by omega), takeR_out (by omega) (by omega) (by omega), pullR_ne r (by omega) (by omega) (by omega)]
theorem IR_try {r : Nat → Int32} (hI : IR r) {l : Nat} (hl : l < 4) (h : rsR r l = 0) : IR (tryR r l).2 := by
  obtain ⟨h0, f, t, T, hf, ef, ht, hT2, hT, etf, etk⟩ := rs_0 hI hl h
  have hP := IR_pull hI hl
  unfold tryR
  split
  · show IR (tornR (pullR r l) l)
    unfold tornR
    exact IR_upd _ (IR_upd _ hP (by omega) (by omega) (by omega) (fun l' w hl' hw => ln_ne (by omega) (by omega) (by omega))) (by omega) (by omega) (by omega) (fun l' w hl' hw => by omega)
  · show IR (wrapR (pullR r l) l _ _)
    rw [ef, nI_clamp (by omega), etf, nI_clamp (by omega)]
    unfold wrapR
    have hp0 : pullR r l (4 + 17 * l) = r (4 + 17 * l) := pullR_ne r (by omega) (by omega) (by omega)
    have hK := IR_take hP hl (by rw [hp0]; exact h0)
    obtain ⟨n, hn, he, -⟩ := hI.2.2.2.2.2.1 l hl
    have hn0 : 0 < n := Nat.pos_of_ne_zero (fun z => h0 (by rw [he, z]; rfl))
    have e : (pullR r l (4 + 17 * l)).toNatClampNeg = n := by rw [hp0, he]; exact nI_clamp (by omega)
    have out : ∀ j, (j < 4 + 17 * l ∨ 4 + 17 * l + 17 ≤ j) → j ≠ 192 → takeR (pullR r l) l j = r j := fun j hj hj2 => by rw [takeR_out (by omega) (by omega) (by omega), pullR_ne r (by omega) (by omega) hj2]
    refine IR_upd _ (IR_addT hK ht (by rw [out _ (by omega) (by omega)]; exact hT) hT2 hf ?_) (by omega) (by omega) (by omega) (fun l' w hl' hw => ln_ne (by omega) (by omega) (by omega))
    rw [tkB_congr (s := r) (out _ (by omega) (by omega)) (fun g hg => out _ (by omega) (by omega)) (out _ (by omega) (by omega)) (out _ (by omega) (by omega))]
    exact etk
end RT

/-! The reference's ticks and runs. -/
def sd (σ : Sg) (d : Nat → Int32) : Sg := ua σ 12 25 0 d
theorem sd_row (σ : Sg) (d : Nat → Int32) : sd σ d 12 25 0 = d := by simp [sd, ua]
theorem srd_row (σ : Sg) (d r : Nat → Int32) : sr (sd σ d) r 12 25 0 = d := by rw [sr_ne2 _ _ (by decide), sd_row]
theorem srd_up (σ : Sg) (d r : Nat → Int32) (j : Nat) (x : Int32) : up (sr (sd σ d) r) 12 25 0 j x = sr (sd σ (upd d j x)) r := by
  unfold up
  rw [srd_row]
  funext a b c
  unfold sr sd ua
  by_cases h : a = 12 ∧ b = 19 ∧ c = 0
  · rw [if_neg (by omega), if_pos h, if_pos h]
  · rw [if_neg h, if_neg h]
    split <;> rfl
theorem srd_self (σ : Sg) : sr (sd σ (σ 12 25 0)) (σ 12 19 0) = σ := by
  funext a b c
  unfold sr sd ua
  split
  · next h => rw [h.1, h.2.1, h.2.2]
  · split
    · next h => rw [h.1, h.2.1, h.2.2]
    · rfl
theorem upd_upd (f : Nat → Int32) (j : Nat) (x y : Int32) : upd (upd f j x) j y = upd f j y := by
  funext q
  unfold upd
  split <;> rfl
theorem laneC_IR {n l : Nat} (hl : l < 4) : ∀ {r : Nat → Int32}, IR r → IR (laneC n l r).2.2 ∧ ∀ j, j < 4 → (laneC n l r).2.2 j = r j := by
  induction n with
  | zero => exact fun h => ⟨h, fun _ _ => rfl⟩
  | succ n ih =>
    intro r h
    unfold laneC
    by_cases c : rsR r l = 0
    · rw [if_pos c]
      obtain ⟨h1, h2⟩ := ih (IR_try h hl c)
      exact ⟨h1, fun j hj => (h2 j hj).trans (tryR_ne r h hl (rs_0 h hl c).1 hj)⟩
    · rw [if_neg c]
      exact ⟨h, fun _ _ => rfl⟩
def lanesC : Nat → Nat → (Nat → Int32) → (Nat → Int32) → Int32 × (Nat → Int32) × (Nat → Int32)
  | 0, _, r, d => (0, r, d)
  | n + 1, k, r, d => ((laneC (r 0).toNatClampNeg k r).2.1 + (lanesC n (k + 1) (laneC (r 0).toNatClampNeg k r).2.2 (upd d k (laneC (r 0).toNatClampNeg k r).1)).1, (lanesC n (k + 1) (laneC (r 0).toNatClampNeg k r).2.2 (upd d k (laneC (r 0).toNatClampNeg k r).1)).2)
def tickC (r d : Nat → Int32) : Int32 × (Nat → Int32) × (Nat → Int32) := ((lanesC 4 0 r d).1, upd (lanesC 4 0 r d).2.1 191 ((lanesC 4 0 r d).2.1 191 + 1), (lanesC 4 0 r d).2.2)
def runsC : Nat → (Nat → Int32) → (Nat → Int32) → Int32 × (Nat → Int32) × (Nat → Int32)
  | 0, r, d => (0, r, d)
  | n + 1, r, d => ((tickC r d).1 + (runsC n (tickC r d).2.1 (tickC r d).2.2).1, (runsC n (tickC r d).2.1 (tickC r d).2.2).2)
theorem runsC_s (n : Nat) (r d : Nat → Int32) : runsC (n + 1) r d = ((tickC r d).1 + (runsC n (tickC r d).2.1 (tickC r d).2.2).1, (runsC n (tickC r d).2.1 (tickC r d).2.2).2) := rfl
theorem lanesC_IR {n : Nat} : ∀ {k : Nat} {r d : Nat → Int32}, k + n ≤ 4 → IR r → IR (lanesC n k r d).2.1 ∧ ∀ j, j < 4 → (lanesC n k r d).2.1 j = r j := by
  induction n with
  | zero => exact fun _ h => ⟨h, fun _ _ => rfl⟩
  | succ n ih =>
    intro k r d hk h
    obtain ⟨h1, h2⟩ := laneC_IR (n := (r 0).toNatClampNeg) (l := k) (by omega) h
    obtain ⟨h3, h4⟩ := ih (k := k + 1) (d := upd d k (laneC (r 0).toNatClampNeg k r).1) (by omega) h1
    exact ⟨h3, fun j hj => (h4 j hj).trans (h2 j hj)⟩
theorem tickC_IR {r d : Nat → Int32} (h : IR r) : IR (tickC r d).2.1 ∧ ∀ j, j < 4 → (tickC r d).2.1 j = r j := by
  obtain ⟨h1, h2⟩ := lanesC_IR (n := 4) (k := 0) (d := d) (by omega) h
  refine ⟨IR_upd _ h1 (by omega) (by omega) (by omega) (fun l w hl hw => by omega), fun j hj => ?_⟩
  show upd _ 191 _ j = r j
  rw [pk_un (by omega)]
  exact h2 j hj
theorem runsC_IR {n : Nat} : ∀ {r d : Nat → Int32}, IR r → IR (runsC n r d).2.1 ∧ ∀ j, j < 4 → (runsC n r d).2.1 j = r j := by
  induction n with
  | zero => exact fun h => ⟨h, fun _ _ => rfl⟩
  | succ n ih =>
    intro r d h
    obtain ⟨h1, h2⟩ := tickC_IR (d := d) h
    obtain ⟨h3, h4⟩ := ih (d := (tickC r d).2.2) h1
    exact ⟨h3, fun j hj => (h4 j hj).trans (h2 j hj)⟩
section RU
variable {σ : Sg} {r d : Nat → Int32}
end RU

/-! The machine's tries, ticks and runs. -/
theorem MR_hop {μ μ' : Nat → Nat → Nat → Int32} {r r' : Nat → Int32} {l : Nat} (hM : MR μ r) (hI : IR r) (hl : l < 4) (hμ : ∀ a b, ¬ ((a = 5 ∨ a = 6 ∨ a = 7) ∧ b = l) → μ' a b = μ a b) (h5 : ∀ k, 3 ≤ k → k ≤ 6 → μ' 5 l k = μ 5 l k) (hr : ∀ j, (j < 4 + 17 * l ∨ 4 + 17 * l + 13 ≤ j) → r' j = r j) (hn : μ' 5 l 2 = r' (4 + 17 * l)) (hh : ∀ h, h < (r' (4 + 17 * l)).toNatClampNeg → μ' 6 l h = r' (4 + 17 * l + (1 + 2 * h)) ∧ μ' 7 l h = r' (4 + 17 * l + (2 + 2 * h))) : MR μ' r' := by
  obtain ⟨a0, a1, a2, a3, a4⟩ := hM
  refine ⟨fun j hj => ?_, ?_, fun f hf => ?_, fun l' hl' => ?_, fun t ht => ?_⟩
  · rw [hμ 1 0 (by omega), hr _ (by omega)]; exact a0 j hj
  · rw [hμ 0 0 (by omega), hr _ (by omega), hr _ (by omega), hr _ (by omega), hr _ (by omega)]; exact a1
  · rw [hμ 4 0 (by omega), hr _ (by omega)]; exact a2 f hf
  · obtain ⟨b2, b3, b4, b5, b6, b7⟩ := a3 l' hl'
    by_cases e : l' = l
    · subst e
      refine ⟨hn, ?_, ?_, ?_, ?_, hh⟩
      · rw [h5 3 (by decide) (by decide), hr _ (by omega)]; exact b3
      · rw [h5 4 (by decide) (by decide), hr _ (by omega)]; exact b4
      · rw [h5 5 (by decide) (by decide), hr _ (by omega)]; exact b5
      · rw [h5 6 (by decide) (by decide), hr _ (by omega)]; exact b6
    · have far : ∀ w, w < 17 → 4 + 17 * l' + w < 4 + 17 * l ∨ 4 + 17 * l + 13 ≤ 4 + 17 * l' + w := by
        intro w hw
        rcases Nat.lt_trichotomy l l' with q | q | q <;> omega
      have hnn := IR_n hI hl'
      rw [hμ 5 l' (by omega), hμ 6 l' (by omega), hμ 7 l' (by omega), hr (4 + 17 * l') (far 0 (by decide)), hr _ (far 13 (by decide)), hr _ (far 14 (by decide)), hr _ (far 15 (by decide)), hr _ (far 16 (by decide))]
      exact ⟨b2, b3, b4, b5, b6, fun h hh => by rw [hr _ (far _ (by omega)), hr _ (far _ (by omega))]; exact b7 h hh⟩
  · obtain ⟨b1, b2, b3, b4⟩ := a4 t ht
    rw [hμ 8 t (by omega), hμ 9 t (by omega), hr (73 + 7 * t) (by omega), mkR_congr (s := r) (fun f hf => hr _ (by omega)), swR_congr (s := r) (fun f hf => hr _ (by omega))]
    exact ⟨b1, b2, b3, fun f hf => by rw [hr _ (by omega)]; exact b4 f hf⟩
def shL (g : Nat → Int32) (k : Nat) : Nat → Int32 := fun j => if j < k then g (j + 1) else g j
theorem shL_0 (g : Nat → Int32) : shL g 0 = g := by
  funext j
  exact if_neg (Nat.not_lt_zero j)
theorem shL_s (g : Nat → Int32) (k : Nat) : upd (shL g k) k (shL g k (k + 1)) = shL g (k + 1) := by
  funext j
  unfold upd shL
  by_cases e : j = k
  · subst e
    rw [if_pos rfl, if_neg (by omega), if_pos (by omega)]
  · rw [if_neg e]
    by_cases z : j < k
    · rw [if_pos z, if_pos (by omega)]
    · rw [if_neg z, if_neg (by omega)]
def sh2 (μ : Nat → Nat → Nat → Int32) (l k : Nat) : Nat → Nat → Nat → Int32 := fun a b => if a = 6 ∧ b = l then shL (μ 6 l) k else if a = 7 ∧ b = l then shL (μ 7 l) k else μ a b
theorem sh2_6 (μ : Nat → Nat → Nat → Int32) (l k : Nat) : sh2 μ l k 6 l = shL (μ 6 l) k := by simp [sh2]
theorem sh2_7 (μ : Nat → Nat → Nat → Int32) (l k : Nat) : sh2 μ l k 7 l = shL (μ 7 l) k := by simp [sh2]
theorem sh2_5 (μ : Nat → Nat → Nat → Int32) (l k : Nat) : sh2 μ l k 5 l = μ 5 l := by simp [sh2]
theorem sh2_0 (μ : Nat → Nat → Nat → Int32) (l : Nat) : sh2 μ l 0 = μ := by
  funext a b
  unfold sh2
  rw [shL_0, shL_0]
  split
  · next h => rw [h.1, h.2]
  · split
    · next h => rw [h.1, h.2]
    · rfl
theorem sh2_s (μ : Nat → Nat → Nat → Int32) (l k : Nat) : um (um (sh2 μ l k) 6 l k (sh2 μ l k 6 l (k + 1))) 7 l k (um (sh2 μ l k) 6 l k (sh2 μ l k 6 l (k + 1)) 7 l (k + 1)) = sh2 μ l (k + 1) := by
  have e7 : um (sh2 μ l k) 6 l k (sh2 μ l k 6 l (k + 1)) 7 l = shL (μ 7 l) k := by rw [um_k _ _ (by decide : 7 ≠ 6), sh2_7]
  funext a b
  by_cases h7 : a = 7 ∧ b = l
  · obtain ⟨rfl, rfl⟩ := h7
    rw [um_row, e7, sh2_7, shL_s]
  · by_cases h6 : a = 6 ∧ b = l
    · obtain ⟨rfl, rfl⟩ := h6
      rw [um_k _ _ (by decide : 6 ≠ 7), um_row, sh2_6, sh2_6, shL_s]
    · unfold um sh2
      rw [if_neg h7, if_neg h6, if_neg h6, if_neg h6, if_neg h7, if_neg h7]
theorem um5_7 (μ : Nat → Nat → Nat → Int32) {l k : Nat} (x : Int32) (hk : k ≠ 7) (l' : Nat) : um μ 5 l k x 5 l' 7 = μ 5 l' 7 := by
  by_cases e : l' = l
  · subst e
    exact um_j _ _ (Ne.symm hk)
  · rw [um_i _ _ e]
section CT
variable {σ : Sg} {m : Nat} {μ : Nat → Nat → Nat → Int32} {r : Nat → Int32}
theorem s_X1_wrapNext {Q : Sg → Prop} (l : Nat) (hl : l < 4) (hM : MR μ r) (hI : IR r) (h0 : ¬ r (4 + 17 * l) = 0) (hq : ∀ μ', MR μ' (takeR (upd r (4 + 17 * l + 16) (r (4 + 17 * l + 16) + 1)) l) → (∀ l', μ' 5 l' 7 = μ 5 l' 7) → Q (sm σ m μ')) : wp_X1_wrapNext m l (sm σ m μ) Q := by
  have hI1 : IR (upd r (4 + 17 * l + 16) (r (4 + 17 * l + 16) + 1)) := IR_upd _ hI (by omega) (by omega) (by omega) (fun l' w hl' hw => ln_ne (by omega) (by omega) (by omega))
  have hM1 := MR_lane hM hI hl (k := 6) (by decide) (by decide) (r (4 + 17 * l + 16) + 1)
  have e0 : upd r (4 + 17 * l + 16) (r (4 + 17 * l + 16) + 1) (4 + 17 * l) = r (4 + 17 * l) := pk_un (by omega)
  obtain ⟨n, hn, he, hh⟩ := hI.2.2.2.2.2.1 l hl
  have hn0 : 0 < n := Nat.pos_of_ne_zero (fun z => h0 (by rw [he, z]; rfl))
  obtain ⟨-, s, hs1, hs2, hs3⟩ := hh 0 hn0
  have es : r (4 + 17 * l + 2) = nI s := hs3
  unfold wp_X1_wrapNext
  rintro σ1 rfl
  rw [sm_m, (hM.2.2.2.1 l hl).2.2.2.2.1, sm_up]
  generalize hr1 : upd r (4 + 17 * l + 16) (r (4 + 17 * l + 16) + 1) = r1 at *
  have e2 : r1 (4 + 17 * l + 2) = nI s := by rw [← hr1, pk_un (by omega)]; exact es
  have en : (r1 (4 + 17 * l)).toNatClampNeg = n := by rw [e0, he]; exact nI_clamp (by omega)
  have hL1 : ∀ l', um μ 5 l 6 (r (4 + 17 * l + 16) + 1) 5 l' 7 = μ 5 l' 7 := um5_7 μ _ (by decide)
  generalize hμ1 : um μ 5 l 6 (r (4 + 17 * l + 16) + 1) = μ1 at *
  rintro σ2 rfl
  obtain ⟨g2, g3, g4, g5, g6, g7⟩ := hM1.2.2.2.1 l hl
  have e7 : μ1 7 l 0 = nI s := by rw [(g7 0 (by omega)).2]; exact e2
  rw [sm_m, e7, sm_up, nI_m1 hs1]
  refine ⟨fun c => ?_, fun c => ?_⟩
  · rw [sm_m, um_eq] at c
    have s1 : s - 1 = 0 := Nat.le_zero.mp ((nI_leI (b := 0) (by omega) (by decide)).mp c)
    have gone : r1 (4 + 17 * l + 2) - 1 = 0 := by rw [e2, nI_m1 hs1, s1]; rfl
    rintro σ4 rfl
    rw [sm_m, um_k _ _ (by decide : 5 ≠ 7), g2, e0, he, sm_up, nI_m1 hn0]
    obtain ⟨t1, t2⟩ := takeR_gone hl hn hn0 (e0.trans he) gone
    generalize hμ4 : um (um μ1 7 l 0 (nI (s - 1))) 5 l 2 (nI (n - 1)) = μ4
    have m5 : μ4 5 l 2 = nI (n - 1) := by rw [← hμ4, um_eq]
    have m6 : μ4 6 l = μ1 6 l := by rw [← hμ4, um_k _ _ (by decide), um_k _ _ (by decide)]
    have m7 : ∀ j, j ≠ 0 → μ4 7 l j = μ1 7 l j := fun j hj => by rw [← hμ4, um_k _ _ (by decide), um_j _ _ hj]
    unfold wp_X1_wrapNext_L42
    refine lpN_rel (n - 1) (fun k a => a = (nI k, sm σ m (sh2 μ4 l k))) ?_ ?_ 0 _ (Nat.zero_le _) (by rw [sh2_0]; rfl)
    · rintro K k ⟨w1, σ'⟩ hk e hK
      cases e
      dsimp only
      unfold st_X1_wrapNext_L42
      rw [sm_m, sh2_5, m5, nI_1, nI_clamp (n := k) (by omega), nI_clamp (n := k + 1) (by omega)]
      refine ⟨fun c => absurd c (nI_ge hk (by omega)), fun _ => ⟨fun c => absurd c (ge_6 (by omega)), fun _ => ⟨vp_in_nI (by omega) (by decide), vp_in_nI (by omega) (by decide), ?_⟩⟩⟩
      rintro σ7 rfl
      rw [sm_up, sm_m]
      refine ⟨vp_in_nI (by omega) (by decide), vp_in_nI (by omega) (by decide), ?_⟩
      rintro σ8 rfl z9 rfl
      rw [sm_up, sh2_s]
      exact hK _ rfl
    · rintro K ⟨w1, σ'⟩ e
      cases e
      dsimp only
      unfold st_X1_wrapNext_L42
      rw [sm_m, sh2_5, m5]
      refine ⟨fun _ => hq _ ?_ (fun l' => by rw [show sh2 μ4 l (n - 1) 5 l' 7 = μ4 5 l' 7 by simp [sh2], ← hμ4, um5_7 _ _ (by decide), um_k _ _ (by decide : 5 ≠ 7)]; exact hL1 l'), fun c => absurd (nI_le (Nat.le_refl _) (by omega)) c⟩
      refine MR_hop hM1 hI1 hl (fun a b hab => ?_) (fun k hk1 hk2 => ?_) (fun j hj => takeR_out (by omega) (by omega) hj) ?_ (fun h hh => ?_)
      · have z6 : ¬ (a = 6 ∧ b = l) := by omega
        have z7 : ¬ (a = 7 ∧ b = l) := by omega
        have z5 : ¬ (a = 5 ∧ b = l) := by omega
        unfold sh2
        rw [if_neg z6, if_neg z7, ← hμ4]
        unfold um
        rw [if_neg z5, if_neg z7]
      · rw [sh2_5, ← hμ4, um_j _ _ (by omega), um_k _ _ (by decide)]
      · rw [sh2_5, m5, t1]
      · rw [t1, nI_clamp (by omega)] at hh
        rw [sh2_6, sh2_7, (t2 h hh).1, (t2 h hh).2]
        unfold shL
        rw [if_pos hh, if_pos hh, m6, m7 _ (by omega)]
        exact g7 (h + 1) (by omega)
  · rw [sm_m, um_eq] at c
    have stay : ¬ r1 (4 + 17 * l + 2) - 1 = 0 := by
      rw [e2, nI_m1 hs1]
      intro z
      exact c (by rw [z]; decide)
    refine hq _ ?_ (fun l' => by rw [um_k _ _ (by decide : 5 ≠ 7)]; exact hL1 l')
    rw [takeR_stay stay, e2, nI_m1 hs1]
    refine MR_hop hM1 hI1 hl (fun a b hab => ?_) (fun k hk1 hk2 => by rw [um_k _ _ (by decide)]) (fun j hj => pk_un (by omega)) ?_ (fun h hh => ?_)
    · have z7 : ¬ (a = 7 ∧ b = l) := by omega
      unfold um
      rw [if_neg z7]
    · rw [um_k _ _ (by decide : 5 ≠ 7), pk_un (by omega)]; exact g2
    · rw [pk_un (by omega)] at hh
      rw [um_k _ _ (by decide : 6 ≠ 7), pk_un (by omega)]
      refine ⟨(g7 h hh).1, ?_⟩
      by_cases z : h = 0
      · subst z
        rw [um_eq, show 4 + 17 * l + (2 + 2 * 0) = 4 + 17 * l + 2 by omega, pk_us]
      · rw [um_j _ _ z, pk_un (by omega)]
        exact (g7 h hh).2
theorem s_X4_add {Q : Sg → Prop} {x1 : Int32} (t f : Nat) (hf : f < 6) (e1 : x1 = nI f := by rfl) (hq : Q (sm σ m (um (um (um μ 9 t f (μ 9 t f + 1)) 8 t 1 (μ 8 t 1 ||| bitN f)) 8 t 2 (μ 8 t 2 + 1)))) : wp_X4_add m t x1 (sm σ m μ) Q := by
  subst e1
  unfold wp_X4_add
  refine s_X5_isIndex ?_
  rw [if_neg (nI_pos (by omega)), if_neg (ge_6 hf)]
  refine ⟨fun _ => ⟨vp_in_nI hf (by decide), vp_in_nI hf (by decide), ?_⟩, fun c => absurd c (by decide)⟩
  rintro σ4 rfl σ5 rfl σ6 rfl
  rw [nI_clamp (by omega), sm_m, sm_up, sm_m, sm_up, sm_m, sm_up, um_k _ _ (by decide : 8 ≠ 9), um_j _ _ (by decide), um_k _ _ (by decide : 8 ≠ 9)]
  exact hq
theorem s_X1_pullTears {Q : Int32 → Sg → Prop} {x1 x2 : Int32} (l : Nat) (hl : l < 4) (hM : MR μ r) (hI : IR r) (e2 : x2 = evR r) (hq1 : tearsB r l = true → ∀ μ', MR μ' (upd (upd (upd r (4 + 17 * l + 13) (r (4 + 17 * l + 13) - x1)) (4 + 17 * l + 14) (r (4 + 17 * l + 14) + 1)) (4 + 17 * l + 15) (r (4 + 17 * l + 15) + 1)) → (∀ l', μ' 5 l' 7 = μ 5 l' 7) → Q 1 (sm σ m μ')) (hq0 : tearsB r l = false → ∀ μ', MR μ' (upd (upd r (4 + 17 * l + 13) (r (4 + 17 * l + 13) - x1)) (4 + 17 * l + 14) (r (4 + 17 * l + 14) + 1)) → (∀ l', μ' 5 l' 7 = μ 5 l' 7) → Q 0 (sm σ m μ')) : wp_X1_pullTears m l x1 x2 (sm σ m μ) Q := by
  obtain ⟨g2, g3, g4, g5, g6, -⟩ := hM.2.2.2.1 l hl
  have hI1 : IR (upd r (4 + 17 * l + 13) (r (4 + 17 * l + 13) - x1)) := IR_upd _ hI (by omega) (by omega) (by omega) (fun l' w hl' hw => ln_ne (by omega) (by omega) (by omega))
  have hM1 := MR_lane hM hI hl (k := 3) (by decide) (by decide) (r (4 + 17 * l + 13) - x1)
  have hM2 := MR_lane hM1 hI1 hl (k := 4) (by decide) (by decide) (r (4 + 17 * l + 14) + 1)
  have hI2 : IR (upd (upd r (4 + 17 * l + 13) (r (4 + 17 * l + 13) - x1)) (4 + 17 * l + 14) (r (4 + 17 * l + 14) + 1)) := IR_upd _ hI1 (by omega) (by omega) (by omega) (fun l' w hl' hw => ln_ne (by omega) (by omega) (by omega))
  have hM3 := MR_lane hM2 hI2 hl (k := 5) (by decide) (by decide) (r (4 + 17 * l + 15) + 1)
  have h1 : (1 : Int32) < evR r ∨ (1 : Int32) < evR r := by
    unfold evR
    split
    · next c => exact Or.inl (Int32.lt_of_lt_of_le (by decide : (1 : Int32) < 2) c)
    · exact Or.inl (by decide)
  have h1 : (1 : Int32) < evR r := h1.elim id id
  unfold wp_X1_pullTears
  rintro σ1 rfl σ2 rfl
  subst e2
  rw [sm_m, g3, sm_up, sm_m, um_j _ _ (by decide), g4, sm_up, sm_m, um_eq]
  refine ⟨fun c => absurd (Int32.lt_trans h1 c) (by simp), fun _ => ⟨fun z => by rw [z] at h1; exact absurd h1 (by decide), fun c => ?_, fun c => ?_⟩⟩
  · rintro σ5 rfl
    rw [sm_up, um_j _ _ (by decide), um_j _ _ (by decide), g5]
    exact hq1 (decide_eq_true c) _ hM3 (fun l' => by rw [um5_7 _ _ (by decide), um5_7 _ _ (by decide), um5_7 _ _ (by decide)])
  · exact hq0 (decide_eq_false c) _ hM2 (fun l' => by rw [um5_7 _ _ (by decide), um5_7 _ _ (by decide)])
end CT

/-! The machine's lanes, ticks and runs. -/
theorem wrap_eq {r : Nat → Int32} {l t f : Nat} (hn : (r (4 + 17 * l)).toNatClampNeg ≤ 6) (h0 : 0 < (r (4 + 17 * l)).toNatClampNeg) (hl : l < 4) : takeR (upd (addT r t f) (4 + 17 * l + 16) (addT r t f (4 + 17 * l + 16) + 1)) l = wrapR r l t f := by
  have e0 : addT r t f (4 + 17 * l) = r (4 + 17 * l) := pk_un (by omega)
  have e1 : addT r t f (4 + 17 * l + 16) = r (4 + 17 * l + 16) := pk_un (by omega)
  rw [takeR_upd (by rw [e0]; exact hn) (by omega), e1]
  unfold wrapR addT
  rw [takeR_upd hn (by omega), takeR_out hn h0 (by omega)]
theorem pull_eq (r : Nat → Int32) {l : Nat} (hl : l < 4) : upd (upd (upd r 192 (r 192 + (2 + r 3))) (4 + 17 * l + 13) (upd r 192 (r 192 + (2 + r 3)) (4 + 17 * l + 13) - (2 + r 3))) (4 + 17 * l + 14) (upd r 192 (r 192 + (2 + r 3)) (4 + 17 * l + 14) + 1) = pullR r l := by
  unfold pullR
  rw [pk_un (by omega), pk_un (by omega), upd_comm (j := 192) (by omega), upd_comm (j := 192) (by omega)]
section CW
variable {σ : Sg} {m : Nat} {μ : Nat → Nat → Nat → Int32} {r : Nat → Int32}
theorem s_X2_workLane {Q : Int32 → Sg → Prop} (l N : Nat) (hl : l < 4) (hM : MR μ r) (hI : IR r) (hN : r 0 = nI N) (hN2 : N ≤ 9) {z : Int32 × Int32 × (Nat → Int32)} (hz : laneC N l r = z) (hq : ∀ μ', MR μ' z.2.2 → μ' 5 l 7 = z.1 → (∀ l', l' ≠ l → μ' 5 l' 7 = μ 5 l' 7) → Q z.2.1 (sm σ m μ')) : wp_X2_workLane m l (sm σ m μ) Q := by
  unfold wp_X2_workLane
  refine s_X2_foilOfPull (r := r) (by rw [sm_m]; exact hM) ?_
  refine s_X2_pullsUntilTear (r := r) (by rw [sm_m]; exact hM) hI ?_
  rintro σ5 rfl
  rw [sm_up]
  unfold wp_X2_workLane_L21
  refine lpN_rel N (fun k a => ∃ a' r' μ', a = (2 + r 3, evR r, a', nI k, sm σ m μ') ∧ MR μ' r' ∧ IR r' ∧ (∀ j, j < 4 → r' j = r j) ∧ μ' 5 l 7 = 0 ∧ (∀ l', l' ≠ l → μ' 5 l' 7 = μ 5 l' 7) ∧ a' + (laneC (N - k) l r').2.1 = z.2.1 ∧ (laneC (N - k) l r').1 = z.1 ∧ (laneC (N - k) l r').2.2 = z.2.2) ?_ ?_ 0 _ (Nat.zero_le _) ⟨0, r, _, rfl, MR_last hM _, hI, fun _ _ => rfl, um_eq _ _ _ _ _, fun l' hl' => by rw [um_i _ _ hl'], by rw [Nat.sub_zero, hz]; simp, by rw [Nat.sub_zero, hz], by rw [Nat.sub_zero, hz]⟩
  · rintro K k ⟨w2, w3, w4, w5, σ'⟩ hk ⟨a', r', μ', e, hM', hI', hR, h7, hL, g1, g2, g3⟩ hK
    cases e
    dsimp only
    unfold st_X2_workLane_L21
    have e3 : N - k = (N - (k + 1)) + 1 := by omega
    rw [e3] at g1 g2 g3
    unfold laneC at g1 g2 g3
    rw [sm_m, hM'.1 0 (by decide), hR 0 (by decide), hN]
    refine ⟨fun c => absurd c (nI_ge hk (by omega)), fun _ => ?_⟩
    have hMs : MR (sm σ m μ' m) r' := by rw [sm_m]; exact hM'
    obtain ⟨n, hn, he, hh⟩ := hI'.2.2.2.2.2.1 l hl
    refine s_X1_nextFlavour hMs l n hl hn he ?_
    by_cases c0 : n = 0
    · have hz0 : r' (4 + 17 * l) = 0 := by rw [he, c0]; rfl
      have hrs : rsR r' l = 1 := by unfold rsR; rw [if_pos hz0]
      rw [if_pos c0]
      refine s_X2_tinFor6 ?_
      refine s_X2_reasonOf hMs l hl ?_
      rw [if_pos hz0]
      rintro σ13 rfl
      rw [sm_up, sm_m, um_eq]
      rw [if_neg (by rw [hrs]; decide), hrs] at g1 g2 g3
      refine ⟨fun _ => ?_, fun c => absurd c (by decide)⟩
      have f1 : w4 = z.2.1 := by rw [← g1]; exact (i_add0 w4).symm
      have f3 : r' = z.2.2 := g3
      rw [f1]
      exact hq _ (by rw [← f3]; exact MR_last hM' _) (by rw [um_eq]; exact g2) (fun l' hl' => by rw [um_i _ _ hl']; exact hL l' hl')
    · obtain ⟨⟨f, hf, ef⟩, -⟩ := hh 0 (by omega)
      have ef' : r' (4 + 17 * l + 1) = nI f := ef
      have hz0 : ¬ r' (4 + 17 * l) = 0 := by rw [he]; exact nI_ne0 (by omega) (by omega)
      have hrs : rsR r' l = if r' (4 + 17 * l) = 0 then 1 else if tfR r' f = -6 then 2 else if 2 + r' 3 ≤ r' (4 + 17 * l + 13) then 0 else 3 := by
        unfold rsR
        rw [ef', nI_clamp (by omega)]
      rw [if_neg c0]
      refine s_X2_tinFor hMs hI' f hf ef' ?_
      refine s_X2_reasonOf hMs l hl ?_
      rw [← hrs]
      rintro σ13 rfl
      rw [sm_up, sm_m, um_eq]
      refine ⟨fun c => ?_, fun c => ?_⟩
      · rw [if_neg c] at g1 g2 g3
        have f1 : w4 = z.2.1 := by rw [← g1]; exact (i_add0 w4).symm
        have f3 : r' = z.2.2 := g3
        rw [f1]
        exact hq _ (by rw [← f3]; exact MR_last hM' _) (by rw [um_eq]; exact g2) (fun l' hl' => by rw [um_i _ _ hl']; exact hL l' hl')
      · rw [if_pos c] at g1 g2 g3
        obtain ⟨-, f2, t, T, hf2, ef2, ht, hT2, hT, etf, etk⟩ := rs_0 hI' hl c
        have eff : f2 = f := (nI_eq (by omega) (by omega)).mp (ef2.symm.trans ef')
        subst eff
        rw [etf]
        refine s_X5_isIndex ?_
        rw [if_neg (nI_pos (by omega)), if_neg (ge_16 (by omega))]
        refine ⟨fun _ => ?_, fun c => absurd c (by decide)⟩
        rintro σ18 rfl
        have hMa := MR_last hM' (l := l) (rsR r' l)
        have hRa : ∀ l', um μ' 5 l 7 (rsR r' l) 5 l' 7 = if l' = l then 0 else μ 5 l' 7 := by
          intro l'
          by_cases q : l' = l
          · subst q
            rw [um_eq, if_pos rfl]; exact c
          · rw [um_i _ _ q, if_neg q]; exact hL l' q
        generalize um μ' 5 l 7 (rsR r' l) = μa at *
        have h3 : r 3 = r' 3 := (hR 3 (by decide)).symm
        have hev : evR r = evR r' := by
          unfold evR
          rw [hR 0 (by decide), hR 1 (by decide)]
        have hMb := MR_glob hMa hI' (k := 6) (by decide) (by decide) (r' 192 + (2 + r' 3))
        have hIb : IR (upd r' (186 + 6) (r' 192 + (2 + r' 3))) := IR_upd _ hI' (by omega) (by omega) (by omega) (fun l' w hl' hw => by omega)
        have hn1 : (r' (4 + 17 * l)).toNatClampNeg = n := by rw [he]; exact nI_clamp (by omega)
        have hp0 : pullR r' l (4 + 17 * l) = r' (4 + 17 * l) := pullR_ne r' (by omega) (by omega) (by omega)
        rw [sm_m, hMa.2.1.2.2.1, sm_up, h3, hev]
        refine s_X1_pullTears l hl hMb hIb (by unfold evR; rw [pk_un (by omega), pk_un (by omega)]) (fun tb μc hMc hLc => ?_) (fun tb μc hMc hLc => ?_)
        · have tb' : tearsB r' l = true := by
            rw [← tb]
            unfold tearsB evR
            rw [pk_un (by omega), pk_un (by omega), pk_un (by omega)]
          have hrow := pull_eq r' hl
          have e15 : upd r' (186 + 6) (r' 192 + (2 + r' 3)) (4 + 17 * l + 15) = pullR r' l (4 + 17 * l + 15) := by rw [pk_un (by omega), pullR_ne r' (by omega) (by omega) (by omega)]
          rw [hrow, e15] at hMc
          refine ⟨fun c => absurd c (by decide), fun _ => ?_⟩
          rintro σ27 rfl
          have hIc : IR (upd (pullR r' l) (4 + 17 * l + 15) (pullR r' l (4 + 17 * l + 15) + 1)) := IR_upd _ (IR_pull hI' hl) (by omega) (by omega) (by omega) (fun l' w hl' hw => ln_ne (by omega) (by omega) (by omega))
          have hMd := MR_glob hMc hIc (k := 7) (by decide) (by decide) (pullR r' l 193 + (2 + r' 3))
          rw [sm_m, hMc.2.1.2.2.2, sm_up, pk_un (by omega)]
          unfold wp_X2_workLane_b128
          rintro z28 rfl
          have et : (tryR r' l).2 = upd (upd (pullR r' l) (4 + 17 * l + 15) (pullR r' l (4 + 17 * l + 15) + 1)) (186 + 7) (pullR r' l 193 + (2 + r' 3)) := by
            unfold tryR
            rw [tb', if_pos rfl]
            show tornR (pullR r' l) l = _
            unfold tornR
            rw [pullR_ne r' (j := 3) (by omega) (by omega) (by omega)]
          have ec : (tryR r' l).1 = 0 := by
            unfold tryR
            rw [tb', if_pos rfl]
          rw [← et] at hMd
          rw [ec] at g1
          refine hK _ ⟨w4, _, _, by rw [nI_1, h3, hev], hMd, IR_try hI' hl c, fun j hj => (tryR_ne r' hI' hl hz0 hj).trans (hR j hj), ?_, fun l' hl' => ?_, by rw [← g1]; simp, g2, g3⟩
          · rw [um_k _ _ (by decide : 5 ≠ 0), hLc, um_k _ _ (by decide : 5 ≠ 0), hRa, if_pos rfl]
          · rw [um_k _ _ (by decide : 5 ≠ 0), hLc, um_k _ _ (by decide : 5 ≠ 0), hRa, if_neg hl']
        · have tb' : tearsB r' l = false := by
            rw [← tb]
            unfold tearsB evR
            rw [pk_un (by omega), pk_un (by omega), pk_un (by omega)]
          have hrow := pull_eq r' hl
          rw [hrow] at hMc
          refine ⟨fun _ => ?_, fun c => absurd rfl c⟩
          refine ⟨vp_in_nI (by omega) (by decide), ?_⟩
          rintro a23 rfl
          rw [nI_clamp (n := t) (by omega), ef']
          refine s_X4_add t f2 hf rfl ?_
          have hP := IR_pull hI' hl
          have etk' : tkB (pullR r' l) t f2 = true := by
            rw [tkB_congr (s := r') (pullR_ne r' (by omega) (by omega) (by omega)) (fun g hg => pullR_ne r' (by omega) (by omega) (by omega)) (pullR_ne r' (by omega) (by omega) (by omega)) (pullR_ne r' (by omega) (by omega) (by omega))]
            exact etk
          have hMd := MR_addT hMc hP (show t < 16 by omega) hf etk'
          have hId := IR_addT hP ht (by rw [pullR_ne r' (by omega) (by omega) (by omega)]; exact hT) hT2 hf etk'
          refine s_X1_wrapNext l hl hMd hId (by rw [show addT (pullR r' l) t f2 (4 + 17 * l) = pullR r' l (4 + 17 * l) from pk_un (by omega), hp0]; exact hz0) (fun μe hMe hLe => ?_)
          rintro z26 rfl
          unfold wp_X2_workLane_b128
          rintro z28 rfl
          rw [wrap_eq (by rw [hp0]; omega) (by rw [hp0]; omega) hl] at hMe
          have et : (tryR r' l).2 = wrapR (pullR r' l) l t f2 := by
            unfold tryR
            rw [tb', if_neg (by decide), ef', nI_clamp (by omega), etf, nI_clamp (by omega)]
          have ec : (tryR r' l).1 = 1 := by
            unfold tryR
            rw [tb', if_neg (by decide)]
          rw [← et] at hMe
          rw [ec] at g1
          refine hK _ ⟨w4 + 1, _, _, by rw [nI_1, h3, hev], hMe, IR_try hI' hl c, fun j hj => (tryR_ne r' hI' hl hz0 hj).trans (hR j hj), ?_, fun l' hl' => ?_, by rw [← g1, Int32.add_assoc], g2, g3⟩
          · rw [hLe, um_k _ _ (by decide : 5 ≠ 8), um_k _ _ (by decide : 5 ≠ 8), um_k _ _ (by decide : 5 ≠ 9), hLc, um_k _ _ (by decide : 5 ≠ 0), hRa, if_pos rfl]
          · rw [hLe, um_k _ _ (by decide : 5 ≠ 8), um_k _ _ (by decide : 5 ≠ 8), um_k _ _ (by decide : 5 ≠ 9), hLc, um_k _ _ (by decide : 5 ≠ 0), hRa, if_neg hl']
  · rintro K ⟨w2, w3, w4, w5, σ'⟩ ⟨a', r', μ', e, hM', hI', hR, h7, hL, g1, g2, g3⟩
    cases e
    dsimp only
    unfold st_X2_workLane_L21
    rw [sm_m, hM'.1 0 (by decide), hR 0 (by decide), hN]
    refine ⟨fun _ => ?_, fun c => absurd (nI_le (Nat.le_refl N) (by omega)) c⟩
    rw [Nat.sub_self] at g1 g2 g3
    have f1 : w4 = z.2.1 := by rw [← g1]; exact (i_add0 w4).symm
    have f2 : (0 : Int32) = z.1 := g2
    have f3 : r' = z.2.2 := g3
    rw [f1]
    exact hq _ (by rw [← f3]; exact hM') (h7.trans f2) hL
theorem s_X2_work {Q : Int32 → Sg → Prop} {x1 : Int32} (n : Nat) (hn : n < 2 ^ 31) (d : Nat → Int32) (hM : MR μ r) (hI : IR r) (e1 : x1 = nI n := by rfl) (hq : ∀ μ', MR μ' (runsC n r d).2.1 → (0 < n → ∀ l, l < 4 → μ' 5 l 7 = (runsC n r d).2.2 l) → Q (runsC n r d).1 (sm σ m μ')) : wp_X2_work m x1 (sm σ m μ) Q := by
  subst e1
  unfold wp_X2_work wp_X2_work_L4
  refine lpN_rel n (fun k a => ∃ a' r' d' μ', a = (a', nI k, sm σ m μ') ∧ MR μ' r' ∧ IR r' ∧ (0 < k → ∀ l, l < 4 → μ' 5 l 7 = d' l) ∧ a' + (runsC (n - k) r' d').1 = (runsC n r d).1 ∧ (runsC (n - k) r' d').2 = (runsC n r d).2) ?_ ?_ 0 _ (Nat.zero_le _) ⟨0, r, d, μ, rfl, hM, hI, fun h => absurd h (Nat.lt_irrefl 0), by simp, rfl⟩
  · rintro K k ⟨w1, w2, σ'⟩ hk ⟨a', r', d', μ', e, hM', hI', hd, g1, g2⟩ hK
    cases e
    dsimp only
    unfold st_X2_work_L4
    refine ⟨fun c => absurd c (nI_ge hk hn), fun _ => ?_⟩
    have e3 : n - k = (n - (k + 1)) + 1 := by omega
    rw [e3] at g1 g2
    rw [runsC_s] at g1 g2
    unfold wp_X2_work_L12
    refine lpN_rel 4 (fun j a => ∃ a'' r'' d'' μ'', a = (a'', nI k, nI j, sm σ m μ'') ∧ MR μ'' r'' ∧ IR r'' ∧ (∀ l, l < j → μ'' 5 l 7 = d'' l) ∧ a'' + (lanesC (4 - j) j r'' d'').1 = w1 + (lanesC 4 0 r' d').1 ∧ (lanesC (4 - j) j r'' d'').2 = (lanesC 4 0 r' d').2) ?_ ?_ 0 _ (Nat.zero_le _) ⟨w1, r', d', μ', rfl, hM', hI', fun l h => absurd h (Nat.not_lt_zero l), rfl, rfl⟩
    · rintro K2 j ⟨u1, u2, u3, σ''⟩ hj ⟨a'', r'', d'', μ'', e, hM'', hI'', hd'', p1, p2⟩ hK2
      cases e
      dsimp only
      unfold st_X2_work_L12
      refine ⟨fun c => absurd c (ge_4 hj), fun _ => ⟨vp_in_nI hj (by decide), ?_⟩⟩
      rintro a6 rfl
      rw [nI_clamp (n := j) (by omega)]
      obtain ⟨N, h1, h2, h3⟩ := hI''.1
      have e4 : 4 - j = (4 - (j + 1)) + 1 := by omega
      rw [e4] at p1 p2
      unfold lanesC at p1 p2
      rw [h3, nI_clamp (by omega)] at p1 p2
      refine s_X2_workLane j N hj hM'' hI'' h3 h2 rfl (fun μ3 hM3 h7 hL3 => ?_)
      rintro z9 rfl z10 rfl
      refine hK2 _ ⟨_, _, _, μ3, by rw [nI_1], hM3, (laneC_IR hj hI'').1, fun l hl => ?_, by rw [Int32.add_assoc]; exact p1, p2⟩
      by_cases q : l = j
      · subst q
        rw [pk_us]; exact h7
      · rw [pk_un q, hL3 l q]; exact hd'' l (by omega)
    · rintro K2 ⟨u1, u2, u3, σ''⟩ ⟨a'', r'', d'', μ'', e, hM'', hI'', hd'', p1, p2⟩
      cases e
      dsimp only
      unfold st_X2_work_L12
      refine ⟨fun _ => ?_, fun c => absurd (nI_le (Nat.le_refl 4) (by decide)) c⟩
      rintro σ3 rfl z4 rfl
      have f1 : u1 = w1 + (lanesC 4 0 r' d').1 := by rw [← p1]; exact (i_add0 u1).symm
      have f2 : (r'', d'') = (lanesC 4 0 r' d').2 := p2
      have f3 : r'' = (lanesC 4 0 r' d').2.1 := by rw [← f2]
      have f4 : d'' = (lanesC 4 0 r' d').2.2 := by rw [← f2]
      have hM5 := MR_glob hM'' hI'' (k := 5) (by decide) (by decide) (r'' 191 + 1)
      rw [sm_m, hM''.2.1.2.1, sm_up]
      have et : (tickC r' d').2.1 = upd r'' (186 + 5) (r'' 191 + 1) := by
        unfold tickC
        rw [f3]
      refine hK _ ⟨u1, (tickC r' d').2.1, (tickC r' d').2.2, _, by rw [nI_1], by rw [et]; exact hM5, (tickC_IR hI').1, fun _ l hl => ?_, ?_, g2⟩
      · rw [um_k _ _ (by decide : 5 ≠ 0), hd'' l hl, f4]
        rfl
      · rw [f1, ← g1, Int32.add_assoc]
        rfl
  · rintro K ⟨w1, w2, σ'⟩ ⟨a', r', d', μ', e, hM', hI', hd, g1, g2⟩
    cases e
    dsimp only
    unfold st_X2_work_L4
    refine ⟨fun _ => ?_, fun c => absurd (nI_le (Nat.le_refl n) hn) c⟩
    rw [Nat.sub_self] at g1 g2
    have f1 : w1 = (runsC n r d).1 := by rw [← g1]; exact (i_add0 w1).symm
    have f2 : (r', d') = (runsC n r d).2 := g2
    have f3 : r' = (runsC n r d).2.1 := by rw [← f2]
    have f4 : d' = (runsC n r d).2.2 := by rw [← f2]
    rw [f1]
    exact hq _ (by rw [← f3]; exact hM') (fun h l hl => by rw [← f4]; exact hd h l hl)
end CW

