/-! The reference's tries, ticks and runs. -/
theorem shR_upd {r : Nat → Int32} {a c j : Nat} {x : Int32} (h : j < a ∨ a + c + 2 ≤ j) : shR (upd r j x) a c = upd (shR r a c) j x := by
  funext q
  show (if a ≤ q ∧ q < a + c then (if q + 2 = j then x else r (q + 2)) else (if q = j then x else r q)) = if q = j then x else (if a ≤ q ∧ q < a + c then r (q + 2) else r q)
  by_cases e : q = j
  · subst e
    rw [if_neg (by omega), if_pos rfl, if_pos rfl]
  · rw [if_neg e, if_neg e]
    by_cases z : a ≤ q ∧ q < a + c
    · rw [if_pos z, if_pos z, if_neg (by omega)]
    · rw [if_neg z, if_neg z]
theorem takeR_upd {r : Nat → Int32} {l j : Nat} {x : Int32} (hn : (r (4 + 17 * l)).toNatClampNeg ≤ 6) (h : j < 4 + 17 * l ∨ 4 + 17 * l + 13 ≤ j) : takeR (upd r j x) l = upd (takeR r l) j x := by
  unfold takeR
  rw [pk_un (j := 4 + 17 * l + 2) (by omega), pk_un (j := 4 + 17 * l) (by omega)]
  split
  · rw [upd_comm (j := j) (k := 4 + 17 * l + 2) (by omega), upd_comm (j := j) (k := 4 + 17 * l) (by omega)]
    by_cases z : (r (4 + 17 * l)).toNatClampNeg = 0
    · rw [z, shR_upd (by omega), upd_comm (j := j) (by omega), upd_comm (j := j) (by omega)]
    · rw [shR_upd (by omega), upd_comm (j := j) (by omega), upd_comm (j := j) (by omega)]
  · rw [upd_comm (j := j) (by omega)]
section RT
variable {σ : Sg} {r : Nat → Int32}
theorem s_X6_takeSweet {Q : Sg → Prop} {x1 : Int32} (l : Nat) (hl : l < 4) (hI : IR r) (h0 : ¬ r (4 + 17 * l) = 0) (e1 : x1 = nI l := by rfl) (hq : Q (sr σ (takeR r l))) : wp_X6_takeSweet x1 (sr σ r) Q := by
  subst e1
  obtain ⟨n, hn, he, hh⟩ := hI.2.2.2.2.2.1 l hl
  have hn0 : 0 < n := Nat.pos_of_ne_zero (fun z => h0 (by rw [he, z]; rfl))
  unfold wp_X6_takeSweet
  rintro z1 rfl z2 rfl
  simp only [nI_lit, nI_add, pk_mul]
  rw [nI_clamp (n := 4 + 17 * l + 2) (by omega), nI_clamp (n := 4 + 17 * l) (by omega), sr_row]
  refine ⟨vp_in_nI (by omega) (by decide), vp_in_nI (by omega) (by decide), ?_⟩
  rintro σ3 rfl
  rw [sr_up, sr_row, pk_us]
  refine ⟨vp_in_nI (by omega) (by decide), fun c => ?_, fun c => ?_⟩
  · rw [takeR_stay c] at hq
    exact hq
  · refine ⟨vp_in_nI (by omega) (by decide), vp_in_nI (by omega) (by decide), ?_⟩
    rintro σ5 rfl
    rw [sr_up, pk_un (by omega)]
    have hm : r (4 + 17 * l) - nI 1 = nI (n - 1) := by rw [he]; exact pk_sub (by omega)
    rw [hm]
    have key : ∀ k : Nat, k ≤ 2 * (n - 1) → ∃ m, lpN (fun (K : Int32 × Int32 × Sg → Prop) (a : Int32 × Int32 × Sg) => st_X6_takeSweet_L42 (nI l) Q (fun v2 v3 σ => K (v2, v3, σ)) (a.1) (a.2.1) (a.2.2)) m (nI (4 + 17 * l), nI 0, sr σ (shR (upd (upd r (4 + 17 * l + 2) (r (4 + 17 * l + 2) - nI 1)) (4 + 17 * l) (nI (n - 1))) (4 + 17 * l + 1) 0)) := by
      intro k hk
      refine lpN_rel (2 * (n - 1)) (fun k a => a = (nI (4 + 17 * l), nI k, sr σ (shR (upd (upd r (4 + 17 * l + 2) (r (4 + 17 * l + 2) - nI 1)) (4 + 17 * l) (nI (n - 1))) (4 + 17 * l + 1) k))) ?_ ?_ 0 _ (Nat.zero_le _) rfl
      · rintro K k ⟨v2, v3, σ'⟩ hk e hK
        cases e
        dsimp only
        unfold st_X6_takeSweet_L42
        have e0 : shR (upd (upd r (4 + 17 * l + 2) (r (4 + 17 * l + 2) - nI 1)) (4 + 17 * l) (nI (n - 1))) (4 + 17 * l + 1) k (4 + 17 * l) = nI (n - 1) := by
          unfold shR
          rw [if_neg (by omega), pk_us]
        simp only [nI_lit, nI_add, pk_mul]
        rw [nI_clamp (n := 4 + 17 * l) (by omega), sr_row, e0, pk_mul]
        refine ⟨vp_in_nI (by omega) (by decide), fun c => absurd c (nI_ge hk (by omega)), fun _ => ⟨vp_in_nI (by omega) (by decide), vp_in_nI (by omega) (by decide), ?_⟩⟩
        rintro σ9 rfl z10 rfl
        rw [nI_clamp (n := 4 + 17 * l + 1 + k) (by omega), nI_clamp (n := 4 + 17 * l + 3 + k) (by omega), sr_up, show 4 + 17 * l + 3 + k = 4 + 17 * l + 1 + k + 2 by omega, shR_s]
        exact hK _ (by rfl)
      · rintro K ⟨v2, v3, σ'⟩ e
        cases e
        dsimp only
        unfold st_X6_takeSweet_L42
        have e0 : shR (upd (upd r (4 + 17 * l + 2) (r (4 + 17 * l + 2) - nI 1)) (4 + 17 * l) (nI (n - 1))) (4 + 17 * l + 1) (2 * (n - 1)) (4 + 17 * l) = nI (n - 1) := by
          unfold shR
          rw [if_neg (by omega), pk_us]
        simp only [nI_lit, nI_add, pk_mul]
        rw [nI_clamp (n := 4 + 17 * l) (by omega), sr_row, e0, pk_mul]
        refine ⟨vp_in_nI (by omega) (by decide), fun _ => ⟨vp_in_nI (by omega) (by decide), ?_⟩, fun c => absurd (nI_le (Nat.le_refl _) (by omega)) c⟩
        rw [nI_add]
        refine ⟨vp_in_nI (by omega) (by decide), ?_⟩
        rintro σ7 rfl
        rw [nI_clamp (n := 4 + 17 * l + 1 + 2 * (n - 1)) (by omega), sr_up, sr_row, pk_un (by omega), e0, pk_mul, nI_add]
        refine ⟨vp_in_nI (by omega) (by decide), vp_in_nI (by omega) (by decide), ?_⟩
        rintro σ8 rfl
        rw [nI_clamp (n := 4 + 17 * l + 2 + 2 * (n - 1)) (by omega), sr_up]
        unfold takeR at hq
        rw [he, nI_clamp (by omega), if_pos (show r (4 + 17 * l + 2) - 1 = 0 from c)] at hq
        rw [show 4 + 17 * l + 1 + 2 * (n - 1) = 4 + 17 * l + (1 + 2 * (n - 1)) by omega, show 4 + 17 * l + 2 + 2 * (n - 1) = 4 + 17 * l + (2 + 2 * (n - 1)) by omega]
        exact hq
    have k0 := key 0 (Nat.zero_le _)
    rw [shR_0] at k0
    exact k0
/-- a pull; a tear; a wrap; a try; a lane's tries; a tick; a run: what they give, and the row behind -/
def pullR (r : Nat → Int32) (l : Nat) : Nat → Int32 := upd (upd (upd r (4 + 17 * l + 13) (r (4 + 17 * l + 13) - (2 + r 3))) (4 + 17 * l + 14) (r (4 + 17 * l + 14) + 1)) 192 (r 192 + (2 + r 3))
def tornR (r : Nat → Int32) (l : Nat) : Nat → Int32 := upd (upd r (4 + 17 * l + 15) (r (4 + 17 * l + 15) + 1)) 193 (r 193 + (2 + r 3))
def wrapR (r : Nat → Int32) (l t f : Nat) : Nat → Int32 := upd (addT (takeR r l) t f) (4 + 17 * l + 16) (r (4 + 17 * l + 16) + 1)
def tearsB (r : Nat → Int32) (l : Nat) : Bool := decide ((r (4 + 17 * l + 14) + 1) - (r (4 + 17 * l + 14) + 1) / evR r * evR r = 0)
def tryR (r : Nat → Int32) (l : Nat) : Int32 × (Nat → Int32) := if tearsB r l then (0, tornR (pullR r l) l) else (1, wrapR (pullR r l) l (tfR r (r (4 + 17 * l + 1)).toNatClampNeg).toNatClampNeg (r (4 + 17 * l + 1)).toNatClampNeg)
def laneC : Nat → Nat → (Nat → Int32) → Int32 × Int32 × (Nat → Int32)
  | 0, _, r => (0, 0, r)
  | n + 1, l, r => if rsR r l = 0 then ((laneC n l (tryR r l).2).1, (tryR r l).1 + (laneC n l (tryR r l).2).2.1, (laneC n l (tryR r l).2).2.2) else (rsR r l, 0, r)
theorem pullR_ne (r : Nat → Int32) {l j : Nat} (h1 : j ≠ 4 + 17 * l + 13) (h2 : j ≠ 4 + 17 * l + 14) (h3 : j ≠ 192) : pullR r l j = r j := by
  unfold pullR
  rw [pk_un h3, pk_un h2, pk_un h1]
theorem tkB_congr {r s : Nat → Int32} {t f : Nat} (h1 : r (73 + 7 * t) = s (73 + 7 * t)) (h2 : ∀ g, g < 6 → r (74 + 7 * t + g) = s (74 + 7 * t + g)) (h3 : r 2 = s 2) (h4 : r (185 + f) = s (185 + f)) : tkB r t f = tkB s t f := by
  unfold tkB
  rw [h1, swR_congr h2, mkR_congr h2, h3, h4]
theorem fstN_congr {p q : Nat → Bool} {n : Nat} (h : ∀ k, k < n → p k = q k) : fstN p n = fstN q n := by
  induction n with
  | zero => rfl
  | succ n ih => rw [fstN, fstN, ih (fun k hk => h k (by omega)), h n (by omega)]
theorem tfR_congr {r s : Nat → Int32} {f : Nat} (h0 : r 72 = s 72) (hn : (s 72).toNatClampNeg ≤ 16) (h : ∀ t, t < 16 → tkB r t f = tkB s t f) : tfR r f = tfR s f := by
  unfold tfR
  rw [h0, fstN_congr (q := fun t => tkB s t f) (fun k hk => h k (by omega))]
theorem IR_T {r : Nat → Int32} (hI : IR r) : (r 72).toNatClampNeg ≤ 16 := by
  obtain ⟨T, h1, h2, -⟩ := hI.2.2.2.2.1
  rw [h2, nI_clamp (by omega)]
  exact h1
theorem IR_pull {r : Nat → Int32} (hI : IR r) {l : Nat} (hl : l < 4) : IR (pullR r l) := by
  unfold pullR
  refine IR_upd _ (IR_upd _ (IR_upd _ hI (by omega) (by omega) (by omega) (fun l' w hl' hw => ln_ne (by omega) (by omega) (by omega))) (by omega) (by omega) (by omega) (fun l' w hl' hw => ln_ne (by omega) (by omega) (by omega))) (by omega) (by omega) (by omega) (fun l' w hl' hw => by omega)
theorem tf_pull {r : Nat → Int32} (hI : IR r) {l f : Nat} (hl : l < 4) (hf : f < 6) : tfR (pullR r l) f = tfR r f := by
  refine tfR_congr (pullR_ne r (by omega) (by omega) (by omega)) (IR_T hI) (fun t ht => tkB_congr (pullR_ne r (by omega) (by omega) (by omega)) (fun g hg => pullR_ne r (by omega) (by omega) (by omega)) (pullR_ne r (by omega) (by omega) (by omega)) (pullR_ne r (by omega) (by omega) (by omega)))
/-- where a lane's reason is 0: its heap, its tin -/
theorem rs_0 {r : Nat → Int32} (hI : IR r) {l : Nat} (hl : l < 4) (h : rsR r l = 0) : ¬ r (4 + 17 * l) = 0 ∧ ∃ f t T, f < 6 ∧ r (4 + 17 * l + 1) = nI f ∧ t < T ∧ T ≤ 16 ∧ r 72 = nI T ∧ tfR r f = nI t ∧ tkB r t f = true := by
  unfold rsR at h
  by_cases c : r (4 + 17 * l) = 0
  · rw [if_pos c] at h
    exact absurd h (by decide)
  · rw [if_neg c] at h
    obtain ⟨n, hn, he, hh⟩ := hI.2.2.2.2.2.1 l hl
    have hn0 : 0 < n := Nat.pos_of_ne_zero (fun z => c (by rw [he, z]; rfl))
    obtain ⟨⟨f, hf, ef⟩, -⟩ := hh 0 hn0
    have ef' : r (4 + 17 * l + 1) = nI f := ef
    rw [ef', nI_clamp (by omega)] at h
    obtain ⟨T, hT2, hT, -⟩ := hI.2.2.2.2.1
    have hx : ¬ tfR r f = -6 := by
      intro z
      rw [if_pos z] at h
      exact absurd h (by decide)
    refine ⟨c, f, ?_⟩
    by_cases q : ∃ t, t < T ∧ tkB r t f = true
    · obtain ⟨t, ⟨q1, q2⟩, q3⟩ := pk_least (fun t => t < T ∧ tkB r t f = true) q
      refine ⟨t, T, hf, ef', q1, hT2, hT, tfR_some hT hT2 q1 q2 (fun j hj => ?_), q2⟩
      cases e : tkB r j f with
      | false => rfl
      | true => exact absurd ⟨by omega, e⟩ (q3 j hj)
    · exact absurd (tfR_none hT hT2 (fun j hj => by
        cases e : tkB r j f with
        | false => rfl
        | true => exact absurd ⟨j, hj, e⟩ q)) hx
theorem tryR_ne (r : Nat → Int32) {l j : Nat} (hI : IR r) (hl : l < 4) (h0 : ¬ r (4 + 17 * l) = 0) (hj : j < 4) : (tryR r l).2 j = r j := by
  unfold tryR
  split
  · show tornR (pullR r l) l j = r j
    unfold tornR
    rw [pk_un (by omega), pk_un (by omega), pullR_ne r (by omega) (by omega) (by omega)]
  · show wrapR (pullR r l) l _ _ j = r j
    obtain ⟨n, hn, he, -⟩ := hI.2.2.2.2.2.1 l hl
    have hn0 : 0 < n := Nat.pos_of_ne_zero (fun z => h0 (by rw [he, z]; rfl))
    have e : (pullR r l (4 + 17 * l)).toNatClampNeg = n := by rw [pullR_ne r (by omega) (by omega) (by omega), he]; exact nI_clamp (by omega)
    unfold wrapR addT
    rw [pk_un (by omega), pk_un (by omega), takeR_out (by omega) (by omega) (by omega), pullR_ne r (by omega) (by omega) (by omega)]
theorem IR_try {r : Nat → Int32} (hI : IR r) {l : Nat} (hl : l < 4) (h : rsR r l = 0) : IR (tryR r l).2 := by
  obtain ⟨h0, f, t, T, hf, ef, ht, hT2, hT, etf, etk⟩ := rs_0 hI hl h
  have hP := IR_pull hI hl
  unfold tryR
  split
  · show IR (tornR (pullR r l) l)
    unfold tornR
    exact IR_upd _ (IR_upd _ hP (by omega) (by omega) (by omega) (fun l' w hl' hw => ln_ne (by omega) (by omega) (by omega))) (by omega) (by omega) (by omega) (fun l' w hl' hw => by omega)
  · show IR (wrapR (pullR r l) l _ _)
    rw [ef, nI_clamp (by omega), etf, nI_clamp (by omega)]
    unfold wrapR
    have hp0 : pullR r l (4 + 17 * l) = r (4 + 17 * l) := pullR_ne r (by omega) (by omega) (by omega)
    have hK := IR_take hP hl (by rw [hp0]; exact h0)
    obtain ⟨n, hn, he, -⟩ := hI.2.2.2.2.2.1 l hl
    have hn0 : 0 < n := Nat.pos_of_ne_zero (fun z => h0 (by rw [he, z]; rfl))
    have e : (pullR r l (4 + 17 * l)).toNatClampNeg = n := by rw [hp0, he]; exact nI_clamp (by omega)
    have out : ∀ j, (j < 4 + 17 * l ∨ 4 + 17 * l + 17 ≤ j) → j ≠ 192 → takeR (pullR r l) l j = r j := fun j hj hj2 => by rw [takeR_out (by omega) (by omega) (by omega), pullR_ne r (by omega) (by omega) hj2]
    refine IR_upd _ (IR_addT hK ht (by rw [out _ (by omega) (by omega)]; exact hT) hT2 hf ?_) (by omega) (by omega) (by omega) (fun l' w hl' hw => ln_ne (by omega) (by omega) (by omega))
    rw [tkB_congr (s := r) (out _ (by omega) (by omega)) (fun g hg => out _ (by omega) (by omega)) (out _ (by omega) (by omega)) (out _ (by omega) (by omega))]
    exact etk
theorem s_X6_tryOnce {Q : Int32 → Sg → Prop} {x1 : Int32} (l : Nat) (hl : l < 4) (hI : IR r) (h : rsR r l = 0) (e1 : x1 = nI l := by rfl) (hq : Q (tryR r l).1 (sr σ (tryR r l).2)) : wp_X6_tryOnce x1 (sr σ r) Q := by
  obtain ⟨h0, f, t, T, hf, ef, ht, hT2, hT, etf, etk⟩ := rs_0 hI hl h
  obtain ⟨a, ha1, ha2, ha3⟩ := hI.1
  have hP := IR_pull hI hl
  have hev : evR (pullR r l) = evR r := by
    unfold evR
    rw [pullR_ne r (by omega) (by omega) (by omega), pullR_ne r (by omega) (by omega) (by omega)]
  have body : ∀ s0 : Int32, s0 = evR r → wp_X6_tryOnce_b43 x1 Q (nI (4 + 17 * l)) (2 + r 3) s0 (sr σ r) := by
    rintro s0 rfl
    unfold wp_X6_tryOnce_b43
    have i17 : nI (4 + 17 * l) + 17 - 4 = nI (4 + 17 * l + 13) := by
      simp only [nI_lit, nI_add]
      rw [pk_sub (by omega)]
      rfl
    have i18 : nI (4 + 17 * l) + 18 - 4 = nI (4 + 17 * l + 14) := by
      simp only [nI_lit, nI_add]
      rw [pk_sub (by omega)]
      rfl
    have i19 : nI (4 + 17 * l) + 19 - 4 = nI (4 + 17 * l + 15) := by
      simp only [nI_lit, nI_add]
      rw [pk_sub (by omega)]
      rfl
    have i20 : nI (4 + 17 * l) + 20 - 4 = nI (4 + 17 * l + 16) := by
      simp only [nI_lit, nI_add]
      rw [pk_sub (by omega)]
      rfl
    rw [i17, i18, i19, i20]
    rintro z5 rfl
    rw [nI_clamp (n := 4 + 17 * l + 13) (by omega)]
    refine ⟨vp_in_nI (by omega) (by decide), vp_in_nI (by omega) (by decide), ?_⟩
    rintro σ6 rfl z7 rfl
    rw [sr_up, nI_clamp (n := 4 + 17 * l + 14) (by omega), sr_row, sr_row, pk_un (by omega)]
    refine ⟨vp_in_nI (by omega) (by decide), vp_in_nI (by omega) (by decide), ?_⟩
    rintro σ8 rfl σ9 rfl
    rw [sr_up, sr_row, sr_up, pk_un (j := 192) (by omega), pk_un (j := 192) (by omega)]
    have hne : ¬ evR r = 0 := by
      unfold evR
      split
      · next c => intro z; rw [z] at c; exact absurd c (by decide)
      · decide
    refine ⟨vp_in_nI (by omega) (by decide), hne, ?_⟩
    rw [show upd (upd (upd r (4 + 17 * l + 13) (r (4 + 17 * l + 13) - (2 + r 3))) (4 + 17 * l + 14) (r (4 + 17 * l + 14) + 1)) 192 (r 192 + (2 + r 3)) = pullR r l from rfl, sr_row]
    have ep : pullR r l (4 + 17 * l + 14) = r (4 + 17 * l + 14) + 1 := by
      unfold pullR
      rw [pk_un (by omega), pk_us]
    rw [ep]
    have hp0 : pullR r l (4 + 17 * l) = r (4 + 17 * l) := pullR_ne r (by omega) (by omega) (by omega)
    have hp1 : pullR r l (4 + 17 * l + 1) = r (4 + 17 * l + 1) := pullR_ne r (by omega) (by omega) (by omega)
    obtain ⟨n, hn, he, -⟩ := hI.2.2.2.2.2.1 l hl
    have hn0 : 0 < n := Nat.pos_of_ne_zero (fun z => h0 (by rw [he, z]; rfl))
    have en : (pullR r l (4 + 17 * l)).toNatClampNeg = n := by rw [hp0, he]; exact nI_clamp (by omega)
    refine ⟨fun c => ?_, fun c => ?_⟩
    · have hb : tearsB r l = false := decide_eq_false c
      unfold tryR at hq
      rw [hb, ef, nI_clamp (by omega), etf, nI_clamp (by omega)] at hq
      refine s_X6_heapFlavour l 0 (by omega) e1 rfl ?_
      rw [sr_row]
      refine s_X6_tinFor f T hf (by rw [sr_row, pullR_ne r (by omega) (by omega) (by omega)]; exact hT) hT2 (hp1.trans ef) ?_
      rw [sr_row, tf_pull hI hl hf, etf]
      refine s_X6_takeSweet l hl hP (by rw [hp0]; exact h0) e1 ?_
      rintro z16 rfl
      rw [show pullR r l (4 + 17 * l + (1 + 2 * 0)) = nI f from hp1.trans ef]
      simp only [nI_lit, nI_add, pk_mul]
      rw [show 73 + 7 * t + 1 + f = 74 + 7 * t + f by omega, nI_clamp (n := 74 + 7 * t + f) (by omega), sr_row, sr_up]
      refine ⟨vp_in_nI (by omega) (by decide), vp_in_nI (by omega) (by decide), ?_⟩
      rintro σ17 rfl z18 rfl
      rw [nI_clamp (n := 4 + 17 * l + 16) (by omega), sr_row, sr_up]
      refine ⟨vp_in_nI (by omega) (by decide), vp_in_nI (by omega) (by decide), ?_⟩
      rintro σ19 rfl
      rw [pk_un (by omega), takeR_out (j := 4 + 17 * l + 16) (by omega) (by omega) (by omega)]
      rw [if_neg (by decide)] at hq
      exact hq
    · have hb : tearsB r l = true := decide_eq_true c
      unfold tryR at hq
      rw [hb] at hq
      rintro z20 rfl
      rw [nI_clamp (n := 4 + 17 * l + 15) (by omega), sr_up]
      refine ⟨vp_in_nI (by omega) (by decide), vp_in_nI (by omega) (by decide), ?_⟩
      rintro σ21 rfl σ22 rfl
      rw [sr_row, sr_up, pk_un (j := 193) (by omega)]
      have e3 : pullR r l 3 = r 3 := pullR_ne r (by omega) (by omega) (by omega)
      have ht : tornR (pullR r l) l = upd (upd (pullR r l) (4 + 17 * l + 15) (pullR r l (4 + 17 * l + 15) + 1)) 193 (pullR r l 193 + (2 + r 3)) := by
        unfold tornR
        rw [e3]
      rw [if_pos rfl, ht] at hq
      exact hq
  unfold wp_X6_tryOnce
  rintro z1 rfl z2 rfl
  rw [sr_row]
  refine ⟨by rw [ha3]; exact nI_ne0 (by omega) (by omega), ?_⟩
  rintro z3 rfl
  rw [e1, show ((4 : Int32) + (17 : Int32) * nI l) = nI (4 + 17 * l) by simp only [nI_lit, nI_add, pk_mul]]
  rw [e1] at body
  exact ⟨fun c => body _ (by unfold evR; rw [if_pos c]), fun c => body _ (by unfold evR; rw [if_neg c])⟩
end RT
