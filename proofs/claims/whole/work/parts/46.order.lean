/-! An order: where its reading ends, whether it is one, its numbers. -/
def dvl (c : Nat → Int32) (L q : Nat) : Nat := (chA c L q).toNatClampNeg - 48
def nmP (c : Nat → Int32) (L q : Nat) (f : Nat → Nat × Nat × Nat) : Nat × Bool × Nat × Nat × Nat := if dgB c L q then ((nuR c L 80 (dvl c L q) (q + 1)).2, true, f (nuR c L 80 (dvl c L q) (q + 1)).1) else (q, false, 0, 0, 0)
def orP (c : Nat → Int32) (L q : Nat) : Nat × Bool × Nat × Nat × Nat :=
  if chA c L q = 104 then
    (if dgB c L (q + 1) then (if chA c L (q + 2) = 46 then (if dgB c L (q + 3) then (if chA c L (q + 4) = 42 then nmP c L (q + 5) (fun u => (dvl c L (q + 1), dvl c L (q + 3), u)) else (q + 4, false, 0, 0, 0)) else (q + 3, false, 0, 0, 0)) else (q + 2, false, 0, 0, 0)) else (q + 1, false, 0, 0, 0))
  else if chA c L q = 102 then
    (if dgB c L (q + 1) then (if chA c L (q + 2) = 43 then nmP c L (q + 3) (fun u => (dvl c L (q + 1), u, 0)) else (q + 2, false, 0, 0, 0)) else (q + 1, false, 0, 0, 0))
  else if chA c L q = 115 then nmP c L (q + 1) (fun u => (u, 0, 0))
  else if chA c L q = 114 then nmP c L (q + 1) (fun u => (u, 0, 0))
  else if chA c L q = 97 then
    (if dgB c L (q + 1) then (if dgB c L (q + 2) then (q + 3, true, dvl c L (q + 1), dvl c L (q + 2), 0) else (q + 2, false, 0, 0, 0)) else (q + 1, false, 0, 0, 0))
  else if chA c L q = 116 then (q + 1, true, 0, 0, 0) else (q, false, 0, 0, 0)
/-- the change that an order asks for, in the reference -/
def chgR (k : Int32) (z : Nat × Nat × Nat) (τ : Sg) (Q : Int32 → Sg → Prop) : Prop :=
  if k = 104 then wp_X6_heaps (nI z.1) (nI z.2.1) (nI z.2.2) τ Q else if k = 102 then wp_X6_foils (nI z.1) (nI z.2.1) τ Q else if k = 115 then wp_X6_ships (nI z.1) τ Q else if k = 114 then wp_X6_goes (nI z.1) τ Q else if k = 97 then wp_X6_keepsApart (nI z.1) (nI z.2.1) τ Q else wp_X6_tins τ Q
theorem ot_eq {x a : Int32} : otB x a a = false ↔ x = a := by
  unfold otB
  rw [Bool.or_eq_false_iff, decide_eq_false_iff_not, decide_eq_false_iff_not]
  constructor
  · rintro ⟨h1, h2⟩
    exact Int32.le_antisymm (Int32.not_lt.mp h2) (Int32.not_lt.mp h1)
  · rintro rfl
    exact ⟨fun h => Int32.lt_irrefl h, fun h => Int32.lt_irrefl h⟩
theorem dg_false {c : Nat → Int32} {L q : Nat} : dgB c L q = true ↔ otB (chA c L q) 48 57 = false := by
  unfold dgB
  cases otB (chA c L q) 48 57 <;> simp
theorem dg_sub {c : Nat → Int32} {L q : Nat} (h : dgB c L q = true) : chA c L q - 48 = nI (dvl c L q) := by
  obtain ⟨e, e9, ee, -⟩ := dg_nI h
  unfold dvl
  rw [ee, nI_clamp (by omega), show (48 : Int32) = nI 48 from rfl, pk_sub (by omega)]
section RO
variable {σ : Sg} {Q : Int32 → Sg → Prop} {g : Nat → Int32} {L q : Nat}
/-- a digit, then what follows -/
theorem r_dig {R : Int32 → Sg → Prop} (hL : L ≤ 80) (h7 : g 7 = nI L) (hq0 : q < 2 ^ 18) (h1 : dgB (σ 12 24 0) L q = true → ∀ z : Int32, z = nI (dvl (σ 12 24 0) L q) → R z (ms σ g (q + 1) 0)) (h0 : dgB (σ 12 24 0) L q = false → ∀ z, R z (ms σ g q 1)) : wp_X6_sign 48 57 (ms σ g q 0) (fun r σ2 => ∀ z : Int32, z = r - 48 → R z σ2) := by
  refine s_X6_sign hL h7 (by omega) (by decide) (fun c => ?_) (fun c => ?_)
  · have hd := dg_false.mpr c
    rintro z rfl
    exact h1 hd _ (dg_sub hd)
  · have hd : dgB (σ 12 24 0) L q = false := by unfold dgB; rw [c]; rfl
    rintro z rfl
    exact h0 hd _
theorem r_dig1 {R : Int32 → Sg → Prop} (hL : L ≤ 80) (h7 : g 7 = nI L) (hq0 : q < 2 ^ 18) (h : ∀ z, R z (ms σ g q 1)) : wp_X6_sign 48 57 (ms σ g q 1) (fun r σ2 => ∀ z : Int32, z = r - 48 → R z σ2) :=
  s_X6_sign1 hL h7 (by omega) (fun v z _ => h z)
theorem r_sgn {a : Int32} {R : Sg → Prop} (hL : L ≤ 80) (h7 : g 7 = nI L) (hq0 : q < 2 ^ 18) (ha : otB 0 a a = true) (h1 : chA (σ 12 24 0) L q = a → R (ms σ g (q + 1) 0)) (h0 : ¬ chA (σ 12 24 0) L q = a → R (ms σ g q 1)) : wp_X6_sign a a (ms σ g q 0) (fun _ σ2 => R σ2) := by
  refine s_X6_sign hL h7 (by omega) ha (fun c => h1 (ot_eq.mp c)) (fun c => h0 (fun e => ?_))
  rw [ot_eq.mpr e] at c
  exact absurd c (by decide)
theorem r_num (f : Nat → Nat × Nat × Nat) {R : Int32 → Sg → Prop} (hL : L ≤ 80) (h7 : g 7 = nI L) (hq0 : q < 2 ^ 18) (h1 : dgB (σ 12 24 0) L q = true → R (nI (nuR (σ 12 24 0) L 80 (dvl (σ 12 24 0) L q) (q + 1)).1) (ms σ g (nuR (σ 12 24 0) L 80 (dvl (σ 12 24 0) L q) (q + 1)).2 0)) (h0 : dgB (σ 12 24 0) L q = false → ∀ z, R z (ms σ g q 1)) : wp_X6_number (ms σ g q 0) R := by
  refine s_X6_number hL h7 hq0 h0 (fun hd u q' e => ?_)
  have h := h1 hd
  have e' : nuR (σ 12 24 0) L 80 (dvl (σ 12 24 0) L q) (q + 1) = (u, q') := e
  rw [e'] at h
  exact h
theorem s_X6_order {x : Int32} (hL : L ≤ 80) (h7 : g 7 = nI L) (hq0 : q < 2 ^ 10) (hbad : (orP (σ 12 24 0) L q).2.1 = false → x = 0 ∧ Q 0 (ms σ g (orP (σ 12 24 0) L q).1 1)) (hok : (orP (σ 12 24 0) L q).2.1 = true → (x = 0 → Q 0 (ms σ g (orP (σ 12 24 0) L q).1 0)) ∧ (¬ x = 0 → chgR (chA (σ 12 24 0) L q) (orP (σ 12 24 0) L q).2.2 (ms σ g (orP (σ 12 24 0) L q).1 0) Q)) : wp_X6_order x (ms σ g q 0) Q := by
  unfold orP at hbad hok
  unfold wp_X6_order
  have bad : ∀ {f : Nat} {A : Prop}, x = 0 ∧ Q 0 (ms σ g f 1) → (x = 0 → Q 0 (ms σ g f 1)) ∧ (¬ x = 0 → A) := fun h => ⟨fun _ => h.2, fun c => absurd h.1 c⟩
  refine s_X6_isNext hL h7 (by omega) (by decide) (fun c => ?_) (fun c1 => ?_)
  · rw [if_pos c] at hbad hok
    refine ⟨fun d => absurd d (by decide), fun _ => ?_⟩
    rintro σ42 rfl
    rw [ms_9, nI_1, ms_u9]
    refine r_dig hL h7 (by omega) (fun hd z45 e45 => ?_) (fun hd z45 => ?_)
    · rw [if_pos hd] at hbad hok
      refine r_sgn hL h7 (by omega) (by decide) (fun he => ?_) (fun he => ?_)
      · rw [if_pos he] at hbad hok
        refine r_dig hL h7 (by omega) (fun hd2 z50 e50 => ?_) (fun hd2 z50 => ?_)
        · rw [if_pos hd2] at hbad hok
          refine r_sgn hL h7 (by omega) (by decide) (fun he2 => ?_) (fun he2 => ?_)
          · rw [if_pos he2] at hbad hok
            unfold nmP at hbad hok
            refine r_num (fun u => (0, 0, u)) hL h7 (by omega) (fun hd3 => ?_) (fun hd3 z => ?_)
            · rw [if_pos hd3] at hok
              obtain ⟨k1, k2⟩ := hok rfl
              refine ⟨k1, fun cx => ?_⟩
              have := k2 cx
              unfold chgR at this
              rw [if_pos c] at this
              rw [e45, e50]
              exact this
            · rw [if_neg (by rw [hd3]; decide)] at hbad
              exact bad (hbad rfl)
          · rw [if_neg he2] at hbad
            exact s_X6_number1 hL h7 (by omega) (fun v => bad (hbad rfl))
        · rw [if_neg (by rw [hd2]; decide)] at hbad
          exact s_X6_sign1 hL h7 (by omega) (fun v => s_X6_number1 hL h7 (by omega) (fun v => bad (hbad rfl)))
      · rw [if_neg he] at hbad
        exact r_dig1 hL h7 (by omega) (fun v => s_X6_sign1 hL h7 (by omega) (fun v => s_X6_number1 hL h7 (by omega) (fun v => bad (hbad rfl))))
    · rw [if_neg (by rw [hd]; decide)] at hbad
      exact s_X6_sign1 hL h7 (by omega) (fun v => r_dig1 hL h7 (by omega) (fun v => s_X6_sign1 hL h7 (by omega) (fun v => s_X6_number1 hL h7 (by omega) (fun v => bad (hbad rfl)))))
  · rw [if_neg c1] at hbad hok
    refine ⟨fun _ => ?_, fun d => absurd rfl d⟩
    refine s_X6_isNext hL h7 (by omega) (by decide) (fun c => ?_) (fun c2 => ?_)
    · rw [if_pos c] at hbad hok
      refine ⟨fun d => absurd d (by decide), fun _ => ?_⟩
      rintro σ31 rfl
      rw [ms_9, nI_1, ms_u9]
      refine r_dig hL h7 (by omega) (fun hd z34 e34 => ?_) (fun hd z34 => ?_)
      · rw [if_pos hd] at hbad hok
        refine r_sgn hL h7 (by omega) (by decide) (fun he => ?_) (fun he => ?_)
        · rw [if_pos he] at hbad hok
          unfold nmP at hbad hok
          refine r_num (fun u => (0, 0, u)) hL h7 (by omega) (fun hd3 => ?_) (fun hd3 z => ?_)
          · rw [if_pos hd3] at hok
            obtain ⟨k1, k2⟩ := hok rfl
            refine ⟨k1, fun cx => ?_⟩
            have := k2 cx
            unfold chgR at this
            rw [if_neg c1, if_pos c] at this
            rw [e34]
            exact this
          · rw [if_neg (by rw [hd3]; decide)] at hbad
            exact bad (hbad rfl)
        · rw [if_neg he] at hbad
          exact s_X6_number1 hL h7 (by omega) (fun v => bad (hbad rfl))
      · rw [if_neg (by rw [hd]; decide)] at hbad
        exact s_X6_sign1 hL h7 (by omega) (fun v => s_X6_number1 hL h7 (by omega) (fun v => bad (hbad rfl)))
    · rw [if_neg c2] at hbad hok
      refine ⟨fun _ => ?_, fun d => absurd rfl d⟩
      have num : ∀ isS : Bool, (isS = true → chA (σ 12 24 0) L q = 115) → (isS = false → chA (σ 12 24 0) L q = 114) → ((nmP (σ 12 24 0) L (q + 1) (fun u => (u, 0, 0))).2.1 = false → x = 0 ∧ Q 0 (ms σ g (nmP (σ 12 24 0) L (q + 1) (fun u => (u, 0, 0))).1 1)) → ((nmP (σ 12 24 0) L (q + 1) (fun u => (u, 0, 0))).2.1 = true → (x = 0 → Q 0 (ms σ g (nmP (σ 12 24 0) L (q + 1) (fun u => (u, 0, 0))).1 0)) ∧ (¬ x = 0 → chgR (chA (σ 12 24 0) L q) (nmP (σ 12 24 0) L (q + 1) (fun u => (u, 0, 0))).2.2 (ms σ g (nmP (σ 12 24 0) L (q + 1) (fun u => (u, 0, 0))).1 0) Q)) → wp_X6_order_b167 x Q (ms σ g q 0) := by
        intro isS hs hr nbad nok
        unfold nmP at nbad nok
        have rest : ∀ r58 : Int32, (r58 = 0 ↔ isS = false) → ∀ σ60 : Sg, σ60 = up (ms σ g q 0) 12 18 0 9 ((ms σ g q 0 12 18 0 9) + (1 : Int32)) → wp_X6_number σ60 (fun r61 σ62 => ((¬ x = 0 → ((r58 = 0 → wp_X6_goes r61 σ62 (fun r65 σ66 => Q r65 σ66)) ∧ (¬ r58 = 0 → wp_X6_ships r61 σ62 (fun r67 σ68 => Q r67 σ68)))) ∧ (x = 0 → Q (0 : Int32) σ62))) := by
          rintro r58 h58 σ60 rfl
          rw [ms_9, nI_1, ms_u9]
          refine r_num (fun u => (0, 0, u)) hL h7 (by omega) (fun hd3 => ?_) (fun hd3 z => ?_)
          · rw [if_pos hd3] at nok
            obtain ⟨k1, k2⟩ := nok rfl
            refine ⟨fun cx => ⟨fun d => ?_, fun d => ?_⟩, k1⟩
            · have := k2 cx
              have e := hr (h58.mp d)
              unfold chgR at this
              rw [if_neg c1, if_neg c2, if_neg (by rw [e]; decide), if_pos e] at this
              exact this
            · have := k2 cx
              have e := hs (by
                cases isS with
                | true => rfl
                | false => exact absurd (h58.mpr rfl) d)
              unfold chgR at this
              rw [if_neg c1, if_neg c2, if_pos e] at this
              exact this
          · rw [if_neg (by rw [hd3]; decide)] at nbad
            obtain ⟨b1, b2⟩ := nbad rfl
            exact ⟨fun cx => absurd b1 cx, fun _ => b2⟩
        unfold wp_X6_order_b167
        refine s_X6_isNext hL h7 (by omega) (by decide) (fun e => ?_) (fun e => ?_)
        · refine rest 1 ⟨fun d => absurd d (by decide), fun d => ?_⟩
          have := hr d
          rw [e] at this
          exact absurd this (by decide)
        · refine rest 0 ⟨fun _ => ?_, fun _ => rfl⟩
          cases isS with
          | false => rfl
          | true => exact absurd (hs rfl) e
      refine s_X6_isNext hL h7 (by omega) (by decide) (fun c => ?_) (fun c3 => ?_)
      · rw [if_pos c] at hbad hok
        exact ⟨fun _ => num true (fun _ => c) (fun d => absurd d (by decide)) hbad hok, fun d => absurd d (by decide)⟩
      · rw [if_neg c3] at hbad hok
        refine ⟨fun d => absurd rfl d, fun _ => ?_⟩
        refine s_X6_isNext hL h7 (by omega) (by decide) (fun c => ?_) (fun c4 => ?_)
        · rw [if_pos c] at hbad hok
          exact ⟨fun d => absurd d (by decide), fun _ => num false (fun d => absurd d (by decide)) (fun _ => c) hbad hok⟩
        · rw [if_neg c4] at hbad hok
          refine ⟨fun _ => ?_, fun d => absurd rfl d⟩
          refine s_X6_isNext hL h7 (by omega) (by decide) (fun c => ?_) (fun c5 => ?_)
          · rw [if_pos c] at hbad hok
            refine ⟨fun d => absurd d (by decide), fun _ => ?_⟩
            rintro σ21 rfl
            rw [ms_9, nI_1, ms_u9]
            refine r_dig hL h7 (by omega) (fun hd z24 e24 => ?_) (fun hd z24 => ?_)
            · rw [if_pos hd] at hbad hok
              refine r_dig hL h7 (by omega) (fun hd2 z27 e27 => ?_) (fun hd2 z27 => ?_)
              · rw [if_pos hd2] at hbad hok
                obtain ⟨k1, k2⟩ := hok rfl
                refine ⟨k1, fun cx => ?_⟩
                have := k2 cx
                unfold chgR at this
                rw [if_neg c1, if_neg c2, if_neg c3, if_neg c4, if_pos c] at this
                rw [e24, e27]
                exact this
              · rw [if_neg (by rw [hd2]; decide)] at hbad
                exact bad (hbad rfl)
            · rw [if_neg (by rw [hd]; decide)] at hbad
              exact r_dig1 hL h7 (by omega) (fun v => bad (hbad rfl))
          · rw [if_neg c5] at hbad hok
            refine ⟨fun _ => ?_, fun d => absurd rfl d⟩
            refine r_sgn hL h7 (by omega) (by decide) (fun he => ?_) (fun he => ?_)
            · rw [if_pos he] at hbad hok
              obtain ⟨k1, k2⟩ := hok rfl
              refine ⟨k1, fun cx => ?_⟩
              have := k2 cx
              unfold chgR at this
              rw [if_neg c1, if_neg c2, if_neg c3, if_neg c4, if_neg c5] at this
              exact this
            · rw [if_neg he] at hbad
              exact bad (hbad rfl)
end RO
