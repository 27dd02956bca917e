/-! Orders carried out, each side. -/
def chP (k : Int32) (z : Nat × Nat × Nat) (r : Nat → Int32) : Int32 × (Nat → Int32) :=
  if k = 104 then heapsR r (nI z.1) (nI z.2.1) (nI z.2.2) else if k = 102 then foilsR r (nI z.1) (nI z.2.1) else if k = 115 then shipsR r (nI z.1) else if k = 114 then ((goesR r (fun _ => 0) (nI z.1)).1, (goesR r (fun _ => 0) (nI z.1)).2.1) else if k = 97 then apartR r (nI z.1) (nI z.2.1) else tinsR r
theorem IR_ch {k : Int32} {z : Nat × Nat × Nat} {r : Nat → Int32} (hI : IR r) : IR (chP k z r).2 := by
  unfold chP
  by_cases c1 : k = 104
  · rw [if_pos c1]; exact IR_heaps hI
  rw [if_neg c1]
  by_cases c2 : k = 102
  · rw [if_pos c2]; exact IR_foil hI
  rw [if_neg c2]
  by_cases c3 : k = 115
  · rw [if_pos c3]; exact IR_ship hI
  rw [if_neg c3]
  by_cases c4 : k = 114
  · rw [if_pos c4]; exact IR_goes hI
  rw [if_neg c4]
  by_cases c5 : k = 97
  · rw [if_pos c5]; exact IR_apart hI
  rw [if_neg c5]
  exact IR_tins hI
theorem or_kind {c : Nat → Int32} {L q : Nat} (h : (orP c L q).2.1 = true) : chA c L q = 104 ∨ chA c L q = 102 ∨ chA c L q = 115 ∨ chA c L q = 114 ∨ chA c L q = 97 ∨ chA c L q = 116 := by
  by_cases c1 : chA c L q = 104
  · exact Or.inl c1
  by_cases c2 : chA c L q = 102
  · exact Or.inr (Or.inl c2)
  by_cases c3 : chA c L q = 115
  · exact Or.inr (Or.inr (Or.inl c3))
  by_cases c4 : chA c L q = 114
  · exact Or.inr (Or.inr (Or.inr (Or.inl c4)))
  by_cases c5 : chA c L q = 97
  · exact Or.inr (Or.inr (Or.inr (Or.inr (Or.inl c5))))
  by_cases c6 : chA c L q = 116
  · exact Or.inr (Or.inr (Or.inr (Or.inr (Or.inr c6))))
  unfold orP at h
  rw [if_neg c1, if_neg c2, if_neg c3, if_neg c4, if_neg c5, if_neg c6] at h
  exact absurd (show false = true from h) (by decide)
def crP (c : Nat → Int32) (L : Nat) : Nat → Nat → (Nat → Int32) → Nat → Nat × (Nat → Int32)
  | 0, _, r, n => (n, r)
  | f + 1, q, r, n => if (chP (chA c L q) (orP c L q).2.2 r).1 < 0 then (n, (chP (chA c L q) (orP c L q).2.2 r).2) else if L ≤ (orP c L q).1 then (n + 1, (chP (chA c L q) (orP c L q).2.2 r).2) else crP c L f ((orP c L q).1 + 1) (chP (chA c L q) (orP c L q).2.2 r).2 (n + 1)
theorem crP_s (c : Nat → Int32) (L f q : Nat) (r : Nat → Int32) (n : Nat) : crP c L (f + 1) q r n = if (chP (chA c L q) (orP c L q).2.2 r).1 < 0 then (n, (chP (chA c L q) (orP c L q).2.2 r).2) else if L ≤ (orP c L q).1 then (n + 1, (chP (chA c L q) (orP c L q).2.2 r).2) else crP c L f ((orP c L q).1 + 1) (chP (chA c L q) (orP c L q).2.2 r).2 (n + 1) := rfl
theorem crP_congr {c c' : Nat → Int32} {L : Nat} (h : ∀ j, j < L → c j = c' j) : crP c L = crP c' L := by
  have hc := ch_congr h
  have ho := or_congr h
  funext f
  induction f with
  | zero => rfl
  | succ f ih =>
    funext q r n
    rw [crP_s, crP_s, hc, ho, ih]
section CO
variable {σ τ : Sg} {Q : Int32 → Sg → Prop} {g v r d : Nat → Int32} {L q : Nat} {μ : Nat → Nat → Nat → Int32}
theorem s_X5_carryOrder {k : Int32} {z : Nat × Nat × Nat} (hk : τ 11 15 0 4 = k) (hv : VAL k z (τ 11 17 0)) (h6 : k = 104 ∨ k = 102 ∨ k = 115 ∨ k = 114 ∨ k = 97 ∨ k = 116) (hM : MR (τ 0) r) (hI : IR r) (hq : ∀ μ', MR μ' (chP k z r).2 → Q (chP k z r).1 (sm τ 0 μ')) : wp_X5_carryOrder τ Q := by
  obtain ⟨v1, v2, v3, v4, v5⟩ := hv
  unfold wp_X5_carryOrder
  rw [hk]
  unfold chP at hq
  rcases h6 with e | e | e | e | e | e
  · obtain ⟨a1, a2, a3⟩ := v1 e
    rw [a1, a2, a3]
    rw [if_pos e] at hq
    have hc := s_X2_addSweets (σ := τ) (m := 0) (μ := τ 0) (Q := Q) hM hI hq
    rw [sm_self] at hc
    exact ⟨fun d => absurd (e.symm.trans d) (by decide), fun _ => ⟨fun d => absurd (e.symm.trans d) (by decide), fun _ => ⟨fun _ => hc, fun d => absurd e d⟩⟩⟩
  · obtain ⟨a1, a2⟩ := v2 e
    rw [a1, a2]
    rw [if_neg (by rw [e]; decide), if_pos e] at hq
    have hc := s_X2_addFoil (σ := τ) (m := 0) (μ := τ 0) (Q := Q) hM hI hq
    rw [sm_self] at hc
    exact ⟨fun d => absurd (e.symm.trans d) (by decide), fun _ => ⟨fun _ => hc, fun d => absurd e d⟩⟩
  · have a1 := v3 e
    rw [a1]
    rw [if_neg (by rw [e]; decide), if_neg (by rw [e]; decide), if_pos e] at hq
    have hc := s_X2_shipTin (σ := τ) (m := 0) (μ := τ 0) (Q := Q) hM hI hq
    rw [sm_self] at hc
    exact ⟨fun d => absurd (e.symm.trans d) (by decide), fun _ => ⟨fun d => absurd (e.symm.trans d) (by decide), fun _ => ⟨fun d => absurd (e.symm.trans d) (by decide), fun _ => ⟨fun d => absurd (e.symm.trans d) (by decide), fun _ => ⟨fun _ => hc, fun d => absurd e d⟩⟩⟩⟩⟩
  · have a1 := v4 e
    rw [a1]
    rw [if_neg (by rw [e]; decide), if_neg (by rw [e]; decide), if_neg (by rw [e]; decide), if_pos e] at hq
    have hc := s_X2_runTicks (σ := τ) (m := 0) (μ := τ 0) (Q := Q) (fun _ => 0) hM hI hq
    rw [sm_self] at hc
    exact ⟨fun d => absurd (e.symm.trans d) (by decide), fun _ => ⟨fun d => absurd (e.symm.trans d) (by decide), fun _ => ⟨fun d => absurd (e.symm.trans d) (by decide), fun _ => ⟨fun _ => hc, fun d => absurd e d⟩⟩⟩⟩
  · obtain ⟨a1, a2⟩ := v5 e
    rw [a1, a2]
    rw [if_neg (by rw [e]; decide), if_neg (by rw [e]; decide), if_neg (by rw [e]; decide), if_neg (by rw [e]; decide), if_pos e] at hq
    have hc := s_X2_changeApart (σ := τ) (m := 0) (μ := τ 0) (Q := Q) hM hI hq
    rw [sm_self] at hc
    exact ⟨fun _ => hc, fun d => absurd e d⟩
  · rw [if_neg (by rw [e]; decide), if_neg (by rw [e]; decide), if_neg (by rw [e]; decide), if_neg (by rw [e]; decide), if_neg (by rw [e]; decide)] at hq
    have hc := s_X2_addTin (σ := τ) (m := 0) (μ := τ 0) (Q := Q) hM hI hq
    rw [sm_self] at hc
    exact ⟨fun d => absurd (e.symm.trans d) (by decide), fun _ => ⟨fun d => absurd (e.symm.trans d) (by decide), fun _ => ⟨fun d => absurd (e.symm.trans d) (by decide), fun _ => ⟨fun d => absurd (e.symm.trans d) (by decide), fun _ => ⟨fun d => absurd (e.symm.trans d) (by decide), fun _ => ⟨fun _ => hc, fun d => absurd e d⟩⟩⟩⟩⟩⟩
theorem s_chgR {k : Int32} {z : Nat × Nat × Nat} (hI : IR r) (hq : ∀ d', Q (chP k z r).1 (sr (sd σ d') (chP k z r).2)) : chgR k z (sr (sd σ d) r) Q := by
  unfold chgR
  unfold chP at hq
  by_cases c1 : k = 104
  · rw [if_pos c1] at hq ⊢; exact s_X6_heaps hI (hq _)
  rw [if_neg c1] at hq ⊢
  by_cases c2 : k = 102
  · rw [if_pos c2] at hq ⊢; exact s_X6_foils hI (hq _)
  rw [if_neg c2] at hq ⊢
  by_cases c3 : k = 115
  · rw [if_pos c3] at hq ⊢; exact s_X6_ships hI (hq _)
  rw [if_neg c3] at hq ⊢
  by_cases c4 : k = 114
  · rw [if_pos c4] at hq ⊢
    refine s_X6_goes hI ?_
    have e := goesR_d r d (fun _ => 0) (nI z.1)
    rw [e.1, e.2]
    exact hq _
  rw [if_neg c4] at hq ⊢
  by_cases c5 : k = 97
  · rw [if_pos c5] at hq ⊢; exact s_X6_keepsApart hI (hq _)
  rw [if_neg c5] at hq ⊢
  exact s_X6_tins hI (hq _)
theorem sm_pd (σ : Sg) (g v : Nat → Int32) (μ : Nat → Nat → Nat → Int32) : sm (pd σ g v) 0 μ = pd (sm σ 0 μ) g v := by
  funext a b c
  unfold sm pd ua
  dsimp only
  by_cases h : a = 0
  · rw [if_pos h, if_neg (by omega), if_neg (by omega), if_pos h]
  · rw [if_neg h, if_neg h]
theorem ms_srd (σ : Sg) (d r g : Nat → Int32) (q : Nat) (w : Int32) : ms (sr (sd σ d) r) g q w = sr (sd (ms σ g q w) d) r := by
  funext a b c
  unfold ms sr sd ua
  by_cases h1 : a = 12 ∧ b = 18 ∧ c = 0
  · rw [if_pos h1, if_neg (by omega), if_neg (by omega), if_pos h1]
  · rw [if_neg h1, if_neg h1]
/-- what holds of an order that has no fault behind it -/
theorem flt_ok {c : Nat → Int32} {f : Nat} (h : (fltP c L (f + 1) q).1 = true) : (orP c L q).2.1 = true ∧ okC c L q = true ∧ (¬ L ≤ (orP c L q).1 → chA c L (orP c L q).1 = 59 ∧ (fltP c L f ((orP c L q).1 + 1)).1 = true) := by
  rw [fltP_s] at h
  by_cases c1 : (orP c L q).2.1 = false
  · rw [if_pos c1] at h
    exact absurd (show false = true from h) (by decide)
  rw [if_neg c1] at h
  have ok : (orP c L q).2.1 = true := by
    cases z : (orP c L q).2.1 with
    | true => rfl
    | false => exact absurd z c1
  by_cases c2 : L ≤ (orP c L q).1
  · refine ⟨ok, ?_, fun d => absurd c2 d⟩
    unfold okC
    rw [ok]
    cases z : dgB c L (orP c L q).1 with
    | false => rw [Bool.and_false]; rfl
    | true =>
      obtain ⟨-, -, -, zl⟩ := dg_nI z
      omega
  rw [if_neg c2] at h
  by_cases c3 : chA c L (orP c L q).1 = 59
  · rw [if_pos c3] at h
    refine ⟨ok, ?_, fun _ => ⟨c3, h⟩⟩
    unfold okC
    rw [ok]
    cases z : dgB c L (orP c L q).1 with
    | false => rw [Bool.and_false]; rfl
    | true =>
      obtain ⟨e, e9, ee, zl⟩ := dg_nI z
      have := (nI_eq (a := 48 + e) (b := 59) (by omega) (by decide)).mp (ee.symm.trans c3)
      omega
  · rw [if_neg c3] at h
    exact absurd (show false = true from h) (by decide)
theorem s_X5_carryL (hg2 : g 2 = nI L) (hg3 : g 3 = nI 0) (hL : L ≤ 80) (hM : MR μ r) (hI : IR r) (hf : (fltP (σ 11 16 0) L 80 0).1 = true) (hq : ∀ g' v' μ', g' 2 = nI L → MR μ' (crP (σ 11 16 0) L 80 0 r 0).2 → IR (crP (σ 11 16 0) L 80 0 r 0).2 → (crP (σ 11 16 0) L 80 0 r 0).1 ≤ 81 → wp_X5_carryOut_b87 Q (nI (crP (σ 11 16 0) L 80 0 r 0).1) (pd (sm σ 0 μ') g' v')) : wp_X5_carryOut_L37 Q 0 0 (pd (sm σ 0 μ) g v) := by
  unfold wp_X5_carryOut_L37
  have ec : ∀ μ' : Nat → Nat → Nat → Int32, sm σ 0 μ' 11 = σ 11 := fun μ' => sm_ne _ _ (by decide)
  generalize hR : crP (σ 11 16 0) L 80 0 r 0 = R at hq
  refine lpN_rel 80 (fun k a => ∃ q g' v' μ' r', a = (nI k, nI k, pd (sm σ 0 μ') g' v') ∧ g' 2 = nI L ∧ g' 3 = nI q ∧ q ≤ 80 ∧ MR μ' r' ∧ IR r' ∧ crP (σ 11 16 0) L (80 - k) q r' k = R ∧ (fltP (σ 11 16 0) L (80 - k) q).1 = true) ?_ ?_ 0 _ (Nat.zero_le _) ⟨0, g, v, μ, r, rfl, hg2, hg3, Nat.zero_le _, hM, hI, hR, hf⟩
  · rintro K k a hk ⟨q, g1, v1, μ1, r1, rfl, k2, k3, hq2, hM1, hI1, he, hfl⟩ hK
    dsimp only
    unfold st_X5_carryOut_L37
    refine ⟨fun c => absurd c (show ¬ nI 80 ≤ nI k from nI_ge hk (by decide)), fun _ => ?_⟩
    rw [show 80 - k = (79 - k) + 1 by omega] at he hfl
    rw [crP_s] at he
    obtain ⟨f1, f2, f3⟩ := flt_ok hfl
    have hle := orP_le (σ 11 16 0) L q
    refine s_X3_readOrder (L := L) (q := q) ⟨k2, k3⟩ hL (by omega) (fun _ g2 v2 m2 m3 m4 mv => ⟨fun d => absurd d (by decide), fun _ => ?_⟩) (fun hbad => ?_)
    · rw [ec] at m3 m4 mv
      refine s_X5_carryOrder (r := r1) (k := chA (σ 11 16 0) L q) (z := (orP (σ 11 16 0) L q).2.2) (by rw [pd_g]; exact m4) (by rw [pd_v]; exact mv) (or_kind f1) (by rw [pd_m (by decide), sm_m]; exact hM1) hI1 (fun μ2 hM2 => ?_)
      have hI2 := IR_ch (k := chA (σ 11 16 0) L q) (z := (orP (σ 11 16 0) L q).2.2) hI1
      rw [sm_pd, sm_sm]
      generalize hC : chP (chA (σ 11 16 0) L q) (orP (σ 11 16 0) L q).2.2 r1 = C at he hM2 hI2
      refine ⟨fun c => ?_, fun c => ?_⟩
      · rintro z13 rfl
        rw [if_neg (Int32.not_lt.mpr c)] at he
        rw [nI_1]
        refine s_X3_readSign2 m2 m3 hL (by omega) (fun e => ⟨fun _ => ?_, fun d => absurd d (by decide)⟩) (fun e => ⟨fun d => absurd rfl d, fun _ => ?_⟩)
        · rw [ec] at e
          have hlt : (orP (σ 11 16 0) L q).1 < L := by
            by_cases z : (orP (σ 11 16 0) L q).1 < L
            · exact z
            · unfold chA at e
              rw [if_neg z] at e
              exact absurd e (by decide)
          rw [if_neg (by omega)] at he
          rintro z17 rfl
          exact hK _ ⟨(orP (σ 11 16 0) L q).1 + 1, _, v2, μ2, C.2, rfl, by rw [pk_un (by decide)]; exact m2, pk_us, by omega, hM2, hI2, by rw [show 80 - (k + 1) = 79 - k by omega]; exact he, by rw [show 80 - (k + 1) = 79 - k by omega]; exact (f3 (by omega)).2⟩
        · rw [ec] at e
          have hge : L ≤ (orP (σ 11 16 0) L q).1 := by
            by_cases z : L ≤ (orP (σ 11 16 0) L q).1
            · exact z
            · exact absurd (f3 z).1 e
          rw [if_pos hge] at he
          have := hq g2 v2 μ2 m2
          rw [← he] at this
          exact this hM2 hI2 (by show k + 1 ≤ 81; omega)
      · rw [if_pos (Int32.not_le.mp c)] at he
        have := hq g2 v2 μ2 m2
        rw [← he] at this
        exact this hM2 hI2 (by show k ≤ 81; omega)
    · rw [ec, f2] at hbad
      exact absurd hbad (by decide)
  · rintro K a ⟨q, g1, v1, μ1, r1, rfl, k2, k3, hq2, hM1, hI1, he, hfl⟩
    exact absurd (show false = true from hfl) (by decide)
end CO
