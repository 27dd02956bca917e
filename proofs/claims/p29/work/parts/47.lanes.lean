/-! The law looks at the lanes. -/
theorem bit_if {x : Int32} {f : Nat} (hf : f < 32) : ((x >>> (nI f &&& 31)) &&& 1) = if tb x f then 1 else 0 := by
  by_cases c : tb x f = true
  · rw [if_pos c]; exact (bit_at hf).mpr c
  · rw [if_neg c]
    obtain ⟨j, hj, ej⟩ := pk_andE (x >>> (nI f &&& 31)) (m := 1) 1 (by decide)
    rw [ej]
    rcases (show j = 0 ∨ j = 1 by omega) with e | e
    · rw [e]; rfl
    · exact absurd ((bit_at hf).mp (by rw [ej, e]; rfl)) c
theorem sumN_pick0 (s : Int32) (a : Nat) : ∀ n : Nat, n ≤ a → sumN (fun f => if a = f then s else 0) n = 0 := by
  intro n hn
  rw [sumN_congr (g := fun _ => 0) (fun k hk => if_neg (by omega))]
  exact sumN_zero n
theorem sumN_pick (s : Int32) (a : Nat) : ∀ n : Nat, a < n → sumN (fun f => if a = f then s else 0) n = s := by
  intro n
  induction n with
  | zero => intro h; omega
  | succ n ih =>
    intro h
    rw [sumN]
    by_cases c : a = n
    · rw [if_pos c, sumN_pick0 s a n (by omega), Int32.zero_add]
    · rw [if_neg c, ih (by omega), i_add0]
section LN
variable {σ : Sg} {Q : Int32 → Sg → Prop} {r : Nat → Int32} {K15 : Int32 → Int32 → Int32 → Int32 → Int32 → Int32 → Sg → Prop} {K376 : Int32 → Int32 → Int32 → Int32 → Int32 → Int32 → Int32 → Int32 → Sg → Prop}
/-- sweets by flavours, sweets by lanes -/
theorem by_flav (hI : IR r) : sumN (fun f => ihR r (nI f)) 6 = lhR r := by
  unfold ihR lhR
  rw [sumN_swap]
  refine sumN_congr (fun l hl => ?_)
  unfold hoR hpR
  obtain ⟨n, hn, he, hh⟩ := hI.2.2.2.2.2.1 l hl
  rw [he, nI_clamp (by omega), sumN_swap]
  refine sumN_congr (fun h hk => ?_)
  obtain ⟨⟨f, hf, ef⟩, -⟩ := hh h hk
  rw [ef]
  rw [sumN_congr (g := fun k => if f = k then r (4 + 17 * l + (2 + 2 * h)) else 0) (fun k hk6 => ?_)]
  · exact sumN_pick _ f 6 hf
  · by_cases c : f = k
    · rw [if_pos c, if_pos (by rw [c])]
    · rw [if_neg c, if_neg (fun z => c ((nI_eq (by omega) (by omega)).mp z))]
theorem tb_tn {t f : Nat} (hf : f < 6) : tb (tnR r t) f = tkB r t f := by
  cases c : tkB r t f with
  | true => exact tb_orN.mpr ⟨f, hf, by rw [if_pos c, tb_bit (by omega) (by omega)]; exact decide_eq_true rfl⟩
  | false =>
    cases d : tb (tnR r t) f with
    | false => rfl
    | true =>
      obtain ⟨k, hk, h2⟩ := tb_orN.mp d
      by_cases e : tkB r t k = true
      · rw [if_pos e, tb_bit (by omega) (by omega), decide_eq_true_eq] at h2
        rw [h2, c] at e
        exact absurd e (by decide)
      · rw [if_neg e, tb_0] at h2
        exact absurd h2 (by decide)
theorem lanes_L426 (h : RC σ r) (hN : NV r) {f : Nat} (hf : f < 6) {v1 v2 v3 v4 v6 v7 : Int32} (hq : K376 v1 v2 v3 v4 1 v6 v7 (nI (f + 1)) σ) : wp_L_areLanesSo_L426 K376 Q v1 v2 v3 v4 1 v6 v7 (nI f) 0 σ := by
  unfold wp_L_areLanesSo_L426
  refine lpN_rel 6 (fun k a => a = (v1, v2, v3, v4, 1, v6, v7, nI f, nI k, σ)) ?_ ?_ 0 _ (Nat.zero_le _) rfl
  · rintro K k a hk rfl hK
    dsimp only
    unfold st_L_areLanesSo_L426
    refine ⟨fun c => absurd c (ge_6 hk), fun _ => ⟨fun c => absurd c (by decide), fun _ => ?_⟩⟩
    have go : wp_L_areLanesSo_b487 K376 (fun v1 v2 v3 v4 v5 v6 v7 v8 v9 σ => K (v1, v2, v3, v4, v5, v6, v7, v8, v9, σ)) Q v1 v2 v3 v4 v6 v7 (nI f) (nI k) σ := by
      unfold wp_L_areLanesSo_b487 wp_L_areLanesSo_b492
      rintro z49 rfl
      exact hK _ (by rw [nI_1])
    refine q_flavour3 h f hf rfl (q_flavour3 h k hk rfl ⟨fun c => ?_, fun _ => ⟨fun _ => go, fun c => ?_⟩⟩)
    · rw [bit_if (by omega), bit_if (by omega), hN.1.1.1.1 f k hf hk] at c
      exact absurd rfl c
    · have e : f = k := (nI_eq (by omega) (by omega)).mp c
      refine q_flavour3 h f hf rfl ⟨fun d => ?_, fun _ => go⟩
      rw [bit_if (by omega), ← e, hN.1.1.1.2 f hf] at d
      exact absurd rfl d
  · rintro K a rfl
    dsimp only
    unfold st_L_areLanesSo_L426
    refine ⟨fun _ => ?_, fun c => absurd (nI_le (Nat.le_refl 6) (by decide)) c⟩
    rintro z38 rfl
    rw [nI_1]
    exact hq
theorem lanes_L376 (h : RC σ r) (hN : NV r) (hq : Q 1 σ) : wp_L_areLanesSo_L376 Q (lhR r) (lnR r 13) (lnR r 16) (flR r) 1 0 0 0 σ := by
  have hI := h.2
  obtain ⟨rm, rm1, rm2, rm3⟩ := hI.2.2.1
  unfold wp_L_areLanesSo_L376
  refine lpN_rel 6 (fun k a => a = (lhR r, lnR r 13, lnR r 16, flR r, 1, sumN (fun f => (ihR r (nI f) + r 2 - 1) / r 2) k, sumN (fun f => ihR r (nI f)) k, nI k, σ)) ?_ ?_ 0 _ (Nat.zero_le _) rfl
  · rintro K k a hk rfl hK
    dsimp only
    unfold st_L_areLanesSo_L376
    refine ⟨fun c => absurd c (ge_6 hk), fun _ => ?_⟩
    refine q_flavour0 h k hk rfl (q_count13 h (q_count13 h ⟨by rw [rm3]; exact nI_ne0 (by omega) (by omega), ?_⟩))
    rintro z33 rfl
    refine q_flavour0 h k hk rfl ?_
    rintro z36 rfl
    exact lanes_L426 h hN hk (hK _ rfl)
  · rintro K a rfl
    dsimp only
    unfold st_L_areLanesSo_L376
    refine ⟨fun _ => ⟨fun c => absurd c (by decide), fun _ => ?_⟩, fun c => absurd (nI_le (Nat.le_refl 6) (by decide)) c⟩
    refine q_count4 h ⟨fun c => absurd rfl c, fun _ => ⟨fun c => absurd (by_flav hI) c, fun _ => ?_⟩⟩
    refine q_count7 h ⟨fun c => absurd rfl c, fun _ => ?_⟩
    refine q_count5 h ⟨fun c => absurd rfl c, fun _ => ?_⟩
    refine q_count10 h ⟨fun c => absurd rfl c, fun _ => ?_⟩
    refine q_tinsFor h ⟨fun c => absurd rfl c, fun _ => ?_⟩
    refine q_count9 h (q_count8 h ⟨fun c => ?_, fun _ => hq⟩)
    obtain ⟨T, t1, t2, ⟨P, W, g1, g2, g3, g4⟩, -⟩ := hN.2.1
    rw [g1, g2] at c
    exact absurd c (nI_nlt g3 (by omega))
theorem lanes_b231 (h : RC σ r) (hN : NV r) {l n : Nat} (hl : l < 4) (hn : n ≤ 6) (he : r (4 + 17 * l) = nI n) {v1 v2 v3 v4 b : Int32} (hq : K15 (v1 + hpR r l) (v2 + r (4 + 17 * l + 13)) (v3 + r (4 + 17 * l + 16)) (v4 ||| b) 1 (nI (l + 1)) σ) : wp_L_areLanesSo_b231 K15 Q v1 v2 v3 1 (nI l) (nI n) (hpR r l) (rsR r l) b v4 σ := by
  have fin : wp_L_areLanesSo_b354 K15 Q (v1 + hpR r l) (v2 + r (4 + 17 * l + 13)) (v3 + r (4 + 17 * l + 16)) (v4 ||| b) (nI l) σ := by
    unfold wp_L_areLanesSo_b354 wp_L_areLanesSo_b359
    rintro z113 rfl
    rw [nI_1]
    exact hq
  unfold wp_L_areLanesSo_b231
  rintro z82 rfl z83 rfl
  refine q_of3 h l hl rfl ?_
  rintro z86 rfl
  refine q_of6 h l hl rfl ?_
  rintro z89 rfl
  refine ⟨fun c => absurd c (by decide), fun _ => ?_⟩
  refine q_of0 h l hl rfl ⟨fun c => absurd rfl c, fun _ => ?_⟩
  refine q_of7 h l hl rfl ⟨fun c => absurd rfl c, fun _ => ?_⟩
  refine q_of6 h l hl rfl (q_of4 h l hl rfl (q_of5 h l hl rfl ⟨fun c => absurd (hN.1.2 l hl) c, fun _ => ⟨fun c => ?_, fun c => ?_⟩⟩))
  · refine q_of2 h l hl rfl ?_
    rw [if_neg (by rw [he]; exact c)]
    have n0 : n ≠ 0 := fun z => c (by rw [z]; rfl)
    refine q_ofHeap0 h l 0 n hl hn he (by omega) rfl rfl ⟨fun d => absurd rfl d, fun _ => fin⟩
  · refine q_of2 h l hl rfl ?_
    rw [if_pos (by rw [he]; exact c)]
    exact ⟨fun d => absurd rfl d, fun _ => fin⟩
theorem lanes_b214 (h : RC σ r) (hN : NV r) {l n : Nat} (hl : l < 4) (hn : n ≤ 6) (he : r (4 + 17 * l) = nI n) {v1 v2 v3 v4 : Int32} {why : Int32} (ew : why = rsR r l) (hq : K15 (v1 + hpR r l) (v2 + r (4 + 17 * l + 13)) (v3 + r (4 + 17 * l + 16)) (v4 ||| if rsR r l ≤ 0 then 0 else bitN l) 1 (nI (l + 1)) σ) : wp_L_areLanesSo_b214 K15 Q v1 v2 v3 v4 1 (nI l) (nI n) (hpR r l) why σ := by
  subst ew
  unfold wp_L_areLanesSo_b214
  refine ⟨fun c => ?_, fun c => ?_⟩
  · rw [if_pos c] at hq
    exact lanes_b231 h hN hl hn he hq
  · rw [if_neg c] at hq
    exact lanes_b231 h hN hl hn he hq
theorem lanes_b173 (h : RC σ r) (hN : NV r) {l n : Nat} (hl : l < 4) (hn : n ≤ 6) (he : r (4 + 17 * l) = nI n) {v1 v2 v3 v4 v9 : Int32} (hv : 0 < n → (0 ≤ v9 ↔ ¬ tfR r (r (4 + 17 * l + 1)).toNatClampNeg = -6)) (hq : K15 (v1 + hpR r l) (v2 + r (4 + 17 * l + 13)) (v3 + r (4 + 17 * l + 16)) (v4 ||| if rsR r l ≤ 0 then 0 else bitN l) 1 (nI (l + 1)) σ) : wp_L_areLanesSo_b173 K15 Q v1 v2 v3 v4 1 (nI l) (nI n) (hpR r l) v9 σ := by
  unfold wp_L_areLanesSo_b173
  refine ⟨fun c => ?_, fun c => lanes_b214 h hN hl hn he (by unfold rsR; rw [he, if_pos c]) hq⟩
  have n0 : 0 < n := Nat.pos_of_ne_zero (fun z => c (by rw [z]; rfl))
  have hv := hv n0
  refine ⟨fun d => ?_, fun d => ?_⟩
  · have d2 := hv.mp d
    refine q_of3 h l hl rfl (q_count14 h ⟨fun g => ?_, fun g => ?_⟩)
    · exact lanes_b214 h hN hl hn he (by unfold rsR; rw [he, if_neg c, if_neg d2, if_pos g]) hq
    · exact lanes_b214 h hN hl hn he (by unfold rsR; rw [he, if_neg c, if_neg d2, if_neg g]) hq
  · have d2 : tfR r (r (4 + 17 * l + 1)).toNatClampNeg = -6 := by
      by_cases g : tfR r (r (4 + 17 * l + 1)).toNatClampNeg = -6
      · exact g
      · exact absurd (hv.mpr g) d
    exact lanes_b214 h hN hl hn he (by unfold rsR; rw [he, if_neg c, if_pos d2]) hq
theorem lanes_L127 (h : RC σ r) (hN : NV r) {l n : Nat} (hl : l < 4) (hn : n ≤ 6) (he : r (4 + 17 * l) = nI n) {v1 v2 v3 v4 z : Int32} (ez : z = nI (nT r) - 1) (hq : K15 (v1 + hpR r l) (v2 + r (4 + 17 * l + 13)) (v3 + r (4 + 17 * l + 16)) (v4 ||| if rsR r l ≤ 0 then 0 else bitN l) 1 (nI (l + 1)) σ) : wp_L_areLanesSo_L127 K15 Q v1 v2 v3 v4 1 (nI l) (nI n) (hpR r l) (-1) z σ := by
  have hI := h.2
  obtain ⟨hT, eT, -⟩ := IR_nT hI
  subst ez
  unfold wp_L_areLanesSo_L127
  by_cases n0 : n = 0
  · refine lpN_rel 0 (fun k a => a = (v1, v2, v3, v4, 1, nI l, nI n, hpR r l, -1, nI (nT r) - 1, σ)) (fun K k a hk => by omega) ?_ 0 _ (Nat.le_refl _) rfl
    rintro K a rfl
    dsimp only
    unfold st_L_areLanesSo_L127
    have go := lanes_b173 (Q := Q) (v9 := -1) h hN hl hn he (fun z => by omega) hq
    refine ⟨fun _ => go, fun _ => ⟨fun _ => go, fun c => absurd (by rw [n0]; decide) c⟩⟩
  · obtain ⟨n', hn', he', hh⟩ := hI.2.2.2.2.2.1 l hl
    have en : n' = n := (nI_eq (by omega) (by omega)).mp (he'.symm.trans he)
    subst en
    obtain ⟨⟨f, hf, ef⟩, -⟩ := hh 0 (by omega)
    have ef' : r (4 + 17 * l + 1) = nI f := ef
    have cf : (r (4 + 17 * l + 1)).toNatClampNeg = f := by rw [ef', nI_clamp (by omega)]
    have nle : ¬ nI n' ≤ 0 := nI_nle (by omega) (by omega)
    refine lpN_rel (nT r) (fun k a => ∃ v9, a = (v1, v2, v3, v4, 1, nI l, nI n', hpR r l, v9, nI (nT r - k) - 1, σ) ∧ ((v9 = -1 ∧ ∀ t, nT r - k ≤ t → t < nT r → tkB r t f = false) ∨ ∃ t, t < nT r ∧ v9 = nI t ∧ tkB r t f = true)) ?_ ?_ 0 _ (Nat.zero_le _) ⟨-1, rfl, Or.inl ⟨rfl, fun t h1 h2 => by omega⟩⟩
    · rintro K k a hk ⟨v9, rfl, hj⟩ hK
      dsimp only
      unfold st_L_areLanesSo_L127
      rw [nI_m1 (by omega)]
      refine ⟨fun c => absurd c (nI_pos (by omega)), fun _ => ⟨fun c => absurd c nle, fun _ => ?_⟩⟩
      refine q_ofTin3 h (nT r - k - 1) (by omega) rfl (q_of2 h l hl rfl ?_)
      rw [if_neg (by rw [he]; exact nI_ne0 (by omega) (by omega)), ef']
      refine ⟨fun c => ?_, fun c => ?_⟩
      · unfold wp_L_areLanesSo_b165
        rintro z114 rfl
        have no : tkB r (nT r - k - 1) f = false := by
          rw [← tb_tn hf]
          cases d : tb (tnR r (nT r - k - 1)) f with
          | false => rfl
          | true => exact absurd ((bit_at (by omega)).mpr d) c
        refine hK _ ⟨v9, ?_, ?_⟩
        · rw [show nI (nT r - k - 1) + (-1) = nI (nT r - (k + 1)) - 1 by
            rw [show nT r - (k + 1) = nT r - k - 1 by omega]
            exact (Int32.sub_eq_add_neg _ _).symm]
        · rcases hj with ⟨e, hall⟩ | hsome
          · refine Or.inl ⟨e, fun t h1 h2 => ?_⟩
            by_cases g : t = nT r - k - 1
            · rw [g]; exact no
            · exact hall t (by omega) h2
          · exact Or.inr hsome
      · unfold wp_L_areLanesSo_b165
        rintro z114 rfl
        have yes : tkB r (nT r - k - 1) f = true := by
          rw [← tb_tn hf]
          exact (bit_at (by omega)).mp c
        refine hK _ ⟨nI (nT r - k - 1), ?_, Or.inr ⟨nT r - k - 1, by omega, rfl, yes⟩⟩
        rw [show nI (nT r - k - 1) + (-1) = nI (nT r - (k + 1)) - 1 by
          rw [show nT r - (k + 1) = nT r - k - 1 by omega]
          exact (Int32.sub_eq_add_neg _ _).symm]
    · rintro K a ⟨v9, rfl, hj⟩
      dsimp only
      unfold st_L_areLanesSo_L127
      refine ⟨fun _ => ?_, fun c => absurd (by rw [Nat.sub_self]; decide) c⟩
      refine lanes_b173 h hN hl hn he (fun _ => ?_) hq
      rw [cf]
      rcases hj with ⟨e, hall⟩ | ⟨t, ht, e, hk⟩
      · have := tfR_none (f := f) eT hT (fun j hj => hall j (by omega) hj)
        rw [e, this]
        exact ⟨fun z => absurd z (by decide), fun z => absurd rfl z⟩
      · refine ⟨fun _ z => ?_, fun _ => by rw [e]; exact nI_pos' (by omega)⟩
        rcases fstN_cases (fun t => tkB r t f) (nT r) with ⟨-, q⟩ | ⟨q1, q2, q3⟩
        · exact absurd ((q t ht).symm.trans hk) (by decide)
        · rw [tfR_some eT hT q1 q2 q3] at z
          have p := nI_pos (n := fstN (fun t => tkB r t f) (nT r)) (by omega)
          rw [z] at p
          exact p (by decide)
theorem lanes_L36 (h : RC σ r) (hN : NV r) {l n : Nat} (hl : l < 4) (hn : n ≤ 6) (he : r (4 + 17 * l) = nI n) {v1 v2 v3 v4 : Int32} (hq : K15 (v1 + hpR r l) (v2 + r (4 + 17 * l + 13)) (v3 + r (4 + 17 * l + 16)) (v4 ||| if rsR r l ≤ 0 then 0 else bitN l) 1 (nI (l + 1)) σ) : wp_L_areLanesSo_L36 K15 Q v1 v2 v3 v4 1 (nI l) (nI n) 0 0 σ := by
  obtain ⟨n', hn', he', hh⟩ := h.2.2.2.2.2.2.1 l hl
  have en : n' = n := (nI_eq (by omega) (by omega)).mp (he'.symm.trans he)
  subst en
  unfold wp_L_areLanesSo_L36
  refine lpN_rel n' (fun k a => a = (v1, v2, v3, v4, 1, nI l, nI n', sumN (fun q => r (4 + 17 * l + (2 + 2 * q))) k, nI k, σ)) ?_ ?_ 0 _ (Nat.zero_le _) rfl
  · rintro K k a hk rfl hK
    dsimp only
    unfold st_L_areLanesSo_L36
    refine ⟨fun c => absurd c (nI_ge hk (by omega)), fun _ => ?_⟩
    refine q_ofHeap1 h l k n' hl hn he hk rfl rfl ?_
    rintro z56 rfl
    have go : wp_L_areLanesSo_b102 K15 (fun v1 v2 v3 v4 v5 v6 v7 v8 v9 σ => K (v1, v2, v3, v4, v5, v6, v7, v8, v9, σ)) Q v1 v2 v3 v4 (nI l) (nI n') (sumN (fun q => r (4 + 17 * l + (2 + 2 * q))) k + r (4 + 17 * l + (2 + 2 * k))) (nI k) σ := by
      unfold wp_L_areLanesSo_b102 wp_L_areLanesSo_b107
      rintro z115 rfl
      exact hK _ (by rw [sumN, nI_1])
    refine ⟨fun c => absurd c (by decide), fun _ => ?_⟩
    refine q_ofHeap1 h l k n' hl hn he hk rfl rfl ⟨fun c => ?_, fun _ => ⟨fun _ => go, fun c => ?_⟩⟩
    · obtain ⟨-, s, s1, s2, s3⟩ := hh k hk
      rw [s3] at c
      exact absurd c (nI_nle (by omega) (by omega))
    · have k0 : k ≠ 0 := fun z => c (by rw [z]; rfl)
      rw [nI_m1 (by omega)]
      refine q_ofHeap0 h l k n' hl hn he hk rfl rfl (q_ofHeap0 h l (k - 1) n' hl hn he (by omega) rfl rfl ⟨fun d => ?_, fun _ => go⟩)
      have := hN.1.1.2.2.2.1 l (k - 1) hl (by omega) (by rw [he, nI_clamp (by omega)]; omega)
      rw [show k - 1 + 1 = k by omega] at this
      exact absurd d.symm this
  · rintro K a rfl
    dsimp only
    unfold st_L_areLanesSo_L36
    refine ⟨fun _ => ?_, fun c => absurd (nI_le (Nat.le_refl _) (by omega)) c⟩
    refine q_count1 h ?_
    rintro z53 rfl
    have ehp : sumN (fun q => r (4 + 17 * l + (2 + 2 * q))) n' = hpR r l := by unfold hpR; rw [he, nI_clamp (by omega)]
    rw [ehp]
    exact lanes_L127 h hN hl hn he rfl hq
theorem q_lanes (h : RC σ r) (hN : NV r) (hq : Q 1 σ) : wp_L_areLanesSo σ Q := by
  unfold wp_L_areLanesSo wp_L_areLanesSo_L15
  refine lpN_rel 4 (fun k a => a = (sumN (fun l => hpR r l) k, sumN (fun l => r (4 + 17 * l + 13)) k, sumN (fun l => r (4 + 17 * l + 16)) k, orN (fun l => if rsR r l ≤ 0 then 0 else bitN l) k, 1, nI k, σ)) ?_ ?_ 0 _ (Nat.zero_le _) rfl
  · rintro K k a hk rfl hK
    dsimp only
    unfold st_L_areLanesSo_L15
    refine ⟨fun c => absurd c (ge_4 hk), fun _ => ?_⟩
    refine q_of1 h k hk rfl ?_
    obtain ⟨n, hn, he, hh⟩ := h.2.2.2.2.2.2.1 k hk
    rw [he]
    exact lanes_L36 h hN hk hn he (hK _ rfl)
  · rintro K a rfl
    dsimp only
    unfold st_L_areLanesSo_L15
    exact ⟨fun _ => lanes_L376 h hN hq, fun c => absurd (nI_le (Nat.le_refl 4) (by decide)) c⟩
end LN
