/-! Sweets into a hopper; flavours kept apart; runs. -/
theorem IR_hop {r r' : Nat → Int32} {l n : Nat} (hI : IR r) (hl : l < 4) (hr : ∀ j, (j < 4 + 17 * l ∨ 4 + 17 * l + 13 ≤ j) → r' j = r j) (hn : n ≤ 6) (he : r' (4 + 17 * l) = nI n) (hh : ∀ h, h < n → (∃ f, f < 6 ∧ r' (4 + 17 * l + (1 + 2 * h)) = nI f) ∧ ∃ s, 1 ≤ s ∧ s ≤ 999 ∧ r' (4 + 17 * l + (2 + 2 * h)) = nI s) : IR r' := by
  obtain ⟨a0, a1, a2, a3, a4, a5, a6⟩ := hI
  refine ⟨?_, ?_, ?_, ?_, ?_, ?_, ?_⟩
  · rwa [hr _ (by omega)]
  · rwa [hr _ (by omega)]
  · rwa [hr _ (by omega)]
  · rwa [hr _ (by omega)]
  · obtain ⟨T, b1, b2, b3⟩ := a4
    refine ⟨T, b1, by rw [hr _ (by omega)]; exact b2, fun t ht1 ht2 => ?_⟩
    obtain ⟨c1, c2⟩ := b3 t ht1 ht2
    exact ⟨by rw [hr _ (by omega)]; exact c1, fun f hf => by rw [hr _ (by omega)]; exact c2 f hf⟩
  · intro l' hl'
    by_cases z : l' = l
    · subst z
      exact ⟨n, hn, he, hh⟩
    · obtain ⟨n', b1, b2, b3⟩ := a5 l' hl'
      have far : ∀ w, w < 13 → 4 + 17 * l' + w < 4 + 17 * l ∨ 4 + 17 * l + 13 ≤ 4 + 17 * l' + w := by
        intro w hw
        rcases Nat.lt_trichotomy l l' with q | q | q <;> omega
      refine ⟨n', b1, by rw [hr (4 + 17 * l') (far 0 (by decide))]; exact b2, fun h hh2 => ?_⟩
      rw [hr _ (far _ (by omega)), hr _ (far _ (by omega))]
      exact b3 h hh2
  · intro t ht
    obtain ⟨c1, c2⟩ := a6 t ht
    exact ⟨by rw [hr _ (by omega)]; exact c1, fun f hf => by rw [hr _ (by omega)]; exact c2 f hf⟩
/-- where a heap goes: on the last one, or behind it -/
theorem place_cases {r : Nat → Int32} {l f n : Nat} (hn : n ≤ 6) (he : r (4 + 17 * l) = nI n) : (placeR r l f = n ∧ ¬ (0 < n ∧ r (4 + 17 * l + (1 + 2 * (n - 1))) = nI f)) ∨ (placeR r l f = n - 1 ∧ 0 < n ∧ r (4 + 17 * l + (1 + 2 * (n - 1))) = nI f) := by
  have e : (r (4 + 17 * l)).toNatClampNeg = n := by rw [he]; exact nI_clamp (by omega)
  unfold placeR
  rw [e]
  by_cases c : 0 < n ∧ r (4 + 17 * l + (1 + 2 * (n - 1))) = nI f
  · rw [if_pos c]; exact Or.inr ⟨rfl, c⟩
  · rw [if_neg c]; exact Or.inl ⟨rfl, c⟩
theorem putR_out {r : Nat → Int32} {l f : Nat} {z : Int32} (hp : placeR r l f < 6) : ∀ j, (j < 4 + 17 * l ∨ 4 + 17 * l + 13 ≤ j) → putR r l f z j = r j := by
  intro j hj
  unfold putR
  rw [pk_un (by omega), pk_un (by omega), pk_un (by omega)]
theorem putR_n {r : Nat → Int32} {l f : Nat} {z : Int32} : putR r l f z (4 + 17 * l) = nI (placeR r l f + 1) := pk_us
theorem putR_f {r : Nat → Int32} {l f : Nat} {z : Int32} : putR r l f z (4 + 17 * l + (1 + 2 * placeR r l f)) = nI f := by
  unfold putR
  rw [pk_un (by omega), pk_un (by omega), pk_us]
theorem putR_s {r : Nat → Int32} {l f : Nat} {z : Int32} : putR r l f z (4 + 17 * l + (2 + 2 * placeR r l f)) = if placeR r l f = (r (4 + 17 * l)).toNatClampNeg then z else r (4 + 17 * l + (2 + 2 * placeR r l f)) + z := by
  unfold putR
  rw [pk_un (by omega), pk_us]
theorem putR_h {r : Nat → Int32} {l f h : Nat} {z : Int32} (hh : h < placeR r l f) : putR r l f z (4 + 17 * l + (1 + 2 * h)) = r (4 + 17 * l + (1 + 2 * h)) ∧ putR r l f z (4 + 17 * l + (2 + 2 * h)) = r (4 + 17 * l + (2 + 2 * h)) := by
  unfold putR
  rw [pk_un (by omega), pk_un (by omega), pk_un (by omega), pk_un (by omega), pk_un (by omega), pk_un (by omega)]
  exact ⟨rfl, rfl⟩
theorem put_join {r : Nat → Int32} {l f n : Nat} {z : Int32} (hn : n ≤ 6) (he : r (4 + 17 * l) = nI n) (h0 : 0 < n) (hf : r (4 + 17 * l + (1 + 2 * (n - 1))) = nI f) (hp : placeR r l f = n - 1) : putR r l f z = upd r (4 + 17 * l + 2 * n) (r (4 + 17 * l + 2 * n) + z) := by
  have e : (r (4 + 17 * l)).toNatClampNeg = n := by rw [he]; exact nI_clamp (by omega)
  unfold putR
  rw [hp, e, if_neg (by omega), ← hf, upd_eq, show 2 + 2 * (n - 1) = 2 * n by omega, upd_comm (by omega), show n - 1 + 1 = n by omega, ← he, upd_eq]
section HP
variable {σ : Sg} {Q : Int32 → Sg → Prop} {m : Nat} {r d : Nat → Int32} {μ : Nat → Nat → Nat → Int32}
theorem IR_put {l f s : Nat} (hI : IR r) (hl : l < 4) (hf : f < 6) (hs : 1 ≤ s) (hs2 : s ≤ 200) (hp : ¬ placeR r l f = 6) (hb : hpR r l + nI s ≤ 999) : IR (putR r l f (nI s)) := by
  obtain ⟨n, hn, he, hh⟩ := hI.2.2.2.2.2.1 l hl
  have e : (r (4 + 17 * l)).toNatClampNeg = n := by rw [he]; exact nI_clamp (by omega)
  have hp6 : placeR r l f < 6 ∧ placeR r l f ≤ n := by
    rcases place_cases (f := f) hn he with ⟨q, -⟩ | ⟨q, q2, -⟩ <;> omega
  refine IR_hop (n := placeR r l f + 1) hI hl (putR_out hp6.1) (by omega) putR_n (fun h hh2 => ?_)
  by_cases c : h = placeR r l f
  · subst c
    refine ⟨⟨f, hf, putR_f⟩, ?_⟩
    rw [putR_s, e]
    rcases place_cases (f := f) hn he with ⟨q, -⟩ | ⟨q, q2, -⟩
    · rw [if_pos q]; exact ⟨s, hs, by omega, rfl⟩
    · rw [if_neg (by omega)]
      obtain ⟨w, w1, w2, w3⟩ := (hh (placeR r l f) (by omega)).2
      rw [w3, nI_add]
      refine ⟨w + s, by omega, ?_, rfl⟩
      obtain ⟨S, S1, S2, S3⟩ := sum_nI (f := fun h => r (4 + 17 * l + (2 + 2 * h))) (n := n) (b := 999) (by omega) (fun k hk => by
        obtain ⟨-, s, h1, h2, h3⟩ := hh k hk
        exact ⟨s, h2, h3⟩)
      have hw := S3 (placeR r l f) w (by omega) w3 w2
      unfold hpR at hb
      rw [e, S2, nI_add] at hb
      have := (nI_leI (a := S + s) (b := 999) (by omega) (by decide)).mp hb
      omega
  · obtain ⟨g1, g2⟩ := putR_h (r := r) (l := l) (f := f) (h := h) (z := nI s) (by omega)
    rw [g1, g2]
    exact hh h (by omega)
theorem IR_heaps {x y z : Int32} (hI : IR r) : IR (heapsR r x y z).2 := by
  unfold heapsR
  by_cases c : obB x 4 = true
  · rw [if_pos c]; exact hI
  rw [if_neg c]
  by_cases d : obB y 6 = true
  · rw [if_pos d]; exact hI
  rw [if_neg d]
  by_cases g : otB z 1 200 = true
  · rw [if_pos g]; exact hI
  rw [if_neg g]
  rw [Bool.not_eq_true] at g
  obtain ⟨s, h1, h2, rfl⟩ := bt_nI (a := 1) (b := 200) (by decide) (by decide) g
  rcases pk_ix x (show (4 : Nat) < 2 ^ 31 by decide) with c2 | c2 | ⟨l, hl, e⟩
  · exact absurd (ob_1 (Or.inl c2)) c
  · exact absurd (ob_1 (Or.inr c2)) c
  subst e
  rcases pk_ix y (show (6 : Nat) < 2 ^ 31 by decide) with c2 | c2 | ⟨f, hf, e⟩
  · exact absurd (ob_1 (Or.inl c2)) d
  · exact absurd (ob_1 (Or.inr c2)) d
  subst e
  rw [nI_clamp (n := l) (by omega), nI_clamp (n := f) (by omega)]
  unfold addR
  by_cases k : placeR r l f = 6
  · rw [if_pos k]; exact hI
  rw [if_neg k]
  by_cases k2 : hpR r l + nI s ≤ 999
  · rw [if_pos k2]; exact IR_put hI hl hf h1 h2 k k2
  · rw [if_neg k2]; exact hI
theorem s_X1_addSweets {x z : Int32} (l f : Nat) (hl : l < 4) (e1 : x = nI f) (hI : IR r) (hM : MR μ r) (hq : ∀ μ', MR μ' (addR r l f z).2 → Q (addR r l f z).1 (sm σ m μ')) (hz : ¬ placeR r l f = 6 → hpR r l + z ≤ 999 → IR (putR r l f z)) : wp_X1_addSweets m l x z (sm σ m μ) Q := by
  subst e1
  obtain ⟨n, hn, he, hh⟩ := hI.2.2.2.2.2.1 l hl
  have e : (r (4 + 17 * l)).toNatClampNeg = n := by rw [he]; exact nI_clamp (by omega)
  obtain ⟨b2, b3, b4, b5, b6, b7⟩ := hM.2.2.2.1 l hl
  have hM' : MR (sm σ m μ m) r := by rw [sm_m]; exact hM
  have key : ∀ v3 : Int32, (v3 = 0 ↔ placeR r l f = n) → wp_X1_addSweets_b51 m l (nI f) z Q v3 (nI (placeR r l f)) (sm σ m μ) := by
    intro v3 hv
    have hpn : placeR r l f ≤ 6 ∧ placeR r l f ≤ n ∧ n ≤ placeR r l f + 1 := by
      rcases place_cases (f := f) hn he with ⟨q, -⟩ | ⟨q, q2, -⟩ <;> omega
    unfold wp_X1_addSweets_b51
    unfold addR at hq
    by_cases hp : placeR r l f = 6
    · rw [if_pos hp] at hq
      refine s_X5_isIndex ?_
      rw [if_neg (nI_pos (by omega)), if_pos (show (6 : Int32) ≤ nI (placeR r l f) by rw [hp]; decide)]
      exact ⟨fun c => absurd rfl c, fun _ => hq μ hM⟩
    · rw [if_neg hp] at hq
      have hp5 : placeR r l f < 6 := by omega
      refine s_X5_isIndex ?_
      rw [if_neg (nI_pos (by omega)), if_neg (ge_6 hp5)]
      refine ⟨fun _ => ?_, fun c => absurd c (by decide)⟩
      refine s_X1_sweetsInHopper hM' l n hl hn he ?_
      refine ⟨fun g => ⟨vp_in_nI hp5 (by decide), ?_⟩, fun g => ?_⟩
      · rw [if_pos g] at hq
        rintro σ12 rfl
        rw [nI_clamp (by omega), sm_up]
        have fin : ∀ b, b = (if placeR r l f = n then z else r (4 + 17 * l + (2 + 2 * placeR r l f)) + z) → wp_X1_addSweets_b112 m l (nI f) z Q (nI (placeR r l f)) b (nI (placeR r l f)) (sm σ m (um μ 6 l (placeR r l f) (nI f))) := by
          intro b hb
          unfold wp_X1_addSweets_b112
          refine ⟨vp_in_nI hp5 (by decide), ?_⟩
          rintro σ14 rfl σ15 rfl
          rw [nI_clamp (by omega), sm_up, sm_up, nI_1]
          have hs' : putR r l f z (4 + 17 * l + (2 + 2 * placeR r l f)) = b := by rw [putR_s, e, hb]
          have hMn : MR (um (um (um μ 6 l (placeR r l f) (nI f)) 7 l (placeR r l f) b) 5 l 2 (nI (placeR r l f + 1))) (putR r l f z) := by
            refine MR_hop hM hI hl (fun a b' hab => ?_) (fun k h3 h6 => ?_) (putR_out hp5) ?_ (fun h hh2 => ?_)
            · simp only [um]
              rw [if_neg (by omega), if_neg (by omega), if_neg (by omega)]
            · rw [um_j _ _ (by omega), um_k _ _ (by decide), um_k _ _ (by decide)]
            · rw [um_eq, putR_n]
            · rw [putR_n, nI_clamp (by omega)] at hh2
              rw [um_k _ _ (by decide : 6 ≠ 5), um_k _ _ (by decide : 7 ≠ 5), um_k _ _ (by decide : 6 ≠ 7)]
              by_cases c : h = placeR r l f
              · subst c
                rw [um_eq, um_eq, putR_f, hs']
                exact ⟨rfl, rfl⟩
              · rw [um_j _ _ c, um_j _ _ c, um_k _ _ (by decide : 7 ≠ 6)]
                obtain ⟨g1, g2⟩ := putR_h (r := r) (l := l) (f := f) (h := h) (z := z) (by omega)
                rw [g1, g2]
                exact b7 h (by omega)
          refine s_X1_sweetsInHopper (r := putR r l f z) (by rw [sm_m]; exact hMn) l (placeR r l f + 1) hl (by omega) putR_n ?_
          exact hq _ hMn
        refine ⟨fun c => ?_, fun c => ⟨vp_in_nI hp5 (by decide), ?_⟩⟩
        · exact fin z (by rw [if_pos (hv.mp c)])
        · rw [sm_m, um_k _ _ (by decide : 7 ≠ 6)]
          have hne : ¬ placeR r l f = n := fun q => c (hv.mpr q)
          rw [(b7 (placeR r l f) (by omega)).2]
          exact fin _ (by rw [if_neg hne])
      · rw [if_neg g] at hq
        exact hq μ hM
  unfold wp_X1_addSweets
  rw [sm_m, b2, he]
  have j0 : ¬ (0 < n ∧ r (4 + 17 * l + (1 + 2 * (n - 1))) = nI f) → wp_X1_addSweets_b32 m l (nI f) z Q (sm σ m μ) := by
    intro c
    unfold wp_X1_addSweets_b32 wp_X1_addSweets_b33
    rw [sm_m, b2, he]
    refine ⟨fun _ => ?_, fun d => absurd rfl d⟩
    have q : placeR r l f = n := by
      rcases place_cases (f := f) hn he with ⟨q, -⟩ | ⟨q, q2⟩
      · exact q
      · exact absurd q2 c
    have := key 0 ⟨fun _ => q, fun _ => rfl⟩
    rw [q] at this
    exact this
  refine s_X1_isHeap l n hn (by rw [sm_m, b2, he]) (fun j hj ej => ?_) (fun c => ?_)
  · have h0 : 0 < n := by omega
    refine ⟨fun c => absurd c (by decide), fun _ => ?_⟩
    rw [sm_m, b2, he, nI_m1 h0]
    refine ⟨vp_in_nI (by omega) (by decide), ?_⟩
    rw [nI_clamp (by omega), (b7 (n - 1) (by omega)).1]
    refine ⟨fun c => j0 (fun z => c z.2), fun c => ?_⟩
    unfold wp_X1_addSweets_b33
    rw [sm_m, b2, he, nI_m1 h0]
    refine ⟨fun c => absurd c (by decide), fun _ => ?_⟩
    have q : placeR r l f = n - 1 := by
      rcases place_cases (f := f) hn he with ⟨q, q2⟩ | ⟨q, q2⟩
      · exact absurd ⟨h0, c⟩ q2
      · exact q
    have := key 1 ⟨fun z => absurd z (by decide), fun z => by omega⟩
    rw [q] at this
    exact this
  · refine ⟨fun _ => j0 (fun z => ?_), fun c => absurd rfl c⟩
    rw [nI_m1 z.1] at c
    rcases c with c | c
    · exact absurd c (nI_pos (by omega))
    · exact absurd c (nI_ge (by omega) (by omega))
theorem s_X2_addSweets {x y z : Int32} (hM : MR μ r) (hI : IR r) (hq : ∀ μ', MR μ' (heapsR r x y z).2 → Q (heapsR r x y z).1 (sm σ m μ')) : wp_X2_addSweets m x y z (sm σ m μ) Q := by
  unfold wp_X2_addSweets
  unfold heapsR at hq
  refine s_isIndex2 (n := 4) (by decide) (fun l hl e => ?_) (fun c => ?_)
  · subst e
    rw [ob_0 hl (by decide), if_neg (show ¬ false = true by decide), nI_clamp (n := l) (by omega)] at hq
    refine ⟨fun c => absurd c (by decide), fun _ => ?_⟩
    refine s_isIndex2 (n := 6) (by decide) (fun f hf e => ?_) (fun c => ?_)
    · subst e
      rw [ob_0 hf (by decide), if_neg (show ¬ false = true by decide), nI_clamp (n := f) (by omega)] at hq
      refine ⟨fun _ => ?_, fun c => absurd c (by decide)⟩
      refine s_X5_bt (fun c => ⟨fun _ => ⟨vp_in_nI hl (by decide), ?_⟩, fun c => absurd c (by decide)⟩) (fun c => ⟨fun d => absurd rfl d, fun _ => ?_⟩)
      · intro a11 e11
        rw [nI_clamp (by omega)] at e11
        subst e11
        rw [c, if_neg (show ¬ false = true by decide)] at hq
        obtain ⟨s, h1, h2, rfl⟩ := bt_nI (a := 1) (b := 200) (by decide) (by decide) c
        exact s_X1_addSweets a11 f hl rfl hI hM hq (fun k k2 => IR_put hI hl hf h1 h2 k k2)
      · rw [c] at hq
        exact hq μ hM
    · refine ⟨fun d => absurd rfl d, fun _ => ?_⟩
      rw [ob_1 c] at hq
      exact hq μ hM
  · refine ⟨fun _ => ?_, fun d => absurd rfl d⟩
    rw [ob_1 c] at hq
    exact hq μ hM
theorem s_X6_heaps {x y z : Int32} (hI : IR r) (hq : Q (heapsR r x y z).1 (sr σ (heapsR r x y z).2)) : wp_X6_heaps x y z (sr σ r) Q := by
  unfold wp_X6_heaps
  unfold heapsR at hq
  refine s_X6_isLane (fun l hl e => ?_) (fun c => ?_)
  · subst e
    rw [ob_0 hl (by decide), if_neg (show ¬ false = true by decide), nI_clamp (n := l) (by omega)] at hq
    refine ⟨fun c => absurd c (by decide), fun _ => ?_⟩
    refine s_X6_isFlavour (fun f hf e => ?_) (fun c => ?_)
    · subst e
      rw [ob_0 hf (by decide), if_neg (show ¬ false = true by decide), nI_clamp (n := f) (by omega)] at hq
      refine ⟨fun _ => ?_, fun c => absurd c (by decide)⟩
      refine s_X6_bt (fun c => ⟨fun _ => ?_, fun c => absurd c (by decide)⟩) (fun c => ⟨fun d => absurd rfl d, fun _ => ?_⟩)
      · rw [c, if_neg (show ¬ false = true by decide)] at hq
        obtain ⟨s, h1, h2, ez⟩ := bt_nI (a := 1) (b := 200) (by decide) (by decide) c
        obtain ⟨n, hn, he, hh⟩ := hI.2.2.2.2.2.1 l hl
        rintro z10 rfl
        rw [show ((4 : Int32) + ((17 : Int32) * nI l)) = nI (4 + 17 * l) by simp only [nI_lit, nI_add, pk_mul]]
        refine ⟨vp_in_nI (by omega) (by decide), ?_⟩
        rintro z11 rfl
        rw [nI_clamp (by omega), sr_row, he]
        unfold addR at hq
        have last : ∀ v6 : Int32, (v6 = 0 ↔ placeR r l f = n) → ¬ placeR r l f = 6 → wp_X6_heaps_b84 (nI l) (nI f) z Q (nI (4 + 17 * l)) (nI n) v6 (sr σ r) := by
          intro v6 hv hp
          rw [if_neg hp] at hq
          unfold wp_X6_heaps_b84 wp_X6_heaps_b165
          refine s_X6_inHopper l n hl hn rfl (by rw [sr_row]; exact he) ?_
          rw [sr_row]
          refine ⟨fun g => ?_, fun g => ?_⟩
          · rw [if_pos g] at hq
            have fin : wp_X6_inHopper (nI l) (sr σ (putR r l f z)) (fun r27 σ28 => Q r27 σ28) := by
              have hp2 : placeR r l f + 1 ≤ 6 := by
                rcases place_cases (f := f) hn he with ⟨q, -⟩ | ⟨q, q2, -⟩ <;> omega
              refine s_X6_inHopper l (placeR r l f + 1) hl hp2 rfl (by rw [sr_row]; exact putR_n) ?_
              rw [sr_row]
              exact hq
            refine ⟨fun d => ?_, fun d => ?_⟩
            · have q := hv.mp d
              rw [show ((nI (4 + 17 * l) + (1 : Int32)) + ((2 : Int32) * nI n)) = nI (4 + 17 * l + (1 + 2 * n)) by
                simp only [nI_lit, nI_add, pk_mul]
                congr 1
                omega, show ((nI (4 + 17 * l) + (2 : Int32)) + ((2 : Int32) * nI n)) = nI (4 + 17 * l + (2 + 2 * n)) by
                simp only [nI_lit, nI_add, pk_mul]
                congr 1
                omega]
              refine ⟨vp_in_nI (by omega) (by decide), ?_⟩
              rintro σ22 rfl
              refine ⟨vp_in_nI (by omega) (by decide), ?_⟩
              rintro σ23 rfl
              refine ⟨vp_in_nI (by omega) (by decide), vp_in_nI (by omega) (by decide), ?_⟩
              rintro σ24 rfl
              rw [nI_clamp (n := 4 + 17 * l + (1 + 2 * n)) (by omega), nI_clamp (n := 4 + 17 * l + (2 + 2 * n)) (by omega), nI_clamp (n := 4 + 17 * l) (by omega), sr_up, sr_up, sr_up, sr_row, pk_un (by omega), pk_un (by omega), he, nI_1]
              have e : (r (4 + 17 * l)).toNatClampNeg = n := by rw [he]; exact nI_clamp (by omega)
              have ep : putR r l f z = upd (upd (upd r (4 + 17 * l + (1 + 2 * n)) (nI f)) (4 + 17 * l + (2 + 2 * n)) z) (4 + 17 * l) (nI (n + 1)) := by
                unfold putR
                rw [q, e, if_pos rfl]
              rw [← ep]
              exact fin
            · have hne : ¬ placeR r l f = n := fun q => d (hv.mpr q)
              rcases place_cases (f := f) hn he with ⟨q, -⟩ | ⟨q, q2, q3⟩
              · exact absurd q hne
              · rintro z25 rfl
                rw [show (nI (4 + 17 * l) + ((2 : Int32) * nI n)) = nI (4 + 17 * l + 2 * n) by simp only [nI_lit, nI_add, pk_mul]]
                refine ⟨vp_in_nI (by omega) (by decide), vp_in_nI (by omega) (by decide), ?_⟩
                rintro σ26 rfl
                rw [nI_clamp (by omega), sr_up, ← put_join hn he q2 q3 q]
                exact fin
          · rw [if_neg g] at hq
            exact hq
        have j0 : ¬ (0 < n ∧ r (4 + 17 * l + (1 + 2 * (n - 1))) = nI f) → wp_X6_heaps_b69 (nI l) (nI f) z Q (nI (4 + 17 * l)) (nI n) (sr σ r) := by
          intro c
          have q : placeR r l f = n := by
            rcases place_cases (f := f) hn he with ⟨q, -⟩ | ⟨q, q2⟩
            · exact q
            · exact absurd q2 c
          unfold wp_X6_heaps_b69 wp_X6_heaps_b70
          refine ⟨fun d => absurd rfl d, fun _ => ⟨fun d => ?_, fun d => ?_⟩⟩
          · have e6 : n = 6 := (nI_eq (b := 6) (by omega) (by decide)).mp d
            rw [if_pos (q.trans e6)] at hq
            exact hq
          · exact last 0 ⟨fun _ => q, fun _ => rfl⟩ (fun w => d (by rw [← q, w]; rfl))
        refine ⟨fun c => j0 (fun w => ?_), fun c => ?_⟩
        · have := (nI_leI (a := n) (b := 0) (by omega) (by decide)).mp c
          omega
        · have h0 : 0 < n := by
            refine Nat.pos_of_ne_zero (fun w => c ?_)
            rw [w]
            decide
          rw [nI_m1 h0]
          refine s_X6_heapFlavour l (n - 1) (by omega) rfl rfl ?_
          rw [sr_row]
          refine ⟨fun d => j0 (fun w => d w.2), fun d => ?_⟩
          have q : placeR r l f = n - 1 := by
            rcases place_cases (f := f) hn he with ⟨q, q2⟩ | ⟨q, q2⟩
            · exact absurd ⟨h0, d⟩ q2
            · exact q
          unfold wp_X6_heaps_b70
          exact ⟨fun _ => last 1 ⟨fun z => absurd z (by decide), fun z => by omega⟩ (by omega), fun d => absurd d (by decide)⟩
      · rw [c] at hq
        exact hq
    · refine ⟨fun d => absurd rfl d, fun _ => ?_⟩
      rw [ob_1 c] at hq
      exact hq
  · refine ⟨fun _ => ?_, fun d => absurd rfl d⟩
    rw [ob_1 c] at hq
    exact hq
theorem s_X2_runTicks {x : Int32} (d : Nat → Int32) (hM : MR μ r) (hI : IR r) (hq : ∀ μ', MR μ' (goesR r d x).2.1 → Q (goesR r d x).1 (sm σ m μ')) : wp_X2_runTicks m x (sm σ m μ) Q := by
  unfold wp_X2_runTicks
  unfold goesR at hq
  refine s_X5_bt (fun c => ⟨fun _ => ?_, fun c => absurd c (by decide)⟩) (fun c => ⟨fun d => absurd rfl d, fun _ => ?_⟩)
  · rw [c, if_neg (show ¬ false = true by decide)] at hq
    obtain ⟨s, h1, h2, rfl⟩ := bt_nI (a := 1) (b := 99) (by decide) (by decide) c
    rw [sm_m, hM.2.1.2.1]
    rw [nI_clamp (by omega)] at hq
    refine ⟨fun g => ?_, fun g => ?_⟩
    · rw [if_pos g] at hq
      exact s_X2_work s (by omega) d hM hI rfl (fun μ' hM' _ => hq μ' hM')
    · rw [if_neg g] at hq
      exact hq μ hM
  · rw [c] at hq
    exact hq μ hM
theorem s_X6_goes {x : Int32} (hI : IR r) (hq : Q (goesR r d x).1 (sr (sd σ (goesR r d x).2.2) (goesR r d x).2.1)) : wp_X6_goes x (sr (sd σ d) r) Q := by
  unfold wp_X6_goes
  unfold goesR at hq
  refine s_X6_bt (fun c => ⟨fun _ => ?_, fun c => absurd c (by decide)⟩) (fun c => ⟨fun d => absurd rfl d, fun _ => ?_⟩)
  · rw [c, if_neg (show ¬ false = true by decide)] at hq
    obtain ⟨s, h1, h2, rfl⟩ := bt_nI (a := 1) (b := 99) (by decide) (by decide) c
    rw [nI_clamp (by omega)] at hq
    rw [sr_row]
    refine ⟨fun g => ?_, fun g => ?_⟩
    · rw [if_pos g] at hq
      exact s_X6_runs s (by omega) hI rfl hq
    · rw [if_neg g] at hq
      exact hq
  · rw [c] at hq
    exact hq
theorem IR_goes {x : Int32} (hI : IR r) : IR (goesR r d x).2.1 := by
  unfold goesR
  by_cases c : otB x 1 99 = true
  · rw [if_pos c]; exact hI
  rw [if_neg c]
  by_cases g : r 191 + x ≤ 9999
  · rw [if_pos g]; exact (runsC_IR hI).1
  · rw [if_neg g]; exact hI
end HP
