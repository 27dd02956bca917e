/-! Sweets into a hopper; flavours kept apart; runs. -/
theorem IR_hop {r r' : Nat → Int32} {l n : Nat} (hI : IR r) (hl : l < 4) (hr : ∀ j, (j < 4 + 17 * l ∨ 4 + 17 * l + 13 ≤ j) → r' j = r j) (hn : n ≤ 6) (he : r' (4 + 17 * l) = nI n) (hh : ∀ h, h < n → (∃ f, f < 6 ∧ r' (4 + 17 * l + (1 + 2 * h)) = nI f) ∧ ∃ s, 1 ≤ s ∧ s ≤ 999 ∧ r' (4 + 17 * l + (2 + 2 * h)) = nI s) : IR r' := by
  obtain ⟨a0, a1, a2, a3, a4, a5, a6⟩ := hI
  refine ⟨?_, ?_, ?_, ?_, ?_, ?_, ?_⟩
  · rwa [hr _ (by omega)]
  · rwa [hr _ (by omega)]
  · rwa [hr _ (by omega)]
  · rwa [hr _ (by omega)]
  · obtain ⟨T, b1, b2, b3⟩ := a4
    refine ⟨T, b1, by rw [hr _ (by omega)]; exact b2, fun t ht1 ht2 => ?_⟩
    obtain ⟨c1, c2⟩ := b3 t ht1 ht2
    exact ⟨by rw [hr _ (by omega)]; exact c1, fun f hf => by rw [hr _ (by omega)]; exact c2 f hf⟩
  · intro l' hl'
    by_cases z : l' = l
    · subst z
      exact ⟨n, hn, he, hh⟩
    · obtain ⟨n', b1, b2, b3⟩ := a5 l' hl'
      have far : ∀ w, w < 13 → 4 + 17 * l' + w < 4 + 17 * l ∨ 4 + 17 * l + 13 ≤ 4 + 17 * l' + w := by
        intro w hw
        rcases Nat.lt_trichotomy l l' with q | q | q <;> omega
      refine ⟨n', b1, by rw [hr (4 + 17 * l') (far 0 (by decide))]; exact b2, fun h hh2 => ?_⟩
      rw [hr _ (far _ (by omega)), hr _ (far _ (by omega))]
      exact b3 h hh2
  · intro t ht
    obtain ⟨c1, c2⟩ := a6 t ht
    exact ⟨by rw [hr _ (by omega)]; exact c1, fun f hf => by rw [hr _ (by omega)]; exact c2 f hf⟩
/-- where a heap goes: on the last one, or behind it -/
theorem place_cases {r : Nat → Int32} {l f n : Nat} (hn : n ≤ 6) (he : r (4 + 17 * l) = nI n) : (placeR r l f = n ∧ ¬ (0 < n ∧ r (4 + 17 * l + (1 + 2 * (n - 1))) = nI f)) ∨ (placeR r l f = n - 1 ∧ 0 < n ∧ r (4 + 17 * l + (1 + 2 * (n - 1))) = nI f) := by
  have e : (r (4 + 17 * l)).toNatClampNeg = n := by rw [he]; exact nI_clamp (by omega)
  unfold placeR
  rw [e]
  by_cases c : 0 < n ∧ r (4 + 17 * l + (1 + 2 * (n - 1))) = nI f
  · rw [if_pos c]; exact Or.inr ⟨rfl, c⟩
  · rw [if_neg c]; exact Or.inl ⟨rfl, c⟩
theorem putR_out {r : Nat → Int32} {l f : Nat} {z : Int32} (hp : placeR r l f < 6) : ∀ j, (j < 4 + 17 * l ∨ 4 + 17 * l + 13 ≤ j) → putR r l f z j = r j := by
  intro j hj
  unfold putR
  rw [pk_un (by omega), pk_un (by omega), pk_un (by omega)]
theorem putR_n {r : Nat → Int32} {l f : Nat} {z : Int32} : putR r l f z (4 + 17 * l) = nI (placeR r l f + 1) := pk_us
theorem putR_f {r : Nat → Int32} {l f : Nat} {z : Int32} : putR r l f z (4 + 17 * l + (1 + 2 * placeR r l f)) = nI f := by
  unfold putR
  rw [pk_un (by omega), pk_un (by omega), pk_us]
theorem putR_s {r : Nat → Int32} {l f : Nat} {z : Int32} : putR r l f z (4 + 17 * l + (2 + 2 * placeR r l f)) = if placeR r l f = (r (4 + 17 * l)).toNatClampNeg then z else r (4 + 17 * l + (2 + 2 * placeR r l f)) + z := by
  unfold putR
  rw [pk_un (by omega), pk_us]
theorem putR_h {r : Nat → Int32} {l f h : Nat} {z : Int32} (hh : h < placeR r l f) : putR r l f z (4 + 17 * l + (1 + 2 * h)) = r (4 + 17 * l + (1 + 2 * h)) ∧ putR r l f z (4 + 17 * l + (2 + 2 * h)) = r (4 + 17 * l + (2 + 2 * h)) := by
  unfold putR
  rw [pk_un (by omega), pk_un (by omega), pk_un (by omega), pk_un (by omega), pk_un (by omega), pk_un (by omega)]
  exact ⟨rfl, rfl⟩
theorem put_join {r : Nat → Int32} {l f n : Nat} {z : Int32} (hn : n ≤ 6) (he : r (4 + 17 * l) = nI n) (h0 : 0 < n) (hf : r (4 + 17 * l + (1 + 2 * (n - 1))) = nI f) (hp : placeR r l f = n - 1) : putR r l f z = upd r (4 + 17 * l + 2 * n) (r (4 + 17 * l + 2 * n) + z) := by
  have e : (r (4 + 17 * l)).toNatClampNeg = n := by rw [he]; exact nI_clamp (by omega)
  unfold putR
  rw [hp, e, if_neg (by omega), ← hf, upd_eq, show 2 + 2 * (n - 1) = 2 * n by omega, upd_comm (by omega), show n - 1 + 1 = n by omega, ← he, upd_eq]
section HP
variable {σ : Sg} {Q : Int32 → Sg → Prop} {m : Nat} {r d : Nat → Int32} {μ : Nat → Nat → Nat → Int32}
theorem IR_put {l f s : Nat} (hI : IR r) (hl : l < 4) (hf : f < 6) (hs : 1 ≤ s) (hs2 : s ≤ 200) (hp : ¬ placeR r l f = 6) (hb : hpR r l + nI s ≤ 999) : IR (putR r l f (nI s)) := by
  obtain ⟨n, hn, he, hh⟩ := hI.2.2.2.2.2.1 l hl
  have e : (r (4 + 17 * l)).toNatClampNeg = n := by rw [he]; exact nI_clamp (by omega)
  have hp6 : placeR r l f < 6 ∧ placeR r l f ≤ n := by
    rcases place_cases (f := f) hn he with ⟨q, -⟩ | ⟨q, q2, -⟩ <;> omega
  refine IR_hop (n := placeR r l f + 1) hI hl (putR_out hp6.1) (by omega) putR_n (fun h hh2 => ?_)
  by_cases c : h = placeR r l f
  · subst c
    refine ⟨⟨f, hf, putR_f⟩, ?_⟩
    rw [putR_s, e]
    rcases place_cases (f := f) hn he with ⟨q, -⟩ | ⟨q, q2, -⟩
    · rw [if_pos q]; exact ⟨s, hs, by omega, rfl⟩
    · rw [if_neg (by omega)]
      obtain ⟨w, w1, w2, w3⟩ := (hh (placeR r l f) (by omega)).2
      rw [w3, nI_add]
      refine ⟨w + s, by omega, ?_, rfl⟩
      obtain ⟨S, S1, S2, S3⟩ := sum_nI (f := fun h => r (4 + 17 * l + (2 + 2 * h))) (n := n) (b := 999) (by omega) (fun k hk => by
        obtain ⟨-, s, h1, h2, h3⟩ := hh k hk
        exact ⟨s, h2, h3⟩)
      have hw := S3 (placeR r l f) w (by omega) w3 w2
      unfold hpR at hb
      rw [e, S2, nI_add] at hb
      have := (nI_leI (a := S + s) (b := 999) (by omega) (by decide)).mp hb
      omega
  · obtain ⟨g1, g2⟩ := putR_h (r := r) (l := l) (f := f) (h := h) (z := nI s) (by omega)
    rw [g1, g2]
    exact hh h (by omega)
theorem IR_heaps {x y z : Int32} (hI : IR r) : IR (heapsR r x y z).2 := by
  unfold heapsR
  by_cases c : obB x 4 = true
  · rw [if_pos c]; exact hI
  rw [if_neg c]
  by_cases d : obB y 6 = true
  · rw [if_pos d]; exact hI
  rw [if_neg d]
  by_cases g : otB z 1 200 = true
  · rw [if_pos g]; exact hI
  rw [if_neg g]
  rw [Bool.not_eq_true] at g
  obtain ⟨s, h1, h2, rfl⟩ := bt_nI (a := 1) (b := 200) (by decide) (by decide) g
  rcases pk_ix x (show (4 : Nat) < 2 ^ 31 by decide) with c2 | c2 | ⟨l, hl, e⟩
  · exact absurd (ob_1 (Or.inl c2)) c
  · exact absurd (ob_1 (Or.inr c2)) c
  subst e
  rcases pk_ix y (show (6 : Nat) < 2 ^ 31 by decide) with c2 | c2 | ⟨f, hf, e⟩
  · exact absurd (ob_1 (Or.inl c2)) d
  · exact absurd (ob_1 (Or.inr c2)) d
  subst e
  rw [nI_clamp (n := l) (by omega), nI_clamp (n := f) (by omega)]
  unfold addR
  by_cases k : placeR r l f = 6
  · rw [if_pos k]; exact hI
  rw [if_neg k]
  by_cases k2 : hpR r l + nI s ≤ 999
  · rw [if_pos k2]; exact IR_put hI hl hf h1 h2 k k2
  · rw [if_neg k2]; exact hI
theorem s_X1_addSweets {x z : Int32} (l f : Nat) (hl : l < 4) (e1 : x = nI f) (hI : IR r) (hM : MR μ r) (hq : ∀ μ', MR μ' (addR r l f z).2 → Q (addR r l f z).1 (sm σ m μ')) (hz : ¬ placeR r l f = 6 → hpR r l + z ≤ 999 → IR (putR r l f z)) : wp_X1_addSweets m l x z (sm σ m μ) Q := by
  subst e1
  obtain ⟨n, hn, he, hh⟩ := hI.2.2.2.2.2.1 l hl
  have e : (r (4 + 17 * l)).toNatClampNeg = n := by rw [he]; exact nI_clamp (by omega)
  obtain ⟨b2, b3, b4, b5, b6, b7⟩ := hM.2.2.2.1 l hl
  have hM' : MR (sm σ m μ m) r := by rw [sm_m]; exact hM
  have key : ∀ v3 : Int32, (v3 = 0 ↔ placeR r l f = n) → wp_X1_addSweets_b51 m l (nI f) z Q v3 (nI (placeR r l f)) (sm σ m μ) := by
    intro v3 hv
    have hpn : placeR r l f ≤ 6 ∧ placeR r l f ≤ n ∧ n ≤ placeR r l f + 1 := by
      rcases place_cases (f := f) hn he with ⟨q, -⟩ | ⟨q, q2, -⟩ <;> omega
    unfold wp_X1_addSweets_b51
    unfold addR at hq
    by_cases hp : placeR r l f = 6
    · rw [if_pos hp] at hq
      refine s_X5_isIndex ?_
      rw [if_neg (nI_pos (by omega)), if_pos (show (6 : Int32) ≤ nI (placeR r l f) by rw [hp]; decide)]
      exact ⟨fun c => absurd rfl c, fun _ => hq μ hM⟩
    · rw [if_neg hp] at hq
      have hp5 : placeR r l f < 6 := by omega
      refine s_X5_isIndex ?_
      rw [if_neg (nI_pos (by omega)), if_neg (ge_6 hp5)]
      refine ⟨fun _ => ?_, fun c => absurd c (by decide)⟩
      refine s_X1_sweetsInHopper hM' l n hl hn he ?_
      refine ⟨fun g => ⟨vp_in_nI hp5 (by decide), ?_⟩, fun g => ?_⟩
      · rw [if_pos g] at hq
        rintro σ12 rfl
        rw [nI_clamp (by omega), sm_up]
        have fin : ∀ b, b = (if placeR r l f = n then z else r (4 + 17 * l + (2 + 2 * placeR r l f)) + z) → wp_X1_addSweets_b112 m l (nI f) z Q (nI (placeR r l f)) b (nI (placeR r l f)) (sm σ m (um μ 6 l (placeR r l f) (nI f))) := by
          intro b hb
          unfold wp_X1_addSweets_b112
          refine ⟨vp_in_nI hp5 (by decide), ?_⟩
          rintro σ14 rfl σ15 rfl
          rw [nI_clamp (by omega), sm_up, sm_up, nI_1]
          have hs' : putR r l f z (4 + 17 * l + (2 + 2 * placeR r l f)) = b := by rw [putR_s, e, hb]
          have hMn : MR (um (um (um μ 6 l (placeR r l f) (nI f)) 7 l (placeR r l f) b) 5 l 2 (nI (placeR r l f + 1))) (putR r l f z) := by
            refine MR_hop hM hI hl (fun a b' hab => ?_) (fun k h3 h6 => ?_) (putR_out hp5) ?_ (fun h hh2 => ?_)
            · simp only [um]
              rw [if_neg (by omega), if_neg (by omega), if_neg (by omega)]
            · rw [um_j _ _ (by omega), um_k _ _ (by decide), um_k _ _ (by decide)]
            · rw [um_eq, putR_n]
            · rw [putR_n, nI_clamp (by omega)] at hh2
              rw [um_k _ _ (by decide : 6 ≠ 5), um_k _ _ (by decide : 7 ≠ 5), um_k _ _ (by decide : 6 ≠ 7)]
              by_cases c : h = placeR r l f
              · subst c
                rw [um_eq, um_eq, putR_f, hs']
                exact ⟨rfl, rfl⟩
              · rw [um_j _ _ c, um_j _ _ c, um_k _ _ (by decide : 7 ≠ 6)]
                obtain ⟨g1, g2⟩ := putR_h (r := r) (l := l) (f := f) (h := h) (z := z) (by omega)
                rw [g1, g2]
                exact b7 h (by omega)
          refine s_X1_sweetsInHopper (r := putR r l f z) (by rw [sm_m]; exact hMn) l (placeR r l f + 1) hl (by omega) putR_n ?_
          exact hq _ hMn
        refine ⟨fun c => ?_, fun c => ⟨vp_in_nI hp5 (by decide), ?_⟩⟩
        · exact fin z (by rw [if_pos (hv.mp c)])
        · rw [sm_m, um_k _ _ (by decide : 7 ≠ 6)]
          have hne : ¬ placeR r l f = n := fun q => c (hv.mpr q)
          rw [(b7 (placeR r l f) (by omega)).2]
          exact fin _ (by rw [if_neg hne])
      · rw [if_neg g] at hq
        exact hq μ hM
  unfold wp_X1_addSweets
  rw [sm_m, b2, he]
  have j0 : ¬ (0 < n ∧ r (4 + 17 * l + (1 + 2 * (n - 1))) = nI f) → wp_X1_addSweets_b32 m l (nI f) z Q (sm σ m μ) := by
    intro c
    unfold wp_X1_addSweets_b32 wp_X1_addSweets_b33
    rw [sm_m, b2, he]
    refine ⟨fun _ => ?_, fun d => absurd rfl d⟩
    have q : placeR r l f = n := by
      rcases place_cases (f := f) hn he with ⟨q, -⟩ | ⟨q, q2⟩
      · exact q
      · exact absurd q2 c
    have := key 0 ⟨fun _ => q, fun _ => rfl⟩
    rw [q] at this
    exact this
  refine s_X1_isHeap l n hn (by rw [sm_m, b2, he]) (fun j hj ej => ?_) (fun c => ?_)
  · have h0 : 0 < n := by omega
    refine ⟨fun c => absurd c (by decide), fun _ => ?_⟩
    rw [sm_m, b2, he, nI_m1 h0]
    refine ⟨vp_in_nI (by omega) (by decide), ?_⟩
    rw [nI_clamp (by omega), (b7 (n - 1) (by omega)).1]
    refine ⟨fun c => j0 (fun z => c z.2), fun c => ?_⟩
    unfold wp_X1_addSweets_b33
    rw [sm_m, b2, he, nI_m1 h0]
    refine ⟨fun c => absurd c (by decide), fun _ => ?_⟩
    have q : placeR r l f = n - 1 := by
      rcases place_cases (f := f) hn he with ⟨q, q2⟩ | ⟨q, q2⟩
      · exact absurd ⟨h0, c⟩ q2
      · exact q
    have := key 1 ⟨fun z => absurd z (by decide), fun z => by omega⟩
    rw [q] at this
    exact this
  · refine ⟨fun _ => j0 (fun z => ?_), fun c => absurd rfl c⟩
    rw [nI_m1 z.1] at c
    rcases c with c | c
    · exact absurd c (nI_pos (by omega))
    · exact absurd c (nI_ge (by omega) (by omega))
theorem s_X2_addSweets {x y z : Int32} (hM : MR μ r) (hI : IR r) (hq : ∀ μ', MR μ' (heapsR r x y z).2 → Q (heapsR r x y z).1 (sm σ m μ')) : wp_X2_addSweets m x y z (sm σ m μ) Q := by
  unfold wp_X2_addSweets
  unfold heapsR at hq
  refine s_isIndex2 (n := 4) (by decide) (fun l hl e => ?_) (fun c => ?_)
  · subst e
    rw [ob_0 hl (by decide), if_neg (show ¬ false = true by decide), nI_clamp (n := l) (by omega)] at hq
    refine ⟨fun c => absurd c (by decide), fun _ => ?_⟩
    refine s_isIndex2 (n := 6) (by decide) (fun f hf e => ?_) (fun c => ?_)
    · subst e
      rw [ob_0 hf (by decide), if_neg (show ¬ false = true by decide), nI_clamp (n := f) (by omega)] at hq
      refine ⟨fun _ => ?_, fun c => absurd c (by decide)⟩
      refine s_X5_bt (fun c => ⟨fun _ => ⟨vp_in_nI hl (by decide), ?_⟩, fun c => absurd c (by decide)⟩) (fun c => ⟨fun d => absurd rfl d, fun _ => ?_⟩)
      · intro a11 e11
        rw [nI_clamp (by omega)] at e11
        subst e11
        rw [c, if_neg (show ¬ false = true by decide)] at hq
        obtain ⟨s, h1, h2, rfl⟩ := bt_nI (a := 1) (b := 200) (by decide) (by decide) c
        exact s_X1_addSweets a11 f hl rfl hI hM hq (fun k k2 => IR_put hI hl hf h1 h2 k k2)
      · rw [c] at hq
        exact hq μ hM
    · refine ⟨fun d => absurd rfl d, fun _ => ?_⟩
      rw [ob_1 c] at hq
      exact hq μ hM
  · refine ⟨fun _ => ?_, fun d => absurd rfl d⟩
    rw [ob_1 c] at hq
    exact hq μ hM
theorem s_X2_runTicks {x : Int32} (d : Nat → Int32) (hM : MR μ r) (hI : IR r) (hq : ∀ μ', MR μ' (goesR r d x).2.1 → Q (goesR r d x).1 (sm σ m μ')) : wp_X2_runTicks m x (sm σ m μ) Q := by
  unfold wp_X2_runTicks
  unfold goesR at hq
  refine s_X5_bt (fun c => ⟨fun _ => ?_, fun c => absurd c (by decide)⟩) (fun c => ⟨fun d => absurd rfl d, fun _ => ?_⟩)
  · rw [c, if_neg (show ¬ false = true by decide)] at hq
    obtain ⟨s, h1, h2, rfl⟩ := bt_nI (a := 1) (b := 99) (by decide) (by decide) c
    rw [sm_m, hM.2.1.2.1]
    rw [nI_clamp (by omega)] at hq
    refine ⟨fun g => ?_, fun g => ?_⟩
    · rw [if_pos g] at hq
      exact s_X2_work s (by omega) d hM hI rfl (fun μ' hM' _ => hq μ' hM')
    · rw [if_neg g] at hq
      exact hq μ hM
  · rw [c] at hq
    exact hq μ hM
theorem IR_goes {x : Int32} (hI : IR r) : IR (goesR r d x).2.1 := by
  unfold goesR
  by_cases c : otB x 1 99 = true
  · rw [if_pos c]; exact hI
  rw [if_neg c]
  by_cases g : r 191 + x ≤ 9999
  · rw [if_pos g]; exact (runsC_IR hI).1
  · rw [if_neg g]; exact hI
end HP

/-! Flavours kept apart, on both sides. -/
section AP
variable {σ : Sg} {Q : Int32 → Sg → Prop} {m : Nat} {r d : Nat → Int32} {μ : Nat → Nat → Nat → Int32}
theorem MR_ap {f : Nat} {x : Int32} (hf : f < 6) (hM : MR μ r) (hI : IR r) : MR (um μ 4 0 f x) (upd r (185 + f) x) := by
  obtain ⟨a0, a1, a2, a3, a4⟩ := hM
  refine ⟨fun i hi => ?_, ?_, fun g hg => ?_, fun l hl => ?_, fun t ht => ?_⟩
  · rw [um_k _ _ (by decide), pk_un (by omega)]; exact a0 i hi
  · rw [um_k _ _ (by decide), pk_un (by omega), pk_un (by omega), pk_un (by omega), pk_un (by omega)]; exact a1
  · by_cases e : g = f
    · subst e; rw [um_eq, pk_us]
    · rw [um_j _ _ e, pk_un (by omega)]; exact a2 g hg
  · have hn := IR_n hI hl
    rw [um_k _ _ (by decide : 5 ≠ 4), um_k _ _ (by decide : 6 ≠ 4), um_k _ _ (by decide : 7 ≠ 4), pk_un (j := 4 + 17 * l) (by omega), pk_un (by omega), pk_un (by omega), pk_un (by omega), pk_un (by omega)]
    obtain ⟨b2, b3, b4, b5, b6, b7⟩ := a3 l hl
    exact ⟨b2, b3, b4, b5, b6, fun h hh => by rw [pk_un (by omega), pk_un (by omega)]; exact b7 h hh⟩
  · obtain ⟨b1, b2, b3, b4⟩ := a4 t ht
    rw [um_k _ _ (by decide : 8 ≠ 4), um_k _ _ (by decide : 9 ≠ 4), pk_un (j := 73 + 7 * t) (by omega), mkR_congr (s := r) (fun f hf => pk_un (by omega)), swR_congr (s := r) (fun f hf => pk_un (by omega))]
    exact ⟨b1, b2, b3, fun f hf => by rw [pk_un (by omega)]; exact b4 f hf⟩
theorem IR_ap {f : Nat} {x : Int32} (hI : IR r) : IR (upd r (185 + f) x) :=
  IR_upd _ hI (by omega) (by omega) (by omega) (fun l w hl hw => by omega)
theorem IR_turn {f o : Nat} (hI : IR r) : IR (turnR r f o) := IR_ap (IR_ap hI)
theorem IR_apart {x y : Int32} (hI : IR r) : IR (apartR r x y).2 := by
  unfold apartR
  by_cases c : obB x 6 = true
  · rw [if_pos c]; exact hI
  rw [if_neg c]
  by_cases c2 : obB y 6 = true
  · rw [if_pos c2]; exact hI
  rw [if_neg c2]
  by_cases c3 : x = y
  · rw [if_pos c3]; exact hI
  rw [if_neg c3]
  by_cases c4 : tb (r (185 + x.toNatClampNeg)) y.toNatClampNeg = true
  · rw [if_pos c4]; exact IR_turn hI
  rw [if_neg c4]
  by_cases c5 : fstN (bothB r x.toNatClampNeg y.toNatClampNeg) (nT r) < nT r
  · rw [if_pos c5]; exact hI
  · rw [if_neg c5]; exact IR_turn hI
theorem s_X2_switchApart {Q : Sg → Prop} {x y : Int32} (f o : Nat) (hf : f < 6) (ho : o < 6) (hfo : f ≠ o) (hM : MR μ r) (hI : IR r) (e1 : x = nI f := by rfl) (e2 : y = nI o := by rfl) (hq : ∀ μ', MR μ' (turnR r f o) → Q (sm σ m μ')) : wp_X2_switchApart m x y (sm σ m μ) Q := by
  subst e1; subst e2
  unfold wp_X2_switchApart
  refine s_X5_isIndex ?_
  rw [if_neg (nI_pos (by omega)), if_neg (ge_6 hf)]
  refine ⟨fun c => absurd c (by decide), fun _ => ?_⟩
  refine s_X5_isIndex ?_
  rw [if_neg (nI_pos (by omega)), if_neg (ge_6 ho)]
  refine ⟨fun c => absurd c (by decide), fun _ => ⟨fun _ => ⟨vp_in_nI hf (by decide), vp_in_nI hf (by decide), ?_⟩, fun c => absurd ((nI_eq (by omega) (by omega)).mp c) hfo⟩⟩
  rintro σ8 rfl
  refine ⟨vp_in_nI ho (by decide), vp_in_nI ho (by decide), ?_⟩
  rintro σ9 rfl
  rw [nI_clamp (n := f) (by omega), nI_clamp (n := o) (by omega), sm_up, sm_m, sm_m, sm_up, um_j _ _ hfo.symm, hM.2.2.1 f hf, hM.2.2.1 o ho]
  refine hq _ ?_
  exact MR_ap ho (MR_ap hf hM hI) (IR_ap hI)
theorem tb_turn {f o : Nat} (ho : o < 6) (hfo : f ≠ o) : tb (turnR r f o (185 + f)) o = !tb (r (185 + f)) o := by
  unfold turnR
  rw [pk_un (by omega), pk_us, tb_xor, tb_bit (by omega) (by omega), decide_eq_true rfl, Bool.xor_true]
theorem s_X2_isOpenTinWithBoth {x y : Int32} (f o : Nat) (hf : f < 6) (ho : o < 6) (hM : MR (σ m) r) (hI : IR r) (e1 : x = nI f := by rfl) (e2 : y = nI o := by rfl) (hq : Q (if fstN (bothB r f o) (nT r) < nT r then 1 else 0) σ) : wp_X2_isOpenTinWithBoth m x y σ Q := by
  subst e1; subst e2
  obtain ⟨g1, g2, g3⟩ := IR_nT hI
  unfold wp_X2_isOpenTinWithBoth
  rintro z1 rfl
  unfold wp_X2_isOpenTinWithBoth_L11
  refine lpN_rel 16 (fun t a => a = (bitN f ||| bitN o, nI t, σ) ∧ ∀ j, j < t → j < nT r → bothB r f o j = false) ?_ ?_ 0 _ (Nat.zero_le _) ⟨rfl, fun j h => absurd h (Nat.not_lt_zero j)⟩
  · rintro K t ⟨w1, w2, σ'⟩ ht ⟨e, hj⟩ hK
    cases e
    dsimp only
    unfold st_X2_isOpenTinWithBoth_L11
    refine ⟨fun c => absurd c (ge_16 ht), fun _ => ?_⟩
    have next : (t < nT r → bothB r f o t = false) → wp_X2_isOpenTinWithBoth_b45 m (nI f) (nI o) (fun v3 v4 σ => K (v3, v4, σ)) Q (bitN f ||| bitN o) (nI t) σ := by
      intro hb
      unfold wp_X2_isOpenTinWithBoth_b45
      rintro z8 rfl
      refine hK _ ⟨by rw [nI_1], fun j hj2 hj3 => ?_⟩
      by_cases q : j = t
      · rw [q]; exact hb (q ▸ hj3)
      · exact hj j (by omega) hj3
    refine s_X2_isOpen hM hI t ht rfl ?_
    by_cases c : t < nT r
    · cases h : opB r t with
      | false =>
        rw [decide_eq_true c]
        exact ⟨fun _ => next (fun _ => by unfold bothB; rw [h]; rfl), fun d => absurd rfl d⟩
      | true =>
        rw [decide_eq_true c]
        refine ⟨fun d => absurd d (by decide), fun _ => ⟨vp_in_nI ht (by decide), ?_⟩⟩
        intro a7 e7
        rw [e7, nI_clamp (by omega), (hM.2.2.2.2 t ht).1]
        refine ⟨fun d => next (fun _ => ?_), fun d => ?_⟩
        · rw [tb_two (by omega) (by omega)] at d
          unfold bothB
          cases h1 : tb (mkR r t) f with
          | false => rw [Bool.false_and, Bool.and_false]
          | true =>
            cases h2 : tb (mkR r t) o with
            | false => rw [Bool.and_false, Bool.and_false]
            | true => exact absurd ⟨h1, h2⟩ d
        · rw [tb_two (by omega) (by omega)] at d
          have hp : bothB r f o t = true := by unfold bothB; rw [h, d.1, d.2]; rfl
          rw [fstN_eq c hp (fun j z => hj j z (by omega)), if_pos c] at hq
          exact hq
    · rw [decide_eq_false c]
      exact ⟨fun _ => next (fun z => absurd z c), fun d => absurd rfl d⟩
  · rintro K ⟨w1, w2, σ'⟩ ⟨e, hj⟩
    cases e
    dsimp only
    unfold st_X2_isOpenTinWithBoth_L11
    refine ⟨fun _ => ?_, fun c => absurd (nI_le (Nat.le_refl 16) (by decide)) c⟩
    rw [fstN_none (fun j z => hj j (by omega) z), if_neg (Nat.lt_irrefl _)] at hq
    exact hq
theorem s_X2_changeApart {x y : Int32} (hM : MR μ r) (hI : IR r) (hq : ∀ μ', MR μ' (apartR r x y).2 → Q (apartR r x y).1 (sm σ m μ')) : wp_X2_changeApart m x y (sm σ m μ) Q := by
  unfold wp_X2_changeApart
  unfold apartR at hq
  have hM' : MR (sm σ m μ m) r := by rw [sm_m]; exact hM
  refine s_isIndex2 (n := 6) (by decide) (fun f hf e => ?_) (fun c => ?_)
  · subst e
    rw [ob_0 hf (by decide), if_neg (show ¬ false = true by decide), nI_clamp (n := f) (by omega)] at hq
    refine ⟨fun c => absurd c (by decide), fun _ => ?_⟩
    refine s_isIndex2 (n := 6) (by decide) (fun o ho e => ?_) (fun c => ?_)
    · subst e
      rw [ob_0 ho (by decide), if_neg (show ¬ false = true by decide), nI_clamp (n := o) (by omega)] at hq
      refine ⟨fun _ => ⟨fun c => ?_, fun c => ?_⟩, fun c => absurd c (by decide)⟩
      · have hfo : f ≠ o := fun z => c (by rw [z])
        rw [if_neg c] at hq
        refine ⟨vp_in_nI hf (by decide), ?_⟩
        rw [nI_clamp (by omega), sm_m, hM.2.2.1 f hf]
        refine ⟨fun g => ?_, fun g => ?_⟩
        · have g' := (tb_test (x := r (185 + f)) (o := o) (by omega)).mp g
          rw [if_neg (by rw [g']; decide)] at hq
          unfold wp_X2_changeApart_b46 wp_X2_changeApart_b63
          refine ⟨fun d => absurd rfl d, fun _ => ?_⟩
          refine s_X2_isOpenTinWithBoth f o hf ho hM' hI rfl rfl ?_
          by_cases k : fstN (bothB r f o) (nT r) < nT r
          · rw [if_pos k] at hq ⊢
            exact ⟨fun d => absurd d (by decide), fun _ => hq μ hM⟩
          · rw [if_neg k] at hq ⊢
            refine ⟨fun _ => ?_, fun d => absurd rfl d⟩
            refine s_X2_switchApart f o hf ho hfo hM hI rfl rfl (fun μ' h' => ?_)
            exact ⟨fun _ => hq μ' h', fun d => absurd rfl d⟩
        · have g' : tb (r (185 + f)) o = true := by
            cases k : tb (r (185 + f)) o with
            | true => rfl
            | false => exact absurd ((tb_test (x := r (185 + f)) (o := o) (by omega)).mpr k) g
          rw [if_pos g'] at hq
          unfold wp_X2_changeApart_b46 wp_X2_changeApart_b63
          refine ⟨fun _ => ?_, fun d => absurd d (by decide)⟩
          refine s_X2_switchApart f o hf ho hfo hM hI rfl rfl (fun μ' h' => ?_)
          exact ⟨fun d => absurd d (by decide), fun _ => hq μ' h'⟩
      · rw [if_pos c] at hq
        exact hq μ hM
    · refine ⟨fun d => absurd rfl d, fun _ => ?_⟩
      rw [ob_1 c] at hq
      exact hq μ hM
  · refine ⟨fun _ => ?_, fun d => absurd rfl d⟩
    rw [ob_1 c] at hq
    exact hq μ hM
end AP

/-! A machine copied. -/
def ur (μ : Nat → Nat → Nat → Int32) (k i : Nat) (f : Nat → Int32) : Nat → Nat → Nat → Int32 := fun a b => if a = k ∧ b = i then f else μ a b
theorem ua_sm (σ : Sg) (m : Nat) (μ : Nat → Nat → Nat → Int32) (k i : Nat) (f : Nat → Int32) : ua (sm σ m μ) m k i f = sm σ m (ur μ k i f) := by
  funext a b c
  unfold ua sm ur
  by_cases h : a = m
  · subst h
    simp
  · simp [h]
theorem ur_eq (μ : Nat → Nat → Nat → Int32) (k i : Nat) (f : Nat → Int32) : ur μ k i f k i = f := by simp [ur]
theorem ur_k (μ : Nat → Nat → Nat → Int32) {k i a : Nat} (f : Nat → Int32) (h : a ≠ k) : ur μ k i f a = μ a := by
  funext b
  simp [ur, h]
theorem ur_i (μ : Nat → Nat → Nat → Int32) {k i a b : Nat} (f : Nat → Int32) (h : b ≠ i) : ur μ k i f a b = μ a b := by
  simp [ur, h]
theorem cpy_lt {f g : Nat → Int32} {n j : Nat} (h : j < n) : va_cpy f g 0 0 n j = f j := by
  show (if 0 ≤ j ∧ j < 0 + n then f (0 + (j - 0)) else g j) = f j
  rw [if_pos ⟨Nat.zero_le j, by omega⟩, Nat.sub_zero, Nat.zero_add]
/-- all that MR reads, the same -/
theorem MR_same {μ ν : Nat → Nat → Nat → Int32} {r : Nat → Int32} (hM : MR ν r) (hI : IR r) (h1 : ∀ j, j < 4 → μ 1 0 j = ν 1 0 j) (h0 : ∀ j, 4 ≤ j → j ≤ 7 → μ 0 0 j = ν 0 0 j) (h4 : ∀ f, f < 6 → μ 4 0 f = ν 4 0 f) (h5 : ∀ l, l < 4 → (∀ k, 2 ≤ k → k ≤ 6 → μ 5 l k = ν 5 l k) ∧ ∀ h, h < 6 → μ 6 l h = ν 6 l h ∧ μ 7 l h = ν 7 l h) (h8 : ∀ t, t < 16 → (∀ k, 1 ≤ k → k ≤ 3 → μ 8 t k = ν 8 t k) ∧ ∀ f, f < 6 → μ 9 t f = ν 9 t f) : MR μ r := by
  obtain ⟨a0, ⟨c4, c5, c6, c7⟩, a2, a3, a4⟩ := hM
  refine ⟨fun j hj => (h1 j hj).trans (a0 j hj), ⟨(h0 4 (by decide) (by decide)).trans c4, (h0 5 (by decide) (by decide)).trans c5, (h0 6 (by decide) (by decide)).trans c6, (h0 7 (by decide) (by decide)).trans c7⟩, fun f hf => (h4 f hf).trans (a2 f hf), fun l hl => ?_, fun t ht => ?_⟩
  · obtain ⟨b2, b3, b4, b5, b6, b7⟩ := a3 l hl
    obtain ⟨g1, g2⟩ := h5 l hl
    have hn := IR_n hI hl
    exact ⟨(g1 2 (by decide) (by decide)).trans b2, (g1 3 (by decide) (by decide)).trans b3, (g1 4 (by decide) (by decide)).trans b4, (g1 5 (by decide) (by decide)).trans b5, (g1 6 (by decide) (by decide)).trans b6, fun h hh => ⟨(g2 h (by omega)).1.trans (b7 h hh).1, (g2 h (by omega)).2.trans (b7 h hh).2⟩⟩
  · obtain ⟨b1, b2, b3, b4⟩ := a4 t ht
    obtain ⟨g1, g2⟩ := h8 t ht
    exact ⟨(g1 1 (by decide) (by decide)).trans b1, (g1 2 (by decide) (by decide)).trans b2, (g1 3 (by decide) (by decide)).trans b3, fun f hf => (g2 f hf).trans (b4 f hf)⟩
section CP
variable {σ : Sg} {Q : Sg → Prop} {m m1 : Nat} {r d : Nat → Int32} {μ : Nat → Nat → Nat → Int32}
theorem s_X1_copyFrom (i : Nat) (hne : m1 ≠ m) (hq : ∀ μ', (∀ a b, ¬ ((a = 5 ∨ a = 6 ∨ a = 7) ∧ b = i) → μ' a b = μ a b) → (∀ k, 2 ≤ k → k ≤ 6 → μ' 5 i k = σ m1 5 i k) → (∀ h, h < 6 → μ' 6 i h = σ m1 6 i h ∧ μ' 7 i h = σ m1 7 i h) → Q (sm σ m μ')) : wp_X1_copyFrom m i m1 i (sm σ m μ) Q := by
  unfold wp_X1_copyFrom
  rintro σ1 rfl
  rw [ua_sm, sm_ne σ _ hne, sm_m]
  rintro σ2 rfl
  rw [ua_sm, sm_ne σ _ hne, sm_m]
  rintro σ3 rfl
  rw [sm_up, sm_ne σ _ hne]
  rintro σ4 rfl
  rw [sm_up, sm_ne σ _ hne]
  rintro σ5 rfl
  rw [sm_up, sm_ne σ _ hne]
  rintro σ6 rfl
  rw [sm_up, sm_ne σ _ hne]
  rintro σ7 rfl
  rw [sm_up, sm_ne σ _ hne]
  refine hq _ (fun a b hab => ?_) (fun k h2 h6 => ?_) (fun h hh => ?_)
  · simp only [um, ur]
    rw [if_neg (by omega), if_neg (by omega), if_neg (by omega), if_neg (by omega), if_neg (by omega), if_neg (by omega), if_neg (by omega)]
  · have hk : k = 2 ∨ k = 3 ∨ k = 4 ∨ k = 5 ∨ k = 6 := by omega
    rcases hk with e | e | e | e | e <;> subst e <;> simp [um, upd]
  · refine ⟨?_, ?_⟩
    · simp [um, ur, cpy_lt hh]
    · simp [um, ur, cpy_lt hh]
theorem s_X4_copyFrom (i : Nat) (hne : m1 ≠ m) (h01 : σ m1 8 i 3 = 0 ∨ σ m1 8 i 3 = 1) (hq : ∀ μ', (∀ a b, ¬ ((a = 8 ∨ a = 9) ∧ b = i) → μ' a b = μ a b) → (∀ k, 1 ≤ k → k ≤ 3 → μ' 8 i k = σ m1 8 i k) → (∀ h, h < 6 → μ' 9 i h = σ m1 9 i h) → Q (sm σ m μ')) : wp_X4_copyFrom m i m1 i (sm σ m μ) Q := by
  unfold wp_X4_copyFrom
  rintro σ1 rfl
  rw [ua_sm, sm_ne σ _ hne, sm_m]
  rintro σ2 rfl
  rw [sm_up, sm_ne σ _ hne]
  rintro σ3 rfl
  rw [sm_up, sm_ne σ _ hne]
  refine ⟨h01, ?_⟩
  rintro σ5 rfl
  rw [sm_up]
  refine hq _ (fun a b hab => ?_) (fun k h2 h6 => ?_) (fun h hh => ?_)
  · simp only [um, ur]
    rw [if_neg (by omega), if_neg (by omega), if_neg (by omega), if_neg (by omega)]
  · have hk : k = 1 ∨ k = 2 ∨ k = 3 := by omega
    rcases hk with e | e | e <;> subst e <;> simp [um, upd, sm_ne σ _ hne]
  · simp [um, ur, cpy_lt hh]
theorem s_X2_copyFrom (hne : m1 ≠ m) (hM : MR (σ m1) r) (hI : IR r) (hq : ∀ μ', MR μ' r → Q (sm σ m μ')) : wp_X2_copyFrom m m1 (sm σ m μ) Q := by
  unfold wp_X2_copyFrom
  rintro σ1 rfl
  rw [ua_sm, sm_ne σ _ hne, sm_m]
  rintro σ2 rfl
  rw [ua_sm, sm_ne σ _ hne, sm_m]
  unfold wp_X2_copyFrom_L24
  refine lpN_rel 4 (fun k a => ∃ μ', a = (nI k, sm σ m μ') ∧ (∀ j, j < 4 → μ' 1 0 j = σ m1 1 0 j) ∧ (∀ j, j < 6 → μ' 4 0 j = σ m1 4 0 j) ∧ ∀ l, l < k → (∀ k, 2 ≤ k → k ≤ 6 → μ' 5 l k = σ m1 5 l k) ∧ ∀ h, h < 6 → μ' 6 l h = σ m1 6 l h ∧ μ' 7 l h = σ m1 7 l h) ?_ ?_ 0 _ (Nat.zero_le _) ⟨_, rfl, ?_, ?_, fun l h => absurd h (Nat.not_lt_zero l)⟩
  · rintro K k a hk ⟨μ', rfl, c1, c4, cl⟩ hK
    dsimp only
    unfold st_X2_copyFrom_L24
    refine ⟨fun c => absurd c (ge_4 hk), fun _ => ⟨vp_in_nI hk (by decide), ?_⟩⟩
    rintro a5 rfl
    refine ⟨vp_in_nI hk (by decide), ?_⟩
    rintro a7 rfl
    rw [nI_clamp (by omega)]
    refine s_X1_copyFrom k hne (fun μ2 q1 q2 q3 => ?_)
    rintro z9 rfl
    refine hK _ ⟨μ2, by rw [nI_1], fun j hj => (congrFun (q1 1 0 (by omega)) j).trans (c1 j hj), fun j hj => (congrFun (q1 4 0 (by omega)) j).trans (c4 j hj), fun l hl => ?_⟩
    by_cases e : l = k
    · subst e
      exact ⟨q2, q3⟩
    · obtain ⟨g1, g2⟩ := cl l (by omega)
      rw [q1 5 l (by omega), q1 6 l (by omega), q1 7 l (by omega)]
      exact ⟨g1, g2⟩
  · rintro K a ⟨μ', rfl, c1, c4, cl⟩
    dsimp only
    unfold st_X2_copyFrom_L24
    refine ⟨fun _ => ?_, fun c => absurd (nI_le (Nat.le_refl 4) (by decide)) c⟩
    unfold wp_X2_copyFrom_L52
    refine lpN_rel 16 (fun k a => ∃ μ', a = (nI k, sm σ m μ') ∧ (∀ j, j < 4 → μ' 1 0 j = σ m1 1 0 j) ∧ (∀ j, j < 6 → μ' 4 0 j = σ m1 4 0 j) ∧ (∀ l, l < 4 → (∀ k, 2 ≤ k → k ≤ 6 → μ' 5 l k = σ m1 5 l k) ∧ ∀ h, h < 6 → μ' 6 l h = σ m1 6 l h ∧ μ' 7 l h = σ m1 7 l h) ∧ ∀ t, t < k → (∀ k, 1 ≤ k → k ≤ 3 → μ' 8 t k = σ m1 8 t k) ∧ ∀ f, f < 6 → μ' 9 t f = σ m1 9 t f) ?_ ?_ 0 _ (Nat.zero_le _) ⟨_, rfl, c1, c4, cl, fun l h => absurd h (Nat.not_lt_zero l)⟩
    · rintro K k a hk ⟨μ', rfl, c1, c4, cl, ct⟩ hK
      dsimp only
      unfold st_X2_copyFrom_L52
      refine ⟨fun c => absurd c (ge_16 hk), fun _ => ⟨vp_in_nI hk (by decide), ?_⟩⟩
      rintro a5 rfl
      refine ⟨vp_in_nI hk (by decide), ?_⟩
      rintro a7 rfl
      rw [nI_clamp (by omega)]
      have h01 : σ m1 8 k 3 = 0 ∨ σ m1 8 k 3 = 1 := by
        rw [(hM.2.2.2.2 k hk).2.2.1]
        exact (hI.2.2.2.2.2.2 k hk).1
      refine s_X4_copyFrom k hne h01 (fun μ2 q1 q2 q3 => ?_)
      rintro z9 rfl
      refine hK _ ⟨μ2, by rw [nI_1], fun j hj => (congrFun (q1 1 0 (by omega)) j).trans (c1 j hj), fun j hj => (congrFun (q1 4 0 (by omega)) j).trans (c4 j hj), fun l hl => ?_, fun t ht => ?_⟩
      · rw [q1 5 l (by omega), q1 6 l (by omega), q1 7 l (by omega)]
        exact cl l hl
      · by_cases e : t = k
        · subst e
          exact ⟨q2, q3⟩
        · obtain ⟨g1, g2⟩ := ct t (by omega)
          rw [q1 8 t (by omega), q1 9 t (by omega)]
          exact ⟨g1, g2⟩
    · rintro K a ⟨μ', rfl, c1, c4, cl, ct⟩
      dsimp only
      unfold st_X2_copyFrom_L52
      refine ⟨fun _ => ?_, fun c => absurd (nI_le (Nat.le_refl 16) (by decide)) c⟩
      rintro σ11 rfl
      rw [sm_up, sm_ne σ _ hne]
      rintro σ12 rfl
      rw [sm_up, sm_ne σ _ hne]
      rintro σ13 rfl
      rw [sm_up, sm_ne σ _ hne]
      rintro σ14 rfl
      rw [sm_up, sm_ne σ _ hne]
      refine hq _ (MR_same hM hI (fun j hj => ?_) (fun j h4 h7 => ?_) (fun f hf => ?_) (fun l hl => ?_) (fun t ht => ?_))
      · rw [um_k _ _ (by decide), um_k _ _ (by decide), um_k _ _ (by decide), um_k _ _ (by decide)]; exact c1 j hj
      · have hk : j = 4 ∨ j = 5 ∨ j = 6 ∨ j = 7 := by omega
        rcases hk with e | e | e | e <;> subst e <;> simp [um, upd]
      · rw [um_k _ _ (by decide), um_k _ _ (by decide), um_k _ _ (by decide), um_k _ _ (by decide)]; exact c4 f hf
      · rw [um_k (a := 5) _ _ (by decide), um_k (a := 5) _ _ (by decide), um_k (a := 5) _ _ (by decide), um_k (a := 5) _ _ (by decide), um_k (a := 6) _ _ (by decide), um_k (a := 6) _ _ (by decide), um_k (a := 6) _ _ (by decide), um_k (a := 6) _ _ (by decide), um_k (a := 7) _ _ (by decide), um_k (a := 7) _ _ (by decide), um_k (a := 7) _ _ (by decide), um_k (a := 7) _ _ (by decide)]
        exact cl l hl
      · rw [um_k (a := 8) _ _ (by decide), um_k (a := 8) _ _ (by decide), um_k (a := 8) _ _ (by decide), um_k (a := 8) _ _ (by decide), um_k (a := 9) _ _ (by decide), um_k (a := 9) _ _ (by decide), um_k (a := 9) _ _ (by decide), um_k (a := 9) _ _ (by decide)]
        exact ct t ht
  · intro j hj
    rw [ur_k _ _ (by decide), ur_eq, cpy_lt hj]
  · intro j hj
    rw [ur_eq, cpy_lt hj]
end CP

/-- what MR and IR read of a row -/
theorem mk_ext {r s : Nat → Int32} (h : ∀ q, q < 194 → s q = r q) : ∀ t, t < 16 → mkR s t = mkR r t ∧ swR s t = swR r t := fun t ht => ⟨mkR_congr (fun f hf => h _ (by omega)), swR_congr (fun f hf => h _ (by omega))⟩
theorem IR_ext {r s : Nat → Int32} (h : ∀ q, q < 194 → s q = r q) (hI : IR r) : IR s := by
  obtain ⟨a0, a1, a2, a3, ⟨T, b1, b2, b3⟩, a5, a6⟩ := hI
  refine ⟨by rw [h _ (by decide)]; exact a0, by rw [h _ (by decide)]; exact a1, by rw [h _ (by decide)]; exact a2, by rw [h _ (by decide)]; exact a3, ⟨T, b1, by rw [h _ (by decide)]; exact b2, fun t h1 h2 => ?_⟩, fun l hl => ?_, fun t ht => ?_⟩
  · rw [h _ (by omega)]
    exact ⟨(b3 t h1 h2).1, fun f hf => by rw [h _ (by omega)]; exact (b3 t h1 h2).2 f hf⟩
  · obtain ⟨n, c1, c2, c3⟩ := a5 l hl
    exact ⟨n, c1, by rw [h _ (by omega)]; exact c2, fun k hk => by rw [h _ (by omega), h _ (by omega)]; exact c3 k hk⟩
  · rw [h _ (by omega)]
    exact ⟨(a6 t ht).1, fun f hf => by rw [h _ (by omega)]; exact (a6 t ht).2 f hf⟩
theorem MR_ext {μ : Nat → Nat → Nat → Int32} {r s : Nat → Int32} (h : ∀ q, q < 194 → s q = r q) (hI : IR r) (hM : MR μ r) : MR μ s := by
  obtain ⟨a0, ⟨c4, c5, c6, c7⟩, a2, a3, a4⟩ := hM
  refine ⟨fun j hj => by rw [h _ (by omega)]; exact a0 j hj, ⟨by rw [h _ (by decide)]; exact c4, by rw [h _ (by decide)]; exact c5, by rw [h _ (by decide)]; exact c6, by rw [h _ (by decide)]; exact c7⟩, fun f hf => by rw [h _ (by omega)]; exact a2 f hf, fun l hl => ?_, fun t ht => ?_⟩
  · obtain ⟨b2, b3, b4, b5, b6, b7⟩ := a3 l hl
    have hn := IR_n hI hl
    rw [h (4 + 17 * l) (by omega), h _ (by omega), h _ (by omega), h _ (by omega), h _ (by omega)]
    exact ⟨b2, b3, b4, b5, b6, fun k hk => by rw [h _ (by omega), h _ (by omega)]; exact b7 k hk⟩
  · obtain ⟨b1, b2, b3, b4⟩ := a4 t ht
    rw [(mk_ext h t ht).1, (mk_ext h t ht).2, h (73 + 7 * t) (by omega)]
    exact ⟨b1, b2, b3, fun f hf => by rw [h _ (by omega)]; exact b4 f hf⟩
def cpN (n : Nat) (f g : Nat → Int32) : Nat → Int32 := fun q => if q < n then f q else g q
theorem cpN_0 (f g : Nat → Int32) : cpN 0 f g = g := by
  funext q
  unfold cpN
  rw [if_neg (Nat.not_lt_zero q)]
theorem cpN_s (n : Nat) (f g : Nat → Int32) : upd (cpN n f g) n (f n) = cpN (n + 1) f g := by
  funext q
  unfold upd cpN
  by_cases h : q = n
  · rw [if_pos h, if_pos (by omega), h]
  · rw [if_neg h]
    by_cases h2 : q < n
    · rw [if_pos h2, if_pos (by omega)]
    · rw [if_neg h2, if_neg (by omega)]
theorem cpN_lt {n q : Nat} {f g : Nat → Int32} (h : q < n) : cpN n f g q = f q := if_pos h
theorem ge_194 {k : Nat} (h : k < 194) : ¬ (194 : Int32) ≤ nI k := nI_ge h (by decide)
section PA
variable {σ : Sg} {Q : Sg → Prop} {r d a : Nat → Int32}
end PA
/-! counts are small; reasons are not the answer 'none' -/
theorem laneC_w {n l : Nat} : ∀ {r : Nat → Int32}, ∃ W, W ≤ n ∧ (laneC n l r).2.1 = nI W := by
  induction n with
  | zero => exact fun {r} => ⟨0, Nat.le_refl 0, rfl⟩
  | succ n ih =>
    intro r
    unfold laneC
    by_cases c : rsR r l = 0
    · rw [if_pos c]
      obtain ⟨W, h1, h2⟩ := ih (r := (tryR r l).2)
      have h3 : ∃ b, b ≤ 1 ∧ (tryR r l).1 = nI b := by
        unfold tryR
        by_cases t : tearsB r l = true
        · rw [if_pos t]; exact ⟨0, by decide, rfl⟩
        · rw [if_neg t]; exact ⟨1, by decide, rfl⟩
      obtain ⟨b, h4, h5⟩ := h3
      exact ⟨b + W, by omega, by show (tryR r l).1 + _ = _; rw [h2, h5, nI_add]⟩
    · rw [if_neg c]
      exact ⟨0, Nat.zero_le _, rfl⟩
theorem laneC_rs {n l : Nat} : ∀ {r : Nat → Int32}, ¬ (laneC n l r).1 = -6 := by
  induction n with
  | zero => exact fun {r} => by show ¬ (0 : Int32) = -6; decide
  | succ n ih =>
    intro r
    unfold laneC
    by_cases c : rsR r l = 0
    · rw [if_pos c]; exact ih (r := (tryR r l).2)
    · rw [if_neg c]
      show ¬ rsR r l = -6
      unfold rsR
      repeat' split
      all_goals decide
theorem lanesC_w {n : Nat} : ∀ {k : Nat} {r d : Nat → Int32}, k + n ≤ 4 → IR r → ∃ W, W ≤ 9 * n ∧ (lanesC n k r d).1 = nI W := by
  induction n with
  | zero => exact fun _ _ => ⟨0, Nat.zero_le _, rfl⟩
  | succ n ih =>
    intro k r d hk h
    obtain ⟨h1, h2⟩ := laneC_IR (n := (r 0).toNatClampNeg) (l := k) (by omega) h
    obtain ⟨W, w1, w2⟩ := ih (k := k + 1) (d := upd d k (laneC (r 0).toNatClampNeg k r).1) (by omega) h1
    obtain ⟨V, v1, v2⟩ := laneC_w (n := (r 0).toNatClampNeg) (l := k) (r := r)
    obtain ⟨a, a1, a2, a3⟩ := h.1
    rw [a3, nI_clamp (by omega)] at v1
    exact ⟨V + W, by omega, by show _ + _ = _; rw [w2, v2, nI_add]⟩
theorem lanesC_rs {n : Nat} : ∀ {k l : Nat} {r d : Nat → Int32}, (¬ d l = -6 ∨ (k ≤ l ∧ l < k + n)) → ¬ (lanesC n k r d).2.2 l = -6 := by
  induction n with
  | zero => intro k l r d h; rcases h with h | h; exact h; omega
  | succ n ih =>
    intro k l r d h
    refine ih (k := k + 1) (l := l) (r := (laneC (r 0).toNatClampNeg k r).2.2) (d := upd d k (laneC (r 0).toNatClampNeg k r).1) ?_
    by_cases e : l = k
    · subst e
      exact Or.inl (by rw [pk_us]; exact laneC_rs)
    · rcases h with h | h
      · exact Or.inl (by rw [pk_un e]; exact h)
      · exact Or.inr (by omega)
theorem tickC_rs {l : Nat} {r d : Nat → Int32} (hl : l < 4) : ¬ (tickC r d).2.2 l = -6 := lanesC_rs (n := 4) (k := 0) (l := l) (r := r) (d := d) (Or.inr ⟨Nat.zero_le l, by omega⟩)
theorem lanesC_d {n : Nat} : ∀ {k : Nat} {r d e : Nat → Int32}, (lanesC n k r d).1 = (lanesC n k r e).1 ∧ (lanesC n k r d).2.1 = (lanesC n k r e).2.1 := by
  induction n with
  | zero => exact ⟨rfl, rfl⟩
  | succ n ih =>
    intro k r d e
    obtain ⟨h1, h2⟩ := ih (k := k + 1) (r := (laneC (r 0).toNatClampNeg k r).2.2) (d := upd d k (laneC (r 0).toNatClampNeg k r).1) (e := upd e k (laneC (r 0).toNatClampNeg k r).1)
    exact ⟨congrArg (fun z => (laneC (r 0).toNatClampNeg k r).2.1 + z) h1, h2⟩
theorem tickC_d (r d e : Nat → Int32) : (tickC r d).1 = (tickC r e).1 ∧ (tickC r d).2.1 = (tickC r e).2.1 := by
  obtain ⟨h1, h2⟩ := lanesC_d (n := 4) (k := 0) (r := r) (d := d) (e := e)
  refine ⟨h1, ?_⟩
  show upd _ 191 _ = upd _ 191 _
  rw [h2]
theorem runsC_d {n : Nat} : ∀ (r d e : Nat → Int32), (runsC n r d).1 = (runsC n r e).1 := by
  induction n with
  | zero => exact fun _ _ _ => rfl
  | succ n ih =>
    intro r d e
    obtain ⟨h1, h2⟩ := tickC_d r d e
    rw [runsC_s, runsC_s]
    show (tickC r d).1 + _ = (tickC r e).1 + _
    rw [h1, h2, ih _ (tickC r d).2.2 (tickC r e).2.2]
theorem runsC_w {n : Nat} : ∀ {r d : Nat → Int32}, n ≤ 99 → IR r → ∃ W, W ≤ 36 * n ∧ (runsC n r d).1 = nI W := by
  induction n with
  | zero => exact fun _ _ => ⟨0, Nat.zero_le _, rfl⟩
  | succ n ih =>
    intro r d hn h
    obtain ⟨V, v1, v2⟩ := lanesC_w (n := 4) (k := 0) (r := r) (d := d) (by omega) h
    obtain ⟨W, w1, w2⟩ := ih (r := (tickC r d).2.1) (d := (tickC r d).2.2) (by omega) (tickC_IR h).1
    refine ⟨V + W, by omega, ?_⟩
    rw [runsC_s]
    show (tickC r d).1 + _ = _
    rw [w2]
    show (lanesC 4 0 r d).1 + _ = _
    rw [v2, nI_add]

/-! Questions of what would be. -/
def stR : Nat → Nat → Nat → Int32 → (Nat → Int32) → (Nat → Int32) → Int32
  | 0, _, _, _, _, _ => -6
  | n + 1, v, l, y, r, d => if (tickC r d).2.2 l = 0 then stR n (v + 1) l y (tickC r d).2.1 (tickC r d).2.2 else if y = 0 then nI v else (tickC r d).2.2 l
theorem stR_s (n v l : Nat) (y : Int32) (r d : Nat → Int32) : stR (n + 1) v l y r d = if (tickC r d).2.2 l = 0 then stR n (v + 1) l y (tickC r d).2.1 (tickC r d).2.2 else if y = 0 then nI v else (tickC r d).2.2 l := rfl
theorem runsC_1 (r d : Nat → Int32) : (runsC 1 r d).2 = (tickC r d).2 := rfl
theorem lt_200 {k : Nat} (h : k < 200) : ¬ (200 : Int32) < nI (k + 1) := show ¬ nI 200 < nI (k + 1) from nI_nlt (by omega) (by decide)
theorem tryR_hi {r : Nat → Int32} {l j : Nat} (hI : IR r) (hl : l < 4) (h : rsR r l = 0) (hj : 194 ≤ j) : (tryR r l).2 j = r j := by
  obtain ⟨h0, f, t, T, hf, ef, ht, hT2, hT, etf, etk⟩ := rs_0 hI hl h
  unfold tryR
  split
  · show tornR (pullR r l) l j = r j
    unfold tornR
    rw [pk_un (by omega), pk_un (by omega), pullR_ne r (by omega) (by omega) (by omega)]
  · show wrapR (pullR r l) l _ _ j = r j
    rw [ef, nI_clamp (by omega), etf, nI_clamp (by omega)]
    obtain ⟨n, hn, he, -⟩ := hI.2.2.2.2.2.1 l hl
    have hn0 : 0 < n := Nat.pos_of_ne_zero (fun z => h0 (by rw [he, z]; rfl))
    have e : (pullR r l (4 + 17 * l)).toNatClampNeg = n := by rw [pullR_ne r (by omega) (by omega) (by omega), he]; exact nI_clamp (by omega)
    unfold wrapR addT
    rw [pk_un (by omega), pk_un (by omega), takeR_out (by omega) (by omega) (by omega), pullR_ne r (by omega) (by omega) (by omega)]
theorem laneC_hi {n l j : Nat} (hl : l < 4) (hj : 194 ≤ j) : ∀ {r : Nat → Int32}, IR r → (laneC n l r).2.2 j = r j := by
  induction n with
  | zero => exact fun _ => rfl
  | succ n ih =>
    intro r h
    unfold laneC
    by_cases c : rsR r l = 0
    · rw [if_pos c]
      exact (ih (IR_try h hl c)).trans (tryR_hi h hl c hj)
    · rw [if_neg c]
theorem lanesC_hi {n j : Nat} (hj : 194 ≤ j) : ∀ {k : Nat} {r d : Nat → Int32}, k + n ≤ 4 → IR r → (lanesC n k r d).2.1 j = r j := by
  induction n with
  | zero => exact fun _ _ => rfl
  | succ n ih =>
    intro k r d hk h
    exact (ih (k := k + 1) (d := upd d k (laneC (r 0).toNatClampNeg k r).1) (by omega) (laneC_IR (n := (r 0).toNatClampNeg) (l := k) (by omega) h).1).trans (laneC_hi (by omega) hj h)
theorem runsC_hi {n j : Nat} (hj : 194 ≤ j) : ∀ {r d : Nat → Int32}, IR r → (runsC n r d).2.1 j = r j := by
  induction n with
  | zero => exact fun _ => rfl
  | succ n ih =>
    intro r d h
    refine (ih (r := (tickC r d).2.1) (d := (tickC r d).2.2) (tickC_IR h).1).trans ?_
    show upd (lanesC 4 0 r d).2.1 191 _ j = r j
    rw [pk_un (by omega)]
    exact lanesC_hi hj (by omega) h
section WI
variable {σ : Sg} {P : Int32 → Int32 → Sg → Prop} {Q : Int32 → Sg → Prop} {r d : Nat → Int32} {μ : Nat → Nat → Nat → Int32}
theorem s_X5_standsL {x y : Int32} (l : Nat) (hl : l < 4) (e1 : x = nI l := by rfl) (hM : MR μ r) (hI : IR r) (hq : ∀ μ', Q (stR 200 1 l y r d) (sm σ 1 μ')) : wp_X5_stands_L35 x y Q 1 (sm σ 1 μ) := by
  subst e1
  unfold wp_X5_stands_L35
  refine lpN_rel 200 (fun k a => ∃ μ' r' d', a = (nI (k + 1), sm σ 1 μ') ∧ MR μ' r' ∧ IR r' ∧ stR 200 1 l y r d = stR (200 - k) (k + 1) l y r' d') ?_ ?_ 0 _ (Nat.zero_le _) ⟨μ, r, d, rfl, hM, hI, rfl⟩
  · rintro K k a hk ⟨μ', r', d', rfl, hM', hI', he⟩ hK
    dsimp only
    unfold st_X5_stands_L35
    refine ⟨fun c => absurd c (lt_200 hk), fun _ => ?_⟩
    refine s_X2_work 1 (by decide) d' hM' hI' rfl (fun μ2 hM2 hst => ?_)
    refine ⟨vp_in_nI hl (by decide), ?_⟩
    intro a11 e11
    rw [nI_clamp (by omega)] at e11
    subst e11
    rintro z12 rfl
    rw [sm_m, hst (by decide) a11 hl, runsC_1]
    rw [runsC_1] at hM2
    rw [show 200 - k = (199 - k) + 1 by omega, stR_s (199 - k)] at he
    refine ⟨fun c => ?_, fun c => ⟨fun g => ?_, fun g => ?_⟩⟩
    · rintro z14 rfl
      rw [if_pos c] at he
      exact hK _ ⟨μ2, _, (tickC r' d').2.2, by rw [nI_1], hM2, (tickC_IR hI').1, by rw [he, show 200 - (k + 1) = 199 - k by omega]⟩
    · rw [if_neg c, if_neg g] at he
      have := hq μ2
      rw [he] at this
      exact this
    · rw [if_neg c, if_pos g] at he
      have := hq μ2
      rw [he] at this
      exact this
  · rintro K a ⟨μ', r', d', rfl, hM', hI', he⟩
    dsimp only
    unfold st_X5_stands_L35
    refine ⟨fun _ => ?_, fun c => absurd (show nI 200 < nI (200 + 1) by decide) c⟩
    have := hq μ'
    rw [he] at this
    exact this
/-- the best speed: after the first one -/
def bsW (n : Nat) (r : Nat → Int32) (v : Nat) : Int32 := (runsC n (upd r 0 (nI v)) (fun _ => 0)).1
def bsN (n : Nat) (r : Nat → Int32) : Nat → Int32 × Int32
  | 0 => (nI 1, bsW n r 1)
  | k + 1 => if bsW n r (k + 2) ≤ (bsN n r k).2 then bsN n r k else (nI (k + 2), bsW n r (k + 2))
theorem IR_speed {v : Nat} (h1 : 1 ≤ v) (h9 : v ≤ 9) (hI : IR r) : IR (upd r 0 (nI v)) := by
  have e : setR r 0 (nI v) = (r 0, upd r 0 (nI v)) := by
    unfold setR
    rw [if_neg (by rw [show (0 : Int32) = nI 0 from rfl, ob_0 (by decide) (by decide)]; decide)]
    have e2 : otB (nI v) (lst (0 : Int32).toNatClampNeg) (mst (0 : Int32).toNatClampNeg) = false := by
      show (decide (nI v < nI 1) || decide (nI 9 < nI v)) = false
      rw [decide_eq_false (nI_nlt (by omega) (by omega)), decide_eq_false (nI_nlt (by omega) (by omega))]
      rfl
    rw [if_neg (by rw [e2]; decide)]
    rfl
  have := IR_set (x := 0) (y := nI v) hI
  rw [e] at this
  exact this
theorem bs_w {n v : Nat} (hn : n ≤ 50) (h1 : 1 ≤ v) (h9 : v ≤ 9) (hI : IR r) (d : Nat → Int32) : (runsC n (upd r 0 (nI v)) d).1 = bsW n r v ∧ ¬ bsW n r v ≤ -1 ∧ ¬ bsW n r v ≤ -6 := by
  have e : (runsC n (upd r 0 (nI v)) d).1 = bsW n r v := runsC_d _ _ _
  obtain ⟨W, w1, w2⟩ := runsC_w (n := n) (d := fun _ => 0) (by omega) (IR_speed h1 h9 hI)
  have e2 : bsW n r v = nI W := w2
  refine ⟨e, ?_, ?_⟩
  · rw [e2]
    intro c
    exact nI_pos (by omega) (Int32.lt_of_le_of_lt c (by decide))
  · rw [e2]
    intro c
    exact nI_pos (by omega) (Int32.lt_of_le_of_lt c (by decide))
/-- one more speed, from what is best so far -/
theorem bs_step {n k : Nat} {v3 v4 m0 : Int32} (hm : ¬ bsW n r (k + 1) ≤ m0 ∨ 0 < k) (hj : (k = 0 ∧ v4 = m0) ∨ ∃ k', k = k' + 1 ∧ (v3, v4) = bsN n r k') : (bsW n r (k + 1) ≤ v4 → ∃ k', k + 1 = k' + 1 ∧ (v3, v4) = bsN n r k') ∧ (¬ bsW n r (k + 1) ≤ v4 → ∃ k', k + 1 = k' + 1 ∧ (nI (k + 1), bsW n r (k + 1)) = bsN n r k') := by
  rcases hj with ⟨e0, e4⟩ | ⟨k', ek, e⟩
  · subst e0; subst e4
    refine ⟨fun c => ?_, fun _ => ⟨0, rfl, rfl⟩⟩
    rcases hm with hm | hm
    · exact absurd c hm
    · omega
  · subst ek
    have e4 : v4 = (bsN n r k').2 := congrArg Prod.snd e
    refine ⟨fun c => ⟨k' + 1, rfl, ?_⟩, fun c => ⟨k' + 1, rfl, ?_⟩⟩
    · rw [bsN, if_pos (by rw [← e4]; exact c)]; exact e
    · rw [bsN, if_neg (by rw [← e4]; exact c)]
end WI

/-! The history, on both sides. -/
theorem up_m {σ : Sg} {m k i j a : Nat} {x : Int32} (h : a ≠ m) : up σ m k i j x a = σ a := by
  funext b c
  show (if a = m ∧ b = k ∧ c = i then _ else σ a b c) = _
  rw [if_neg (fun z => h z.1)]
theorem up_k {σ : Sg} {m k i j b : Nat} {x : Int32} (h : b ≠ k) : up σ m k i j x m b = σ m b := by
  funext c
  show (if m = m ∧ b = k ∧ c = i then _ else σ m b c) = _
  rw [if_neg (fun z => h z.2.1)]
theorem up_r {σ : Sg} {m k i j : Nat} {x : Int32} : up σ m k i j x m k i = upd (σ m k i) j x := by
  show (if m = m ∧ k = k ∧ i = i then _ else _) = _
  rw [if_pos ⟨rfl, rfl, rfl⟩]
theorem up_j {σ : Sg} {m k i j c : Nat} {x : Int32} (h : c ≠ j) : up σ m k i j x m k i c = σ m k i c := by
  rw [up_r, pk_un h]
theorem up_e {σ : Sg} {m k i j : Nat} {x : Int32} : up σ m k i j x m k i j = x := by
  rw [up_r, pk_us]
theorem ua_r {σ : Sg} {m k i : Nat} {f : Nat → Int32} : ua σ m k i f m k i = f := by
  show (if m = m ∧ k = k ∧ i = i then _ else _) = _
  rw [if_pos ⟨rfl, rfl, rfl⟩]
theorem ua_m {σ : Sg} {m k i a : Nat} {f : Nat → Int32} (h : a ≠ m) : ua σ m k i f a = σ a := by
  funext b c
  show (if a = m ∧ b = k ∧ c = i then _ else σ a b c) = _
  rw [if_neg (fun z => h z.1)]
theorem ua_k {σ : Sg} {m k i b : Nat} {f : Nat → Int32} (h : b ≠ k) : ua σ m k i f m b = σ m b := by
  funext c
  show (if m = m ∧ b = k ∧ c = i then _ else σ m b c) = _
  rw [if_neg (fun z => h z.2.1)]
theorem ua_up {σ : Sg} {m k i j : Nat} {f : Nat → Int32} {x : Int32} : up (ua σ m k i f) m k i j x = ua σ m k i (upd f j x) := by
  unfold up
  rw [ua_r]
  funext a b c
  unfold ua
  split <;> rfl
theorem ua_self (σ : Sg) (m k i : Nat) : ua σ m k i (σ m k i) = σ := by
  funext a b c
  unfold ua
  split
  · next h => rw [h.1, h.2.1, h.2.2]
  · rfl
def PM (p : Nat → Nat) : Prop := (∀ j, j < 7 → 2 ≤ p j ∧ p j ≤ 8) ∧ (∀ i j, i < 7 → j < 7 → p i = p j → i = j)
theorem PM_comp {p : Nat → Nat} (h : PM p) (s : Nat → Nat) (h1 : ∀ j, j < 7 → s j < 7) (h2 : ∀ i j, i < 7 → j < 7 → s i = s j → i = j) : PM (fun j => p (s j)) :=
  ⟨fun j hj => h.1 _ (h1 j hj), fun i j hi hj e => h2 i j hi hj (h.2 _ _ (h1 i hi) (h1 j hj) e)⟩
def CH (σ : Sg) (p : Nat → Nat) (D : Nat) (b : Nat → Nat → Int32) : Prop := PM p ∧ (∀ j, j < 6 → σ 11 12 0 j = nI (p j)) ∧ σ 11 11 0 1 = nI (p 6) ∧ D ≤ 6 ∧ σ 11 11 0 2 = nI D ∧ ∀ j, j < D → MR (σ (p j)) (b j) ∧ IR (b j)
def nxt (D : Nat) : Nat := if D = 6 then 6 else D + 1
def psh (D : Nat) (b : Nat → Nat → Int32) (s : Nat → Int32) : Nat → Nat → Int32 := fun j => if D = 6 then (if j = 5 then s else b (j + 1)) else if j = D then s else b j
section HI
variable {τ : Sg} {p : Nat → Nat} {D : Nat} {b : Nat → Nat → Int32} {s : Nat → Int32}
theorem s_rec19 {Q : Int32 → Sg → Prop} {a : Int32} (hC : CH τ p D b) (hD : D < 6) (hMs : MR (τ (p 6)) s) (hIs : IR s) (hq : ∀ τ' p', (∀ m, m ≠ 11 → τ' m = τ m) → (∀ k, k ≠ 11 → k ≠ 12 → τ' 11 k = τ 11 k) → CH τ' p' (D + 1) (fun j => if j = D then s else b j) → Q a τ') : wp_X0_record_b19 a Q τ := by
  obtain ⟨c1, c2, c3, c4, c5, c6⟩ := hC
  unfold wp_X0_record_b19
  rw [c5]
  refine s_X5_isIndex ?_
  rw [if_neg (nI_pos (by omega)), if_neg (ge_6 hD)]
  refine ⟨fun _ => ?_, fun c => absurd c (by decide)⟩
  rw [c5, nI_clamp (by omega), c2 D hD]
  refine ⟨vp_in_nI hD (by decide), ?_⟩
  have pD := c1.1 D (by omega)
  have p6 := c1.1 6 (by omega)
  intro b8 e8
  rw [nI_clamp (by omega)] at e8
  subst e8
  refine ⟨by omega, ?_⟩
  intro b9 e9
  rw [c3, nI_clamp (by omega)] at e9
  subst e9
  refine ⟨by omega, vp_in_nI hD (by decide), ?_⟩
  rintro σ10 rfl σ11 rfl σ12 rfl
  have sw : ∀ j, j < 7 → (if j = D then 6 else if j = 6 then D else j) < 7 := by
    intro j hj
    split
    · omega
    · split <;> omega
  refine hq _ (fun j => p (if j = D then 6 else if j = 6 then D else j)) (fun m hm => ?_) (fun k h1 h2 => ?_) ⟨PM_comp c1 _ sw ?_, fun j hj => ?_, ?_, by omega, ?_, fun j hj => ?_⟩
  · rw [up_m hm, up_m hm, up_m hm]
  · rw [up_k h1, up_k h1, up_k h2]
  · intro i j hi hj e
    split at e <;> split at e <;> (try split at e) <;> (try split at e) <;> omega
  · dsimp only
    rw [up_k (by decide), up_k (by decide), up_r]
    by_cases e : j = D
    · rw [e, pk_us, if_pos rfl]
    · rw [pk_un e, if_neg e, if_neg (by omega)]
      exact c2 j hj
  · dsimp only
    rw [up_j (by decide), up_e, if_neg (by omega), if_pos rfl]
  · rw [up_e, up_j (by decide), up_k (by decide), c5, nI_1]
  · have q1 := c1.1 _ (sw j (by omega))
    dsimp only
    rw [up_m (by omega), up_m (by omega), up_m (by omega)]
    by_cases e : j = D
    · rw [if_pos e, if_pos e]
      exact ⟨hMs, hIs⟩
    · rw [if_neg e, if_neg e, if_neg (by omega)]
      exact c6 j (by omega)
theorem s_X0_dropOldest {Q : Sg → Prop} (hC : CH τ p 6 b) (hq : ∀ τ' p', (∀ m, m ≠ 11 → τ' m = τ m) → (∀ k, k ≠ 11 → k ≠ 12 → τ' 11 k = τ 11 k) → p' 6 = p 6 → CH τ' p' 5 (fun j => b (j + 1)) → Q τ') : wp_X0_dropOldest τ Q := by
  obtain ⟨c1, c2, c3, c4, c5, c6⟩ := hC
  unfold wp_X0_dropOldest
  have p0 := c1.1 0 (by omega)
  intro b2 e2
  rw [show ((0 : Int32).toNatClampNeg) = 0 from rfl, c2 0 (by decide), nI_clamp (by omega)] at e2
  subst e2
  refine ⟨by omega, ?_⟩
  unfold wp_X0_dropOldest_L9
  refine lpN_rel 5 (fun k z => z = (p 0, nI k, ua τ 11 12 0 (shL (τ 11 12 0) k))) ?_ ?_ 0 _ (Nat.zero_le _) (by rw [shL_0, ua_self]; rfl)
  · rintro K k z hk rfl hK
    dsimp only
    unfold st_X0_dropOldest_L9
    refine ⟨by omega, ?_⟩
    rw [nI_1]
    refine ⟨fun c => absurd c (ge_6 (by omega)), fun _ => ⟨vp_in_nI (by omega) (by decide), ?_⟩⟩
    have e : shL (τ 11 12 0) k (k + 1) = nI (p (k + 1)) := by
      unfold shL
      rw [if_neg (by omega)]
      exact c2 (k + 1) (by omega)
    have pk := c1.1 (k + 1) (by omega)
    intro b7 e7
    rw [nI_clamp (by omega), ua_r, e, nI_clamp (by omega)] at e7
    refine ⟨by omega, vp_in_nI (by omega) (by decide), ?_⟩
    rintro σ8 rfl z9 rfl
    rw [e7, nI_clamp (by omega), ua_up, ← e, shL_s]
    exact hK _ rfl
  · rintro K z rfl
    dsimp only
    unfold st_X0_dropOldest_L9
    refine ⟨by omega, fun _ => ?_, fun c => absurd (show (6 : Int32) ≤ nI 5 + 1 by decide) c⟩
    rintro σ4 rfl σ5 rfl
    rw [ua_up]
    refine hq _ (fun j => p (if j < 5 then j + 1 else if j = 5 then 0 else 6)) (fun m hm => ?_) (fun k h1 h2 => ?_) rfl ⟨PM_comp c1 _ (fun j hj => ?_) (fun i j hi hj e => ?_), fun j hj => ?_, ?_, by decide, ?_, fun j hj => ?_⟩
    · rw [up_m hm, ua_m hm]
    · rw [up_k h1, ua_k h2]
    · split
      · omega
      · split <;> omega
    · split at e <;> split at e <;> (try split at e) <;> (try split at e) <;> omega
    · dsimp only
      rw [up_k (by decide), ua_r]
      by_cases e : j = 5
      · rw [e, pk_us]; rfl
      · rw [pk_un e, if_pos (by omega)]
        unfold shL
        rw [if_pos (by omega)]
        exact c2 (j + 1) (by omega)
    · rw [up_j (by decide), ua_k (by decide)]
      exact c3
    · rw [up_e]; rfl
    · have q1 := c1.1 (j + 1) (by omega)
      show MR (up _ 11 11 0 2 5 (p (if j < 5 then j + 1 else if j = 5 then 0 else 6))) (b (j + 1)) ∧ IR (b (j + 1))
      rw [if_pos hj, up_m (by omega), ua_m (by omega)]
      exact c6 (j + 1) (by omega)
theorem s_X0_record {Q : Int32 → Sg → Prop} {a : Int32} (hC : CH τ p D b) (hMs : MR (τ (p 6)) s) (hIs : IR s) (ha : ¬ a < 0) (hq : ∀ τ' p', (∀ m, m ≠ 11 → τ' m = τ m) → (∀ k, k ≠ 11 → k ≠ 12 → τ' 11 k = τ 11 k) → CH τ' p' (nxt D) (psh D b s) → Q a τ') : wp_X0_record a τ Q := by
  have c5 := hC.2.2.2.2.1
  have c4 := hC.2.2.2.1
  unfold wp_X0_record
  rw [c5]
  refine ⟨fun _ => ⟨fun c => ?_, fun c => ?_⟩, fun c => absurd (Int32.not_lt.mp ha) c⟩
  · have hD : D < 6 := (nI_ltI (a := D) (b := 6) (by omega) (by decide)).mp c
    refine s_rec19 hC hD hMs hIs (fun τ' p' h1 h2 h3 => hq τ' p' h1 h2 ?_)
    have e1 : nxt D = D + 1 := if_neg (by omega)
    have e2 : psh D b s = fun j => if j = D then s else b j := by
      funext j
      unfold psh
      rw [if_neg (by omega)]
    rw [e1, e2]
    exact h3
  · have hD : D = 6 := by
      by_cases q : D < 6
      · exact absurd ((nI_ltI (a := D) (b := 6) (by omega) (by decide)).mpr q) c
      · omega
    subst hD
    refine s_X0_dropOldest hC (fun τ1 p1 h1 h2 h6 h3 => ?_)
    have p6 := hC.1.1 6 (by omega)
    refine s_rec19 h3 (by decide) (s := s) (by rw [h6, h1 _ (by omega)]; exact hMs) hIs (fun τ' p' g1 g2 g3 => hq τ' p' (fun m hm => (g1 m hm).trans (h1 m hm)) (fun k k1 k2 => (g2 k k1 k2).trans (h2 k k1 k2)) ?_)
    have e1 : nxt 6 = 6 := rfl
    have e2 : psh 6 b s = fun j => if j = 5 then s else b (j + 1) := rfl
    rw [e1, e2]
    exact g3
/-- the reference's record -/
def mvN (k : Nat) (B : Nat → Int32) : Nat → Int32 := fun q => if q < k then B (194 + q) else B q
theorem mvN_s (k : Nat) (B : Nat → Int32) : upd (mvN k B) k (mvN k B (194 + k)) = mvN (k + 1) B := by
  funext q
  unfold upd mvN
  by_cases h : q = k
  · rw [if_pos h, if_neg (by omega), if_pos (by omega), h]
  · rw [if_neg h]
    by_cases h2 : q < k
    · rw [if_pos h2, if_pos (by omega)]
    · rw [if_neg h2, if_neg (by omega)]
def wrN (o k : Nat) (r B : Nat → Int32) : Nat → Int32 := fun q => if o ≤ q ∧ q < o + k then r (q - o) else B q
theorem wrN_0 (o : Nat) (r B : Nat → Int32) : wrN o 0 r B = B := by
  funext q
  unfold wrN
  rw [if_neg (by omega)]
theorem wrN_s (o k : Nat) (r B : Nat → Int32) : upd (wrN o k r B) (o + k) (r k) = wrN o (k + 1) r B := by
  funext q
  unfold upd wrN
  by_cases h : q = o + k
  · rw [if_pos h, if_pos (by omega), show q - o = k by omega]
  · rw [if_neg h]
    by_cases h2 : o ≤ q ∧ q < o + k
    · rw [if_pos h2, if_pos (by omega)]
    · rw [if_neg h2, if_neg (by omega)]
theorem wr_read {o j q : Nat} {r B : Nat → Int32} (hq : q < 194) : wrN (194 * o) 194 r B (194 * j + q) = if j = o then r q else B (194 * j + q) := by
  unfold wrN
  by_cases e : j = o
  · subst e
    rw [if_pos (by omega), if_pos rfl, show 194 * j + q - 194 * j = q by omega]
  · rw [if_neg e, if_neg (by omega)]
end HI

/-! A change, recorded on both sides. -/
theorem cpN_ge {n q : Nat} {f g : Nat → Int32} (h : n ≤ q) : cpN n f g q = g q := if_neg (by omega)
theorem CH_congr {σ φ : Sg} {p : Nat → Nat} {D : Nat} {b : Nat → Nat → Int32} (hC : CH σ p D b) (h1 : φ 11 11 = σ 11 11) (h2 : φ 11 12 = σ 11 12) (hm : ∀ j, j < D → φ (p j) = σ (p j)) : CH φ p D b := by
  obtain ⟨c1, c2, c3, c4, c5, c6⟩ := hC
  exact ⟨c1, by rw [h2]; exact c2, by rw [h1]; exact c3, c4, by rw [h1]; exact c5, fun j hj => by rw [hm j hj]; exact c6 j hj⟩

