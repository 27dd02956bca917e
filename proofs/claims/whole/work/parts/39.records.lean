/-! A change, recorded on both sides. -/
theorem cpN_ge {n q : Nat} {f g : Nat → Int32} (h : n ≤ q) : cpN n f g q = g q := if_neg (by omega)
theorem q3_m {τ : Sg} {a d r : Nat → Int32} {m : Nat} (h : m ≠ 12) : sr (sd (sa τ a) d) r m = τ m := by
  rw [sr_ne _ _ h]
  unfold sd sa
  rw [ua_m h, ua_m h]
theorem q3_k {τ : Sg} {a d r : Nat → Int32} {k : Nat} (h1 : k ≠ 19) (h2 : k ≠ 20) (h3 : k ≠ 25) : sr (sd (sa τ a) d) r 12 k = τ 12 k := by
  rw [sr_ne2 _ _ h1]
  unfold sd sa
  rw [ua_k h3, ua_k h2]
section EN
variable {τ : Sg} {Q : Int32 → Sg → Prop} {D : Nat}
theorem s_X6_end_neg {a : Int32} (h : a < 0) (hq : Q a τ) : wp_X6_end a τ Q := ⟨fun _ => hq, fun c => absurd h c⟩
theorem s_X6_end {v : Int32} (hv : ¬ v < 0) (hD : D ≤ 6) (hk : τ 12 18 0 3 = nI D) (hq : ∀ τ', (∀ m, m ≠ 12 → τ' m = τ m) → (∀ k, k ≠ 18 → k ≠ 19 → k ≠ 20 → k ≠ 21 → k ≠ 25 → τ' 12 k = τ 12 k) → (∀ j, j ≠ 3 → τ' 12 18 0 j = τ 12 18 0 j) → τ' 12 18 0 3 = nI (nxt D) → (∀ q, q < 194 → τ' 12 19 0 q = τ 12 19 0 q) → (∀ j q, j < nxt D → q < 194 → τ' 12 21 0 (194 * j + q) = psh D (bfR τ) (τ 12 20 0) j q) → Q v τ') : wp_X6_end v τ Q := by
  refine ⟨fun c => absurd c hv, fun _ => ?_⟩
  unfold wp_X6_end_L6
  have hs : sr (sd (sa τ (cpN 0 (τ 12 19 0) (τ 12 20 0))) (τ 12 25 0)) (cpN 0 (τ 12 20 0) (τ 12 19 0)) = τ := by rw [cpN_0, cpN_0]; exact sa_self τ
  refine lpN_rel 194 (fun k z => z = (nI k, sr (sd (sa τ (cpN k (τ 12 19 0) (τ 12 20 0))) (τ 12 25 0)) (cpN k (τ 12 20 0) (τ 12 19 0)))) ?_ ?_ 0 _ (Nat.zero_le _) (by rw [hs]; rfl)
  · rintro K k z hk2 rfl hK
    dsimp only
    unfold st_X6_end_L6
    rw [nI_clamp (n := k) (by omega)]
    refine ⟨fun c => absurd c (ge_194 hk2), fun _ => ⟨vp_in_nI hk2 (by decide), ?_⟩⟩
    rintro z4 rfl
    refine ⟨vp_in_nI hk2 (by decide), vp_in_nI hk2 (by decide), ?_⟩
    rintro σ5 rfl
    refine ⟨vp_in_nI hk2 (by decide), ?_⟩
    rintro σ6 rfl z7 rfl
    rw [sa_row, sr_row, cpN_ge (Nat.le_refl k), cpN_ge (Nat.le_refl k), sr_up, cpN_s, sa_up, cpN_s, nI_1]
    exact hK _ rfl
  · rintro K z rfl
    dsimp only
    unfold st_X6_end_L6
    refine ⟨fun _ => ?_, fun c => absurd (nI_le (Nat.le_refl 194) (by decide)) c⟩
    refine s_X6_record hD (by rw [q3_k (by decide) (by decide) (by decide)]; exact hk) (fun τ2 h1 h2 h3 h4 h5 => ?_)
    unfold wp_X6_end_L51
    refine lpN_rel 194 (fun k z => z = (nI k, sr τ2 (cpN k (τ2 12 20 0) (τ2 12 19 0)))) ?_ ?_ 0 _ (Nat.zero_le _) (by rw [cpN_0]; show _ = (nI 0, sr τ2 (τ2 12 19 0)); rw [show sr τ2 (τ2 12 19 0) = τ2 from ua_self τ2 12 19 0]; rfl)
    · rintro K k z hk2 rfl hK
      dsimp only
      unfold st_X6_end_L51
      rw [nI_clamp (n := k) (by omega)]
      refine ⟨fun c => absurd c (ge_194 hk2), fun _ => ⟨vp_in_nI hk2 (by decide), vp_in_nI hk2 (by decide), ?_⟩⟩
      rintro σ9 rfl z10 rfl
      rw [sr_up, sr_ne2 (b := 20) _ _ (by decide), cpN_s, nI_1]
      exact hK _ rfl
    · rintro K z rfl
      dsimp only
      unfold st_X6_end_L51
      refine ⟨fun _ => ?_, fun c => absurd (nI_le (Nat.le_refl 194) (by decide)) c⟩
      refine hq _ (fun m hm => ?_) (fun k k1 k2 k3 k4 k5 => ?_) (fun j hj => ?_) ?_ (fun q hq2 => ?_) (fun j q hj hq2 => ?_)
      · rw [sr_ne _ _ hm, h1 m hm, q3_m hm]
      · rw [sr_ne2 _ _ k2, h2 k k1 k4, q3_k k2 k3 k5]
      · rw [sr_ne2 _ _ (by decide), h3 j hj, q3_k (by decide) (by decide) (by decide)]
      · rw [sr_ne2 _ _ (by decide)]; exact h4
      · rw [sr_row, cpN_lt hq2, h2 20 (by decide) (by decide), sa_row, cpN_lt hq2]
      · rw [sr_ne2 _ _ (by decide), h5 j q hj hq2, sr_row]
        have e : bfR (sr (sd (sa τ (cpN 194 (τ 12 19 0) (τ 12 20 0))) (τ 12 25 0)) (cpN 194 (τ 12 20 0) (τ 12 19 0))) = bfR τ := by
          funext j q
          unfold bfR
          rw [q3_k (by decide) (by decide) (by decide)]
        rw [e]
        unfold psh
        have ec : cpN 194 (τ 12 20 0) (τ 12 19 0) q = τ 12 20 0 q := cpN_lt hq2
        by_cases c : D = 6
        · rw [if_pos c, if_pos c]
          by_cases g : j = 5
          · rw [if_pos g, if_pos g]; exact ec
          · rw [if_neg g, if_neg g]
        · rw [if_neg c, if_neg c]
          by_cases g : j = D
          · rw [if_pos g, if_pos g]; exact ec
          · rw [if_neg g, if_neg g]
end EN
theorem CH_of {σ : Sg} {p : Nat → Nat} {D : Nat} (h : RH σ p D) : CH σ p D (bfR σ) := ⟨⟨h.1, h.2.1⟩, h.2.2.1, h.2.2.2.1, h.2.2.2.2.1, h.2.2.2.2.2.1, h.2.2.2.2.2.2.2⟩
theorem RH_of {φ : Sg} {p : Nat → Nat} {D : Nat} {b : Nat → Nat → Int32} (hC : CH φ p D b) (hk : φ 12 18 0 3 = nI D) (hb : ∀ j q, j < D → q < 194 → φ 12 21 0 (194 * j + q) = b j q) : RH φ p D :=
  ⟨hC.1.1, hC.1.2, hC.2.1, hC.2.2.1, hC.2.2.2.1, hC.2.2.2.2.1, hk, fun j hj => ⟨MR_ext (fun q hq => hb j q hj hq) (hC.2.2.2.2.2 j hj).2 (hC.2.2.2.2.2 j hj).1, IR_ext (fun q hq => hb j q hj hq) (hC.2.2.2.2.2 j hj).2⟩⟩
theorem CH_congr {σ φ : Sg} {p : Nat → Nat} {D : Nat} {b : Nat → Nat → Int32} (hC : CH σ p D b) (h1 : φ 11 11 = σ 11 11) (h2 : φ 11 12 = σ 11 12) (hm : ∀ j, j < D → φ (p j) = σ (p j)) : CH φ p D b := by
  obtain ⟨c1, c2, c3, c4, c5, c6⟩ := hC
  exact ⟨c1, by rw [h2]; exact c2, by rw [h1]; exact c3, c4, by rw [h1]; exact c5, fun j hj => by rw [hm j hj]; exact c6 j hj⟩
theorem Rel_mk {σ φ : Sg} (h : Rel σ) (hm : ∀ m, m = 9 ∨ m = 10 → φ m = σ m) (hk : ∀ k, k = 13 ∨ k = 14 ∨ k = 15 ∨ k = 16 → φ 11 k = σ 11 k) (h2 : ∀ k, k = 22 ∨ k = 23 ∨ k = 24 → φ 12 k = σ 12 k) (h7 : φ 12 18 0 7 = σ 12 18 0 7) (hN : RN φ) (hH : ∃ p D, RH φ p D) : Rel φ := by
  obtain ⟨-, -, s, L, l1, l2, l3, l4⟩ := h
  refine ⟨hN, hH, fun j hj => ?_, L, l1, ?_, ?_, fun j hj => ?_⟩
  · have e : kpR φ j = kpR σ j := by unfold kpR; rw [h2 22 (by decide)]
    rw [e, hm (9 + j) (by omega), hk 13 (by decide), hk 14 (by decide), h2 23 (by decide)]
    exact s j hj
  · rw [hk 15 (by decide)]; exact l2
  · rw [h7]; exact l3
  · rw [hk 16 (by decide), h2 24 (by decide)]; exact l4 j hj
section PC
variable {σ : Sg} {P : Int32 → Int32 → Sg → Prop}
theorem s_prep {p : Nat → Nat} {D : Nat} {Q : Sg → Prop} {s : Nat → Int32} (hH : RH σ p D) (hM : MR (σ 0) s) (hI : IR s) (hq : ∀ ν, MR ν s → Q (sm σ (p 6) ν)) : wp_X0_prepare 0 σ Q := by
  have p6 := hH.1 6 (by omega)
  unfold wp_X0_prepare
  intro b1 e1
  rw [hH.2.2.2.1, nI_clamp (by omega)] at e1
  subst e1
  refine ⟨by omega, ?_⟩
  have hc := s_X2_copyFrom (σ := σ) (m := p 6) (m1 := 0) (μ := σ (p 6)) (Q := Q) (by omega) hM hI
  rw [sm_self] at hc
  exact hc hq
theorem pr_change {cls ref : Sg → (Int32 → Sg → Prop) → Prop} {A : Int32} {r' : Nat → Int32} (h : Rel σ)
    (hc : ∀ (σ' : Sg) (μ : Nat → Nat → Nat → Int32) (Q : Int32 → Sg → Prop), MR μ (σ 12 19 0) → (∀ μ', MR μ' r' → Q A (sm σ' 0 μ')) → cls (sm σ' 0 μ) Q)
    (hr : ∀ (σ' : Sg) (d : Nat → Int32) (Q : Int32 → Sg → Prop), (∀ d', Q A (sr (sd σ' d') r')) → ref (sr (sd σ' d) (σ 12 19 0)) Q)
    (hI' : IR r') (hP : ∀ v τ, Rel τ → P v v τ) :
    wp_X0_prepare 0 σ (fun σ1 => cls σ1 (fun r2 σ3 => wp_X0_record r2 σ3 (fun a σ5 => wp_X6_putAside σ5 (fun σ6 => ref σ6 (fun r7 σ8 => wp_X6_end r7 σ8 (fun b σ9 => P a b σ9)))))) := by
  obtain ⟨⟨hM, hI⟩, ⟨p, D, hH⟩, hS, hL⟩ := id h
  have hpm := hH.1
  have hpi := hH.2.1
  have hD := hH.2.2.2.2.1
  refine s_prep hH hM hI (fun ν hν => ?_)
  have p6 := hpm 6 (by omega)
  have hc2 := hc (sm σ (p 6) ν) (sm σ (p 6) ν 0) (fun r2 σ3 => wp_X0_record r2 σ3 (fun a σ5 => wp_X6_putAside σ5 (fun σ6 => ref σ6 (fun r7 σ8 => wp_X6_end r7 σ8 (fun b σ9 => P a b σ9))))) (by rw [sm_ne _ _ (by omega)]; exact hM)
  rw [sm_self] at hc2
  refine hc2 (fun μ' hμ' => ?_)
  have e12 : sm (sm σ (p 6) ν) 0 μ' 12 = σ 12 := by rw [sm_ne _ _ (by decide), sm_ne _ _ (by omega)]
  have e11 : sm (sm σ (p 6) ν) 0 μ' 11 = σ 11 := by rw [sm_ne _ _ (by decide), sm_ne _ _ (by omega)]
  have e0 : sm (sm σ (p 6) ν) 0 μ' 0 = μ' := sm_m _ _ _
  have e6 : sm (sm σ (p 6) ν) 0 μ' (p 6) = ν := by rw [sm_ne _ _ (by omega), sm_m]
  have eo : ∀ m, m ≠ 0 → m ≠ p 6 → sm (sm σ (p 6) ν) 0 μ' m = σ m := fun m h1 h2 => by rw [sm_ne _ _ h1, sm_ne _ _ h2]
  generalize sm (sm σ (p 6) ν) 0 μ' = τ at e12 e11 e0 e6 eo ⊢
  have hj : ∀ j, j < D → τ (p j) = σ (p j) := fun j hj => eo _ (by have := hpm j (by omega); omega) (fun e => by have := hpi j 6 (by omega) (by omega) e; omega)
  have hC : CH τ p D (bfR σ) := CH_congr (CH_of hH) (by rw [e11]) (by rw [e11]) hj
  by_cases hA : A < 0
  · refine ⟨fun c => absurd hA (Int32.not_lt.mpr c), fun _ => ?_⟩
    rw [← sa_self τ]
    refine s_X6_putAside ?_
    rw [e12]
    refine hr _ _ _ (fun d' => ?_)
    refine s_X6_end_neg hA (hP _ _ ?_)
    refine Rel_mk h (fun m hm => ?_) (fun k hk => ?_) (fun k hk => ?_) ?_ ⟨?_, ?_⟩ ⟨p, D, RH_of (b := bfR σ) (CH_congr hC ?_ ?_ (fun j hj2 => ?_)) ?_ (fun j q hj2 hq => ?_)⟩
    · rw [q3_m (by omega)]; exact eo _ (by omega) (by omega)
    · rw [q3_m (by decide), e11]
    · rw [q3_k (by omega) (by omega) (by omega), e12]
    · rw [q3_k (by decide) (by decide) (by decide), e12]
    · rw [q3_m (by decide), sr_row, e0]; exact hμ'
    · rw [sr_row]; exact hI'
    · rw [q3_m (by decide)]
    · rw [q3_m (by decide)]
    · rw [q3_m (by have := hpm j (by omega); omega)]
    · rw [q3_k (by decide) (by decide) (by decide), e12]; exact hH.2.2.2.2.2.2.1
    · rw [q3_k (by decide) (by decide) (by decide), e12]; rfl
  · refine s_X0_record hC (by rw [e6]; exact hν) hI hA (fun τ1 p1 g1 g2 g3 => ?_)
    have f12 : τ1 12 = σ 12 := (g1 12 (by decide)).trans e12
    rw [← sa_self τ1]
    refine s_X6_putAside ?_
    rw [f12]
    refine hr _ _ _ (fun d' => ?_)
    refine s_X6_end hA hD (by rw [q3_k (by decide) (by decide) (by decide), f12]; exact hH.2.2.2.2.2.2.1) (fun φ k1 k2 k3 k4 k5 k6 => hP _ _ ?_)
    have n6 : nxt D ≤ 6 := by
      unfold nxt
      split <;> omega
    refine Rel_mk h (fun m hm => ?_) (fun k hk => ?_) (fun k hk => ?_) ?_ ⟨?_, ?_⟩ ⟨p1, nxt D, RH_of (b := psh D (bfR σ) (σ 12 19 0)) (CH_congr g3 ?_ ?_ (fun j hj2 => ?_)) k4 (fun j q hj2 hq => ?_)⟩
    · rw [k1 m (by omega), q3_m (by omega), g1 m (by omega)]; exact eo _ (by omega) (by omega)
    · rw [k1 11 (by decide), q3_m (by decide), g2 k (by omega) (by omega), e11]
    · rw [k2 k (by omega) (by omega) (by omega) (by omega) (by omega), q3_k (by omega) (by omega) (by omega), f12]
    · rw [k3 7 (by decide), q3_k (by decide) (by decide) (by decide), f12]
    · rw [k1 0 (by decide), q3_m (by decide), g1 0 (by decide), e0]
      exact MR_ext (r := r') (fun q hq => by rw [k5 q hq, sr_row]) hI' hμ'
    · exact IR_ext (r := r') (fun q hq => by rw [k5 q hq, sr_row]) hI'
    · rw [k1 11 (by decide), q3_m (by decide)]
    · rw [k1 11 (by decide), q3_m (by decide)]
    · have := g3.1.1 j (by omega)
      rw [k1 _ (by omega), q3_m (by omega)]
    · rw [k6 j q hj2 hq, sa_row]
      have e : bfR (sr (sd (sa τ1 (cpN 194 (σ 12 19 0) (σ 12 20 0))) d') r') = bfR σ := by
        funext j q
        unfold bfR
        rw [q3_k (by decide) (by decide) (by decide), f12]
      rw [e]
      unfold psh
      have ec : cpN 194 (σ 12 19 0) (σ 12 20 0) q = σ 12 19 0 q := cpN_lt hq
      by_cases c : D = 6
      · rw [if_pos c, if_pos c]
        by_cases g : j = 5
        · rw [if_pos g, if_pos g]; exact ec
        · rw [if_neg g, if_neg g]
      · rw [if_neg c, if_neg c]
        by_cases g : j = D
        · rw [if_pos g, if_pos g]; exact ec
        · rw [if_neg g, if_neg g]
end PC
