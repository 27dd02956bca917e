/-! Undo, save and restore. -/
section UN
variable {σ : Sg} {P : Int32 → Int32 → Sg → Prop}
theorem s_X6_undoL {τ : Sg} {D : Nat} {Q : Int32 → Sg → Prop} (hD : D < 6) (hk : τ 12 18 0 3 = nI D) (hq : Q (nI D) (sr τ (cpN 194 (bfR τ D) (τ 12 19 0)))) : wp_X6_undo_L22 Q 0 τ := by
  unfold wp_X6_undo_L22
  refine lpN_rel 194 (fun k z => z = (nI k, sr τ (cpN k (bfR τ D) (τ 12 19 0)))) ?_ ?_ 0 _ (Nat.zero_le _) (by rw [cpN_0]; show _ = (nI 0, sr τ (τ 12 19 0)); rw [show sr τ (τ 12 19 0) = τ from ua_self τ 12 19 0]; rfl)
  · rintro K k z hk2 rfl hK
    dsimp only
    unfold st_X6_undo_L22
    rw [sr_ne2 (b := 18) _ _ (by decide), sr_ne2 (b := 21) _ _ (by decide), hk, show (((194 : Int32) * nI D) + nI k) = nI (194 * D + k) by simp only [nI_lit, nI_add, pk_mul], nI_clamp (n := k) (by omega), nI_clamp (n := 194 * D + k) (by omega)]
    refine ⟨fun c => absurd c (ge_194 hk2), fun _ => ⟨vp_in_nI (by omega) (by decide), vp_in_nI hk2 (by decide), ?_⟩⟩
    rintro σ4 rfl z5 rfl
    rw [sr_up, show τ 12 21 0 (194 * D + k) = bfR τ D k from rfl, cpN_s, nI_1]
    exact hK _ rfl
  · rintro K z rfl
    dsimp only
    unfold st_X6_undo_L22
    rw [sr_ne2 (b := 18) _ _ (by decide), hk]
    exact ⟨fun _ => hq, fun c => absurd (nI_le (Nat.le_refl 194) (by decide)) c⟩
theorem pr_undo (h : Rel σ) (hP : ∀ v τ, Rel τ → P v v τ) : wp_X5_undo σ (fun a σ1 => wp_X6_undo σ1 (fun b σ2 => P a b σ2)) := by
  obtain ⟨⟨hM, hI⟩, ⟨p, D, hH⟩, -, -⟩ := id h
  obtain ⟨h1, h2, h3, h4, h5, h6, h7, h8⟩ := id hH
  unfold wp_X5_undo wp_X0_stepBack
  rw [h6]
  by_cases hD : D = 0
  · subst hD
    refine s_X5_isIndex ?_
    rw [if_pos (by decide)]
    refine ⟨fun c => absurd rfl c, fun _ => ?_⟩
    unfold wp_X6_undo
    dsimp only
    rw [h7]
    exact ⟨fun c => absurd rfl c, fun _ => hP _ _ h⟩
  · rw [nI_m1 (by omega)]
    refine s_X5_isIndex ?_
    rw [if_neg (nI_pos (by omega)), if_neg (ge_6 (by omega))]
    refine ⟨fun _ => ?_, fun c => absurd c (by decide)⟩
    rintro σ4 rfl
    rw [up_e, h6, nI_m1 (by omega)]
    refine ⟨vp_in_nI (by omega) (by decide), ?_⟩
    have pd := h1 (D - 1) (by omega)
    intro b6 e6
    rw [up_k (by decide), nI_clamp (by omega), h3 (D - 1) (by omega), nI_clamp (by omega)] at e6
    subst e6
    refine ⟨by omega, ?_⟩
    obtain ⟨g1, g2⟩ := h8 (D - 1) (by omega)
    have hc := s_X2_copyFrom (σ := up σ 11 11 0 2 (nI (D - 1))) (m := 0) (m1 := p (D - 1)) (μ := up σ 11 11 0 2 (nI (D - 1)) 0) (r := bfR σ (D - 1)) (Q := fun σ7 => wp_X6_undo σ7 (fun b σ2 => P (σ7 11 11 0 2) b σ2)) (by omega) (by rw [up_m (by omega)]; exact g1) g2
    rw [sm_self] at hc
    refine hc (fun μ' hμ' => ?_)
    have e12 : sm (up σ 11 11 0 2 (nI (D - 1))) 0 μ' 12 = σ 12 := by rw [sm_ne _ _ (by decide), up_m (by decide)]
    have e0 : sm (up σ 11 11 0 2 (nI (D - 1))) 0 μ' 0 = μ' := sm_m _ _ _
    have e11 : sm (up σ 11 11 0 2 (nI (D - 1))) 0 μ' 11 = up σ 11 11 0 2 (nI (D - 1)) 11 := sm_ne _ _ (by decide)
    have eo : ∀ m, m ≠ 0 → m ≠ 11 → sm (up σ 11 11 0 2 (nI (D - 1))) 0 μ' m = σ m := fun m m1 m2 => by rw [sm_ne _ _ m1, up_m m2]
    generalize sm (up σ 11 11 0 2 (nI (D - 1))) 0 μ' = τ at e12 e0 e11 eo ⊢
    unfold wp_X6_undo
    rw [e12, h7]
    refine ⟨fun _ => ?_, fun c => absurd (nI_z (by omega) c) hD⟩
    rintro σ2 rfl
    rw [nI_m1 (by omega)]
    refine s_X6_undoL (D := D - 1) (by omega) (by rw [up_e]) ?_
    rw [e11, up_e]
    have eb : bfR (up τ 12 18 0 3 (nI (D - 1))) (D - 1) = bfR σ (D - 1) := by
      unfold bfR
      rw [up_k (by decide), e12]
    rw [eb]
    refine hP _ _ (Rel_mk h (fun m hm => ?_) (fun k hk => ?_) (fun k hk => ?_) ?_ ⟨?_, ?_⟩ ⟨p, D - 1, RH_of (b := bfR σ) ⟨⟨h1, h2⟩, ?_, ?_, by omega, ?_, fun j hj => ?_⟩ ?_ (fun j q hj hq => ?_)⟩)
    · rw [sr_ne _ _ (by omega), up_m (by omega)]; exact eo m (by omega) (by omega)
    · rw [sr_ne _ _ (by decide), up_m (by decide), e11, up_k (by omega)]
    · rw [sr_ne2 _ _ (by omega), up_k (by omega), e12]
    · rw [sr_ne2 _ _ (by decide), up_j (by decide), e12]
    · rw [sr_ne _ _ (by decide), up_m (by decide), e0, sr_row]
      exact MR_ext (fun q hq => cpN_lt hq) g2 hμ'
    · rw [sr_row]
      exact IR_ext (fun q hq => cpN_lt hq) g2
    · rw [sr_ne _ _ (by decide), up_m (by decide), e11, up_k (by decide)]; exact h3
    · rw [sr_ne _ _ (by decide), up_m (by decide), e11, up_j (by decide)]; exact h4
    · rw [sr_ne _ _ (by decide), up_m (by decide), e11, up_e]
    · have pj := h1 j (by omega)
      rw [sr_ne _ _ (by omega), up_m (by omega), eo _ (by omega) (by omega)]
      exact h8 j (by omega)
    · rw [sr_ne2 _ _ (by decide), up_e]
    · rw [sr_ne2 _ _ (by decide), up_k (by decide), e12]; rfl
theorem ix01 {x : Int32} {Q : Int32 → Sg → Prop} {j : Nat} (hj : j < 2) (h1 : Q 1 σ) : wp_X6_in (nI j) 0 1 σ Q := by
  refine s_X6_inIdx (n := 2) (by decide) (by decide) (fun _ _ _ => h1) (fun c => ?_)
  rcases c with z | z
  · exact absurd z (nI_pos (by omega))
  · exact absurd z (nI_ge hj (by omega))
theorem ix00 {x : Int32} {Q : Int32 → Sg → Prop} (c : x < 0 ∨ nI 2 ≤ x) (h0 : Q 0 σ) : wp_X6_in x 0 1 σ Q := by
  refine s_X6_inIdx (n := 2) (by decide) (by decide) (fun j hj e => ?_) (fun _ => h0)
  subst e
  rcases c with z | z
  · exact absurd z (nI_pos (by omega))
  · exact absurd z (nI_ge hj (by omega))
theorem s_X6_saveL {τ : Sg} {j : Nat} {Q : Int32 → Sg → Prop} (hj : j < 2) (hq : Q (τ 12 19 0 72) (up (ua τ 12 22 0 (wrN (194 * j) 194 (τ 12 19 0) (τ 12 22 0))) 12 23 0 j 1)) : wp_X6_save_L14 (nI j) Q 0 τ := by
  unfold wp_X6_save_L14
  refine lpN_rel 194 (fun k z => z = (nI k, ua τ 12 22 0 (wrN (194 * j) k (τ 12 19 0) (τ 12 22 0)))) ?_ ?_ 0 _ (Nat.zero_le _) (by rw [wrN_0, ua_self]; rfl)
  · rintro K k z hk2 rfl hK
    dsimp only
    unfold st_X6_save_L14
    have e2 : ua τ 12 22 0 (wrN (194 * j) k (τ 12 19 0) (τ 12 22 0)) 12 19 = τ 12 19 := ua_k (by decide)
    rw [e2, show (((194 : Int32) * nI j) + nI k) = nI (194 * j + k) by simp only [nI_lit, nI_add, pk_mul], nI_clamp (n := k) (by omega), nI_clamp (n := 194 * j + k) (by omega)]
    refine ⟨fun c => absurd c (ge_194 hk2), fun _ => ⟨vp_in_nI hk2 (by decide), vp_in_nI (by omega) (by decide), ?_⟩⟩
    rintro σ4 rfl z5 rfl
    rw [ua_up, wrN_s, nI_1]
    exact hK _ rfl
  · rintro K z rfl
    dsimp only
    unfold st_X6_save_L14
    refine ⟨fun _ => ⟨vp_in_nI hj (by decide), ?_⟩, fun c => absurd (nI_le (Nat.le_refl 194) (by decide)) c⟩
    rintro σ5 rfl
    rw [nI_clamp (by omega), up_k (by decide), ua_k (by decide)]
    exact hq
theorem pr_save (h : Rel σ) (x : Int32) (hP : ∀ v τ, Rel τ → P v v τ) : wp_X5_save x σ (fun a σ1 => wp_X6_save x σ1 (fun b σ2 => P a b σ2)) := by
  obtain ⟨⟨hM, hI⟩, ⟨p, D, hH⟩, hS, L, l1, l2, l3, l4⟩ := id h
  unfold wp_X5_save
  refine s_isIndex2 (n := 2) (by decide) (fun j hj e => ?_) (fun c => ?_)
  · subst e
    refine ⟨fun _ => ⟨vp_in_nI hj (by decide), ?_⟩, fun c => absurd c (by decide)⟩
    intro b5 e5
    rw [nI_clamp (by omega)] at e5
    subst e5
    have hc := s_X2_copyFrom (σ := σ) (m := 9 + j) (m1 := 0) (μ := σ (9 + j)) (Q := fun σ6 => (vp_in (nI j) 2 ∧ ∀ σ7 : Sg, σ7 = up σ6 11 14 0 (nI j).toNatClampNeg (1 : Int32) → wp_X6_save (nI j) σ7 (fun b σ2 => P (σ7 0 0 0 4) b σ2))) (by omega) hM hI
    rw [sm_self] at hc
    refine hc (fun μ' hμ' => ⟨vp_in_nI hj (by decide), ?_⟩)
    rintro σ7 rfl
    rw [nI_clamp (by omega), up_m (by decide), sm_ne _ _ (by omega), hM.2.1.1]
    have e12 : up (sm σ (9 + j) μ') 11 14 0 j 1 12 = σ 12 := by rw [up_m (by decide), sm_ne _ _ (by omega)]
    have em : up (sm σ (9 + j) μ') 11 14 0 j 1 (9 + j) = μ' := by rw [up_m (by omega), sm_m]
    have eo : ∀ m, m ≠ 9 + j → m ≠ 11 → up (sm σ (9 + j) μ') 11 14 0 j 1 m = σ m := fun m m1 m2 => by rw [up_m m2, sm_ne _ _ m1]
    have ek : ∀ k, k ≠ 14 → up (sm σ (9 + j) μ') 11 14 0 j 1 11 k = σ 11 k := fun k hk => by rw [up_k hk, sm_ne _ _ (by omega)]
    have e14 : up (sm σ (9 + j) μ') 11 14 0 j 1 11 14 0 = upd (σ 11 14 0) j 1 := by rw [up_r, sm_ne _ _ (by omega)]
    generalize up (sm σ (9 + j) μ') 11 14 0 j 1 = τ at e12 em eo ek e14 ⊢
    unfold wp_X6_save
    refine ix01 (x := 0) hj ⟨fun _ => ?_, fun c => absurd c (by decide)⟩
    refine s_X6_saveL hj ?_
    rw [e12]
    refine hP _ _ ⟨⟨?_, ?_⟩, ⟨p, D, RH_of (b := bfR σ) (CH_congr (CH_of hH) ?_ ?_ (fun i hi => ?_)) ?_ (fun i q hi hq => ?_)⟩, fun i hi => ?_, L, l1, ?_, ?_, ?_⟩
    · rw [up_m (by decide), ua_m (by decide), eo 0 (by omega) (by decide), up_k (by decide), ua_k (by decide), e12]; exact hM
    · rw [up_k (by decide), ua_k (by decide), e12]; exact hI
    · rw [up_m (by decide), ua_m (by decide), ek 11 (by decide)]
    · rw [up_m (by decide), ua_m (by decide), ek 12 (by decide)]
    · have pj := hH.1 i (by have := hH.2.2.2.2.1; omega)
      rw [up_m (by omega), ua_m (by omega), eo _ (by omega) (by omega)]
    · rw [up_k (by decide), ua_k (by decide), e12]; exact hH.2.2.2.2.2.2.1
    · rw [up_k (by decide), ua_k (by decide), e12]; rfl
    · obtain ⟨s1, s2, s3, s4⟩ := hS i hi
      rw [up_m (by decide), ua_m (by decide), ek 13 (by decide), e14, up_r, ua_k (by decide), e12, up_m (a := 9 + i) (by omega), ua_m (a := 9 + i) (by omega)]
      have ekp : ∀ q, q < 194 → kpR (up (ua τ 12 22 0 (wrN (194 * j) 194 (σ 12 19 0) (σ 12 22 0))) 12 23 0 j 1) i q = if i = j then σ 12 19 0 q else kpR σ i q := by
        intro q hq
        unfold kpR
        rw [up_k (by decide), ua_r, wr_read hq]
      by_cases e : i = j
      · subst e
        rw [pk_us, pk_us, em]
        refine ⟨s1, rfl, Or.inr rfl, fun _ => ⟨MR_ext (fun q hq => by rw [ekp q hq, if_pos rfl]) hI hμ', IR_ext (fun q hq => by rw [ekp q hq, if_pos rfl]) hI⟩⟩
      · rw [pk_un e, pk_un e, eo _ (by omega) (by omega)]
        refine ⟨s1, s2, s3, fun g => ⟨MR_ext (fun q hq => by rw [ekp q hq, if_neg e]) (s4 g).2 (s4 g).1, IR_ext (fun q hq => by rw [ekp q hq, if_neg e]) (s4 g).2⟩⟩
    · rw [up_m (by decide), ua_m (by decide), ek 15 (by decide)]; exact l2
    · rw [up_k (by decide), ua_k (by decide), e12]; exact l3
    · rw [up_m (by decide), ua_m (by decide), ek 16 (by decide), up_k (by decide), ua_k (by decide), e12]; exact l4
  · refine ⟨fun d => absurd rfl d, fun _ => ?_⟩
    unfold wp_X6_save
    exact ix00 c ⟨fun d => absurd rfl d, fun _ => hP _ _ h⟩
theorem s_X6_restL {τ : Sg} {j : Nat} {Q : Int32 → Sg → Prop} (hj : j < 2) (hq : Q (kpR τ j 72) (sr τ (cpN 194 (kpR τ j) (τ 12 19 0)))) : wp_X6_restore_L30 (nI j) Q 0 τ := by
  unfold wp_X6_restore_L30
  refine lpN_rel 194 (fun k z => z = (nI k, sr τ (cpN k (kpR τ j) (τ 12 19 0)))) ?_ ?_ 0 _ (Nat.zero_le _) (by rw [cpN_0]; show _ = (nI 0, sr τ (τ 12 19 0)); rw [show sr τ (τ 12 19 0) = τ from ua_self τ 12 19 0]; rfl)
  · rintro K k z hk2 rfl hK
    dsimp only
    unfold st_X6_restore_L30
    rw [sr_ne2 (b := 22) _ _ (by decide), show (((194 : Int32) * nI j) + nI k) = nI (194 * j + k) by simp only [nI_lit, nI_add, pk_mul], nI_clamp (n := k) (by omega), nI_clamp (n := 194 * j + k) (by omega)]
    refine ⟨fun c => absurd c (ge_194 hk2), fun _ => ⟨vp_in_nI (by omega) (by decide), vp_in_nI hk2 (by decide), ?_⟩⟩
    rintro σ7 rfl z8 rfl
    rw [sr_up, show τ 12 22 0 (194 * j + k) = kpR τ j k from rfl, cpN_s, nI_1]
    exact hK _ rfl
  · rintro K z rfl
    dsimp only
    unfold st_X6_restore_L30
    rw [sr_row, cpN_lt (by decide)]
    exact ⟨fun _ => hq, fun c => absurd (nI_le (Nat.le_refl 194) (by decide)) c⟩
theorem pr_restore (h : Rel σ) (x : Int32) (hP : ∀ v τ, Rel τ → P v v τ) : wp_X5_restore x σ (fun a σ1 => wp_X6_restore x σ1 (fun b σ2 => P a b σ2)) := by
  obtain ⟨⟨hM, hI⟩, -, hS, -⟩ := id h
  unfold wp_X5_restore
  refine s_isIndex2 (n := 2) (by decide) (fun j hj e => ?_) (fun c => ?_)
  · subst e
    obtain ⟨s1, s2, s3, s4⟩ := hS j hj
    refine ⟨fun _ => ⟨vp_in_nI hj (by decide), ?_⟩, fun c => absurd c (by decide)⟩
    rw [nI_clamp (by omega), s2]
    refine ⟨fun c => ?_, fun c => ?_⟩
    · obtain ⟨g1, g2⟩ := s4 c
      obtain ⟨t1, t2, -⟩ := IR_nT g2
      refine cls_half (cls := fun σ Q => (vp_in (nI j) 2 ∧ ∀ b7 : Nat, b7 = 9 + j → wp_X2_copyFrom 0 b7 σ (fun σ8 => Q (σ8 0 0 0 4) σ8))) (A := kpR σ j 72) (r' := kpR σ j) (Q := fun a σ1 => wp_X6_restore (nI j) σ1 (fun b σ2 => P a b σ2)) h (fun σ' μ Q h9 _ hq => ⟨vp_in_nI hj (by decide), ?_⟩) (fun τ hh => ?_)
      · rintro b7 rfl
        refine s_X2_copyFrom (by omega) (by rw [h9 _ (by omega)]; exact g1) g2 (fun μ' hμ' => ?_)
        rw [sm_m, hμ'.2.1.1]
        exact hq μ' hμ'
      · obtain ⟨e12, -, -, -, p, D, hD, hk, -⟩ := id hh
        unfold wp_X6_restore
        refine ix01 (x := 0) hj ⟨fun _ => ⟨vp_in_nI hj (by decide), ?_⟩, fun c => absurd c (by decide)⟩
        rw [nI_clamp (by omega), e12]
        refine ⟨fun _ => ?_, fun d => absurd d c⟩
        refine s_X6_record hD (by rw [e12]; exact hk) (fun φ k1 k2 k3 k4 k5 => ?_)
        refine s_X6_restL hj ?_
        have ekp : kpR φ j = kpR σ j := by
          unfold kpR
          rw [k2 22 (by decide) (by decide), e12]
        rw [ekp]
        refine hP _ _ (half_pos h (A := kpR σ j 72) (by rw [t2]; exact nI_pos (by omega)) g2 hh (fun m hm => ?_) (fun k hk => ?_) ?_ (fun D' hD' hk' => ?_) (fun q hq => ?_))
        · rw [sr_ne _ _ hm, k1 m hm]
        · rw [sr_ne2 _ _ (by omega), k2 k (by omega) (by omega)]
        · rw [sr_ne2 _ _ (by decide), k3 7 (by decide)]
        · have eD : D' = D := by
            rw [e12, hk] at hk'
            exact ((nI_eq (by omega) (by omega)).mp hk').symm
          subst eD
          rw [sr_ne2 _ _ (by decide), sr_ne2 _ _ (by decide)]
          exact ⟨k4, k5⟩
        · rw [sr_row, cpN_lt hq]
    · unfold wp_X6_restore
      refine ix01 (x := 0) hj ⟨fun _ => ⟨vp_in_nI hj (by decide), ?_⟩, fun c => absurd c (by decide)⟩
      rw [nI_clamp (by omega)]
      exact ⟨fun d => absurd c d, fun _ => hP _ _ h⟩
  · refine ⟨fun d => absurd rfl d, fun _ => ?_⟩
    unfold wp_X6_restore
    exact ix00 c ⟨fun d => absurd rfl d, fun _ => hP _ _ h⟩
end UN
