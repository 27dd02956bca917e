/-! The calls that change, pair by pair. -/
theorem runsC_d2 {n : Nat} : ∀ (r d e : Nat → Int32), (runsC n r d).2.1 = (runsC n r e).2.1 := by
  induction n with
  | zero => exact fun _ _ _ => rfl
  | succ n ih =>
    intro r d e
    obtain ⟨h1, h2⟩ := tickC_d r d e
    rw [runsC_s, runsC_s]
    show (runsC n (tickC r d).2.1 _).2.1 = (runsC n (tickC r e).2.1 _).2.1
    rw [h2, ih _ (tickC r d).2.2 (tickC r e).2.2]
theorem goesR_d (r d e : Nat → Int32) (x : Int32) : (goesR r d x).1 = (goesR r e x).1 ∧ (goesR r d x).2.1 = (goesR r e x).2.1 := by
  unfold goesR
  by_cases c : otB x 1 99 = true
  · rw [if_pos c, if_pos c]; exact ⟨rfl, rfl⟩
  rw [if_neg c, if_neg c]
  by_cases g : r 191 + x ≤ 9999
  · rw [if_pos g, if_pos g]; exact ⟨runsC_d _ _ _, runsC_d2 _ _ _⟩
  · rw [if_neg g, if_neg g]; exact ⟨rfl, rfl⟩
section PD
variable {σ : Sg} {P : Int32 → Int32 → Sg → Prop}
theorem pr_heap (h : Rel σ) (x y z : Int32) (hP : ∀ v τ, Rel τ → P v v τ) : wp_X5_heap x y z σ (fun a σ1 => wp_X6_heap x y z σ1 (fun b σ2 => P a b σ2)) :=
  pr_change (cls := fun σ Q => wp_X2_addSweets 0 x y z σ Q) (ref := fun σ Q => wp_X6_heaps x y z σ Q) (A := (heapsR (σ 12 19 0) x y z).1) (r' := (heapsR (σ 12 19 0) x y z).2) h (fun _ _ _ hM hq => s_X2_addSweets hM h.1.2 hq) (fun _ _ _ hq => s_X6_heaps h.1.2 (hq _)) (IR_heaps h.1.2) hP
theorem pr_foil (h : Rel σ) (x y : Int32) (hP : ∀ v τ, Rel τ → P v v τ) : wp_X5_foil x y σ (fun a σ1 => wp_X6_foil x y σ1 (fun b σ2 => P a b σ2)) :=
  pr_change (cls := fun σ Q => wp_X2_addFoil 0 x y σ Q) (ref := fun σ Q => wp_X6_foils x y σ Q) (A := (foilsR (σ 12 19 0) x y).1) (r' := (foilsR (σ 12 19 0) x y).2) h (fun _ _ _ hM hq => s_X2_addFoil hM h.1.2 hq) (fun _ _ _ hq => s_X6_foils h.1.2 (hq _)) (IR_foil h.1.2) hP
theorem pr_tin (h : Rel σ) (hP : ∀ v τ, Rel τ → P v v τ) : wp_X5_tin σ (fun a σ1 => wp_X6_tin σ1 (fun b σ2 => P a b σ2)) :=
  pr_change (cls := fun σ Q => wp_X2_addTin 0 σ Q) (ref := fun σ Q => wp_X6_tins σ Q) (A := (tinsR (σ 12 19 0)).1) (r' := (tinsR (σ 12 19 0)).2) h (fun _ _ _ hM hq => s_X2_addTin hM h.1.2 hq) (fun _ _ _ hq => s_X6_tins h.1.2 (hq _)) (IR_tins h.1.2) hP
theorem pr_ship (h : Rel σ) (x : Int32) (hP : ∀ v τ, Rel τ → P v v τ) : wp_X5_ship x σ (fun a σ1 => wp_X6_ship x σ1 (fun b σ2 => P a b σ2)) :=
  pr_change (cls := fun σ Q => wp_X2_shipTin 0 x σ Q) (ref := fun σ Q => wp_X6_ships x σ Q) (A := (shipsR (σ 12 19 0) x).1) (r' := (shipsR (σ 12 19 0) x).2) h (fun _ _ _ hM hq => s_X2_shipTin hM h.1.2 hq) (fun _ _ _ hq => s_X6_ships h.1.2 (hq _)) (IR_ship h.1.2) hP
theorem pr_apart (h : Rel σ) (x y : Int32) (hP : ∀ v τ, Rel τ → P v v τ) : wp_X5_apart x y σ (fun a σ1 => wp_X6_apart x y σ1 (fun b σ2 => P a b σ2)) :=
  pr_change (cls := fun σ Q => wp_X2_changeApart 0 x y σ Q) (ref := fun σ Q => wp_X6_keepsApart x y σ Q) (A := (apartR (σ 12 19 0) x y).1) (r' := (apartR (σ 12 19 0) x y).2) h (fun _ _ _ hM hq => s_X2_changeApart hM h.1.2 hq) (fun _ _ _ hq => s_X6_keepsApart h.1.2 (hq _)) (IR_apart h.1.2) hP
theorem pr_run (h : Rel σ) (x : Int32) (hP : ∀ v τ, Rel τ → P v v τ) : wp_X5_run x σ (fun a σ1 => wp_X6_run x σ1 (fun b σ2 => P a b σ2)) :=
  pr_change (cls := fun σ Q => wp_X2_runTicks 0 x σ Q) (ref := fun σ Q => wp_X6_goes x σ Q) (A := (goesR (σ 12 19 0) (σ 12 25 0) x).1) (r' := (goesR (σ 12 19 0) (σ 12 25 0) x).2.1) h (fun _ _ _ hM hq => s_X2_runTicks (σ 12 25 0) hM h.1.2 hq) (fun σ' d Q hq => s_X6_goes h.1.2 (by
    have e := goesR_d (σ 12 19 0) d (σ 12 25 0) x
    rw [e.1, e.2]
    exact hq _)) (IR_goes h.1.2) hP
/-- the state after the class's half of a change -/
def Half (σ τ : Sg) (r' : Nat → Int32) (A : Int32) : Prop := τ 12 = σ 12 ∧ (∀ m, m = 9 ∨ m = 10 → τ m = σ m) ∧ (∀ k, k = 13 ∨ k = 14 ∨ k = 15 ∨ k = 16 → τ 11 k = σ 11 k) ∧ MR (τ 0) r' ∧ ∃ p D, D ≤ 6 ∧ σ 12 18 0 3 = nI D ∧ if A < 0 then CH τ p D (bfR σ) else CH τ p (nxt D) (psh D (bfR σ) (σ 12 19 0))
theorem cls_half {cls : Sg → (Int32 → Sg → Prop) → Prop} {A : Int32} {r' : Nat → Int32} {Q : Int32 → Sg → Prop} (h : Rel σ)
    (hc : ∀ (σ' : Sg) (μ : Nat → Nat → Nat → Int32) (Q : Int32 → Sg → Prop), (∀ m, m = 9 ∨ m = 10 → σ' m = σ m) → MR μ (σ 12 19 0) → (∀ μ', MR μ' r' → Q A (sm σ' 0 μ')) → cls (sm σ' 0 μ) Q)
    (hq : ∀ τ, Half σ τ r' A → Q A τ) :
    wp_X0_prepare 0 σ (fun σ1 => cls σ1 (fun r2 σ3 => wp_X0_record r2 σ3 (fun a σ5 => Q a σ5))) := by
  obtain ⟨⟨hM, hI⟩, ⟨p, D, hH⟩, hS, hL⟩ := id h
  have hpm := hH.1
  have hpi := hH.2.1
  have hD := hH.2.2.2.2.1
  refine s_prep hH hM hI (fun ν hν => ?_)
  have p6 := hpm 6 (by omega)
  have hc2 := hc (sm σ (p 6) ν) (sm σ (p 6) ν 0) (fun r2 σ3 => wp_X0_record r2 σ3 (fun a σ5 => Q a σ5)) (fun m hm => sm_ne _ _ (by omega)) (by rw [sm_ne _ _ (by omega)]; exact hM)
  rw [sm_self] at hc2
  refine hc2 (fun μ' hμ' => ?_)
  have e12 : sm (sm σ (p 6) ν) 0 μ' 12 = σ 12 := by rw [sm_ne _ _ (by decide), sm_ne _ _ (by omega)]
  have e11 : sm (sm σ (p 6) ν) 0 μ' 11 = σ 11 := by rw [sm_ne _ _ (by decide), sm_ne _ _ (by omega)]
  have e0 : sm (sm σ (p 6) ν) 0 μ' 0 = μ' := sm_m _ _ _
  have e6 : sm (sm σ (p 6) ν) 0 μ' (p 6) = ν := by rw [sm_ne _ _ (by omega), sm_m]
  have eo : ∀ m, m ≠ 0 → m ≠ p 6 → sm (sm σ (p 6) ν) 0 μ' m = σ m := fun m h1 h2 => by rw [sm_ne _ _ h1, sm_ne _ _ h2]
  generalize sm (sm σ (p 6) ν) 0 μ' = τ at e12 e11 e0 e6 eo ⊢
  have hj : ∀ j, j < D → τ (p j) = σ (p j) := fun j hj => eo _ (by have := hpm j (by omega); omega) (fun e => by have := hpi j 6 (by omega) (by omega) e; omega)
  have hC : CH τ p D (bfR σ) := CH_congr (CH_of hH) (by rw [e11]) (by rw [e11]) hj
  by_cases hA : A < 0
  · refine ⟨fun c => absurd hA (Int32.not_lt.mpr c), fun _ => hq _ ⟨e12, fun m hm => eo _ (by omega) (by omega), fun k _ => by rw [e11], by rw [e0]; exact hμ', p, D, hD, hH.2.2.2.2.2.2.1, ?_⟩⟩
    rw [if_pos hA]
    exact hC
  · refine s_X0_record hC (by rw [e6]; exact hν) hI hA (fun τ1 p1 g1 g2 g3 => hq _ ⟨(g1 12 (by decide)).trans e12, fun m hm => (g1 m (by omega)).trans (eo _ (by omega) (by omega)), fun k hk => by rw [g2 k (by omega) (by omega), e11], by rw [g1 0 (by decide), e0]; exact hμ', p1, D, hD, hH.2.2.2.2.2.2.1, ?_⟩)
    rw [if_neg hA]
    exact g3
/-- an error: nothing more happens -/
theorem half_neg {τ : Sg} {A : Int32} (h : Rel σ) (hA : A < 0) (hh : Half σ τ (σ 12 19 0) A) : Rel τ := by
  obtain ⟨e12, e9, e11, e0, p, D, hD, hk, hC⟩ := hh
  rw [if_pos hA] at hC
  refine Rel_mk h e9 e11 (fun k hk => by rw [e12]) (by rw [e12]) ⟨by rw [e12]; exact e0, by rw [e12]; exact h.1.2⟩ ⟨p, D, RH_of hC (by rw [e12]; exact hk) (fun j q hj hq => by rw [e12]; rfl)⟩
/-- a change that the reference records by itself, then writes its row -/
theorem half_pos {τ φ : Sg} {A : Int32} {r' : Nat → Int32} (h : Rel σ) (hA : ¬ A < 0) (hI' : IR r') (hh : Half σ τ r' A) (k1 : ∀ m, m ≠ 12 → φ m = τ m) (k2 : ∀ k, k = 22 ∨ k = 23 ∨ k = 24 → φ 12 k = τ 12 k) (k7 : φ 12 18 0 7 = τ 12 18 0 7) (k4 : ∀ D, D ≤ 6 → τ 12 18 0 3 = nI D → φ 12 18 0 3 = nI (nxt D) ∧ ∀ j q, j < nxt D → q < 194 → φ 12 21 0 (194 * j + q) = psh D (bfR τ) (τ 12 19 0) j q) (k5 : ∀ q, q < 194 → φ 12 19 0 q = r' q) : Rel φ := by
  obtain ⟨e12, e9, e11, e0, p, D, hD, hk, hC⟩ := hh
  rw [if_neg hA] at hC
  obtain ⟨g1, g2⟩ := k4 D hD (by rw [e12]; exact hk)
  have n6 : nxt D ≤ 6 := by
    unfold nxt
    split <;> omega
  refine Rel_mk h (fun m hm => by rw [k1 m (by omega), e9 m hm]) (fun k hk => by rw [k1 11 (by decide), e11 k hk]) (fun k hk => by rw [k2 k hk, e12]) (by rw [k7, e12]) ⟨?_, ?_⟩ ⟨p, nxt D, RH_of (b := psh D (bfR σ) (σ 12 19 0)) (CH_congr hC ?_ ?_ (fun j hj => ?_)) g1 (fun j q hj hq => ?_)⟩
  · rw [k1 0 (by decide)]; exact MR_ext k5 hI' e0
  · exact IR_ext k5 hI'
  · rw [k1 11 (by decide)]
  · rw [k1 11 (by decide)]
  · rw [k1 _ (by have := hC.1.1 j (by omega); omega)]
  · rw [g2 j q hj hq, e12]
    have e : bfR τ = bfR σ := by
      funext j q
      unfold bfR
      rw [e12]
    rw [e]
theorem IR_set0 {r : Nat → Int32} {j : Nat} (hI : IR r) (hj : j < 4) : ¬ r j < 0 := by
  have hj4 : j = 0 ∨ j = 1 ∨ j = 2 ∨ j = 3 := by omega
  rcases hj4 with e | e | e | e <;> subst e
  · obtain ⟨a, -, a2, a3⟩ := hI.1
    rw [a3]; exact nI_pos (by omega)
  · obtain ⟨a, -, a2, a3⟩ := hI.2.1
    rw [a3]; exact nI_pos (by omega)
  · obtain ⟨a, -, a2, a3⟩ := hI.2.2.1
    rw [a3]; exact nI_pos (by omega)
  · obtain ⟨a, -, a2, a3⟩ := hI.2.2.2.1
    rw [a3]; exact nI_pos (by omega)
theorem pr_set (h : Rel σ) (x y : Int32) (hP : ∀ v τ, Rel τ → P v v τ) : wp_X5_set x y σ (fun a σ1 => wp_X6_set x y σ1 (fun b σ2 => P a b σ2)) := by
  have hI := h.1.2
  refine cls_half (cls := fun σ Q => wp_X2_changeSetting 0 x y σ Q) (A := (setR (σ 12 19 0) x y).1) (r' := (setR (σ 12 19 0) x y).2) h (fun _ _ _ _ hM hq => s_X2_changeSetting hM hI hq) (fun τ hh => ?_)
  have bad : setR (σ 12 19 0) x y = (-2, σ 12 19 0) → Rel τ := by
    intro e
    rw [e] at hh
    exact half_neg h (A := -2) (by decide) hh
  have hb : ∀ lo hi : Int32, (obB x 4 = false → lo = lst x.toNatClampNeg ∧ hi = mst x.toNatClampNeg) → wp_X6_set_b41 x y (fun b σ2 => P (setR (σ 12 19 0) x y).1 b σ2) lo hi τ := by
    intro lo hi hlh
    unfold wp_X6_set_b41
    refine s_X6_inIdx (n := 4) (by decide) (by decide) (fun j hj e => ?_) (fun c => ?_)
    · subst e
      obtain ⟨e1, e2⟩ := hlh (ob_0 hj (by decide))
      rw [nI_clamp (by omega)] at e1 e2
      subst e1
      subst e2
      refine ⟨fun c => absurd c (by decide), fun _ => ?_⟩
      refine s_X6_bt (fun g => ⟨fun _ => ?_, fun c => absurd c (by decide)⟩) (fun g => ⟨fun c => absurd rfl c, fun _ => ?_⟩)
      · have e : setR (σ 12 19 0) (nI j) y = (σ 12 19 0 j, upd (σ 12 19 0) j y) := by
          unfold setR
          rw [ob_0 hj (by decide), if_neg (by decide), nI_clamp (by omega), g, if_neg (by decide)]
        have hIn := IR_set (x := nI j) (y := y) hI
        rw [e] at hh hIn ⊢
        obtain ⟨e12, -, -, -, p, D, hD, hk, -⟩ := id hh
        refine s_X6_record hD (by rw [e12]; exact hk) (fun φ k1 k2 k3 k4 k5 => ?_)
        refine ⟨vp_in_nI (by omega) (by decide), ?_⟩
        rintro z12 rfl
        refine ⟨vp_in_nI (by omega) (by decide), ?_⟩
        rintro σ13 rfl
        rw [nI_clamp (by omega), k2 19 (by decide) (by decide), e12]
        refine hP _ _ (half_pos h (IR_set0 hI hj) hIn hh (fun m hm => ?_) (fun k hk => ?_) ?_ (fun D' hD' hk' => ?_) (fun q hq => ?_))
        · rw [up_m hm, k1 m hm]
        · rw [up_k (by omega), k2 k (by omega) (by omega)]
        · rw [up_k (by decide), k3 7 (by decide)]
        · have eD : D' = D := by
            rw [e12, hk] at hk'
            exact ((nI_eq (by omega) (by omega)).mp hk').symm
          subst eD
          rw [up_k (by decide), up_k (by decide)]
          exact ⟨k4, k5⟩
        · rw [up_r, k2 19 (by decide) (by decide), e12]
      · have e : setR (σ 12 19 0) (nI j) y = (-2, σ 12 19 0) := by
          unfold setR
          rw [ob_0 hj (by decide), if_neg (by decide), nI_clamp (by omega), g, if_pos rfl]
        have hR := bad e
        rw [e]
        exact hP _ _ hR
    · have e : setR (σ 12 19 0) x y = (-2, σ 12 19 0) := by
        unfold setR
        rw [ob_1 c, if_pos rfl]
      have hR := bad e
      rw [e]
      exact ⟨fun _ => hP _ _ hR, fun c => absurd rfl c⟩
  have ix : obB x 4 = false → ∃ j, j < 4 ∧ x = nI j := by
    intro c
    rcases pk_ix x (show (4 : Nat) < 2 ^ 31 by decide) with d | d | ⟨j, hj, e⟩
    · rw [ob_1 (Or.inl d)] at c; exact absurd c (by decide)
    · rw [ob_1 (Or.inr d)] at c; exact absurd c (by decide)
    · exact ⟨j, hj, e⟩
  unfold wp_X6_set wp_X6_set_b10
  by_cases c1 : x = 1
  · refine ⟨fun d => absurd c1 d, fun _ => ⟨fun _ => ⟨fun d => absurd c1 d, fun _ => hb 4 60 (fun _ => ?_)⟩, fun d => ?_⟩⟩
    · subst c1; exact ⟨rfl, rfl⟩
    · subst c1; exact absurd d (by decide)
  · refine ⟨fun _ => ⟨fun c0 => ⟨fun _ => ⟨fun c2 => hb 1 2 (fun g => ?_), fun c2 => hb 1 99 (fun g => ?_)⟩, fun d => absurd d c1⟩, fun c0 => hb 1 9 (fun g => ?_)⟩, fun d => absurd d c1⟩
    · obtain ⟨j, hj, e⟩ := ix g
      subst e
      have j3 : j = 3 := by
        by_cases e0 : j = 0
        · exact absurd (by rw [e0]; rfl) c0
        · by_cases e1 : j = 1
          · exact absurd (by rw [e1]; rfl) c1
          · by_cases e2 : j = 2
            · exact absurd (by rw [e2]; rfl) c2
            · omega
      subst j3
      exact ⟨rfl, rfl⟩
    · subst c2; exact ⟨rfl, rfl⟩
    · subst c0; exact ⟨rfl, rfl⟩
end PD
