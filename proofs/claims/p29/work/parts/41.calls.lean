/-! The calls that change, undo, and the questions, on a machine whose history's top is known. -/
def d0 : Nat → Int32 := fun _ => 0
def TH (σ : Sg) (l : List (Nat → Int32)) : Prop := ∃ p D b, CH σ p D b ∧ l.length ≤ D ∧ ∀ (i : Nat) (s : Nat → Int32), l[i]? = some s → b (D - 1 - i) = s
def ST (σ : Sg) (r : Nat → Int32) (l : List (Nat → Int32)) : Prop := RC σ r ∧ TH σ l
theorem TH_push {τ : Sg} {p : Nat → Nat} {D : Nat} {b : Nat → Nat → Int32} {s : Nat → Int32} {l : List (Nat → Int32)} (hC : CH τ p (nxt D) (psh D b s)) (hD : D ≤ 6) (h1 : l.length ≤ D) (h5 : l.length ≤ 5) (h2 : ∀ (i : Nat) (s' : Nat → Int32), l[i]? = some s' → b (D - 1 - i) = s') : TH τ (s :: l) := by
  refine ⟨p, nxt D, psh D b s, hC, ?_, ?_⟩
  · rw [List.length_cons]
    unfold nxt
    split <;> omega
  · intro i s' hi
    cases i with
    | zero =>
      have e0 : s = s' := Option.some.inj hi
      subst e0
      by_cases c : D = 6
      · subst c; rfl
      · have e : nxt D = D + 1 := if_neg c
        have e2 : ∀ j, psh D b s j = if j = D then s else b j := fun j => if_neg c
        rw [e, e2, if_pos (by omega)]
    | succ i =>
      have hi' : l[i]? = some s' := hi
      have li : i < l.length := (List.getElem?_eq_some_iff.mp hi').1
      have hb := h2 i s' hi'
      by_cases c : D = 6
      · subst c
        have e : nxt 6 = 6 := rfl
        have e2 : ∀ j, psh 6 b s j = if j = 5 then s else b (j + 1) := fun j => if_pos rfl
        rw [e, e2, if_neg (by omega), ← hb]
        congr 1
        omega
      · have e : nxt D = D + 1 := if_neg c
        have e2 : ∀ j, psh D b s j = if j = D then s else b j := fun j => if_neg c
        rw [e, e2, if_neg (by omega), ← hb]
        congr 1
        omega
section CL
variable {σ : Sg} {Q : Int32 → Sg → Prop} {r : Nat → Int32} {l : List (Nat → Int32)}
theorem ST_trial (h : ST σ r l) (μ : Nat → Nat → Nat → Int32) : ST (sm σ 1 μ) r l := by
  obtain ⟨⟨hM, hI⟩, p, D, b, hC, h1, h2⟩ := h
  refine ⟨⟨by rw [sm_ne _ _ (by decide)]; exact hM, hI⟩, p, D, b, CH_congr hC (by rw [sm_ne _ _ (by decide)]) (by rw [sm_ne _ _ (by decide)]) (fun j hj => sm_ne _ _ ?_), h1, h2⟩
  have hD := hC.2.2.2.1
  have := hC.1.1 j (by omega)
  omega
theorem q_change {cls : Sg → (Int32 → Sg → Prop) → Prop} {A : Int32} {r' : Nat → Int32} (h : ST σ r l) (h5 : l.length ≤ 5)
    (hc : ∀ (σ' : Sg) (μ : Nat → Nat → Nat → Int32) (Q : Int32 → Sg → Prop), MR μ r → (∀ μ', MR μ' r' → Q A (sm σ' 0 μ')) → cls (sm σ' 0 μ) Q)
    (hI' : IR r') (hn : A < 0 → ∀ τ, ST τ r' l → Q A τ) (hp : ¬ A < 0 → ∀ τ, ST τ r' (r :: l) → Q A τ) :
    wp_X0_prepare 0 σ (fun σ1 => cls σ1 (fun r2 σ3 => wp_X0_record r2 σ3 (fun a σ5 => Q a σ5))) := by
  obtain ⟨⟨hM, hI⟩, p, D, b, hC, h1, h2⟩ := h
  have hpm := hC.1.1
  have hpi := hC.1.2
  have hD := hC.2.2.2.1
  have p6 := hpm 6 (by omega)
  unfold wp_X0_prepare
  intro b1 e1
  rw [hC.2.2.1, nI_clamp (by omega)] at e1
  subst e1
  refine ⟨by omega, ?_⟩
  have hcp := s_X2_copyFrom (σ := σ) (m := p 6) (m1 := 0) (μ := σ (p 6)) (Q := fun σ1 => cls σ1 (fun r2 σ3 => wp_X0_record r2 σ3 (fun a σ5 => Q a σ5))) (by omega) hM hI
  rw [sm_self] at hcp
  refine hcp (fun ν hν => ?_)
  have hc2 := hc (sm σ (p 6) ν) (sm σ (p 6) ν 0) (fun r2 σ3 => wp_X0_record r2 σ3 (fun a σ5 => Q a σ5)) (by rw [sm_ne _ _ (by omega)]; exact hM)
  rw [sm_self] at hc2
  refine hc2 (fun μ' hμ' => ?_)
  have e11 : sm (sm σ (p 6) ν) 0 μ' 11 = σ 11 := by rw [sm_ne _ _ (by decide), sm_ne _ _ (by omega)]
  have e0 : sm (sm σ (p 6) ν) 0 μ' 0 = μ' := sm_m _ _ _
  have e6 : sm (sm σ (p 6) ν) 0 μ' (p 6) = ν := by rw [sm_ne _ _ (by omega), sm_m]
  have eo : ∀ m, m ≠ 0 → m ≠ p 6 → sm (sm σ (p 6) ν) 0 μ' m = σ m := fun m h1 h2 => by rw [sm_ne _ _ h1, sm_ne _ _ h2]
  generalize sm (sm σ (p 6) ν) 0 μ' = τ at e11 e0 e6 eo ⊢
  have hj : ∀ j, j < D → τ (p j) = σ (p j) := fun j hj => eo _ (by have := hpm j (by omega); omega) (fun e => by have := hpi j 6 (by omega) (by omega) e; omega)
  have hC2 : CH τ p D b := CH_congr hC (by rw [e11]) (by rw [e11]) hj
  by_cases hA : A < 0
  · refine ⟨fun c => absurd hA (Int32.not_lt.mpr c), fun _ => hn hA _ ⟨⟨by rw [e0]; exact hμ', hI'⟩, p, D, b, hC2, h1, h2⟩⟩
  · refine s_X0_record hC2 (by rw [e6]; exact hν) hI hA (fun τ1 p1 g1 g2 g3 => hp hA _ ⟨⟨by rw [g1 0 (by decide), e0]; exact hμ', hI'⟩, TH_push g3 hD h1 h5 h2⟩)
theorem q_set (h : ST σ r l) (h5 : l.length ≤ 5) {x y : Int32} (hn : (setR r x y).1 < 0 → ∀ τ, ST τ (setR r x y).2 l → Q (setR r x y).1 τ) (hp : ¬ (setR r x y).1 < 0 → ∀ τ, ST τ (setR r x y).2 (r :: l) → Q (setR r x y).1 τ) : wp_X5_set x y σ Q :=
  q_change (cls := fun σ1 Q => wp_X2_changeSetting 0 x y σ1 Q) h h5 (fun _ _ _ hM k => s_X2_changeSetting hM h.1.2 k) (IR_set h.1.2) hn hp
theorem q_heap (h : ST σ r l) (h5 : l.length ≤ 5) {x y z : Int32} (hn : (heapsR r x y z).1 < 0 → ∀ τ, ST τ (heapsR r x y z).2 l → Q (heapsR r x y z).1 τ) (hp : ¬ (heapsR r x y z).1 < 0 → ∀ τ, ST τ (heapsR r x y z).2 (r :: l) → Q (heapsR r x y z).1 τ) : wp_X5_heap x y z σ Q :=
  q_change (cls := fun σ1 Q => wp_X2_addSweets 0 x y z σ1 Q) h h5 (fun _ _ _ hM k => s_X2_addSweets hM h.1.2 k) (IR_heaps h.1.2) hn hp
theorem q_foil (h : ST σ r l) (h5 : l.length ≤ 5) {x y : Int32} (hn : (foilsR r x y).1 < 0 → ∀ τ, ST τ (foilsR r x y).2 l → Q (foilsR r x y).1 τ) (hp : ¬ (foilsR r x y).1 < 0 → ∀ τ, ST τ (foilsR r x y).2 (r :: l) → Q (foilsR r x y).1 τ) : wp_X5_foil x y σ Q :=
  q_change (cls := fun σ1 Q => wp_X2_addFoil 0 x y σ1 Q) h h5 (fun _ _ _ hM k => s_X2_addFoil hM h.1.2 k) (IR_foil h.1.2) hn hp
theorem q_tin (h : ST σ r l) (h5 : l.length ≤ 5) (hn : (tinsR r).1 < 0 → ∀ τ, ST τ (tinsR r).2 l → Q (tinsR r).1 τ) (hp : ¬ (tinsR r).1 < 0 → ∀ τ, ST τ (tinsR r).2 (r :: l) → Q (tinsR r).1 τ) : wp_X5_tin σ Q :=
  q_change (cls := fun σ1 Q => wp_X2_addTin 0 σ1 Q) h h5 (fun _ _ _ hM k => s_X2_addTin hM h.1.2 k) (IR_tins h.1.2) hn hp
theorem q_ship (h : ST σ r l) (h5 : l.length ≤ 5) {x : Int32} (hn : (shipsR r x).1 < 0 → ∀ τ, ST τ (shipsR r x).2 l → Q (shipsR r x).1 τ) (hp : ¬ (shipsR r x).1 < 0 → ∀ τ, ST τ (shipsR r x).2 (r :: l) → Q (shipsR r x).1 τ) : wp_X5_ship x σ Q :=
  q_change (cls := fun σ1 Q => wp_X2_shipTin 0 x σ1 Q) h h5 (fun _ _ _ hM k => s_X2_shipTin hM h.1.2 k) (IR_ship h.1.2) hn hp
theorem q_apart (h : ST σ r l) (h5 : l.length ≤ 5) {x y : Int32} (hn : (apartR r x y).1 < 0 → ∀ τ, ST τ (apartR r x y).2 l → Q (apartR r x y).1 τ) (hp : ¬ (apartR r x y).1 < 0 → ∀ τ, ST τ (apartR r x y).2 (r :: l) → Q (apartR r x y).1 τ) : wp_X5_apart x y σ Q :=
  q_change (cls := fun σ1 Q => wp_X2_changeApart 0 x y σ1 Q) h h5 (fun _ _ _ hM k => s_X2_changeApart hM h.1.2 k) (IR_apart h.1.2) hn hp
theorem q_run (h : ST σ r l) (h5 : l.length ≤ 5) {x : Int32} (hn : (goesR r d0 x).1 < 0 → ∀ τ, ST τ (goesR r d0 x).2.1 l → Q (goesR r d0 x).1 τ) (hp : ¬ (goesR r d0 x).1 < 0 → ∀ τ, ST τ (goesR r d0 x).2.1 (r :: l) → Q (goesR r d0 x).1 τ) : wp_X5_run x σ Q :=
  q_change (cls := fun σ1 Q => wp_X2_runTicks 0 x σ1 Q) h h5 (fun _ _ _ hM k => s_X2_runTicks d0 hM h.1.2 k) (IR_goes h.1.2) hn hp
theorem q_undo {s : Nat → Int32} (h : ST σ r (s :: l)) (hq : ∀ τ D, D ≤ 5 → ST τ s l → Q (nI D) τ) : wp_X5_undo σ Q := by
  obtain ⟨⟨hM, hI⟩, p, D, b, hC, h1, h2⟩ := h
  obtain ⟨⟨c1, c2⟩, c3, c4, c5, c6, c7⟩ := id hC
  have hb : b (D - 1) = s := h2 0 s rfl
  have hD0 : 1 ≤ D := Nat.le_trans (by rw [List.length_cons]; omega) h1
  unfold wp_X5_undo wp_X0_stepBack
  rw [c6, nI_m1 (by omega)]
  refine s_X5_isIndex ?_
  rw [if_neg (nI_pos (by omega)), if_neg (ge_6 (by omega))]
  refine ⟨fun _ => ?_, fun c => absurd c (by decide)⟩
  rintro σ4 rfl
  rw [up_e, c6, nI_m1 (by omega)]
  refine ⟨vp_in_nI (by omega) (by decide), ?_⟩
  have pd := c1 (D - 1) (by omega)
  intro b6 e6
  rw [up_k (by decide), nI_clamp (by omega), c3 (D - 1) (by omega), nI_clamp (by omega)] at e6
  subst e6
  refine ⟨by omega, ?_⟩
  obtain ⟨g1, g2⟩ := c7 (D - 1) (by omega)
  have hc := s_X2_copyFrom (σ := up σ 11 11 0 2 (nI (D - 1))) (m := 0) (m1 := p (D - 1)) (μ := up σ 11 11 0 2 (nI (D - 1)) 0) (r := b (D - 1)) (Q := fun σ7 => Q (σ7 11 11 0 2) σ7) (by omega) (by rw [up_m (by omega)]; exact g1) g2
  rw [sm_self] at hc
  refine hc (fun μ' hμ' => ?_)
  have e0 : sm (up σ 11 11 0 2 (nI (D - 1))) 0 μ' 0 = μ' := sm_m _ _ _
  have e11 : sm (up σ 11 11 0 2 (nI (D - 1))) 0 μ' 11 = up σ 11 11 0 2 (nI (D - 1)) 11 := sm_ne _ _ (by decide)
  have eo : ∀ m, m ≠ 0 → m ≠ 11 → sm (up σ 11 11 0 2 (nI (D - 1))) 0 μ' m = σ m := fun m m1 m2 => by rw [sm_ne _ _ m1, up_m m2]
  generalize sm (up σ 11 11 0 2 (nI (D - 1))) 0 μ' = τ at e0 e11 eo ⊢
  have ef : τ 11 11 0 2 = nI (D - 1) := by rw [e11, up_e]
  rw [ef]
  rw [hb] at hμ' g2
  refine hq τ (D - 1) (by omega) ⟨⟨by rw [e0]; exact hμ', g2⟩, p, D - 1, b, ⟨⟨c1, c2⟩, ?_, ?_, by omega, ef, fun j hj => ?_⟩, ?_, ?_⟩
  · intro j hj
    rw [e11, up_k (by decide)]; exact c3 j hj
  · rw [e11, up_j (by decide)]; exact c4
  · have := c1 j (by omega)
    rw [eo _ (by omega) (by omega)]
    exact c7 j (by omega)
  · rw [List.length_cons] at h1; omega
  · intro i s' hi
    have li : i < l.length := (List.getElem?_eq_some_iff.mp hi).1
    have := h2 (i + 1) s' hi
    rw [← this]
    congr 1
    omega
theorem q_stands (h : ST σ r l) (k : Nat) (hk : k < 4) {x y : Int32} (e : x = nI k) (hy : y = 0 ∨ y = 1) (hq : ∀ τ, ST τ r l → Q (stR 200 1 k y r d0) τ) : wp_X5_stands x y σ Q := by
  subst e
  have hM := h.1.1
  have hI := h.1.2
  unfold wp_X5_stands
  refine s_isIndex2 (n := 4) (by decide) (fun _ _ _ => ?_) (fun c => ?_)
  · have go : wp_X5_stands_b22 (nI k) y Q σ := by
      unfold wp_X5_stands_b22
      have hc := s_X2_copyFrom (σ := σ) (m := 1) (m1 := 0) (μ := σ 1) (Q := fun σ6 => wp_X5_stands_L35 (nI k) y Q 1 σ6) (by decide) hM hI
      rw [sm_self] at hc
      refine hc (fun μ' hM' => ?_)
      exact s_X5_standsL (d := d0) k hk rfl hM' hI (fun μ2 => hq _ (ST_trial h μ2))
    refine ⟨fun _ => ⟨fun c => go, fun c0 => ⟨fun c => go, fun c1 => ?_⟩⟩, fun c => absurd c (by decide)⟩
    rcases hy with z | z
    · exact absurd z c0
    · exact absurd z c1
  · rcases c with z | z
    · exact absurd z (nI_pos (by omega))
    · exact absurd z (nI_ge hk (by decide))
theorem ot_ok {n a b : Nat} (h1 : a ≤ n) (h2 : n ≤ b) (hb : b < 2 ^ 31) : otB (nI n) (nI a) (nI b) = false := by
  unfold otB
  rw [decide_eq_false (nI_nlt (by omega) (by omega)), decide_eq_false (nI_nlt (by omega) (by omega))]
  rfl
theorem q_ifApart (h : ST σ r l) (f o n : Nat) (hf : f < 6) (ho : o < 6) (hfo : f ≠ o) (n1 : 1 ≤ n) (n2 : n ≤ 50) {x y z : Int32} (e1 : x = nI f) (e2 : y = nI o) (e3 : z = nI n) (hq : ∀ τ, ST τ r l → Q (runsC n (turnR r f o) d0).1 τ) : wp_X5_ifApart x y z σ Q := by
  subst e1
  subst e2
  subst e3
  have hM := h.1.1
  have hI := h.1.2
  unfold wp_X5_ifApart
  refine s_isIndex2 (n := 6) (by decide) (fun _ _ _ => ?_) (fun c => ?_)
  · refine ⟨fun c => absurd c (by decide), fun _ => ?_⟩
    refine s_isIndex2 (n := 6) (by decide) (fun _ _ _ => ?_) (fun c => ?_)
    · refine ⟨fun _ => ⟨fun c => absurd ((nI_eq (by omega) (by omega)).mp c) hfo, fun c => ?_⟩, fun c => absurd c (by decide)⟩
      refine s_X5_bt (fun g => ⟨fun _ => ?_, fun c => absurd c (by decide)⟩) (fun g => absurd ((ot_ok (a := 1) (b := 50) n1 n2 (by decide)).symm.trans g) (by decide))
      have hc := s_X2_copyFrom (σ := σ) (m := 1) (m1 := 0) (μ := σ 1) (Q := fun σ11 => wp_X2_switchApart 1 (nI f) (nI o) σ11 (fun σ12 => wp_X2_work 1 (nI n) σ12 (fun r13 σ14 => Q r13 σ14))) (by decide) hM hI
      rw [sm_self] at hc
      refine hc (fun μ' hM' => ?_)
      refine s_X2_switchApart f o hf ho hfo hM' hI rfl rfl (fun μ2 hM2 => ?_)
      exact s_X2_work n (by omega) d0 hM2 (IR_turn hI) rfl (fun μ3 hM3 _ => hq _ (ST_trial h μ3))
    · rcases c with z | z
      · exact absurd z (nI_pos (by omega))
      · exact absurd z (nI_ge ho (by decide))
  · rcases c with z | z
    · exact absurd z (nI_pos (by omega))
    · exact absurd z (nI_ge hf (by decide))
theorem q_bestSpeed (h : ST σ r l) (n : Nat) (n1 : 1 ≤ n) (n2 : n ≤ 50) {x y : Int32} (e : x = nI n) (hy : y = 0 ∨ y = 1) (hq : ∀ τ, ST τ r l → Q (if y = 0 then (bsN n r 8).1 else (bsN n r 8).2) τ) : wp_X5_bestSpeed x y σ Q := by
  subst e
  have hM := h.1.1
  have hI := h.1.2
  unfold wp_X5_bestSpeed
  refine s_X5_bt (fun g => ⟨fun _ => ?_, fun c => absurd c (by decide)⟩) (fun g => absurd ((ot_ok (a := 1) (b := 50) n1 n2 (by decide)).symm.trans g) (by decide))
  have go : wp_X5_bestSpeed_b25 (nI n) y Q σ := by
    unfold wp_X5_bestSpeed_b25
    rintro z6 rfl
    unfold wp_X5_bestSpeed_L37
    refine lpN_rel 9 (fun k a => ∃ v3 v4 μ', a = (v3, v4, nI (k + 1), sm σ 1 μ') ∧ ((k = 0 ∧ v4 = -1) ∨ ∃ k', k = k' + 1 ∧ (v3, v4) = bsN n r k')) ?_ ?_ 0 _ (Nat.zero_le _) ⟨_, _, σ 1, by rw [sm_self]; rfl, Or.inl ⟨rfl, rfl⟩⟩
    · rintro K k a hk ⟨v3, v4, μ', rfl, hj⟩ hK
      dsimp only
      unfold st_X5_bestSpeed_L37
      refine ⟨fun c => absurd c (show ¬ nI 9 < nI (k + 1) from nI_nlt (by omega) (by decide)), fun _ => ?_⟩
      refine s_X2_copyFrom (by decide) hM hI (fun μ2 hM2 => ?_)
      rintro σ10 rfl
      rw [sm_up]
      obtain ⟨w1, w2, -⟩ := bs_w (v := k + 1) n2 (by omega) (by omega) hI d0
      refine s_X2_work n (by omega) d0 (MR_set (by decide) hM2 hI) (IR_speed (by omega) (by omega) hI) rfl (fun μ3 hM3 _ => ?_)
      rw [w1]
      obtain ⟨s1, s2⟩ := bs_step (v3 := v3) (Or.inl w2) hj
      unfold wp_X5_bestSpeed_b93
      refine ⟨fun c => ?_, fun c => ?_⟩
      · rintro z14 rfl
        exact hK _ ⟨_, _, μ3, by rw [nI_1], Or.inr (s1 c)⟩
      · rintro z14 rfl
        exact hK _ ⟨_, _, μ3, by rw [nI_1], Or.inr (s2 c)⟩
    · rintro K a ⟨v3, v4, μ', rfl, hj⟩
      dsimp only
      unfold st_X5_bestSpeed_L37
      refine ⟨fun _ => ?_, fun c => absurd (show nI 9 < nI (9 + 1) by decide) c⟩
      rcases hj with ⟨e, -⟩ | ⟨k', e, ej⟩
      · omega
      · have ek : k' = 8 := by omega
        subst ek
        have hr := hq _ (ST_trial h μ')
        rw [← ej] at hr
        refine ⟨fun c => ?_, fun c => ?_⟩
        · rw [if_neg c] at hr; exact hr
        · rw [if_pos c] at hr; exact hr
  refine ⟨fun c => go, fun c0 => ⟨fun c => go, fun c1 => ?_⟩⟩
  rcases hy with z | z
  · exact absurd z c0
  · exact absurd z c1
end CL
