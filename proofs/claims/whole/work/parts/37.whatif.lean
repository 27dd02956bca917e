/-! Questions of what would be. -/
def stR : Nat → Nat → Nat → Int32 → (Nat → Int32) → (Nat → Int32) → Int32
  | 0, _, _, _, _, _ => -6
  | n + 1, v, l, y, r, d => if (tickC r d).2.2 l = 0 then stR n (v + 1) l y (tickC r d).2.1 (tickC r d).2.2 else if y = 0 then nI v else (tickC r d).2.2 l
theorem stR_s (n v l : Nat) (y : Int32) (r d : Nat → Int32) : stR (n + 1) v l y r d = if (tickC r d).2.2 l = 0 then stR n (v + 1) l y (tickC r d).2.1 (tickC r d).2.2 else if y = 0 then nI v else (tickC r d).2.2 l := rfl
theorem runsC_1 (r d : Nat → Int32) : (runsC 1 r d).2 = (tickC r d).2 := rfl
theorem lt_200 {k : Nat} (h : k < 200) : ¬ (200 : Int32) < nI (k + 1) := show ¬ nI 200 < nI (k + 1) from nI_nlt (by omega) (by decide)
theorem tryR_hi {r : Nat → Int32} {l j : Nat} (hI : IR r) (hl : l < 4) (h : rsR r l = 0) (hj : 194 ≤ j) : (tryR r l).2 j = r j := by
  obtain ⟨h0, f, t, T, hf, ef, ht, hT2, hT, etf, etk⟩ := rs_0 hI hl h
  unfold tryR
  split
  · show tornR (pullR r l) l j = r j
    unfold tornR
    rw [pk_un (by omega), pk_un (by omega), pullR_ne r (by omega) (by omega) (by omega)]
  · show wrapR (pullR r l) l _ _ j = r j
    rw [ef, nI_clamp (by omega), etf, nI_clamp (by omega)]
    obtain ⟨n, hn, he, -⟩ := hI.2.2.2.2.2.1 l hl
    have hn0 : 0 < n := Nat.pos_of_ne_zero (fun z => h0 (by rw [he, z]; rfl))
    have e : (pullR r l (4 + 17 * l)).toNatClampNeg = n := by rw [pullR_ne r (by omega) (by omega) (by omega), he]; exact nI_clamp (by omega)
    unfold wrapR addT
    rw [pk_un (by omega), pk_un (by omega), takeR_out (by omega) (by omega) (by omega), pullR_ne r (by omega) (by omega) (by omega)]
theorem laneC_hi {n l j : Nat} (hl : l < 4) (hj : 194 ≤ j) : ∀ {r : Nat → Int32}, IR r → (laneC n l r).2.2 j = r j := by
  induction n with
  | zero => exact fun _ => rfl
  | succ n ih =>
    intro r h
    unfold laneC
    by_cases c : rsR r l = 0
    · rw [if_pos c]
      exact (ih (IR_try h hl c)).trans (tryR_hi h hl c hj)
    · rw [if_neg c]
theorem lanesC_hi {n j : Nat} (hj : 194 ≤ j) : ∀ {k : Nat} {r d : Nat → Int32}, k + n ≤ 4 → IR r → (lanesC n k r d).2.1 j = r j := by
  induction n with
  | zero => exact fun _ _ => rfl
  | succ n ih =>
    intro k r d hk h
    exact (ih (k := k + 1) (d := upd d k (laneC (r 0).toNatClampNeg k r).1) (by omega) (laneC_IR (n := (r 0).toNatClampNeg) (l := k) (by omega) h).1).trans (laneC_hi (by omega) hj h)
theorem runsC_hi {n j : Nat} (hj : 194 ≤ j) : ∀ {r d : Nat → Int32}, IR r → (runsC n r d).2.1 j = r j := by
  induction n with
  | zero => exact fun _ => rfl
  | succ n ih =>
    intro r d h
    refine (ih (r := (tickC r d).2.1) (d := (tickC r d).2.2) (tickC_IR h).1).trans ?_
    show upd (lanesC 4 0 r d).2.1 191 _ j = r j
    rw [pk_un (by omega)]
    exact lanesC_hi hj (by omega) h
/-- a trial leaves nothing -/
theorem back_eq {s a r' : Nat → Int32} (h : ∀ j, 194 ≤ j → r' j = s j) : cpN 194 (cpN 194 s a) r' = s := by
  funext q
  by_cases c : q < 194
  · rw [cpN_lt c, cpN_lt c]
  · show (if q < 194 then _ else r' q) = s q
    rw [if_neg c]
    exact h q (by omega)
section WI
variable {σ : Sg} {P : Int32 → Int32 → Sg → Prop} {Q : Int32 → Sg → Prop} {r d : Nat → Int32} {μ : Nat → Nat → Nat → Int32}
theorem s_X5_standsL {x y : Int32} (l : Nat) (hl : l < 4) (e1 : x = nI l := by rfl) (hM : MR μ r) (hI : IR r) (hq : ∀ μ', Q (stR 200 1 l y r d) (sm σ 1 μ')) : wp_X5_stands_L35 x y Q 1 (sm σ 1 μ) := by
  subst e1
  unfold wp_X5_stands_L35
  refine lpN_rel 200 (fun k a => ∃ μ' r' d', a = (nI (k + 1), sm σ 1 μ') ∧ MR μ' r' ∧ IR r' ∧ stR 200 1 l y r d = stR (200 - k) (k + 1) l y r' d') ?_ ?_ 0 _ (Nat.zero_le _) ⟨μ, r, d, rfl, hM, hI, rfl⟩
  · rintro K k a hk ⟨μ', r', d', rfl, hM', hI', he⟩ hK
    dsimp only
    unfold st_X5_stands_L35
    refine ⟨fun c => absurd c (lt_200 hk), fun _ => ?_⟩
    refine s_X2_work 1 (by decide) d' hM' hI' rfl (fun μ2 hM2 hst => ?_)
    refine ⟨vp_in_nI hl (by decide), ?_⟩
    intro a11 e11
    rw [nI_clamp (by omega)] at e11
    subst e11
    rintro z12 rfl
    rw [sm_m, hst (by decide) a11 hl, runsC_1]
    rw [runsC_1] at hM2
    rw [show 200 - k = (199 - k) + 1 by omega, stR_s (199 - k)] at he
    refine ⟨fun c => ?_, fun c => ⟨fun g => ?_, fun g => ?_⟩⟩
    · rintro z14 rfl
      rw [if_pos c] at he
      exact hK _ ⟨μ2, _, (tickC r' d').2.2, by rw [nI_1], hM2, (tickC_IR hI').1, by rw [he, show 200 - (k + 1) = 199 - k by omega]⟩
    · rw [if_neg c, if_neg g] at he
      have := hq μ2
      rw [he] at this
      exact this
    · rw [if_neg c, if_pos g] at he
      have := hq μ2
      rw [he] at this
      exact this
  · rintro K a ⟨μ', r', d', rfl, hM', hI', he⟩
    dsimp only
    unfold st_X5_stands_L35
    refine ⟨fun _ => ?_, fun c => absurd (show nI 200 < nI (200 + 1) by decide) c⟩
    have := hq μ'
    rw [he] at this
    exact this
theorem s_X6_standsL {x y : Int32} {a0 : Nat → Int32} (l : Nat) (hl : l < 4) (hI : IR r) (e1 : x = nI l := by rfl) (hq : ∀ d' r', Q (stR 200 1 l y r d) (sr (sd (sa σ a0) d') (cpN 194 a0 r'))) : wp_X6_stands_L31 x y Q (-6) 1 (sr (sd (sa σ a0) d) r) := by
  subst e1
  unfold wp_X6_stands_L31
  refine lpN_rel 200 (fun k a => ∃ v r' d', a = (v, nI (k + 1), sr (sd (sa σ a0) d') r') ∧ IR r' ∧ ((v = -6 ∧ stR 200 1 l y r d = stR (200 - k) (k + 1) l y r' d') ∨ (¬ v = -6 ∧ stR 200 1 l y r d = v))) ?_ ?_ 0 _ (Nat.zero_le _) ⟨-6, r, d, rfl, hI, Or.inl ⟨rfl, rfl⟩⟩
  · rintro K k a hk ⟨v, r', d', rfl, hI', he⟩ hK
    dsimp only
    unfold st_X6_stands_L31
    refine ⟨fun c => absurd c (lt_200 hk), fun _ => ⟨fun c => ?_, fun c => ?_⟩⟩
    · rcases he with ⟨e, -⟩ | ⟨-, he⟩
      · exact absurd e c
      · unfold wp_X6_stands_b87
        refine s_X6_putBack ?_
        have := hq d' r'
        rw [he] at this
        exact this
    · rcases he with ⟨-, he⟩ | ⟨e, -⟩
      · refine s_X6_tick hI' ?_
        rw [srd_row]
        rw [show 200 - k = (199 - k) + 1 by omega, stR_s (199 - k)] at he
        refine ⟨vp_in_nI hl (by decide), ?_⟩
        rw [nI_clamp (by omega)]
        unfold wp_X6_stands_b80
        refine ⟨fun g => ⟨fun f => ⟨vp_in_nI hl (by decide), ?_⟩, fun f => ?_⟩, fun g => ?_⟩
        · rintro z15 rfl
          rw [if_neg g, if_neg f] at he
          exact hK _ ⟨_, _, _, by rw [nI_1], (tickC_IR hI').1, Or.inr ⟨tickC_rs hl, he⟩⟩
        · rintro z15 rfl
          rw [if_neg g, if_pos f] at he
          exact hK _ ⟨_, _, _, by rw [nI_1], (tickC_IR hI').1, Or.inr ⟨fun e => absurd (show nI (k + 1) < 0 by rw [e]; decide) (nI_pos (by omega)), he⟩⟩
        · rintro z15 rfl
          rw [if_pos g] at he
          exact hK _ ⟨_, _, _, by rw [nI_1], (tickC_IR hI').1, Or.inl ⟨rfl, by rw [he, show 200 - (k + 1) = 199 - k by omega]⟩⟩
      · exact absurd c e
  · rintro K a ⟨v, r', d', rfl, hI', he⟩
    dsimp only
    unfold st_X6_stands_L31
    refine ⟨fun _ => ?_, fun c => absurd (show nI 200 < nI (200 + 1) by decide) c⟩
    unfold wp_X6_stands_b87
    refine s_X6_putBack ?_
    have := hq d' r'
    rcases he with ⟨e, he⟩ | ⟨-, he⟩
    · rw [he] at this
      rw [e]
      exact this
    · rw [he] at this
      exact this
theorem s_in01 {x : Int32} {Q : Int32 → Sg → Prop} (h0 : x = 0 → Q 1 σ) (h1 : x = 1 → Q 1 σ) (hn : ¬ x = 0 → ¬ x = 1 → Q 0 σ) : wp_X6_in x 0 1 σ Q := by
  refine s_X6_inIdx (n := 2) (by decide) (by decide) (fun j hj e => ?_) (fun c => ?_)
  · have : j = 0 ∨ j = 1 := by omega
    rcases this with q | q
    · subst q; exact h0 e
    · subst q; exact h1 e
  · refine hn (fun e => ?_) (fun e => ?_)
    · subst e; exact absurd c (by decide)
    · subst e; exact absurd c (by decide)
theorem pr_stands (h : Rel σ) (x y : Int32) (hP : ∀ v τ, Rel τ → P v v τ) : wp_X5_stands x y σ (fun a σ1 => wp_X6_stands x y σ1 (fun b σ2 => P a b σ2)) := by
  obtain ⟨⟨hM, hI⟩, -⟩ := id h
  unfold wp_X5_stands
  refine s_isIndex2 (n := 4) (by decide) (fun l hl e => ?_) (fun c => ?_)
  · subst e
    have go : (y = 0 ∨ y = 1) → wp_X5_stands_b22 (nI l) y (fun a σ1 => wp_X6_stands (nI l) y σ1 (fun b σ2 => P a b σ2)) σ := by
      intro hy
      unfold wp_X5_stands_b22
      have hc := s_X2_copyFrom (σ := σ) (m := 1) (m1 := 0) (μ := σ 1) (Q := fun σ6 => wp_X5_stands_L35 (nI l) y (fun a σ1 => wp_X6_stands (nI l) y σ1 (fun b σ2 => P a b σ2)) 1 σ6) (by decide) hM hI
      rw [sm_self] at hc
      refine hc (fun μ' hM' => ?_)
      refine s_X5_standsL (d := σ 12 25 0) l hl rfl hM' hI (fun μ2 => ?_)
      unfold wp_X6_stands
      refine s_X6_laneIx1 hl ⟨fun _ => ?_, fun c => absurd c (by decide)⟩
      have run : wp_X6_putAside (sm σ 1 μ2) (fun σ7 => wp_X6_stands_L31 (nI l) y (fun b σ2 => P (stR 200 1 l y (σ 12 19 0) (σ 12 25 0)) b σ2) (-6) 1 σ7) := by
        rw [← sa_self (sm σ 1 μ2)]
        refine s_X6_putAside ?_
        rw [sm_ne _ _ (by decide)]
        refine s_X6_standsL l hl hI rfl (fun d' r' => hP _ _ ?_)
        exact Rel_asked h (fun q hq => by rw [cpN_lt hq, cpN_lt hq])
      refine s_in01 (fun _ => ⟨fun _ => run, fun c => absurd c (by decide)⟩) (fun _ => ⟨fun _ => run, fun c => absurd c (by decide)⟩) (fun c0 c1 => ?_)
      rcases hy with e | e
      · exact absurd e c0
      · exact absurd e c1
    refine ⟨fun _ => ⟨fun c => go (Or.inl c), fun c0 => ⟨fun c => go (Or.inr c), fun c1 => ?_⟩⟩, fun c => absurd c (by decide)⟩
    unfold wp_X6_stands
    refine s_X6_laneIx1 hl ⟨fun _ => ?_, fun c => absurd c (by decide)⟩
    exact s_in01 (fun e => absurd e c0) (fun e => absurd e c1) (fun _ _ => ⟨fun d => absurd rfl d, fun _ => hP _ _ h⟩)
  · refine ⟨fun d => absurd rfl d, fun _ => ?_⟩
    unfold wp_X6_stands
    exact s_X6_laneIx0 c ⟨fun d => absurd rfl d, fun _ => hP _ _ h⟩
theorem pr_ifApart (h : Rel σ) (x y z : Int32) (hP : ∀ v τ, Rel τ → P v v τ) : wp_X5_ifApart x y z σ (fun a σ1 => wp_X6_ifApart x y z σ1 (fun b σ2 => P a b σ2)) := by
  obtain ⟨⟨hM, hI⟩, -⟩ := id h
  unfold wp_X5_ifApart
  refine s_isIndex2 (n := 6) (by decide) (fun f hf e => ?_) (fun c => ?_)
  · subst e
    refine ⟨fun c => absurd c (by decide), fun _ => ?_⟩
    refine s_isIndex2 (n := 6) (by decide) (fun o ho e => ?_) (fun c => ?_)
    · subst e
      refine ⟨fun _ => ⟨fun c => ?_, fun c => ?_⟩, fun c => absurd c (by decide)⟩
      · unfold wp_X6_ifApart
        exact s_X6_flavIx1 hf ⟨fun c => absurd c (by decide), fun _ => s_X6_flavIx1 ho ⟨fun _ => ⟨fun _ => hP _ _ h, fun d => absurd c d⟩, fun c => absurd c (by decide)⟩⟩
      · have hfo : f ≠ o := fun w => c (by rw [w])
        refine s_X5_bt (fun g => ⟨fun _ => ?_, fun c => absurd c (by decide)⟩) (fun g => ⟨fun d => absurd rfl d, fun _ => ?_⟩)
        · obtain ⟨n, n1, n2, rfl⟩ := bt_nI (a := 1) (b := 50) (by decide) (by decide) g
          have hc := s_X2_copyFrom (σ := σ) (m := 1) (m1 := 0) (μ := σ 1) (Q := fun σ11 => wp_X2_switchApart 1 (nI f) (nI o) σ11 (fun σ12 => wp_X2_work 1 (nI n) σ12 (fun r13 σ14 => wp_X6_ifApart (nI f) (nI o) (nI n) σ14 (fun b σ2 => P r13 b σ2)))) (by decide) hM hI
          rw [sm_self] at hc
          refine hc (fun μ' hM' => ?_)
          refine s_X2_switchApart f o hf ho hfo hM' hI rfl rfl (fun μ2 hM2 => ?_)
          refine s_X2_work n (by omega) (σ 12 25 0) hM2 (IR_turn hI) rfl (fun μ3 hM3 _ => ?_)
          unfold wp_X6_ifApart
          refine s_X6_flavIx1 hf ⟨fun c => absurd c (by decide), fun _ => s_X6_flavIx1 ho ⟨fun _ => ⟨fun d => absurd d c, fun _ => ?_⟩, fun c => absurd c (by decide)⟩⟩
          refine s_X6_bt (fun _ => ⟨fun _ => ?_, fun c => absurd c (by decide)⟩) (fun g2 => absurd (g.symm.trans g2) (by decide))
          have run : wp_X6_putAside (sm σ 1 μ3) (fun σ11 => wp_X6_turn (nI f) (nI o) σ11 (fun σ12 => wp_X6_runs (nI n) σ12 (fun r13 σ14 => wp_X6_putBack σ14 (fun σ15 => P (runsC n (turnR (σ 12 19 0) f o) (σ 12 25 0)).1 r13 σ15)))) := by
            rw [← sa_self (sm σ 1 μ3)]
            refine s_X6_putAside ?_
            rw [sm_ne _ _ (by decide)]
            refine s_X6_turn f o hf ho hfo rfl rfl ?_
            refine s_X6_runs n (by omega) (IR_turn hI) rfl ?_
            refine s_X6_putBack (hP _ _ ?_)
            exact Rel_asked h (fun q hq => by rw [cpN_lt hq, cpN_lt hq])
          exact run
        · unfold wp_X6_ifApart
          refine s_X6_flavIx1 hf ⟨fun c => absurd c (by decide), fun _ => s_X6_flavIx1 ho ⟨fun _ => ⟨fun d => absurd d c, fun _ => ?_⟩, fun c => absurd c (by decide)⟩⟩
          exact s_X6_bt (fun g2 => absurd (g2.symm.trans g) (by decide)) (fun _ => ⟨fun d => absurd rfl d, fun _ => hP _ _ h⟩)
    · refine ⟨fun d => absurd rfl d, fun _ => ?_⟩
      unfold wp_X6_ifApart
      exact s_X6_flavIx1 hf ⟨fun c => absurd c (by decide), fun _ => s_X6_flavIx0 c ⟨fun d => absurd rfl d, fun _ => hP _ _ h⟩⟩
  · refine ⟨fun _ => ?_, fun d => absurd rfl d⟩
    unfold wp_X6_ifApart
    exact s_X6_flavIx0 c ⟨fun _ => hP _ _ h, fun d => absurd rfl d⟩
/-- the best speed: after the first one -/
def bsW (n : Nat) (r : Nat → Int32) (v : Nat) : Int32 := (runsC n (upd r 0 (nI v)) (fun _ => 0)).1
def bsN (n : Nat) (r : Nat → Int32) : Nat → Int32 × Int32
  | 0 => (nI 1, bsW n r 1)
  | k + 1 => if bsW n r (k + 2) ≤ (bsN n r k).2 then bsN n r k else (nI (k + 2), bsW n r (k + 2))
theorem IR_speed {v : Nat} (h1 : 1 ≤ v) (h9 : v ≤ 9) (hI : IR r) : IR (upd r 0 (nI v)) := by
  have e : setR r 0 (nI v) = (r 0, upd r 0 (nI v)) := by
    unfold setR
    rw [if_neg (by rw [show (0 : Int32) = nI 0 from rfl, ob_0 (by decide) (by decide)]; decide)]
    have e2 : otB (nI v) (lst (0 : Int32).toNatClampNeg) (mst (0 : Int32).toNatClampNeg) = false := by
      show (decide (nI v < nI 1) || decide (nI 9 < nI v)) = false
      rw [decide_eq_false (nI_nlt (by omega) (by omega)), decide_eq_false (nI_nlt (by omega) (by omega))]
      rfl
    rw [if_neg (by rw [e2]; decide)]
    rfl
  have := IR_set (x := 0) (y := nI v) hI
  rw [e] at this
  exact this
theorem bs_w {n v : Nat} (hn : n ≤ 50) (h1 : 1 ≤ v) (h9 : v ≤ 9) (hI : IR r) (d : Nat → Int32) : (runsC n (upd r 0 (nI v)) d).1 = bsW n r v ∧ ¬ bsW n r v ≤ -1 ∧ ¬ bsW n r v ≤ -6 := by
  have e : (runsC n (upd r 0 (nI v)) d).1 = bsW n r v := runsC_d _ _ _
  obtain ⟨W, w1, w2⟩ := runsC_w (n := n) (d := fun _ => 0) (by omega) (IR_speed h1 h9 hI)
  have e2 : bsW n r v = nI W := w2
  refine ⟨e, ?_, ?_⟩
  · rw [e2]
    intro c
    exact nI_pos (by omega) (Int32.lt_of_le_of_lt c (by decide))
  · rw [e2]
    intro c
    exact nI_pos (by omega) (Int32.lt_of_le_of_lt c (by decide))
/-- one more speed, from what is best so far -/
theorem bs_step {n k : Nat} {v3 v4 m0 : Int32} (hm : ¬ bsW n r (k + 1) ≤ m0 ∨ 0 < k) (hj : (k = 0 ∧ v4 = m0) ∨ ∃ k', k = k' + 1 ∧ (v3, v4) = bsN n r k') : (bsW n r (k + 1) ≤ v4 → ∃ k', k + 1 = k' + 1 ∧ (v3, v4) = bsN n r k') ∧ (¬ bsW n r (k + 1) ≤ v4 → ∃ k', k + 1 = k' + 1 ∧ (nI (k + 1), bsW n r (k + 1)) = bsN n r k') := by
  rcases hj with ⟨e0, e4⟩ | ⟨k', ek, e⟩
  · subst e0; subst e4
    refine ⟨fun c => ?_, fun _ => ⟨0, rfl, rfl⟩⟩
    rcases hm with hm | hm
    · exact absurd c hm
    · omega
  · subst ek
    have e4 : v4 = (bsN n r k').2 := congrArg Prod.snd e
    refine ⟨fun c => ⟨k' + 1, rfl, ?_⟩, fun c => ⟨k' + 1, rfl, ?_⟩⟩
    · rw [bsN, if_pos (by rw [← e4]; exact c)]; exact e
    · rw [bsN, if_neg (by rw [← e4]; exact c)]
theorem pr_bestSpeed (h : Rel σ) (x y : Int32) (hP : ∀ v τ, Rel τ → P v v τ) : wp_X5_bestSpeed x y σ (fun a σ1 => wp_X6_bestSpeed x y σ1 (fun b σ2 => P a b σ2)) := by
  obtain ⟨⟨hM, hI⟩, -⟩ := id h
  unfold wp_X5_bestSpeed
  refine s_X5_bt (fun g => ⟨fun _ => ?_, fun c => absurd c (by decide)⟩) (fun g => ⟨fun d => absurd rfl d, fun _ => ?_⟩)
  · obtain ⟨n, n1, n2, rfl⟩ := bt_nI (a := 1) (b := 50) (by decide) (by decide) g
    have ref : ∀ μ2, (y = 0 ∨ y = 1) → wp_X6_bestSpeed (nI n) y (sm σ 1 μ2) (fun b σ2 => P (if y = 0 then (bsN n (σ 12 19 0) 8).1 else (bsN n (σ 12 19 0) 8).2) b σ2) := by
      intro μ2 hy
      unfold wp_X6_bestSpeed
      refine s_X6_bt (fun _ => ⟨fun c => absurd c (by decide), fun _ => ?_⟩) (fun g2 => absurd (g.symm.trans g2) (by decide))
      have run : wp_X6_putAside (sm σ 1 μ2) (fun σ7 => wp_X6_bestSpeed_L35 (nI n) y (fun b σ2 => P (if y = 0 then (bsN n (σ 12 19 0) 8).1 else (bsN n (σ 12 19 0) 8).2) b σ2) 0 (-6) 1 σ7) := by
        rw [← sa_self (sm σ 1 μ2)]
        refine s_X6_putAside ?_
        rw [sm_ne _ _ (by decide)]
        unfold wp_X6_bestSpeed_L35
        refine lpN_rel 9 (fun k a => ∃ v3 v4 d', a = (v3, v4, nI (k + 1), sr (sd (sa (sm σ 1 μ2) (cpN 194 (σ 12 19 0) (sm σ 1 μ2 12 20 0))) d') (σ 12 19 0)) ∧ ((k = 0 ∧ v4 = -6) ∨ ∃ k', k = k' + 1 ∧ (v3, v4) = bsN n (σ 12 19 0) k')) ?_ ?_ 0 _ (Nat.zero_le _) ⟨_, _, _, rfl, Or.inl ⟨rfl, rfl⟩⟩
        · rintro K k a hk ⟨v3, v4, d', rfl, hj⟩ hK
          dsimp only
          unfold st_X6_bestSpeed_L35
          refine ⟨fun c => absurd c (show ¬ nI 9 < nI (k + 1) from nI_nlt (by omega) (by decide)), fun _ => ?_⟩
          rintro σ10 rfl
          rw [sr_up]
          have hI2 : IR (upd (σ 12 19 0) 0 (nI (k + 1))) := IR_speed (by omega) (by omega) hI
          refine s_X6_runs n (by omega) hI2 rfl ?_
          obtain ⟨w1, -, w2⟩ := bs_w (v := k + 1) n2 (by omega) (by omega) hI d'
          have eb : cpN 194 (cpN 194 (σ 12 19 0) (sm σ 1 μ2 12 20 0)) (runsC n (upd (σ 12 19 0) 0 (nI (k + 1))) d').2.1 = σ 12 19 0 := back_eq (fun j hj => (runsC_hi hj hI2).trans (pk_un (by omega)))
          rw [w1]
          obtain ⟨s1, s2⟩ := bs_step (v3 := v3) (Or.inl w2) hj
          unfold wp_X6_bestSpeed_b70 wp_X6_bestSpeed_b85
          refine ⟨fun c => ⟨fun _ => ?_, fun d => absurd c d⟩, fun c => ⟨fun d => absurd d c, fun _ => ?_⟩⟩
          · refine s_X6_putBack ?_
            rw [eb]
            rintro z16 rfl
            exact hK _ ⟨_, _, _, by rw [nI_1], Or.inr (s1 c)⟩
          · refine s_X6_putBack ?_
            rw [eb]
            rintro z16 rfl
            exact hK _ ⟨_, _, _, by rw [nI_1], Or.inr (s2 c)⟩
        · rintro K a ⟨v3, v4, d', rfl, hj⟩
          dsimp only
          unfold st_X6_bestSpeed_L35
          refine ⟨fun _ => ?_, fun c => absurd (show nI 9 < nI (9 + 1) by decide) c⟩
          rcases hj with ⟨e, -⟩ | ⟨k', e, ej⟩
          · omega
          · have ek : k' = 8 := by omega
            subst ek
            rw [← ej]
            have hR := Rel_asked (μ := μ2) (a := cpN 194 (σ 12 19 0) (sm σ 1 μ2 12 20 0)) (d := d') (r := σ 12 19 0) h (fun q _ => rfl)
            refine ⟨fun c => ?_, fun c => ?_⟩
            · rw [if_neg c]; exact hP _ _ hR
            · rw [if_pos c]; exact hP _ _ hR
      exact s_in01 (fun _ => ⟨fun _ => run, fun c => absurd c (by decide)⟩) (fun _ => ⟨fun _ => run, fun c => absurd c (by decide)⟩) (fun c0 c1 => by
        rcases hy with e | e
        · exact absurd e c0
        · exact absurd e c1)
    have go : (y = 0 ∨ y = 1) → wp_X5_bestSpeed_b25 (nI n) y (fun a σ1 => wp_X6_bestSpeed (nI n) y σ1 (fun b σ2 => P a b σ2)) σ := by
      intro hy
      unfold wp_X5_bestSpeed_b25
      rintro z6 rfl
      unfold wp_X5_bestSpeed_L37
      refine lpN_rel 9 (fun k a => ∃ v3 v4 μ', a = (v3, v4, nI (k + 1), sm σ 1 μ') ∧ ((k = 0 ∧ v4 = -1) ∨ ∃ k', k = k' + 1 ∧ (v3, v4) = bsN n (σ 12 19 0) k')) ?_ ?_ 0 _ (Nat.zero_le _) ⟨_, _, σ 1, by rw [sm_self]; rfl, Or.inl ⟨rfl, rfl⟩⟩
      · rintro K k a hk ⟨v3, v4, μ', rfl, hj⟩ hK
        dsimp only
        unfold st_X5_bestSpeed_L37
        refine ⟨fun c => absurd c (show ¬ nI 9 < nI (k + 1) from nI_nlt (by omega) (by decide)), fun _ => ?_⟩
        refine s_X2_copyFrom (by decide) hM hI (fun μ2 hM2 => ?_)
        rintro σ10 rfl
        rw [sm_up]
        obtain ⟨w1, w2, -⟩ := bs_w (v := k + 1) n2 (by omega) (by omega) hI (σ 12 25 0)
        refine s_X2_work n (by omega) (σ 12 25 0) (MR_set (by decide) hM2 hI) (IR_speed (by omega) (by omega) hI) rfl (fun μ3 hM3 _ => ?_)
        rw [w1]
        obtain ⟨s1, s2⟩ := bs_step (v3 := v3) (Or.inl w2) hj
        unfold wp_X5_bestSpeed_b93
        refine ⟨fun c => ?_, fun c => ?_⟩
        · rintro z14 rfl
          exact hK _ ⟨_, _, μ3, by rw [nI_1], Or.inr (s1 c)⟩
        · rintro z14 rfl
          exact hK _ ⟨_, _, μ3, by rw [nI_1], Or.inr (s2 c)⟩
      · rintro K a ⟨v3, v4, μ', rfl, hj⟩
        dsimp only
        unfold st_X5_bestSpeed_L37
        refine ⟨fun _ => ?_, fun c => absurd (show nI 9 < nI (9 + 1) by decide) c⟩
        rcases hj with ⟨e, -⟩ | ⟨k', e, ej⟩
        · omega
        · have ek : k' = 8 := by omega
          subst ek
          have hr := ref μ' hy
          rw [← ej] at hr
          refine ⟨fun c => ?_, fun c => ?_⟩
          · rw [if_neg c] at hr; exact hr
          · rw [if_pos c] at hr; exact hr
    refine ⟨fun c => go (Or.inl c), fun c0 => ⟨fun c => go (Or.inr c), fun c1 => ?_⟩⟩
    unfold wp_X6_bestSpeed
    refine s_X6_bt (fun _ => ⟨fun c => absurd c (by decide), fun _ => ?_⟩) (fun g2 => absurd (g.symm.trans g2) (by decide))
    exact s_in01 (fun e => absurd e c0) (fun e => absurd e c1) (fun _ _ => ⟨fun d => absurd rfl d, fun _ => hP _ _ h⟩)
  · unfold wp_X6_bestSpeed
    exact s_X6_bt (fun g2 => absurd (g2.symm.trans g) (by decide)) (fun _ => ⟨fun _ => hP _ _ h, fun d => absurd rfl d⟩)
end WI
