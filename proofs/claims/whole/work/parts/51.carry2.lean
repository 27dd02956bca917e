/-! Orders carried out: the reference, and both. -/
section CQ
variable {σ : Sg} {Q : Int32 → Sg → Prop} {P : Int32 → Int32 → Sg → Prop} {L : Nat}
theorem s_X6_go1 (hL : L ≤ 80) (h7 : σ 12 18 0 7 = nI L) (hI : IR (σ 12 19 0)) (hf : (fltP (σ 12 24 0) L 80 0).1 = true) (hq : ∀ d' q', IR (crP (σ 12 24 0) L 80 0 (σ 12 19 0) 0).2 → Q (nI (crP (σ 12 24 0) L 80 0 (σ 12 19 0) 0).1) (ms (sr (sd σ d') (crP (σ 12 24 0) L 80 0 (σ 12 19 0) 0).2) (σ 12 18 0) q' 0)) : wp_X6_go 1 σ Q := by
  unfold wp_X6_go
  rintro σ1 rfl σ2 rfl
  rw [up2_ms]
  unfold wp_X6_go_L14
  have ec : ∀ d r, sr (sd σ d) r 12 24 = σ 12 24 := fun d r => by rw [sr_ne2 _ _ (by decide)]; exact ua_k (by decide)
  generalize hR : crP (σ 12 24 0) L 80 0 (σ 12 19 0) 0 = R at hq
  refine lpN_rel 80 (fun k a => (∃ q d r, a = (nI k, 1, ms (sr (sd σ d) r) (σ 12 18 0) q 0) ∧ 2 * k ≤ q ∧ q ≤ 80 ∧ IR r ∧ crP (σ 12 24 0) L (80 - k) q r k = R ∧ (fltP (σ 12 24 0) L (80 - k) q).1 = true) ∨ (IR R.2 ∧ ∃ q d, a = (nI R.1, 0, ms (sr (sd σ d) R.2) (σ 12 18 0) q 0))) ?_ ?_ 0 _ (Nat.zero_le _) (Or.inl ⟨0, σ 12 25 0, σ 12 19 0, by rw [srd_self]; rfl, Nat.le_refl 0, Nat.zero_le _, hI, hR, hf⟩)
  · rintro K k a hk (⟨q, d, r, rfl, hq1, hq2, hI1, he, hfl⟩ | ⟨hIR, q, d, rfl⟩) hK
    · dsimp only
      unfold st_X6_go_L14
      refine ⟨fun c => absurd c (by decide), fun _ => ?_⟩
      rw [show 80 - k = (79 - k) + 1 by omega] at he hfl
      rw [crP_s] at he
      obtain ⟨f1, f2, f3⟩ := flt_ok hfl
      have hle := orP_le (σ 12 24 0) L q
      have adv := orP_adv f1
      refine s_X6_order hL h7 (by omega) (fun hb => ?_) (fun _ => ⟨fun c => absurd c (by decide), fun _ => ?_⟩)
      · rw [ec, f1] at hb
        exact absurd hb (by decide)
      · rw [ec, ms_srd]
        refine s_chgR hI1 (fun d' => ?_)
        have hI2 := IR_ch (k := chA (σ 12 24 0) L q) (z := (orP (σ 12 24 0) L q).2.2) hI1
        rw [← ms_srd]
        generalize hC : chP (chA (σ 12 24 0) L q) (orP (σ 12 24 0) L q).2.2 r = C at he hI2
        refine ⟨fun c => ?_, fun c => ?_⟩
        · rintro z7 rfl
          rw [if_neg (Int32.not_lt.mpr c)] at he
          rw [nI_1, ms_10, ms_9, ms_j (by decide) (by decide), h7]
          refine ⟨fun e => absurd rfl e, fun _ => ⟨fun e => ?_, fun e => ?_⟩⟩
          · have hge : L ≤ (orP (σ 12 24 0) L q).1 := by
              by_cases z : L ≤ (orP (σ 12 24 0) L q).1
              · exact z
              · exact absurd e (nI_ge (by omega) (by omega))
            rw [if_pos hge] at he
            unfold wp_X6_go_b53 wp_X6_go_b54
            exact ⟨fun _ => hK _ (Or.inr ⟨by rw [← he]; exact hI2, _, d', by rw [← he]⟩), fun e => absurd rfl e⟩
          · have hlt : (orP (σ 12 24 0) L q).1 < L := by
              by_cases z : (orP (σ 12 24 0) L q).1 < L
              · exact z
              · exact absurd (nI_le (by omega) (by omega)) e
            rw [if_neg (by omega)] at he
            obtain ⟨g1, g2⟩ := f3 (by omega)
            unfold wp_X6_go_b54
            refine ⟨fun e => absurd e (by decide), fun _ => ?_⟩
            refine s_X6_sign hL h7 (by omega) (by decide) (fun hs => ?_) (fun hs => ?_)
            · rw [ms_10]
              unfold wp_X6_go_b81
              exact ⟨fun e => absurd rfl e, fun _ => hK _ (Or.inl ⟨(orP (σ 12 24 0) L q).1 + 1, d', C.2, rfl, by omega, by omega, hI2, by rw [show 80 - (k + 1) = 79 - k by omega]; exact he, by rw [show 80 - (k + 1) = 79 - k by omega]; exact g2⟩)⟩
            · rw [ec, ot_eq.mpr g1] at hs
              exact absurd hs (by decide)
        · rw [if_pos (Int32.not_le.mp c)] at he
          have := hq d' (orP (σ 12 24 0) L q).1
          rw [← he] at this
          exact this hI2
    · dsimp only
      unfold st_X6_go_L14
      exact ⟨fun _ => hq d q hIR, fun e => absurd rfl e⟩
  · rintro K a (⟨q, d, r, rfl, hq1, hq2, hI1, he, hfl⟩ | ⟨hIR, q, d, rfl⟩)
    · omega
    · dsimp only
      unfold st_X6_go_L14
      exact ⟨fun _ => hq d q hIR, fun e => absurd rfl e⟩
theorem flt_le {c : Nat → Int32} (hL : L ≤ 80) : ∀ f q, q ≤ 80 → (fltP c L f q).2 ≤ 170 := by
  intro f
  induction f with
  | zero => intro q hq; show q ≤ 170; omega
  | succ f ih =>
    intro q hq
    have hle := orP_le c L q
    rw [fltP_s]
    by_cases c1 : (orP c L q).2.1 = false
    · rw [if_pos c1]; show (orP c L q).1 ≤ 170; omega
    rw [if_neg c1]
    by_cases c2 : L ≤ (orP c L q).1
    · rw [if_pos c2]; show (orP c L q).1 ≤ 170; omega
    rw [if_neg c2]
    by_cases c3 : chA c L (orP c L q).1 = 59
    · rw [if_pos c3]; exact ih _ (by omega)
    · rw [if_neg c3]; show (orP c L q).1 ≤ 170; omega
theorem Rel_pd {g v : Nat → Int32} (h : Rel σ) (hg : g 2 = σ 11 15 0 2) : Rel (pd σ g v) := by
  refine Rel_congr h (fun m h1 h2 => ?_) (fun k hk => ?_) ?_ (fun k hk => ?_) ?_ ?_ (fun q hq => ?_)
  · exact pd_m (by omega)
  · exact pd_k (by omega) (by omega)
  · rw [pd_g]; exact hg
  · rw [pd_m (by decide)]
  · rw [pd_m (by decide)]
  · rw [pd_m (by decide)]
  · rw [pd_m (by decide)]
theorem sm_pd' (σ : Sg) (g v : Nat → Int32) (μ : Nat → Nat → Nat → Int32) {m : Nat} (hm : m ≠ 11) : sm (pd σ g v) m μ = pd (sm σ m μ) g v := by
  funext a b c
  unfold sm pd ua
  dsimp only
  by_cases h : a = m
  · rw [if_pos h, if_neg (by omega), if_neg (by omega), if_pos h]
  · rw [if_neg h, if_neg h]
theorem pr_carryOut (h : Rel σ) (hP : ∀ v τ, Rel τ → P v v τ) : wp_X5_carryOut σ (fun a σ1 => wp_X6_carryOut σ1 (fun b σ2 => P a b σ2)) := by
  obtain ⟨⟨hM, hI⟩, ⟨p, D, hH⟩, hS, L, l1, l2, l3, l4⟩ := id h
  have hcc : ∀ j, j < L → σ 11 16 0 j = σ 12 24 0 j := fun j hj => by
    obtain ⟨k, -, -, k3, k4⟩ := l4 j hj
    rw [k3, k4]
  have hfc : fltP (σ 11 16 0) L = fltP (σ 12 24 0) L := flt_congr hcc
  have hrc : crP (σ 11 16 0) L = crP (σ 12 24 0) L := crP_congr hcc
  have hD := hH.2.2.2.2.1
  unfold wp_X5_carryOut
  have ff : ∀ R : Int32 → Sg → Prop, (∀ g' v', g' 2 = nI L → R (if (fltP (σ 11 16 0) L 80 0).1 then -6 else nI (fltP (σ 11 16 0) L 80 0).2) (pd σ g' v')) → wp_X3_findFault σ R := by
    intro R hR
    rw [← pd_self σ]
    exact s_X3_findFault l2 l1 hR
  refine ff _ (fun g' v' hg' => ?_)
  rw [hfc]
  have e12 : pd σ g' v' 12 = σ 12 := pd_m (by decide)
  cases hok : (fltP (σ 12 24 0) L 80 0).1 with
  | false =>
    have hle := flt_le (c := σ 12 24 0) l1 80 0 (by decide)
    refine ⟨fun c => absurd (show nI (fltP (σ 12 24 0) L 80 0).2 < 0 by rw [show nI (fltP (σ 12 24 0) L 80 0).2 = -6 from c]; decide) (nI_pos (by omega)), fun _ => ?_⟩
    unfold wp_X6_carryOut
    refine s_X6_go0 (L := L) l1 (by rw [e12]; exact l3) (fun ht u => ?_) (fun ht u => ?_)
    · rw [e12, hok] at ht
      exact absurd ht (by decide)
    · rw [ms_10]
      exact ⟨fun c => absurd c (by decide), fun _ => hP _ _ (Rel_pad h (hg'.trans l2.symm))⟩
  | true =>
    refine ⟨fun _ => ?_, fun c => absurd rfl c⟩
    have hR := Rel_pd (v := v') h (hg'.trans l2.symm)
    have p6 := hH.1 6 (by omega)
    have hH' : RH (pd σ g' v') p D := by
      refine RH_of (b := bfR σ) (CH_congr (CH_of hH) (pd_k (by decide) (by decide)) (pd_k (by decide) (by decide)) (fun j hj => ?_)) (by rw [e12]; exact hH.2.2.2.2.2.2.1) (fun j q hj hq => by rw [e12]; rfl)
      have := hH.1 j (by omega)
      exact pd_m (by omega)
    refine s_prep (s := σ 12 19 0) hH' (by rw [pd_m (by decide)]; exact hM) hI (fun ν hν => ?_)
    rw [sm_pd' _ _ _ _ (by omega)]
    unfold wp_X3_startReading
    rintro σ5 rfl
    rw [pd_ug]
    have e16 : sm σ (p 6) ν 11 = σ 11 := sm_ne _ _ (by omega)
    have s0 : sm (sm σ (p 6) ν) 0 (sm σ (p 6) ν 0) = sm σ (p 6) ν := sm_self _ _
    rw [← s0]
    refine s_X5_carryL (L := L) (r := σ 12 19 0) (by rw [pk_un (by decide)]; exact hg') pk_us l1 (by rw [sm_ne _ _ (by omega)]; exact hM) hI (by rw [e16, hfc]; exact hok) (fun g2 v2 μ' _ hμ' hIR hN => ?_)
    rw [e16, hrc] at hμ' hIR hN ⊢
    unfold wp_X5_carryOut_b87 wp_X3_clear
    rintro z1 rfl σ2 rfl
    rw [pd_ug]
    have f12 : pd (sm (sm σ (p 6) ν) 0 μ') (upd g2 2 0) v2 12 = σ 12 := by rw [pd_m (by decide), sm_ne _ _ (by decide), sm_ne _ _ (by omega)]
    have f0 : pd (sm (sm σ (p 6) ν) 0 μ') (upd g2 2 0) v2 0 = μ' := by rw [pd_m (by decide), sm_m]
    have f6 : pd (sm (sm σ (p 6) ν) 0 μ') (upd g2 2 0) v2 (p 6) = ν := by rw [pd_m (by omega), sm_ne _ _ (by omega), sm_m]
    have fo : ∀ m, m ≠ 0 → m ≠ p 6 → m ≠ 11 → pd (sm (sm σ (p 6) ν) 0 μ') (upd g2 2 0) v2 m = σ m := fun m h1 h2 h3 => by rw [pd_m h3, sm_ne _ _ h1, sm_ne _ _ h2]
    have fk : ∀ k, k ≠ 15 → k ≠ 17 → pd (sm (sm σ (p 6) ν) 0 μ') (upd g2 2 0) v2 11 k = σ 11 k := fun k h1 h2 => by rw [pd_k h1 h2, sm_ne _ _ (by decide), e16]
    have f15 : pd (sm (sm σ (p 6) ν) 0 μ') (upd g2 2 0) v2 11 15 0 2 = 0 := by rw [pd_g, pk_us]
    generalize pd (sm (sm σ (p 6) ν) 0 μ') (upd g2 2 0) v2 = τ at f12 f0 f6 fo fk f15 ⊢
    have hC : CH τ p D (bfR σ) := CH_congr (CH_of hH) (fk 11 (by decide) (by decide)) (fk 12 (by decide) (by decide)) (fun j hj => by
      have := hH.1 j (by omega)
      exact fo _ (by omega) (fun e => by have := hH.2.1 j 6 (by omega) (by omega) e; omega) (by omega))
    refine s_X0_record hC (by rw [f6]; exact hν) hI (nI_pos (by omega)) (fun τ1 p1 g1 g3 g4 => ?_)
    have e1 : τ1 12 = σ 12 := (g1 12 (by decide)).trans f12
    unfold wp_X6_carryOut
    refine s_X6_go0 (L := L) l1 (by rw [e1]; exact l3) (fun ht u => ?_) (fun ht u => ?_)
    · rw [ms_10]
      refine ⟨fun _ => ?_, fun c => absurd rfl c⟩
      refine s_X6_record (D := D) hD (by rw [ms_j (by decide) (by decide), e1]; exact hH.2.2.2.2.2.2.1) (fun τ2 k1 k2 k3 k4 k5 => ?_)
      have q19 : τ2 12 19 = σ 12 19 := by rw [k2 19 (by decide) (by decide), ms_k (by decide), e1]
      have q24 : τ2 12 24 = σ 12 24 := by rw [k2 24 (by decide) (by decide), ms_k (by decide), e1]
      refine s_X6_go1 (L := L) l1 (by rw [k3 7 (by decide), ms_j (by decide) (by decide), e1]; exact l3) (by rw [q19]; exact hI) (by rw [q24]; exact hok) (fun d' q' hI2 => ?_)
      rw [q24, q19] at hI2 ⊢
      rintro σ7 rfl
      generalize crP (σ 12 24 0) L 80 0 (σ 12 19 0) 0 = R at hμ' hIR hN hI2 ⊢
      have n6 : nxt D ≤ 6 := by
        unfold nxt
        split <;> omega
      have um : ∀ m, m ≠ 12 → up (ms (sr (sd τ2 d') R.2) (τ2 12 18 0) q' 0) 12 18 0 7 0 m = τ1 m := fun m hm => by
        rw [up_m hm, ms_m hm, sr_ne _ _ hm]
        unfold sd
        rw [ua_m hm, k1 m hm, ms_m hm]
      have uk : ∀ k, k ≠ 18 → k ≠ 19 → k ≠ 21 → k ≠ 25 → up (ms (sr (sd τ2 d') R.2) (τ2 12 18 0) q' 0) 12 18 0 7 0 12 k = σ 12 k := fun k h1 h2 h3 h4 => by
        rw [up_k h1, ms_k h1, sr_ne2 _ _ h2]
        unfold sd
        rw [ua_k h4, k2 k h1 h3, ms_k h1, e1]
      have u19 : up (ms (sr (sd τ2 d') R.2) (τ2 12 18 0) q' 0) 12 18 0 7 0 12 19 0 = R.2 := by
        rw [up_k (by decide), ms_k (by decide), sr_row]
      have u21 : up (ms (sr (sd τ2 d') R.2) (τ2 12 18 0) q' 0) 12 18 0 7 0 12 21 0 = τ2 12 21 0 := by
        rw [up_k (by decide), ms_k (by decide), sr_ne2 _ _ (by decide)]
        unfold sd
        rw [ua_k (by decide)]
      have u3 : up (ms (sr (sd τ2 d') R.2) (τ2 12 18 0) q' 0) 12 18 0 7 0 12 18 0 3 = nI (nxt D) := by
        rw [up_j (by decide), ms_j (by decide) (by decide), k4]
      have u7 : up (ms (sr (sd τ2 d') R.2) (τ2 12 18 0) q' 0) 12 18 0 7 0 12 18 0 7 = 0 := up_e
      generalize up (ms (sr (sd τ2 d') R.2) (τ2 12 18 0) q' 0) 12 18 0 7 0 = φ at um uk u19 u21 u3 u7 ⊢
      refine hP _ _ ⟨⟨?_, ?_⟩, ⟨p1, nxt D, RH_of (b := psh D (bfR σ) (σ 12 19 0)) (CH_congr g4 ?_ ?_ (fun j hj => ?_)) u3 (fun j q hj hq => ?_)⟩, fun i hi => ?_, 0, Nat.zero_le _, ?_, u7, fun j hj => absurd hj (Nat.not_lt_zero j)⟩
      · rw [um 0 (by decide), u19, g1 0 (by decide), f0]; exact hμ'
      · rw [u19]; exact hI2
      · rw [um 11 (by decide)]
      · rw [um 11 (by decide)]
      · have := g4.1.1 j (by omega)
        rw [um _ (by omega)]
      · rw [u21, k5 j q hj hq, ms_k (by decide), e1]
        have eb : bfR (ms τ1 (τ1 12 18 0) (fltP (τ1 12 24 0) L 80 0).2 0) = bfR σ := by
          funext j q
          unfold bfR
          rw [ms_k (by decide), e1]
        rw [e1] at eb
        rw [eb]
      · have ekp : kpR φ i = kpR σ i := by
          unfold kpR
          rw [uk 22 (by decide) (by decide) (by decide) (by decide)]
        rw [ekp, um 11 (by decide), um (9 + i) (by omega), g3 13 (by decide) (by decide), g3 14 (by decide) (by decide), fk 13 (by decide) (by decide), fk 14 (by decide) (by decide), uk 23 (by decide) (by decide) (by decide) (by decide), g1 (9 + i) (by omega), fo (9 + i) (by omega) (by omega) (by omega)]
        exact hS i hi
      · rw [um 11 (by decide), g3 15 (by decide) (by decide)]; exact f15
    · rw [e1, hok] at ht
      exact absurd ht (by decide)
end CQ
