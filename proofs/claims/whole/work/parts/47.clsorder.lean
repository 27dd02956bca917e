/-! The class reads an order. -/
theorem sh_0 : ∀ x, x < 7 → (nI x >>> ((0 : Int32) &&& 31)) = nI x := by decide +kernel
def rdF (Q : Int32 → Sg → Prop) (n : Nat) (a : Nat × Int32 × Sg) : Prop := lpN (fun (K : Nat × Int32 × Sg → Prop) (a : Nat × Int32 × Sg) => st_X3_readOrder_L23 Q (fun v1 v2 σ => K (v1, v2, σ)) (a.1) (a.2.1) (a.2.2)) n a
def rdN (Q : Int32 → Sg → Prop) (n jj i : Nat) (τ : Sg) : Prop := rdF Q n (jj, nI i, τ)
def rdK (Q : Int32 → Sg → Prop) (n jj i : Nat) (τ : Sg) : Prop := ∀ z17 : Int32, z17 = nI i + (1 : Int32) → rdF Q n (jj, z17, τ)
theorem rdK_of {Q : Int32 → Sg → Prop} {n jj i : Nat} {τ : Sg} (h : rdN Q n jj (i + 1) τ) : rdK Q n jj i τ := by
  rintro z rfl
  rw [nI_1]
  exact h
section RC
variable {σ τ : Sg} {Q : Int32 → Sg → Prop} {g v : Nat → Int32} {L q n : Nat} {k : Int32} {N jj i : Nat}
theorem rd_step (ch : Nat) (hj : jj < 7) (hi : i < scL.getD jj 0) (hl : scL.getD jj 0 < 7) (hch : (Int32.toUInt32 (((scB.getD jj []).getD i 0) &&& (255 : Int32)) % 65536).toInt32 = nI ch) (hn : narrow .char (.int (nI ch)) = .int (nI ch)) (h : wp_X3_readPart (nI ch) τ (fun r σ15 => (¬ r = 0 → rdK Q N jj i σ15) ∧ (r = 0 → Q 0 σ15))) : rdN Q (N + 1) jj i τ := by
  show st_X3_readOrder_L23 Q (fun v1 v2 σ => rdF Q N (v1, v2, σ)) jj (nI i) τ
  unfold st_X3_readOrder_L23
  refine ⟨hj, ?_⟩
  unfold wp_J0_length_8abf5 wp_J0_coder_7d493
  dsimp only
  rw [sh_0 _ hl]
  refine ⟨fun c => absurd c (nI_ge hi (by omega)), fun _ => ?_⟩
  unfold wp_J0_charAt_5068e wp_J0_isLatin1_aae02
  refine ⟨fun c => absurd c (by decide), fun _ => ?_⟩
  unfold wp_J1_charAt_3b067 wp_J0_checkIndex_df160
  rw [nI_clamp (by omega), hch]
  exact ⟨nI_pos (by omega), (nI_ltI (by omega) (by omega)).mpr hi, vp_in_nI hi (by omega), hn, h⟩
theorem rd_end (hj : jj < 7) (hi : i = scL.getD jj 0) (hl : scL.getD jj 0 < 7) (h1 : ¬ scL.getD jj 0 = 0 → Q 1 τ) (h0 : scL.getD jj 0 = 0 → Q 0 τ) : rdN Q (N + 1) jj i τ := by
  show st_X3_readOrder_L23 Q (fun v1 v2 σ => rdF Q N (v1, v2, σ)) jj (nI i) τ
  unfold st_X3_readOrder_L23
  refine ⟨hj, ?_⟩
  unfold wp_J0_length_8abf5 wp_J0_coder_7d493
  dsimp only
  rw [sh_0 _ hl]
  subst hi
  refine ⟨fun _ => ?_, fun c => absurd (nI_le (Nat.le_refl _) (by omega)) c⟩
  unfold wp_J0_isEmpty_aae02
  exact ⟨fun c => ⟨fun d => absurd rfl d, fun _ => h1 (fun z => c (by rw [z]; rfl))⟩, fun c => ⟨fun _ => h0 (nI_z (by omega) c), fun d => absurd d (by decide)⟩⟩
theorem rd_d (hj : jj < 7) (hi : i < scL.getD jj 0) (hl : scL.getD jj 0 < 7) (hch : (Int32.toUInt32 (((scB.getD jj []).getD i 0) &&& (255 : Int32)) % 65536).toInt32 = nI 100) (hg : gq L q k n g) (hL : L ≤ 80) (hq0 : q < 2 ^ 18) (hn : n < 3) (h1 : dgB (σ 11 16 0) L q = true → ∀ g', gq L (q + 1) k (n + 1) g' → rdN Q N jj (i + 1) (pd σ g' (upd v n (nI (dvl (σ 11 16 0) L q))))) (h0 : dgB (σ 11 16 0) L q = false → Q 0 (pd σ g v)) : rdN Q (N + 1) jj i (pd σ g v) := by
  refine rd_step 100 hj hi hl hch rfl ?_
  refine ⟨fun _ => ?_, fun d => absurd rfl d⟩
  refine s_X3_readDigit hg hL (by omega) hn (fun c => ⟨Or.inr rfl, ⟨fun _ => ?_, fun d => absurd d (by decide)⟩⟩) (fun c => ⟨Or.inl rfl, ⟨fun d => absurd rfl d, fun _ => h0 c⟩⟩)
  rw [dg_sub c]
  exact rdK_of (h1 c _ (gq_3 (gq_5 hg (n + 1)) (q + 1)))
theorem rd_s (ch : Nat) (hc1 : ¬ nI ch = 100) (hc2 : ¬ nI ch = 110) (hj : jj < 7) (hi : i < scL.getD jj 0) (hl : scL.getD jj 0 < 7) (hch : (Int32.toUInt32 (((scB.getD jj []).getD i 0) &&& (255 : Int32)) % 65536).toInt32 = nI ch) (hna : narrow .char (.int (nI ch)) = .int (nI ch)) (hg : gq L q k n g) (hL : L ≤ 80) (hq0 : q < 2 ^ 18) (h1 : chA (σ 11 16 0) L q = nI ch → ∀ g', gq L (q + 1) k n g' → rdN Q N jj (i + 1) (pd σ g' v)) (h0 : ¬ chA (σ 11 16 0) L q = nI ch → Q 0 (pd σ g v)) : rdN Q (N + 1) jj i (pd σ g v) := by
  refine rd_step ch hj hi hl hch hna ?_
  refine ⟨fun d => absurd d hc1, fun _ => ⟨fun d => absurd d hc2, fun _ => ?_⟩⟩
  refine s_X3_readSign hg hL (by omega) (fun c => ⟨Or.inr rfl, ⟨fun _ => ?_, fun d => absurd d (by decide)⟩⟩) (fun c => ⟨Or.inl rfl, ⟨fun d => absurd rfl d, fun _ => h0 c⟩⟩)
  exact rdK_of (h1 c _ (gq_3 hg (q + 1)))
theorem rd_n (hj : jj < 7) (hi : i < scL.getD jj 0) (hl : scL.getD jj 0 < 7) (hch : (Int32.toUInt32 (((scB.getD jj []).getD i 0) &&& (255 : Int32)) % 65536).toInt32 = nI 110) (hg : gq L q k n g) (hL : L ≤ 80) (hq0 : q < 2 ^ 18) (hn : n < 3) (h1 : dgB (σ 11 16 0) L q = true → ∀ w q', nuR (σ 11 16 0) L 80 (dvl (σ 11 16 0) L q) (q + 1) = (w, q') → ∀ g', g' 2 = nI L → g' 3 = nI q' → g' 4 = k → (dgB (σ 11 16 0) L q' = true → Q 0 (pd σ g' v)) ∧ (dgB (σ 11 16 0) L q' = false → rdN Q N jj (i + 1) (pd σ g' (upd v n (nI w))))) (h0 : dgB (σ 11 16 0) L q = false → Q 0 (pd σ g v)) : rdN Q (N + 1) jj i (pd σ g v) := by
  refine rd_step 110 hj hi hl hch rfl ?_
  refine ⟨fun d => absurd d (by decide), fun _ => ⟨fun _ => ?_, fun d => absurd rfl d⟩⟩
  refine s_X3_readNumber hg hL (by omega) hn (fun c => ⟨Or.inl rfl, ⟨fun d => absurd rfl d, fun _ => h0 c⟩⟩) (fun c w q' e => ⟨fun d => ⟨Or.inl rfl, ⟨fun d => absurd rfl d, fun _ => ?_⟩⟩, fun d => ⟨Or.inr rfl, ⟨fun _ => ?_, fun d => absurd d (by decide)⟩⟩⟩)
  · have hg' := gq_3 hg q'
    exact (h1 c w q' e _ hg'.1 hg'.2.1 hg'.2.2.1).1 d
  · have hg' := gq_5 (gq_3 hg q') (n + 1)
    exact rdK_of ((h1 c w q' e _ hg'.1 hg'.2.1 hg'.2.2.1).2 d)
def nlB (k : Int32) : Bool := decide (k = 104) || decide (k = 102) || decide (k = 115) || decide (k = 114)
def okC (c : Nat → Int32) (L q : Nat) : Bool := (orP c L q).2.1 && !(nlB (chA c L q) && dgB c L (orP c L q).1)
/-- the numbers of an order, as the class keeps them -/
def VAL (k : Int32) (z : Nat × Nat × Nat) (v : Nat → Int32) : Prop := (k = 104 → v 0 = nI z.1 ∧ v 1 = nI z.2.1 ∧ v 2 = nI z.2.2) ∧ (k = 102 → v 0 = nI z.1 ∧ v 1 = nI z.2.1) ∧ (k = 115 → v 0 = nI z.1) ∧ (k = 114 → v 0 = nI z.1) ∧ (k = 97 → v 0 = nI z.1 ∧ v 1 = nI z.2.1)
theorem s_X3_readOrder (hg : g 2 = nI L ∧ g 3 = nI q) (hL : L ≤ 80) (hq0 : q < 2 ^ 10) (h1 : okC (σ 11 16 0) L q = true → ∀ g' v', g' 2 = nI L → g' 3 = nI (orP (σ 11 16 0) L q).1 → g' 4 = chA (σ 11 16 0) L q → VAL (chA (σ 11 16 0) L q) (orP (σ 11 16 0) L q).2.2 v' → Q 1 (pd σ g' v')) (h0 : okC (σ 11 16 0) L q = false → ∀ g' v', g' 2 = nI L → g' 3 = nI (orP (σ 11 16 0) L q).1 → Q 0 (pd σ g' v')) : wp_X3_readOrder (pd σ g v) Q := by
  have hg0 : gq L q (g 4) 0 (upd g 5 (nI 0)) := ⟨by rw [pk_un (by decide)]; exact hg.1, by rw [pk_un (by decide)]; exact hg.2, by rw [pk_un (by decide)], pk_us⟩
  unfold wp_X3_readOrder
  have sh : wp_X3_signHere (pd σ g v) (fun r1 σ2 => ∀ σ3 : Sg, σ3 = up σ2 11 15 0 4 r1 → ∀ σ4 : Sg, σ4 = up σ3 11 15 0 5 (0 : Int32) → ∀ jj5 : Nat, jj5 = shp (σ4 11 15 0 4) → wp_X3_readOrder_L23 Q jj5 (0 : Int32) σ4) := by
    have e : ∀ R : Int32 → Sg → Prop, R (chA (σ 11 16 0) L q) (pd σ g v) → wp_X3_signHere (pd σ g v) R := by
      intro R hR
      unfold wp_X3_signHere
      rw [pd_g, hg.1, hg.2]
      unfold chA at hR
      refine ⟨fun c => absurd c (nI_pos (by omega)), fun _ => ⟨fun c => ?_, fun c => ?_⟩⟩
      · have := (nI_leI (a := L) (b := q) (by omega) (by omega)).mp c
        rw [if_neg (by omega)] at hR
        exact hR
      · have hlt : q < L := by
          by_cases z : q < L
          · exact z
          · exact absurd (nI_le (by omega) (by omega)) c
        rw [if_pos hlt] at hR
        refine ⟨fun d => absurd d (show ¬ nI 80 ≤ nI q from nI_ge (by omega) (by decide)), fun _ => ?_⟩
        rw [nI_clamp (by omega), pd_k (by decide) (by decide)]
        exact ⟨vp_in_nI (by omega) (by decide), hR⟩
    refine e _ ?_
    rintro σ3 rfl σ4 rfl jj5 rfl
    rw [pd_ug, pd_ug, pd_g, pk_un (by decide), pk_us]
    have hgq : gq L q (chA (σ 11 16 0) L q) 0 (upd (upd g 4 (chA (σ 11 16 0) L q)) 5 0) := ⟨by rw [pk_un (by decide), pk_un (by decide)]; exact hg.1, by rw [pk_un (by decide), pk_un (by decide)]; exact hg.2, by rw [pk_un (by decide), pk_us], pk_us⟩
    generalize upd (upd g 4 (chA (σ 11 16 0) L q)) 5 0 = g1 at hgq
    unfold okC orP at h1 h0
    by_cases c1 : chA (σ 11 16 0) L q = 104
    · have ej : shp (chA (σ 11 16 0) L q) = 0 := by rw [c1]; rfl
      have en : nlB (chA (σ 11 16 0) L q) = true := by rw [c1]; rfl
      rw [ej]
      rw [en] at h1 h0
      rw [if_pos c1] at h1 h0
      refine ⟨7, (show rdN Q 7 0 0 _ from ?_)⟩
      refine rd_s 104 (by decide) (by decide) (by decide) (by decide) (by decide) (by decide +kernel) rfl hgq hL (by omega) (fun _ g2 hg2 => ?_) (fun d => absurd c1 d)
      refine rd_d (by decide) (by decide) (by decide) (by decide +kernel) hg2 hL (by omega) (by decide) (fun hd g3 hg3 => ?_) (fun hd => ?_)
      · rw [if_pos hd] at h1 h0
        refine rd_s 46 (by decide) (by decide) (by decide) (by decide) (by decide) (by decide +kernel) rfl hg3 hL (by omega) (fun he g4 hg4 => ?_) (fun he => ?_)
        · rw [if_pos (show chA (σ 11 16 0) L (q + 2) = 46 from he)] at h1 h0
          refine rd_d (by decide) (by decide) (by decide) (by decide +kernel) hg4 hL (by omega) (by decide) (fun hd2 g5 hg5 => ?_) (fun hd2 => ?_)
          · rw [if_pos (show dgB (σ 11 16 0) L (q + 3) = true from hd2)] at h1 h0
            refine rd_s 42 (by decide) (by decide) (by decide) (by decide) (by decide) (by decide +kernel) rfl hg5 hL (by omega) (fun he2 g6 hg6 => ?_) (fun he2 => ?_)
            · rw [if_pos (show chA (σ 11 16 0) L (q + 4) = 42 from he2)] at h1 h0
              unfold nmP at h1 h0
              refine rd_n (by decide) (by decide) (by decide) (by decide +kernel) hg6 hL (by omega) (by decide) (fun hd3 w q' e g7 k2 k3 k4 => ⟨fun hx => ?_, fun hx => ?_⟩) (fun hd3 => ?_)
              · rw [if_pos (show dgB (σ 11 16 0) L (q + 5) = true from hd3), show nuR (σ 11 16 0) L 80 (dvl (σ 11 16 0) L (q + 5)) (q + 5 + 1) = (w, q') from e] at h0
                exact h0 (by rw [hx]; rfl) _ _ k2 k3
              · rw [if_pos (show dgB (σ 11 16 0) L (q + 5) = true from hd3), show nuR (σ 11 16 0) L 80 (dvl (σ 11 16 0) L (q + 5)) (q + 5 + 1) = (w, q') from e] at h1
                refine rd_end (by decide) (by decide) (by decide) (fun _ => ?_) (fun d => absurd d (by decide))
                exact h1 (by rw [hx]; rfl) _ _ k2 k3 k4 ⟨fun _ => ⟨rfl, rfl, rfl⟩, fun z => absurd (c1.symm.trans z) (by decide), fun z => absurd (c1.symm.trans z) (by decide), fun z => absurd (c1.symm.trans z) (by decide), fun z => absurd (c1.symm.trans z) (by decide)⟩
              · rw [if_neg (by rw [show dgB (σ 11 16 0) L (q + 5) = false from hd3]; decide)] at h0
                exact h0 rfl _ _ hg6.1 hg6.2.1
            · rw [if_neg (show ¬ chA (σ 11 16 0) L (q + 4) = 42 from he2)] at h0
              exact h0 rfl _ _ hg5.1 hg5.2.1
          · rw [if_neg (by rw [show dgB (σ 11 16 0) L (q + 3) = false from hd2]; decide)] at h0
            exact h0 rfl _ _ hg4.1 hg4.2.1
        · rw [if_neg (show ¬ chA (σ 11 16 0) L (q + 2) = 46 from he)] at h0
          exact h0 rfl _ _ hg3.1 hg3.2.1
      · rw [if_neg (by rw [hd]; decide)] at h0
        exact h0 rfl _ _ hg2.1 hg2.2.1
    rw [if_neg c1] at h1 h0
    by_cases c2 : chA (σ 11 16 0) L q = 102
    · have ej : shp (chA (σ 11 16 0) L q) = 1 := by rw [c2]; rfl
      have en : nlB (chA (σ 11 16 0) L q) = true := by rw [c2]; rfl
      rw [ej]
      rw [en] at h1 h0
      rw [if_pos c2] at h1 h0
      refine ⟨5, (show rdN Q 5 1 0 _ from ?_)⟩
      refine rd_s 102 (by decide) (by decide) (by decide) (by decide) (by decide) (by decide +kernel) rfl hgq hL (by omega) (fun _ g2 hg2 => ?_) (fun d => absurd c2 d)
      refine rd_d (by decide) (by decide) (by decide) (by decide +kernel) hg2 hL (by omega) (by decide) (fun hd g3 hg3 => ?_) (fun hd => ?_)
      · rw [if_pos hd] at h1 h0
        refine rd_s 43 (by decide) (by decide) (by decide) (by decide) (by decide) (by decide +kernel) rfl hg3 hL (by omega) (fun he g4 hg4 => ?_) (fun he => ?_)
        · rw [if_pos (show chA (σ 11 16 0) L (q + 2) = 43 from he)] at h1 h0
          unfold nmP at h1 h0
          refine rd_n (by decide) (by decide) (by decide) (by decide +kernel) hg4 hL (by omega) (by decide) (fun hd3 w q' e g7 k2 k3 k4 => ⟨fun hx => ?_, fun hx => ?_⟩) (fun hd3 => ?_)
          · rw [if_pos (show dgB (σ 11 16 0) L (q + 3) = true from hd3), show nuR (σ 11 16 0) L 80 (dvl (σ 11 16 0) L (q + 3)) (q + 3 + 1) = (w, q') from e] at h0
            exact h0 (by rw [hx]; rfl) _ _ k2 k3
          · rw [if_pos (show dgB (σ 11 16 0) L (q + 3) = true from hd3), show nuR (σ 11 16 0) L 80 (dvl (σ 11 16 0) L (q + 3)) (q + 3 + 1) = (w, q') from e] at h1
            refine rd_end (by decide) (by decide) (by decide) (fun _ => ?_) (fun d => absurd d (by decide))
            exact h1 (by rw [hx]; rfl) _ _ k2 k3 k4 ⟨fun z => absurd (c2.symm.trans z) (by decide), fun _ => ⟨rfl, rfl⟩, fun z => absurd (c2.symm.trans z) (by decide), fun z => absurd (c2.symm.trans z) (by decide), fun z => absurd (c2.symm.trans z) (by decide)⟩
          · rw [if_neg (by rw [show dgB (σ 11 16 0) L (q + 3) = false from hd3]; decide)] at h0
            exact h0 rfl _ _ hg4.1 hg4.2.1
        · rw [if_neg (show ¬ chA (σ 11 16 0) L (q + 2) = 43 from he)] at h0
          exact h0 rfl _ _ hg3.1 hg3.2.1
      · rw [if_neg (by rw [hd]; decide)] at h0
        exact h0 rfl _ _ hg2.1 hg2.2.1
    rw [if_neg c2] at h1 h0
    by_cases c3 : chA (σ 11 16 0) L q = 115
    · have ej : shp (chA (σ 11 16 0) L q) = 3 := by rw [c3]; rfl
      have en : nlB (chA (σ 11 16 0) L q) = true := by rw [c3]; rfl
      rw [ej]
      rw [en] at h1 h0
      rw [if_pos c3] at h1 h0
      refine ⟨3, (show rdN Q 3 3 0 _ from ?_)⟩
      refine rd_s 115 (by decide) (by decide) (by decide) (by decide) (by decide) (by decide +kernel) rfl hgq hL (by omega) (fun _ g2 hg2 => ?_) (fun d => absurd c3 d)
      unfold nmP at h1 h0
      refine rd_n (by decide) (by decide) (by decide) (by decide +kernel) hg2 hL (by omega) (by decide) (fun hd3 w q' e g7 k2 k3 k4 => ⟨fun hx => ?_, fun hx => ?_⟩) (fun hd3 => ?_)
      · rw [if_pos (show dgB (σ 11 16 0) L (q + 1) = true from hd3), show nuR (σ 11 16 0) L 80 (dvl (σ 11 16 0) L (q + 1)) (q + 1 + 1) = (w, q') from e] at h0
        exact h0 (by rw [hx]; rfl) _ _ k2 k3
      · rw [if_pos (show dgB (σ 11 16 0) L (q + 1) = true from hd3), show nuR (σ 11 16 0) L 80 (dvl (σ 11 16 0) L (q + 1)) (q + 1 + 1) = (w, q') from e] at h1
        refine rd_end (by decide) (by decide) (by decide) (fun _ => ?_) (fun d => absurd d (by decide))
        exact h1 (by rw [hx]; rfl) _ _ k2 k3 k4 ⟨fun z => absurd (c3.symm.trans z) (by decide), fun z => absurd (c3.symm.trans z) (by decide), fun _ => rfl, fun z => absurd (c3.symm.trans z) (by decide), fun z => absurd (c3.symm.trans z) (by decide)⟩
      · rw [if_neg (by rw [show dgB (σ 11 16 0) L (q + 1) = false from hd3]; decide)] at h0
        exact h0 rfl _ _ hg2.1 hg2.2.1
    rw [if_neg c3] at h1 h0
    by_cases c4 : chA (σ 11 16 0) L q = 114
    · have ej : shp (chA (σ 11 16 0) L q) = 5 := by rw [c4]; rfl
      have en : nlB (chA (σ 11 16 0) L q) = true := by rw [c4]; rfl
      rw [ej]
      rw [en] at h1 h0
      rw [if_pos c4] at h1 h0
      refine ⟨3, (show rdN Q 3 5 0 _ from ?_)⟩
      refine rd_s 114 (by decide) (by decide) (by decide) (by decide) (by decide) (by decide +kernel) rfl hgq hL (by omega) (fun _ g2 hg2 => ?_) (fun d => absurd c4 d)
      unfold nmP at h1 h0
      refine rd_n (by decide) (by decide) (by decide) (by decide +kernel) hg2 hL (by omega) (by decide) (fun hd3 w q' e g7 k2 k3 k4 => ⟨fun hx => ?_, fun hx => ?_⟩) (fun hd3 => ?_)
      · rw [if_pos (show dgB (σ 11 16 0) L (q + 1) = true from hd3), show nuR (σ 11 16 0) L 80 (dvl (σ 11 16 0) L (q + 1)) (q + 1 + 1) = (w, q') from e] at h0
        exact h0 (by rw [hx]; rfl) _ _ k2 k3
      · rw [if_pos (show dgB (σ 11 16 0) L (q + 1) = true from hd3), show nuR (σ 11 16 0) L 80 (dvl (σ 11 16 0) L (q + 1)) (q + 1 + 1) = (w, q') from e] at h1
        refine rd_end (by decide) (by decide) (by decide) (fun _ => ?_) (fun d => absurd d (by decide))
        exact h1 (by rw [hx]; rfl) _ _ k2 k3 k4 ⟨fun z => absurd (c4.symm.trans z) (by decide), fun z => absurd (c4.symm.trans z) (by decide), fun z => absurd (c4.symm.trans z) (by decide), fun _ => rfl, fun z => absurd (c4.symm.trans z) (by decide)⟩
      · rw [if_neg (by rw [show dgB (σ 11 16 0) L (q + 1) = false from hd3]; decide)] at h0
        exact h0 rfl _ _ hg2.1 hg2.2.1
    rw [if_neg c4] at h1 h0
    have en : nlB (chA (σ 11 16 0) L q) = false := by
      unfold nlB
      rw [decide_eq_false c1, decide_eq_false c2, decide_eq_false c3, decide_eq_false c4]; rfl
    rw [en] at h1 h0
    by_cases c5 : chA (σ 11 16 0) L q = 97
    · have ej : shp (chA (σ 11 16 0) L q) = 4 := by rw [c5]; rfl
      rw [ej]
      rw [if_pos c5] at h1 h0
      refine ⟨4, (show rdN Q 4 4 0 _ from ?_)⟩
      refine rd_s 97 (by decide) (by decide) (by decide) (by decide) (by decide) (by decide +kernel) rfl hgq hL (by omega) (fun _ g2 hg2 => ?_) (fun d => absurd c5 d)
      refine rd_d (by decide) (by decide) (by decide) (by decide +kernel) hg2 hL (by omega) (by decide) (fun hd g3 hg3 => ?_) (fun hd => ?_)
      · rw [if_pos hd] at h1 h0
        refine rd_d (by decide) (by decide) (by decide) (by decide +kernel) hg3 hL (by omega) (by decide) (fun hd2 g4 hg4 => ?_) (fun hd2 => ?_)
        · rw [if_pos (show dgB (σ 11 16 0) L (q + 2) = true from hd2)] at h1 h0
          refine rd_end (by decide) (by decide) (by decide) (fun _ => ?_) (fun d => absurd d (by decide))
          exact h1 rfl _ _ hg4.1 hg4.2.1 hg4.2.2.1 ⟨fun z => absurd (c5.symm.trans z) (by decide), fun z => absurd (c5.symm.trans z) (by decide), fun z => absurd (c5.symm.trans z) (by decide), fun z => absurd (c5.symm.trans z) (by decide), fun _ => ⟨rfl, rfl⟩⟩
        · rw [if_neg (by rw [show dgB (σ 11 16 0) L (q + 2) = false from hd2]; decide)] at h0
          exact h0 rfl _ _ hg3.1 hg3.2.1
      · rw [if_neg (by rw [hd]; decide)] at h0
        exact h0 rfl _ _ hg2.1 hg2.2.1
    rw [if_neg c5] at h1 h0
    by_cases c6 : chA (σ 11 16 0) L q = 116
    · have ej : shp (chA (σ 11 16 0) L q) = 2 := by rw [c6]; rfl
      rw [ej]
      rw [if_pos c6] at h1 h0
      refine ⟨2, (show rdN Q 2 2 0 _ from ?_)⟩
      refine rd_s 116 (by decide) (by decide) (by decide) (by decide) (by decide) (by decide +kernel) rfl hgq hL (by omega) (fun _ g2 hg2 => ?_) (fun d => absurd c6 d)
      refine rd_end (by decide) (by decide) (by decide) (fun _ => ?_) (fun d => absurd d (by decide))
      exact h1 rfl _ _ hg2.1 hg2.2.1 hg2.2.2.1 ⟨fun z => absurd z c1, fun z => absurd z c2, fun z => absurd z c3, fun z => absurd z c4, fun z => absurd z c5⟩
    rw [if_neg c6] at h1 h0
    have ej : shp (chA (σ 11 16 0) L q) = 6 := by
      unfold shp
      rw [if_neg c5, if_neg c2, if_neg c1, if_neg c4, if_neg c3, if_neg c6]
    rw [ej]
    refine ⟨1, (show rdN Q 1 6 0 _ from ?_)⟩
    exact rd_end (by decide) (by decide) (by decide) (fun d => absurd rfl d) (fun _ => h0 rfl _ _ hgq.1 hgq.2.1)
  exact sh
end RC
