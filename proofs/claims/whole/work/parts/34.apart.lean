/-! Flavours kept apart, on both sides. -/
section AP
variable {σ : Sg} {Q : Int32 → Sg → Prop} {m : Nat} {r d : Nat → Int32} {μ : Nat → Nat → Nat → Int32}
theorem MR_ap {f : Nat} {x : Int32} (hf : f < 6) (hM : MR μ r) (hI : IR r) : MR (um μ 4 0 f x) (upd r (185 + f) x) := by
  obtain ⟨a0, a1, a2, a3, a4⟩ := hM
  refine ⟨fun i hi => ?_, ?_, fun g hg => ?_, fun l hl => ?_, fun t ht => ?_⟩
  · rw [um_k _ _ (by decide), pk_un (by omega)]; exact a0 i hi
  · rw [um_k _ _ (by decide), pk_un (by omega), pk_un (by omega), pk_un (by omega), pk_un (by omega)]; exact a1
  · by_cases e : g = f
    · subst e; rw [um_eq, pk_us]
    · rw [um_j _ _ e, pk_un (by omega)]; exact a2 g hg
  · have hn := IR_n hI hl
    rw [um_k _ _ (by decide : 5 ≠ 4), um_k _ _ (by decide : 6 ≠ 4), um_k _ _ (by decide : 7 ≠ 4), pk_un (j := 4 + 17 * l) (by omega), pk_un (by omega), pk_un (by omega), pk_un (by omega), pk_un (by omega)]
    obtain ⟨b2, b3, b4, b5, b6, b7⟩ := a3 l hl
    exact ⟨b2, b3, b4, b5, b6, fun h hh => by rw [pk_un (by omega), pk_un (by omega)]; exact b7 h hh⟩
  · obtain ⟨b1, b2, b3, b4⟩ := a4 t ht
    rw [um_k _ _ (by decide : 8 ≠ 4), um_k _ _ (by decide : 9 ≠ 4), pk_un (j := 73 + 7 * t) (by omega), mkR_congr (s := r) (fun f hf => pk_un (by omega)), swR_congr (s := r) (fun f hf => pk_un (by omega))]
    exact ⟨b1, b2, b3, fun f hf => by rw [pk_un (by omega)]; exact b4 f hf⟩
theorem IR_ap {f : Nat} {x : Int32} (hI : IR r) : IR (upd r (185 + f) x) :=
  IR_upd _ hI (by omega) (by omega) (by omega) (fun l w hl hw => by omega)
theorem IR_turn {f o : Nat} (hI : IR r) : IR (turnR r f o) := IR_ap (IR_ap hI)
theorem IR_apart {x y : Int32} (hI : IR r) : IR (apartR r x y).2 := by
  unfold apartR
  by_cases c : obB x 6 = true
  · rw [if_pos c]; exact hI
  rw [if_neg c]
  by_cases c2 : obB y 6 = true
  · rw [if_pos c2]; exact hI
  rw [if_neg c2]
  by_cases c3 : x = y
  · rw [if_pos c3]; exact hI
  rw [if_neg c3]
  by_cases c4 : tb (r (185 + x.toNatClampNeg)) y.toNatClampNeg = true
  · rw [if_pos c4]; exact IR_turn hI
  rw [if_neg c4]
  by_cases c5 : fstN (bothB r x.toNatClampNeg y.toNatClampNeg) (nT r) < nT r
  · rw [if_pos c5]; exact hI
  · rw [if_neg c5]; exact IR_turn hI
theorem s_X2_switchApart {Q : Sg → Prop} {x y : Int32} (f o : Nat) (hf : f < 6) (ho : o < 6) (hfo : f ≠ o) (hM : MR μ r) (hI : IR r) (e1 : x = nI f := by rfl) (e2 : y = nI o := by rfl) (hq : ∀ μ', MR μ' (turnR r f o) → Q (sm σ m μ')) : wp_X2_switchApart m x y (sm σ m μ) Q := by
  subst e1; subst e2
  unfold wp_X2_switchApart
  refine s_X5_isIndex ?_
  rw [if_neg (nI_pos (by omega)), if_neg (ge_6 hf)]
  refine ⟨fun c => absurd c (by decide), fun _ => ?_⟩
  refine s_X5_isIndex ?_
  rw [if_neg (nI_pos (by omega)), if_neg (ge_6 ho)]
  refine ⟨fun c => absurd c (by decide), fun _ => ⟨fun _ => ⟨vp_in_nI hf (by decide), vp_in_nI hf (by decide), ?_⟩, fun c => absurd ((nI_eq (by omega) (by omega)).mp c) hfo⟩⟩
  rintro σ8 rfl
  refine ⟨vp_in_nI ho (by decide), vp_in_nI ho (by decide), ?_⟩
  rintro σ9 rfl
  rw [nI_clamp (n := f) (by omega), nI_clamp (n := o) (by omega), sm_up, sm_m, sm_m, sm_up, um_j _ _ hfo.symm, hM.2.2.1 f hf, hM.2.2.1 o ho]
  refine hq _ ?_
  exact MR_ap ho (MR_ap hf hM hI) (IR_ap hI)
theorem s_X6_turn {Q : Sg → Prop} {x y : Int32} (f o : Nat) (hf : f < 6) (ho : o < 6) (hfo : f ≠ o) (e1 : x = nI f := by rfl) (e2 : y = nI o := by rfl) (hq : Q (sr σ (turnR r f o))) : wp_X6_turn x y (sr σ r) Q := by
  subst e1; subst e2
  unfold wp_X6_turn
  rintro z1 rfl
  rw [show ((185 : Int32) + nI f) = nI (185 + f) by simp only [nI_lit, nI_add], show ((185 : Int32) + nI o) = nI (185 + o) by simp only [nI_lit, nI_add]]
  refine ⟨vp_in_nI (by omega) (by decide), vp_in_nI (by omega) (by decide), ?_⟩
  rintro σ2 rfl z3 rfl
  refine ⟨vp_in_nI (by omega) (by decide), vp_in_nI (by omega) (by decide), ?_⟩
  rintro σ4 rfl
  rw [nI_clamp (n := 185 + f) (by omega), nI_clamp (n := 185 + o) (by omega), sr_up, sr_up, sr_row, sr_row, pk_un (by omega)]
  exact hq
theorem s_X6_areApart {x y : Int32} (f o : Nat) (hf : f < 6) (ho : o < 6) (e1 : x = nI f := by rfl) (e2 : y = nI o := by rfl) (hq : Q (if tb (r (185 + f)) o then 1 else 0) (sr σ r)) : wp_X6_areApart x y (sr σ r) Q := by
  subst e1; subst e2
  unfold wp_X6_areApart
  rw [show ((185 : Int32) + nI f) = nI (185 + f) by simp only [nI_lit, nI_add], nI_clamp (by omega), sr_row]
  refine ⟨vp_in_nI (by omega) (by decide), fun c => ?_, fun c => ?_⟩
  · rw [tb_one, tb_shr o (by omega)] at c
    rw [if_neg c] at hq
    exact hq
  · rw [tb_one, tb_shr o (by omega)] at c
    rw [if_pos c] at hq
    exact hq
theorem tb_turn {f o : Nat} (ho : o < 6) (hfo : f ≠ o) : tb (turnR r f o (185 + f)) o = !tb (r (185 + f)) o := by
  unfold turnR
  rw [pk_un (by omega), pk_us, tb_xor, tb_bit (by omega) (by omega), decide_eq_true rfl, Bool.xor_true]
theorem s_X2_isOpenTinWithBoth {x y : Int32} (f o : Nat) (hf : f < 6) (ho : o < 6) (hM : MR (σ m) r) (hI : IR r) (e1 : x = nI f := by rfl) (e2 : y = nI o := by rfl) (hq : Q (if fstN (bothB r f o) (nT r) < nT r then 1 else 0) σ) : wp_X2_isOpenTinWithBoth m x y σ Q := by
  subst e1; subst e2
  obtain ⟨g1, g2, g3⟩ := IR_nT hI
  unfold wp_X2_isOpenTinWithBoth
  rintro z1 rfl
  unfold wp_X2_isOpenTinWithBoth_L11
  refine lpN_rel 16 (fun t a => a = (bitN f ||| bitN o, nI t, σ) ∧ ∀ j, j < t → j < nT r → bothB r f o j = false) ?_ ?_ 0 _ (Nat.zero_le _) ⟨rfl, fun j h => absurd h (Nat.not_lt_zero j)⟩
  · rintro K t ⟨w1, w2, σ'⟩ ht ⟨e, hj⟩ hK
    cases e
    dsimp only
    unfold st_X2_isOpenTinWithBoth_L11
    refine ⟨fun c => absurd c (ge_16 ht), fun _ => ?_⟩
    have next : (t < nT r → bothB r f o t = false) → wp_X2_isOpenTinWithBoth_b45 m (nI f) (nI o) (fun v3 v4 σ => K (v3, v4, σ)) Q (bitN f ||| bitN o) (nI t) σ := by
      intro hb
      unfold wp_X2_isOpenTinWithBoth_b45
      rintro z8 rfl
      refine hK _ ⟨by rw [nI_1], fun j hj2 hj3 => ?_⟩
      by_cases q : j = t
      · rw [q]; exact hb (q ▸ hj3)
      · exact hj j (by omega) hj3
    refine s_X2_isOpen hM hI t ht rfl ?_
    by_cases c : t < nT r
    · cases h : opB r t with
      | false =>
        rw [decide_eq_true c]
        exact ⟨fun _ => next (fun _ => by unfold bothB; rw [h]; rfl), fun d => absurd rfl d⟩
      | true =>
        rw [decide_eq_true c]
        refine ⟨fun d => absurd d (by decide), fun _ => ⟨vp_in_nI ht (by decide), ?_⟩⟩
        intro a7 e7
        rw [e7, nI_clamp (by omega), (hM.2.2.2.2 t ht).1]
        refine ⟨fun d => next (fun _ => ?_), fun d => ?_⟩
        · rw [tb_two (by omega) (by omega)] at d
          unfold bothB
          cases h1 : tb (mkR r t) f with
          | false => rw [Bool.false_and, Bool.and_false]
          | true =>
            cases h2 : tb (mkR r t) o with
            | false => rw [Bool.and_false, Bool.and_false]
            | true => exact absurd ⟨h1, h2⟩ d
        · rw [tb_two (by omega) (by omega)] at d
          have hp : bothB r f o t = true := by unfold bothB; rw [h, d.1, d.2]; rfl
          rw [fstN_eq c hp (fun j z => hj j z (by omega)), if_pos c] at hq
          exact hq
    · rw [decide_eq_false c]
      exact ⟨fun _ => next (fun z => absurd z c), fun d => absurd rfl d⟩
  · rintro K ⟨w1, w2, σ'⟩ ⟨e, hj⟩
    cases e
    dsimp only
    unfold st_X2_isOpenTinWithBoth_L11
    refine ⟨fun _ => ?_, fun c => absurd (nI_le (Nat.le_refl 16) (by decide)) c⟩
    rw [fstN_none (fun j z => hj j (by omega) z), if_neg (Nat.lt_irrefl _)] at hq
    exact hq
theorem s_X2_changeApart {x y : Int32} (hM : MR μ r) (hI : IR r) (hq : ∀ μ', MR μ' (apartR r x y).2 → Q (apartR r x y).1 (sm σ m μ')) : wp_X2_changeApart m x y (sm σ m μ) Q := by
  unfold wp_X2_changeApart
  unfold apartR at hq
  have hM' : MR (sm σ m μ m) r := by rw [sm_m]; exact hM
  refine s_isIndex2 (n := 6) (by decide) (fun f hf e => ?_) (fun c => ?_)
  · subst e
    rw [ob_0 hf (by decide), if_neg (show ¬ false = true by decide), nI_clamp (n := f) (by omega)] at hq
    refine ⟨fun c => absurd c (by decide), fun _ => ?_⟩
    refine s_isIndex2 (n := 6) (by decide) (fun o ho e => ?_) (fun c => ?_)
    · subst e
      rw [ob_0 ho (by decide), if_neg (show ¬ false = true by decide), nI_clamp (n := o) (by omega)] at hq
      refine ⟨fun _ => ⟨fun c => ?_, fun c => ?_⟩, fun c => absurd c (by decide)⟩
      · have hfo : f ≠ o := fun z => c (by rw [z])
        rw [if_neg c] at hq
        refine ⟨vp_in_nI hf (by decide), ?_⟩
        rw [nI_clamp (by omega), sm_m, hM.2.2.1 f hf]
        refine ⟨fun g => ?_, fun g => ?_⟩
        · have g' := (tb_test (x := r (185 + f)) (o := o) (by omega)).mp g
          rw [if_neg (by rw [g']; decide)] at hq
          unfold wp_X2_changeApart_b46 wp_X2_changeApart_b63
          refine ⟨fun d => absurd rfl d, fun _ => ?_⟩
          refine s_X2_isOpenTinWithBoth f o hf ho hM' hI rfl rfl ?_
          by_cases k : fstN (bothB r f o) (nT r) < nT r
          · rw [if_pos k] at hq ⊢
            exact ⟨fun d => absurd d (by decide), fun _ => hq μ hM⟩
          · rw [if_neg k] at hq ⊢
            refine ⟨fun _ => ?_, fun d => absurd rfl d⟩
            refine s_X2_switchApart f o hf ho hfo hM hI rfl rfl (fun μ' h' => ?_)
            exact ⟨fun _ => hq μ' h', fun d => absurd rfl d⟩
        · have g' : tb (r (185 + f)) o = true := by
            cases k : tb (r (185 + f)) o with
            | true => rfl
            | false => exact absurd ((tb_test (x := r (185 + f)) (o := o) (by omega)).mpr k) g
          rw [if_pos g'] at hq
          unfold wp_X2_changeApart_b46 wp_X2_changeApart_b63
          refine ⟨fun _ => ?_, fun d => absurd d (by decide)⟩
          refine s_X2_switchApart f o hf ho hfo hM hI rfl rfl (fun μ' h' => ?_)
          exact ⟨fun d => absurd d (by decide), fun _ => hq μ' h'⟩
      · rw [if_pos c] at hq
        exact hq μ hM
    · refine ⟨fun d => absurd rfl d, fun _ => ?_⟩
      rw [ob_1 c] at hq
      exact hq μ hM
  · refine ⟨fun _ => ?_, fun d => absurd rfl d⟩
    rw [ob_1 c] at hq
    exact hq μ hM
theorem s_X6_keepsApart {x y : Int32} (hI : IR r) (hq : Q (apartR r x y).1 (sr σ (apartR r x y).2)) : wp_X6_keepsApart x y (sr σ r) Q := by
  unfold wp_X6_keepsApart
  unfold apartR at hq
  refine s_X6_isFlavour (fun f hf e => ?_) (fun c => ?_)
  · subst e
    rw [ob_0 hf (by decide), if_neg (show ¬ false = true by decide), nI_clamp (n := f) (by omega)] at hq
    refine ⟨fun c => absurd c (by decide), fun _ => ?_⟩
    refine s_X6_isFlavour (fun o ho e => ?_) (fun c => ?_)
    · subst e
      rw [ob_0 ho (by decide), if_neg (show ¬ false = true by decide), nI_clamp (n := o) (by omega)] at hq
      refine ⟨fun _ => ⟨fun c => ?_, fun c => ?_⟩, fun c => absurd c (by decide)⟩
      · have hfo : f ≠ o := fun z => c (by rw [z])
        rw [if_neg c] at hq
        obtain ⟨g1, g2, g3⟩ := IR_nT hI
        unfold wp_X6_keepsApart_L26
        refine lpN_rel (nT r) (fun t a => a = (nI t, sr σ r) ∧ (tb (r (185 + f)) o = false → ∀ j, j < t → bothB r f o j = false)) ?_ ?_ 0 _ (Nat.zero_le _) ⟨rfl, fun _ j h => absurd h (Nat.not_lt_zero j)⟩
        · rintro K t ⟨w1, σ'⟩ ht ⟨e, hj⟩ hK
          cases e
          dsimp only
          unfold st_X6_keepsApart_L26
          rw [sr_row, g2]
          refine ⟨fun d => absurd d (nI_ge ht (by omega)), fun _ => ?_⟩
          have next : (tb (r (185 + f)) o = false → bothB r f o t = false) → wp_X6_keepsApart_b75 (nI f) (nI o) (fun v3 σ => K (v3, σ)) Q (nI t) (sr σ r) := by
            intro hb
            unfold wp_X6_keepsApart_b75
            rintro z8 rfl
            refine hK _ ⟨by rw [nI_1], fun k j hj2 => ?_⟩
            by_cases q : j = t
            · rw [q]; exact hb k
            · exact hj k j (by omega)
          refine s_X6_areApart f o hf ho rfl rfl ?_
          cases h : tb (r (185 + f)) o with
          | true => exact ⟨fun _ => next (fun z => by rw [h] at z; exact absurd z (by decide)), fun d => absurd d (by decide)⟩
          | false =>
            refine ⟨fun d => absurd rfl d, fun _ => ?_⟩
            refine s_X6_isShipped t (by omega) rfl ?_
            rw [sr_row]
            by_cases z : r (73 + 7 * t) = 1
            · rw [if_pos z]
              exact ⟨fun _ => next (fun _ => by simp [bothB, opB, z]), fun d => absurd d (by decide)⟩
            · rw [if_neg z]
              refine ⟨fun d => absurd rfl d, fun _ => ?_⟩
              refine s_X6_inside t f (by omega) rfl rfl ?_
              rw [sr_row]
              have hmf : tb (mkR r t) f = true ↔ ¬ r (74 + 7 * t + f) ≤ 0 := tb_mk hf
              have hmo : tb (mkR r t) o = true ↔ ¬ r (74 + 7 * t + o) ≤ 0 := tb_mk ho
              refine ⟨fun d => next (fun _ => ?_), fun d => ?_⟩
              · have k : tb (mkR r t) f = false := by
                  cases q : tb (mkR r t) f with
                  | false => rfl
                  | true => exact absurd d (hmf.mp q)
                unfold bothB
                rw [k, Bool.false_and, Bool.and_false]
              · refine s_X6_inside t o (by omega) rfl rfl ?_
                rw [sr_row]
                refine ⟨fun d2 => next (fun _ => ?_), fun d2 => ?_⟩
                · have k : tb (mkR r t) o = false := by
                    cases q : tb (mkR r t) o with
                    | false => rfl
                    | true => exact absurd d2 (hmo.mp q)
                  unfold bothB
                  rw [k, Bool.and_false, Bool.and_false]
                · have hp : bothB r f o t = true := by
                    unfold bothB opB
                    rw [hmf.mpr d, hmo.mpr d2, decide_eq_true z]; rfl
                  rw [if_neg (by rw [h]; decide), fstN_eq ht hp (hj h), if_pos ht] at hq
                  exact hq
        · rintro K ⟨w1, σ'⟩ ⟨e, hj⟩
          cases e
          dsimp only
          unfold st_X6_keepsApart_L26
          rw [sr_row, g2]
          refine ⟨fun _ => ?_, fun c => absurd (nI_le (Nat.le_refl _) (by omega)) c⟩
          refine s_X6_turn f o hf ho hfo rfl rfl ?_
          refine s_X6_areApart f o hf ho rfl rfl ?_
          rw [tb_turn ho hfo]
          cases h : tb (r (185 + f)) o with
          | true =>
            rw [if_pos h] at hq
            exact ⟨fun _ => hq, fun d => absurd rfl d⟩
          | false =>
            rw [if_neg (by rw [h]; decide), fstN_none (hj h), if_neg (Nat.lt_irrefl _)] at hq
            exact ⟨fun d => absurd d (by decide), fun _ => hq⟩
      · rw [if_pos c] at hq
        exact hq
    · refine ⟨fun d => absurd rfl d, fun _ => ?_⟩
      rw [ob_1 c] at hq
      exact hq
  · refine ⟨fun _ => ?_, fun d => absurd rfl d⟩
    rw [ob_1 c] at hq
    exact hq
end AP
