/-! Characters put: both sides write them. -/
def ptR (L n i U : Nat) (B : Nat → Int32) : Nat → Int32 := fun q => if L + n - i ≤ q ∧ q < L + n then nI (byU U (L + n - 1 - q)) else B q
theorem ptR_0 (L n U : Nat) (B : Nat → Int32) : ptR L n 0 U B = B := by
  funext q
  unfold ptR
  rw [if_neg (by omega)]
theorem ptR_s {L n i U : Nat} {B : Nat → Int32} (h : i < n) : upd (ptR L n i U B) (L + n - i - 1) (nI (byU U i)) = ptR L n (i + 1) U B := by
  funext q
  unfold upd ptR
  by_cases e : q = L + n - i - 1
  · rw [if_pos e, if_pos (by omega), show L + n - 1 - q = i by omega]
  · rw [if_neg e]
    by_cases c : L + n - i ≤ q ∧ q < L + n
    · rw [if_pos c, if_pos (by omega)]
    · rw [if_neg c, if_neg (by omega)]
def puR (L n i U : Nat) (B : Nat → Int32) : Nat → Int32 := fun q => if L ≤ q ∧ q < L + i then nI (byU U (L + n - 1 - q)) else B q
theorem puR_0 (L n U : Nat) (B : Nat → Int32) : puR L n 0 U B = B := by
  funext q
  unfold puR
  rw [if_neg (by omega)]
theorem puR_s {L n i U : Nat} {B : Nat → Int32} (h : i < n) : upd (puR L n i U B) (L + i) (nI (byU U (n - i - 1))) = puR L n (i + 1) U B := by
  funext q
  unfold upd puR
  by_cases e : q = L + i
  · rw [if_pos e, if_pos (by omega), show L + n - 1 - q = n - i - 1 by omega]
  · rw [if_neg e]
    by_cases c : L ≤ q ∧ q < L + i
    · rw [if_pos c, if_pos (by omega)]
    · rw [if_neg c, if_neg (by omega)]
section PV
variable {σ : Sg} {Q : Int32 → Sg → Prop} {P : Int32 → Int32 → Sg → Prop}
theorem ch_le (U : Nat) : chU U ≤ 8 ∧ ∀ k, k < chU U → 33 ≤ byU U k ∧ byU U k ≤ 126 := by
  obtain ⟨f1, f2, -⟩ := fr_facts U
  unfold chU
  by_cases c : frU U = 8 ∨ U / 256 ^ frU U = 0
  · rw [if_pos c]; exact ⟨f1, f2⟩
  · rw [if_neg c]; exact ⟨Nat.zero_le _, fun k hk => absurd hk (Nat.not_lt_zero k)⟩
theorem s_X3_append {U L : Nat} (hU : U < 2 ^ 64) (hL : L ≤ 80) (h2 : σ 11 15 0 2 = nI L) (h0 : chU U = 0 → Q (-2) σ) (h4 : 1 ≤ chU U → 80 < L + chU U → Q (-4) σ) (hq : 1 ≤ chU U → L + chU U ≤ 80 → Q (nI (L + chU U)) (up (ua σ 11 16 0 (ptR L (chU U) (chU U) U (σ 11 16 0))) 11 15 0 2 (nI (L + chU U)))) : wp_X3_append (yN U) σ Q := by
  obtain ⟨c8, cg⟩ := ch_le U
  unfold wp_X3_append
  refine s_X3_charactersIn hU ?_
  refine ⟨fun c => ?_, fun c => ?_⟩
  · have c1 : 1 ≤ chU U := (nI_leI (a := 1) (b := chU U) (by decide) (by omega)).mp c
    rw [h2, nI_add]
    refine ⟨fun d => ?_, fun d => ?_⟩
    · have d8 : L + chU U ≤ 80 := (nI_leI (a := L + chU U) (b := 80) (by omega) (by decide)).mp d
      rintro z5 rfl
      unfold wp_X3_append_L40
      refine lpN_rel (chU U) (fun i a => a = (nI (chU U), yN (U / 256 ^ i), dn (L + chU U - i), ua σ 11 16 0 (ptR L (chU U) i U (σ 11 16 0)))) ?_ ?_ 0 _ (Nat.zero_le _) (by rw [ptR_0, ua_self, Nat.pow_zero, Nat.div_one]; rfl)
      · rintro K i a hi rfl hK
        dsimp only
        unfold st_X3_append_L40
        rw [ua_k (b := 15) (by decide), h2, dn_pos (by omega)]
        refine ⟨fun e => absurd ((nI_ltI (by omega) (by omega)).mp e) (by omega), fun _ => ?_⟩
        refine s_isIndex2 (n := 80) (by decide) (fun j hj ej => ⟨fun e => absurd e (by decide), fun _ => ?_⟩) (fun e => ?_)
        · refine ⟨vp_in_nI (by omega) (by decide), ?_⟩
          rintro σ10 rfl u11 rfl z12 rfl
          rw [nI_clamp (by omega), u_code hU, y_chr _ (by_lt U i), ua_up, ptR_s hi, show (8 : Int32) = nI 8 from rfl, y_shr (u_lt hU i) (by decide), u_step, ← dn_pos (by omega), dn_step (by omega)]
          exact hK _ (by rw [show L + chU U - i - 1 = L + chU U - (i + 1) by omega])
        · rcases e with e | e
          · exact absurd e (nI_pos (by omega))
          · exact absurd e (nI_ge (by omega) (by omega))
      · rintro K a rfl
        dsimp only
        unfold st_X3_append_L40
        rw [ua_k (b := 15) (by decide), h2, show L + chU U - chU U = L by omega]
        refine ⟨fun _ => ?_, fun e => absurd ?_ e⟩
        · unfold wp_X3_append_b87
          rintro σ13 rfl
          rw [ua_k (b := 15) (by decide), h2, nI_add, up_e]
          exact hq c1 d8
        · by_cases z : L = 0
          · subst z; decide
          · rw [dn_pos (by omega)]
            exact (nI_ltI (by omega) (by omega)).mpr (by omega)
    · refine h4 c1 ?_
      by_cases z : 80 < L + chU U
      · exact z
      · exact absurd (show nI (L + chU U) ≤ nI 80 from nI_le (by omega) (by decide)) d
  · refine h0 ?_
    by_cases z : 1 ≤ chU U
    · exact absurd (show nI 1 ≤ nI (chU U) from nI_le z (by omega)) c
    · omega
theorem s_X6_code {U k : Nat} (hU : U < 2 ^ 64) (hk : k < 8) (hq : Q (nI (byU U k)) σ) : wp_X6_code (yN U) (nI k) σ Q := by
  unfold wp_X6_code
  rw [show ((8 : Int32) * nI k) = nI (8 * k) by simp only [nI_lit, pk_mul], y_shr hU (by omega), u_pow, u_code hU]
  exact hq
theorem ua_comm7 (τ : Sg) (f : Nat → Int32) (j : Nat) (x y z : Int32) : up (up (up (ua τ 12 24 0 f) 12 18 0 7 x) 12 24 0 j y) 12 18 0 7 z = up (ua τ 12 24 0 (upd f j y)) 12 18 0 7 z := by
  funext a b c
  unfold up ua
  by_cases h1 : a = 12 ∧ b = 18 ∧ c = 0
  · rw [if_pos h1, if_pos h1]
    funext q
    simp [upd]
    by_cases hq : q = 7 <;> simp [hq]
  · rw [if_neg h1, if_neg h1]
    by_cases h2 : a = 12 ∧ b = 24 ∧ c = 0
    · rw [if_pos h2, if_pos h2]
      simp
      intro _ hb
      omega
    · rw [if_neg h2, if_neg h2, if_neg h1, if_neg h2]
theorem s_X6_put {U L : Nat} (hU : U < 2 ^ 64) (hL : L ≤ 80) (h2 : σ 12 18 0 7 = nI L) (h0 : chU U = 0 → Q (-2) σ) (h4 : 1 ≤ chU U → 80 < L + chU U → Q (-4) σ) (hq : 1 ≤ chU U → L + chU U ≤ 80 → Q (nI (L + chU U)) (up (ua σ 12 24 0 (puR L (chU U) (chU U) U (σ 12 24 0))) 12 18 0 7 (nI (L + chU U)))) : wp_X6_put (yN U) σ Q := by
  obtain ⟨f1, f2, f3⟩ := fr_facts U
  have wr : 1 ≤ frU U → chU U = frU U → wp_X6_put_b64 (yN U) Q (nI (frU U)) σ := by
    intro c1 ec
    rw [ec] at h4 hq
    unfold wp_X6_put_b64
    rw [h2, nI_add]
    refine ⟨fun d => ?_, fun d => ?_⟩
    · have d8 : L + frU U ≤ 80 := (nI_leI (a := L + frU U) (b := 80) (by omega) (by decide)).mp d
      rintro z15 rfl
      unfold wp_X6_put_L83
      refine lpN_rel (frU U) (fun i a => a = (dn (frU U - i), up (ua σ 12 24 0 (puR L (frU U) i U (σ 12 24 0))) 12 18 0 7 (nI (L + i)))) ?_ ?_ 0 _ (Nat.zero_le _) ?_
      · rintro K i a hi rfl hK
        dsimp only
        unfold st_X6_put_L83
        rw [dn_pos (by omega), up_e]
        refine ⟨fun e => absurd e (nI_pos (by omega)), fun _ => ?_⟩
        refine s_X6_code hU (by omega) ?_
        refine ⟨vp_in_nI (by omega) (by decide), ?_⟩
        rintro σ19 rfl σ20 rfl z21 rfl
        rw [nI_clamp (by omega), up_k (b := 18) (by decide), up_e, nI_1, ua_comm7, puR_s hi, ← dn_pos (by omega), dn_step (by omega)]
        exact hK _ (by rw [show frU U - i - 1 = frU U - (i + 1) by omega]; rfl)
      · rintro K a rfl
        dsimp only
        unfold st_X6_put_L83
        rw [Nat.sub_self, up_e]
        exact ⟨fun _ => hq c1 d8, fun e => absurd (show dn 0 < 0 by decide) e⟩
      · rw [puR_0, ua_self, Nat.add_zero, ← h2]
        unfold up
        rw [upd_eq, ua_self]
        rfl
    · refine h4 c1 ?_
      by_cases z : 80 < L + frU U
      · exact z
      · exact absurd (show nI (L + frU U) ≤ nI 80 from nI_le (by omega) (by decide)) d
  unfold wp_X6_put wp_X6_put_L2
  refine lpN_rel (frU U) (fun k a => a = (nI k, σ)) ?_ ?_ 0 _ (Nat.zero_le _) rfl
  · rintro K k a hk rfl hK
    dsimp only
    unfold st_X6_put_L2
    have hb := f2 k hk
    have hl := by_lt U k
    refine ⟨fun c => absurd c (show ¬ nI 8 ≤ nI k from nI_ge (by omega) (by decide)), fun _ => ?_⟩
    refine s_X6_code hU (by omega) ⟨fun c => ?_, fun _ => ?_⟩
    · have := nI_z (by omega) c
      omega
    · refine s_X6_code hU (by omega) ?_
      refine s_X6_bt (fun _ => ⟨fun _ => ?_, fun d => absurd d (by decide)⟩) (fun g => absurd ((ot_by.mpr hb).symm.trans g) (by decide))
      rintro z10 rfl
      rw [nI_1]
      exact hK _ rfl
  · rintro K a rfl
    dsimp only
    unfold st_X6_put_L2
    have last : (frU U = 8 ∨ byU U (frU U) = 0) → wp_X6_put_b40 (yN U) Q (nI (frU U)) σ := by
      intro hz
      unfold wp_X6_put_b40
      refine ⟨fun c => ?_, fun c => ⟨fun d => ?_, fun d => ?_⟩⟩
      · have e0 := nI_z (by omega) c
        refine h0 ?_
        unfold chU
        rw [e0]
        split <;> rfl
      · have e8 : frU U = 8 := by
          have := (nI_leI (a := 8) (b := frU U) (by decide) (by omega)).mp d
          omega
        exact wr (by omega) (if_pos (Or.inl e8))
      · have e8 : frU U < 8 := by
          by_cases z : frU U < 8
          · exact z
          · exact absurd (show nI 8 ≤ nI (frU U) from nI_le (by omega) (by omega)) d
        rw [show ((8 : Int32) * nI (frU U)) = nI (8 * frU U) by simp only [nI_lit, pk_mul], y_shr hU (by omega), u_pow]
        refine ⟨fun g => ?_, fun g => h0 ?_⟩
        · have g0 := (y_cmp (u_lt hU _)).mp g
          have c1 : 1 ≤ frU U := Nat.pos_of_ne_zero (fun z => c (by rw [z]; rfl))
          exact wr c1 (if_pos (Or.inr g0))
        · unfold chU
          rw [if_neg (by
            intro z
            rcases z with z | z
            · omega
            · exact g ((y_cmp (u_lt hU _)).mpr z))]
    refine ⟨fun d => last (Or.inl ?_), fun d => ?_⟩
    · have := (nI_leI (a := 8) (b := frU U) (by decide) (by omega)).mp d
      omega
    · have e8 : frU U < 8 := by
        by_cases z : frU U < 8
        · exact z
        · exact absurd (show nI 8 ≤ nI (frU U) from nI_le (by omega) (by omega)) d
      have hl := by_lt U (frU U)
      refine s_X6_code hU e8 ⟨fun c => last (Or.inr (nI_z (by omega) c)), fun c => ?_⟩
      refine s_X6_code hU e8 ?_
      refine s_X6_bt (fun g => absurd (ot_by.mp g) (f3 e8)) (fun _ => ⟨fun d => absurd rfl d, fun _ => h0 ?_⟩)
      unfold chU
      rw [if_neg (by
        intro z
        rcases z with z | z
        · omega
        · exact c (by rw [by_0 z]; rfl))]
theorem pr_put (h : Rel σ) (y : Int64) (hP : ∀ v τ, Rel τ → P v v τ) : wp_X5_put y σ (fun a σ1 => wp_X6_put y σ1 (fun b σ2 => P a b σ2)) := by
  obtain ⟨⟨hM, hI⟩, ⟨p, D, hH⟩, hS, L, l1, l2, l3, l4⟩ := id h
  obtain ⟨U, hU, rfl⟩ := y_of y
  obtain ⟨c8, cg⟩ := ch_le U
  unfold wp_X5_put
  refine s_X3_append hU l1 l2 (fun c => ?_) (fun c1 c2 => ?_) (fun c1 c2 => ?_)
  · exact s_X6_put hU l1 l3 (fun _ => hP _ _ h) (fun d => by omega) (fun d => by omega)
  · exact s_X6_put hU l1 l3 (fun d => by omega) (fun _ _ => hP _ _ h) (fun _ d => by omega)
  · refine s_X6_put (L := L) hU l1 (by rw [up_m (by decide), ua_m (by decide)]; exact l3) (fun d => by omega) (fun _ d => by omega) (fun _ _ => hP _ _ ?_)
    have e11 : ∀ k, k ≠ 15 → k ≠ 16 → up (ua σ 11 16 0 (ptR L (chU U) (chU U) U (σ 11 16 0))) 11 15 0 2 (nI (L + chU U)) 11 k = σ 11 k := fun k k1 k2 => by rw [up_k k1, ua_k k2]
    have em : ∀ m, m ≠ 11 → up (ua σ 11 16 0 (ptR L (chU U) (chU U) U (σ 11 16 0))) 11 15 0 2 (nI (L + chU U)) m = σ m := fun m m1 => by rw [up_m m1, ua_m m1]
    have e15 : up (ua σ 11 16 0 (ptR L (chU U) (chU U) U (σ 11 16 0))) 11 15 0 2 (nI (L + chU U)) 11 15 0 2 = nI (L + chU U) := up_e
    have e16 : up (ua σ 11 16 0 (ptR L (chU U) (chU U) U (σ 11 16 0))) 11 15 0 2 (nI (L + chU U)) 11 16 0 = ptR L (chU U) (chU U) U (σ 11 16 0) := by rw [up_k (by decide), ua_r]
    generalize up (ua σ 11 16 0 (ptR L (chU U) (chU U) U (σ 11 16 0))) 11 15 0 2 (nI (L + chU U)) = τ at e11 em e15 e16 ⊢
    have e12 : τ 12 = σ 12 := em 12 (by decide)
    refine ⟨⟨?_, ?_⟩, ⟨p, D, RH_of (b := bfR σ) (CH_congr (CH_of hH) ?_ ?_ (fun i hi => ?_)) ?_ (fun i q hi hq => ?_)⟩, fun i hi => ?_, L + chU U, c2, ?_, ?_, fun j hj => ?_⟩
    · rw [up_m (by decide), ua_m (by decide), em 0 (by decide), up_k (by decide), ua_k (by decide), e12]; exact hM
    · rw [up_k (by decide), ua_k (by decide), e12]; exact hI
    · rw [up_m (by decide), ua_m (by decide), e11 11 (by decide) (by decide)]
    · rw [up_m (by decide), ua_m (by decide), e11 12 (by decide) (by decide)]
    · have pj := hH.1 i (by have := hH.2.2.2.2.1; omega)
      rw [up_m (by omega), ua_m (by omega), em _ (by omega)]
    · rw [up_j (by decide), ua_k (by decide), e12]; exact hH.2.2.2.2.2.2.1
    · rw [up_k (by decide), ua_k (by decide), e12]; rfl
    · have ekp : kpR (up (ua τ 12 24 0 (puR L (chU U) (chU U) U (τ 12 24 0))) 12 18 0 7 (nI (L + chU U))) i = kpR σ i := by
        unfold kpR
        rw [up_k (by decide), ua_k (by decide), e12]
      rw [ekp, up_m (a := 11) (by decide), ua_m (a := 11) (by decide), e11 13 (by decide) (by decide), e11 14 (by decide) (by decide), up_k (b := 23) (by decide), ua_k (b := 23) (by decide), e12, up_m (a := 9 + i) (by omega), ua_m (a := 9 + i) (by omega), em _ (by omega)]
      exact hS i hi
    · rw [up_m (by decide), ua_m (by decide), e15]
    · rw [up_e]
    · rw [up_m (by decide), ua_m (by decide), e16, up_k (by decide), ua_r, e12]
      unfold ptR puR
      by_cases z : j < L
      · rw [if_neg (by omega), if_neg (by omega)]
        exact l4 j z
      · rw [if_pos (by omega), if_pos (by omega)]
        obtain ⟨g1, g2⟩ := cg (L + chU U - 1 - j) (by omega)
        exact ⟨_, g1, g2, rfl, rfl⟩
theorem pr_wipe (h : Rel σ) (hP : ∀ v τ, Rel τ → P v v τ) : wp_X5_wipe σ (fun a σ1 => wp_X6_wipe σ1 (fun b σ2 => P a b σ2)) := by
  obtain ⟨⟨hM, hI⟩, ⟨p, D, hH⟩, hS, L, l1, l2, l3, l4⟩ := id h
  unfold wp_X5_wipe wp_X3_clear
  rintro z1 rfl σ2 rfl
  unfold wp_X6_wipe
  rintro z3 rfl σ4 rfl
  rw [up_m (by decide), l3, l2]
  refine hP _ _ ⟨⟨?_, ?_⟩, ⟨p, D, RH_of (b := bfR σ) (CH_congr (CH_of hH) ?_ ?_ (fun i hi => ?_)) ?_ (fun i q hi hq => ?_)⟩, fun i hi => ?_, 0, Nat.zero_le _, ?_, ?_, fun j hj => absurd hj (Nat.not_lt_zero j)⟩
  · rw [up_m (by decide), up_m (by decide), up_k (by decide), up_m (by decide)]; exact hM
  · rw [up_k (by decide), up_m (by decide)]; exact hI
  · rw [up_m (by decide), up_k (by decide)]
  · rw [up_m (by decide), up_k (by decide)]
  · have pj := hH.1 i (by have := hH.2.2.2.2.1; omega)
    rw [up_m (by omega), up_m (by omega)]
  · rw [up_j (by decide), up_m (by decide)]; exact hH.2.2.2.2.2.2.1
  · rw [up_k (by decide), up_m (by decide)]; rfl
  · have ekp : kpR (up (up σ 11 15 0 2 0) 12 18 0 7 0) i = kpR σ i := by
      unfold kpR
      rw [up_k (by decide), up_m (by decide)]
    rw [ekp, up_m (a := 11) (by decide), up_k (b := 13) (by decide), up_k (b := 14) (by decide), up_k (b := 23) (by decide), up_m (a := 12) (by decide), up_m (a := 9 + i) (by omega), up_m (a := 9 + i) (by omega)]
    exact hS i hi
  · rw [up_m (by decide), up_e]; rfl
  · rw [up_e]; rfl
end PV
