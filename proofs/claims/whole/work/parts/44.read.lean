/-! The class reads its pad. -/
def chA (c : Nat → Int32) (L q : Nat) : Int32 := if q < L then c q else 0
def dgB (c : Nat → Int32) (L q : Nat) : Bool := !otB (chA c L q) 48 57
/-- the codes of a pad -/
def PC (c : Nat → Int32) (L : Nat) : Prop := L ≤ 80 ∧ ∀ j, j < L → ∃ k, 33 ≤ k ∧ k ≤ 126 ∧ c j = nI k
theorem dg_nI {c : Nat → Int32} {L q : Nat} (h : dgB c L q = true) : ∃ e, e ≤ 9 ∧ chA c L q = nI (48 + e) ∧ q < L := by
  unfold dgB at h
  rw [Bool.not_eq_true'] at h
  obtain ⟨s, h1, h2, h3⟩ := bt_nI (a := 48) (b := 57) (by decide) (by decide) h
  refine ⟨s - 48, by omega, by rw [h3, show 48 + (s - 48) = s by omega], ?_⟩
  by_cases z : q < L
  · exact z
  · unfold chA at h3
    rw [if_neg z] at h3
    have := (nI_eq (a := 0) (b := s) (by decide) (by omega)).mp h3
    omega
def nuR (c : Nat → Int32) (L : Nat) : Nat → Nat → Nat → Nat × Nat
  | 0, v, q => (v, q)
  | f + 1, v, q => if v = 0 then (v, q) else if dgB c L q = false then (v, q) else if 999 < 10 * v + (chA c L q).toNatClampNeg - 48 then (v, q) else nuR c L f (10 * v + (chA c L q).toNatClampNeg - 48) (q + 1)
theorem nuR_s (c : Nat → Int32) (L f v q : Nat) : nuR c L (f + 1) v q = if v = 0 then (v, q) else if dgB c L q = false then (v, q) else if 999 < 10 * v + (chA c L q).toNatClampNeg - 48 then (v, q) else nuR c L f (10 * v + (chA c L q).toNatClampNeg - 48) (q + 1) := rfl
/-- a state with the pad's own numbers and values -/
def pd (σ : Sg) (g v : Nat → Int32) : Sg := ua (ua σ 11 17 0 v) 11 15 0 g
theorem pd_g {σ : Sg} {g v : Nat → Int32} : pd σ g v 11 15 0 = g := ua_r
theorem pd_v {σ : Sg} {g v : Nat → Int32} : pd σ g v 11 17 0 = v := by
  unfold pd
  rw [ua_k (by decide), ua_r]
theorem pd_m {σ : Sg} {g v : Nat → Int32} {m : Nat} (h : m ≠ 11) : pd σ g v m = σ m := by
  unfold pd
  rw [ua_m h, ua_m h]
theorem pd_k {σ : Sg} {g v : Nat → Int32} {k : Nat} (h : k ≠ 15) (h2 : k ≠ 17) : pd σ g v 11 k = σ 11 k := by
  unfold pd
  rw [ua_k h, ua_k h2]
theorem pd_ug {σ : Sg} {g v : Nat → Int32} {j : Nat} {x : Int32} : up (pd σ g v) 11 15 0 j x = pd σ (upd g j x) v := ua_up
theorem pd_uv {σ : Sg} {g v : Nat → Int32} {j : Nat} {x : Int32} : up (pd σ g v) 11 17 0 j x = pd σ g (upd v j x) := by
  funext a b c
  unfold pd up ua
  by_cases h1 : a = 11 ∧ b = 17 ∧ c = 0
  · obtain ⟨rfl, rfl, rfl⟩ := h1
    simp
  · rw [if_neg h1]
    by_cases h2 : a = 11 ∧ b = 15 ∧ c = 0
    · rw [if_pos h2, if_pos h2]
    · rw [if_neg h2, if_neg h2, if_neg h1, if_neg h1]
theorem pd_self (σ : Sg) : pd σ (σ 11 15 0) (σ 11 17 0) = σ := by
  unfold pd
  rw [ua_self σ 11 17 0, ua_self]
/-- the pad's numbers: length, place, kind, how many values -/
def gq (L q : Nat) (k : Int32) (n : Nat) (g : Nat → Int32) : Prop := g 2 = nI L ∧ g 3 = nI q ∧ g 4 = k ∧ g 5 = nI n
section RD
variable {σ : Sg} {Q : Int32 → Sg → Prop} {g v : Nat → Int32} {L q n : Nat} {k : Int32}
theorem gq_3 (h : gq L q k n g) (q' : Nat) : gq L q' k n (upd g 3 (nI q')) := by
  obtain ⟨h2, h3, h4, h5⟩ := h
  exact ⟨by rw [pk_un (by decide)]; exact h2, pk_us, by rw [pk_un (by decide)]; exact h4, by rw [pk_un (by decide)]; exact h5⟩
theorem gq_5 (h : gq L q k n g) (n' : Nat) : gq L q k n' (upd g 5 (nI n')) := by
  obtain ⟨h2, h3, h4, h5⟩ := h
  exact ⟨by rw [pk_un (by decide)]; exact h2, by rw [pk_un (by decide)]; exact h3, by rw [pk_un (by decide)]; exact h4, pk_us⟩
theorem s_X3_signHere (hg : gq L q k n g) (hL : L ≤ 80) (hq0 : q < 2 ^ 20) (hq : Q (chA (σ 11 16 0) L q) (pd σ g v)) : wp_X3_signHere (pd σ g v) Q := by
  obtain ⟨h2, h3, -, -⟩ := hg
  unfold wp_X3_signHere
  rw [pd_g, h2, h3]
  unfold chA at hq
  refine ⟨fun c => absurd c (nI_pos (by omega)), fun _ => ⟨fun c => ?_, fun c => ?_⟩⟩
  · have := (nI_leI (a := L) (b := q) (by omega) (by omega)).mp c
    rw [if_neg (by omega)] at hq
    exact hq
  · have hlt : q < L := by
      by_cases z : q < L
      · exact z
      · exact absurd (nI_le (by omega) (by omega)) c
    rw [if_pos hlt] at hq
    refine ⟨fun d => absurd d (show ¬ nI 80 ≤ nI q from nI_ge (by omega) (by decide)), fun _ => ?_⟩
    rw [nI_clamp (by omega), pd_k (by decide) (by decide)]
    exact ⟨vp_in_nI (by omega) (by decide), hq⟩
theorem s_X3_isDigitHere (hg : gq L q k n g) (hL : L ≤ 80) (hq0 : q < 2 ^ 20) (hq : Q (if dgB (σ 11 16 0) L q then 1 else 0) (pd σ g v)) : wp_X3_isDigitHere (pd σ g v) Q := by
  unfold wp_X3_isDigitHere
  refine s_X3_signHere hg hL hq0 ?_
  unfold dgB at hq
  refine s_X5_bt (fun c => ⟨Or.inr rfl, ?_⟩) (fun c => ⟨Or.inl rfl, ?_⟩)
  · rw [c] at hq; exact hq
  · rw [c] at hq; exact hq
theorem s_X3_keepValue {Q : Sg → Prop} {x : Int32} (hg : gq L q k n g) (hn : n < 3) (hq : Q (pd σ (upd g 5 (nI (n + 1))) (upd v n x))) : wp_X3_keepValue x (pd σ g v) Q := by
  obtain ⟨-, -, -, h5⟩ := hg
  unfold wp_X3_keepValue
  rw [pd_g, h5]
  refine s_X5_isIndex ?_
  rw [if_neg (nI_pos (by omega)), if_neg (show ¬ (3 : Int32) ≤ nI n from (show ¬ nI 3 ≤ nI n from nI_ge hn (by decide)))]
  refine ⟨fun _ => ?_, fun d => absurd d (by decide)⟩
  rw [pd_g, h5, nI_clamp (by omega)]
  refine ⟨vp_in_nI hn (by decide), ?_⟩
  rintro σ4 rfl σ5 rfl
  rw [pd_uv, pd_ug, pd_g, h5, nI_1]
  exact hq
theorem s_X3_readDigit (hg : gq L q k n g) (hL : L ≤ 80) (hq0 : q < 2 ^ 20) (hn : n < 3) (h1 : dgB (σ 11 16 0) L q = true → Q 1 (pd σ (upd (upd g 5 (nI (n + 1))) 3 (nI (q + 1))) (upd v n (chA (σ 11 16 0) L q - 48)))) (h0 : dgB (σ 11 16 0) L q = false → Q 0 (pd σ g v)) : wp_X3_readDigit (pd σ g v) Q := by
  unfold wp_X3_readDigit
  refine s_X3_isDigitHere hg hL hq0 ?_
  cases c : dgB (σ 11 16 0) L q with
  | false => exact ⟨fun d => absurd rfl d, fun _ => h0 c⟩
  | true =>
    refine ⟨fun _ => ?_, fun d => absurd d (by decide)⟩
    refine s_X3_signHere hg hL hq0 ?_
    refine s_X3_keepValue hg hn ?_
    rintro σ7 rfl
    have e3 : upd g 5 (nI (n + 1)) 3 = nI q := by rw [pk_un (by decide)]; exact hg.2.1
    rw [pd_ug, pd_g, e3, nI_1]
    exact h1 c
theorem s_X3_readSign {x : Int32} (hg : gq L q k n g) (hL : L ≤ 80) (hq0 : q < 2 ^ 20) (h1 : chA (σ 11 16 0) L q = x → Q 1 (pd σ (upd g 3 (nI (q + 1))) v)) (h0 : ¬ chA (σ 11 16 0) L q = x → Q 0 (pd σ g v)) : wp_X3_readSign x (pd σ g v) Q := by
  unfold wp_X3_readSign
  refine s_X3_signHere hg hL hq0 ⟨fun c => ?_, h0⟩
  rintro σ4 rfl
  rw [pd_ug, pd_g, hg.2.1, nI_1]
  exact h1 c
/-- a number: it fails before a digit too many -/
theorem s_X3_readNumber (hg : gq L q k n g) (hL : L ≤ 80) (hq0 : q < 2 ^ 18) (hn : n < 3) (h0 : dgB (σ 11 16 0) L q = false → Q 0 (pd σ g v)) (h1 : dgB (σ 11 16 0) L q = true → ∀ w q', nuR (σ 11 16 0) L 80 ((chA (σ 11 16 0) L q).toNatClampNeg - 48) (q + 1) = (w, q') → (dgB (σ 11 16 0) L q' = true → Q 0 (pd σ (upd g 3 (nI q')) v)) ∧ (dgB (σ 11 16 0) L q' = false → Q 1 (pd σ (upd (upd g 3 (nI q')) 5 (nI (n + 1))) (upd v n (nI w))))) : wp_X3_readNumber (pd σ g v) Q := by
  unfold wp_X3_readNumber
  refine s_X3_isDigitHere hg hL (by omega) ?_
  cases c : dgB (σ 11 16 0) L q with
  | false => exact ⟨fun d => absurd rfl d, fun _ => h0 c⟩
  | true =>
    refine ⟨fun _ => ?_, fun d => absurd d (by decide)⟩
    refine s_X3_signHere hg hL (by omega) ?_
    obtain ⟨e, e9, ee, elt⟩ := dg_nI c
    have h1' := h1 c
    rw [ee, nI_clamp (by omega), Nat.add_sub_cancel_left] at h1'
    rw [ee]
    rintro z6 rfl σ7 rfl
    rw [pd_ug, pd_g, hg.2.1, nI_1, show (nI (48 + e) - 48 : Int32) = nI e by
      rw [show (48 : Int32) = nI 48 from rfl, pk_sub (by omega), Nat.add_sub_cancel_left]]
    cases hR : nuR (σ 11 16 0) L 80 e (q + 1) with
    | mk w0 q0 =>
    obtain ⟨k1, k0⟩ := h1' w0 q0 hR
    unfold wp_X3_readNumber_L27
    refine lpN_rel 80 (fun i a => ∃ w, a = (nI w, pd σ (upd g 3 (nI (q + 1 + i))) v) ∧ w ≤ 999 ∧ nuR (σ 11 16 0) L (80 - i) w (q + 1 + i) = (w0, q0)) ?_ ?_ 0 _ (Nat.zero_le _) ⟨e, rfl, by omega, hR⟩
    · rintro K i a hi ⟨w, rfl, hw, he⟩ hK
      dsimp only
      have hg' := gq_3 hg (q + 1 + i)
      rw [show 80 - i = (79 - i) + 1 by omega, nuR_s] at he
      have done : dgB (σ 11 16 0) L (q + 1 + i) = false → wp_X3_readNumber_b86 Q (nI w) (pd σ (upd g 3 (nI (q + 1 + i))) v) := by
        intro hd
        have ew : (w, q + 1 + i) = (w0, q0) := by
          by_cases z : w = 0
          · rw [if_pos z] at he; exact he
          · rw [if_neg z, if_pos hd] at he; exact he
        have e1 : w = w0 := congrArg Prod.fst ew
        have e2 : q + 1 + i = q0 := congrArg Prod.snd ew
        unfold wp_X3_readNumber_b86
        refine s_X3_keepValue hg' hn ?_
        rw [e2, e1]
        exact k0 (by rw [← e2]; exact hd)
      unfold st_X3_readNumber_L27
      rw [pd_g, hg'.1, hg'.2.1]
      refine ⟨fun c => done ?_, fun c => ?_⟩
      · have := (nI_leI (a := L) (b := q + 1 + i) (by omega) (by omega)).mp c
        cases z : dgB (σ 11 16 0) L (q + 1 + i) with
        | false => rfl
        | true =>
          obtain ⟨-, -, -, zl⟩ := dg_nI z
          omega
      · refine s_X3_isDigitHere hg' hL (by omega) ?_
        cases z : dgB (σ 11 16 0) L (q + 1 + i) with
        | false => exact ⟨fun _ => done z, fun d => absurd rfl d⟩
        | true =>
          refine ⟨fun d => absurd d (by decide), fun _ => ?_⟩
          refine s_X3_signHere hg' hL (by omega) ?_
          obtain ⟨e', e9', ee', -⟩ := dg_nI z
          rw [ee']
          rw [z, ee', nI_clamp (by omega)] at he
          rintro z14 rfl
          rw [show ((nI w * (10 : Int32)) + nI (48 + e')) - (48 : Int32) = nI (10 * w + (48 + e') - 48) by
            rw [show (10 : Int32) = nI 10 from rfl, show (48 : Int32) = nI 48 from rfl, pk_mul, nI_add, pk_sub (by omega), Nat.mul_comm w 10]]
          refine ⟨fun d => ?_, fun d => ⟨fun f => ?_, fun f => ?_⟩⟩
          · have w00 := nI_z (by omega) d
            rw [if_pos w00] at he
            have e2 : q + 1 + i = q0 := congrArg Prod.snd he
            rw [e2]
            exact k1 (by rw [← e2]; exact z)
          · rintro σ17 rfl
            have wn : ¬ w = 0 := fun y => d (by rw [y]; rfl)
            have f' := (nI_leI (a := 10 * w + (48 + e') - 48) (b := 999) (by omega) (by decide)).mp f
            rw [if_neg wn, if_neg (by decide), if_neg (by omega)] at he
            rw [pd_ug, pd_g, hg'.2.1, nI_1, upd_upd]
            exact hK _ ⟨_, rfl, f', by rw [show 80 - (i + 1) = 79 - i by omega]; exact he⟩
          · have wn : ¬ w = 0 := fun y => d (by rw [y]; rfl)
            have f' : 999 < 10 * w + (48 + e') - 48 := by
              by_cases y : 10 * w + (48 + e') - 48 ≤ 999
              · exact absurd (show nI (10 * w + (48 + e') - 48) ≤ nI 999 from nI_le y (by decide)) f
              · omega
            rw [if_neg wn, if_neg (by decide), if_pos f'] at he
            have e2 : q + 1 + i = q0 := congrArg Prod.snd he
            rw [e2]
            exact k1 (by rw [← e2]; exact z)
    · rintro K a ⟨w, rfl, hw, he⟩
      dsimp only
      have hg' := gq_3 hg (q + 1 + 80)
      unfold st_X3_readNumber_L27
      rw [pd_g, hg'.1, hg'.2.1]
      refine ⟨fun _ => ?_, fun c => absurd (nI_le (by omega) (by omega)) c⟩
      have e1 : w = w0 := congrArg Prod.fst he
      have e2 : q + 1 + 80 = q0 := congrArg Prod.snd he
      unfold wp_X3_readNumber_b86
      refine s_X3_keepValue hg' hn ?_
      rw [e2, e1]
      refine k0 ?_
      cases z : dgB (σ 11 16 0) L q0 with
      | false => rfl
      | true =>
        obtain ⟨-, -, -, zl⟩ := dg_nI z
        omega
end RD
