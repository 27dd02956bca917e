/-! The reference reads its pad. -/
def mg (g : Nat → Int32) (q : Nat) (w : Int32) : Nat → Int32 := upd (upd g 9 (nI q)) 10 w
def ms (σ : Sg) (g : Nat → Int32) (q : Nat) (w : Int32) : Sg := ua σ 12 18 0 (mg g q w)
section RG
variable {σ : Sg} {Q : Int32 → Sg → Prop} {g : Nat → Int32} {L q : Nat} {w lo hi : Int32}
theorem ms_9 : ms σ g q w 12 18 0 9 = nI q := by
  unfold ms mg
  rw [ua_r, pk_un (by decide), pk_us]
theorem ms_10 : ms σ g q w 12 18 0 10 = w := by
  unfold ms mg
  rw [ua_r, pk_us]
theorem ms_j {j : Nat} (h1 : j ≠ 9) (h2 : j ≠ 10) : ms σ g q w 12 18 0 j = g j := by
  unfold ms mg
  rw [ua_r, pk_un h2, pk_un h1]
theorem ms_k {k : Nat} (h : k ≠ 18) : ms σ g q w 12 k = σ 12 k := ua_k h
theorem ms_m {m : Nat} (h : m ≠ 12) : ms σ g q w m = σ m := ua_m h
theorem ms_u9 (q' : Nat) : up (ms σ g q w) 12 18 0 9 (nI q') = ms σ g q' w := by
  unfold ms
  rw [ua_up]
  unfold mg
  rw [upd_comm (by decide), upd_upd]
theorem ms_u10 (w' : Int32) : up (ms σ g q w) 12 18 0 10 w' = ms σ g q w' := by
  unfold ms
  rw [ua_up]
  unfold mg
  rw [upd_upd]
theorem sg_58 {v s0 : Int32} (h01 : s0 = 0 ∨ s0 = 1) (h1 : s0 = 0 → Q v (ms σ g (q + 1) 0)) (h0 : s0 = 1 → Q v (ms σ g q 1)) : wp_X6_sign_b58 lo hi Q v s0 (ms σ g q w) := by
  unfold wp_X6_sign_b58
  refine ⟨h01, ?_⟩
  rintro σ8 rfl
  rw [ms_u10, ms_10, ms_9]
  refine ⟨fun c => ?_, fun c => ?_⟩
  · rintro σ10 rfl
    rw [nI_1, ms_u9, c]
    exact h1 c
  · have c1 := h01.resolve_left c
    rintro σ11 rfl
    rw [i_add0, ms_u9, c1]
    exact h0 c1
theorem s_X6_sign (hL : L ≤ 80) (h7 : g 7 = nI L) (hq0 : q < 2 ^ 20) (h00 : otB 0 lo hi = true) (h1 : otB (chA (σ 12 24 0) L q) lo hi = false → Q (chA (σ 12 24 0) L q) (ms σ g (q + 1) 0)) (h0 : otB (chA (σ 12 24 0) L q) lo hi = true → Q (chA (σ 12 24 0) L q) (ms σ g q 1)) : wp_X6_sign lo hi (ms σ g q 0) Q := by
  unfold wp_X6_sign
  rw [ms_9, ms_j (by decide) (by decide), h7]
  refine ⟨fun c => ?_, fun c => ?_⟩
  · have hge := (nI_leI (a := L) (b := q) (by omega) (by omega)).mp c
    have e : chA (σ 12 24 0) L q = 0 := if_neg (by omega)
    rw [e] at h0
    have fin : wp_X6_sign_b53 lo hi Q 0 (ms σ g q 0) := by
      unfold wp_X6_sign_b53
      exact sg_58 (Or.inr rfl) (fun d => absurd d (by decide)) (fun _ => h0 h00)
    unfold wp_X6_sign_b24
    rw [ms_10, ms_9, ms_j (by decide) (by decide), h7]
    exact ⟨fun _ => fin, fun _ => ⟨fun _ => fin, fun d => absurd c d⟩⟩
  · have hlt : q < L := by
      by_cases z : q < L
      · exact z
      · exact absurd (nI_le (by omega) (by omega)) c
    have e : chA (σ 12 24 0) L q = σ 12 24 0 q := if_pos hlt
    rw [e] at h0 h1
    rw [nI_clamp (by omega), ms_k (by decide)]
    refine ⟨vp_in_nI (by omega) (by decide), ?_⟩
    unfold wp_X6_sign_b24
    rw [ms_10, ms_9, ms_j (by decide) (by decide), h7]
    refine ⟨fun d => absurd rfl d, fun _ => ⟨fun d => absurd d c, fun _ => ?_⟩⟩
    refine s_X6_bt (fun b => ⟨fun _ => ?_, fun d => absurd d (by decide)⟩) (fun b => ⟨fun d => absurd rfl d, fun _ => ?_⟩)
    · exact sg_58 (Or.inl rfl) (fun _ => h1 b) (fun d => absurd d (by decide))
    · unfold wp_X6_sign_b53
      exact sg_58 (Or.inr rfl) (fun d => absurd d (by decide)) (fun _ => h0 b)
theorem s_X6_sign1 (hL : L ≤ 80) (h7 : g 7 = nI L) (hq0 : q < 2 ^ 20) (h : ∀ v, Q v (ms σ g q 1)) : wp_X6_sign lo hi (ms σ g q 1) Q := by
  have fin : ∀ v, wp_X6_sign_b24 lo hi Q v (ms σ g q 1) := by
    intro v
    unfold wp_X6_sign_b24 wp_X6_sign_b53
    rw [ms_10]
    exact ⟨fun _ => sg_58 (Or.inr rfl) (fun d => absurd d (by decide)) (fun _ => h v), fun d => absurd d (by decide)⟩
  unfold wp_X6_sign
  rw [ms_9, ms_j (by decide) (by decide), h7]
  refine ⟨fun _ => fin 0, fun c => ?_⟩
  have hlt : q < L := by
    by_cases z : q < L
    · exact z
    · exact absurd (nI_le (by omega) (by omega)) c
  exact ⟨vp_in_nI (by omega) (by decide), fin _⟩
theorem s_X6_isNext {x : Int32} (hL : L ≤ 80) (h7 : g 7 = nI L) (hq0 : q < 2 ^ 20) (hx : ¬ x = 0) (h1 : chA (σ 12 24 0) L q = x → Q 1 (ms σ g q 0)) (h0 : ¬ chA (σ 12 24 0) L q = x → Q 0 (ms σ g q 0)) : wp_X6_isNext x (ms σ g q 0) Q := by
  unfold wp_X6_isNext
  rw [ms_10, ms_9, ms_j (by decide) (by decide), h7]
  refine ⟨fun d => absurd rfl d, fun _ => ⟨fun c => ?_, fun c => ?_⟩⟩
  · have hge := (nI_leI (a := L) (b := q) (by omega) (by omega)).mp c
    have e : chA (σ 12 24 0) L q = 0 := if_neg (by omega)
    rw [e] at h0
    exact h0 (fun z => hx z.symm)
  · have hlt : q < L := by
      by_cases z : q < L
      · exact z
      · exact absurd (nI_le (by omega) (by omega)) c
    have e : chA (σ 12 24 0) L q = σ 12 24 0 q := if_pos hlt
    rw [e] at h0 h1
    rw [nI_clamp (by omega), ms_k (by decide)]
    exact ⟨vp_in_nI (by omega) (by decide), h0, h1⟩
theorem nm_stop {v : Int32} (h : v ≤ 0 ∨ ¬ w = 0) (hq : Q v (ms σ g q w)) : wp_X6_number_L12 Q v (ms σ g q w) := by
  unfold wp_X6_number_L12
  refine lpN_rel 0 (fun _ a => a = (v, ms σ g q w)) (fun K k a hk => absurd hk (Nat.not_lt_zero k)) ?_ 0 _ (Nat.le_refl 0) rfl
  rintro K a rfl
  dsimp only
  unfold st_X6_number_L12
  refine ⟨fun _ => hq, fun c => ⟨fun _ => hq, fun d => ?_⟩⟩
  rw [ms_10] at d
  rcases h with h | h
  · exact absurd h c
  · exact absurd d h
theorem s_X6_number1 (hL : L ≤ 80) (h7 : g 7 = nI L) (hq0 : q < 2 ^ 20) (h : ∀ v, Q v (ms σ g q 1)) : wp_X6_number (ms σ g q 1) Q := by
  unfold wp_X6_number
  refine s_X6_sign1 hL h7 hq0 (fun v => ?_)
  rintro z3 rfl
  exact nm_stop (Or.inr (by decide)) (h _)
theorem s_X6_number (hL : L ≤ 80) (h7 : g 7 = nI L) (hq0 : q < 2 ^ 18) (h0 : dgB (σ 12 24 0) L q = false → ∀ v, Q v (ms σ g q 1)) (h1 : dgB (σ 12 24 0) L q = true → ∀ u q', nuR (σ 12 24 0) L 80 ((chA (σ 12 24 0) L q).toNatClampNeg - 48) (q + 1) = (u, q') → Q (nI u) (ms σ g q' 0)) : wp_X6_number (ms σ g q 0) Q := by
  unfold wp_X6_number
  refine s_X6_sign hL h7 (by omega) (by decide) (fun c => ?_) (fun c => ?_)
  · have hd : dgB (σ 12 24 0) L q = true := by unfold dgB; rw [c]; rfl
    obtain ⟨e, e9, ee, elt⟩ := dg_nI hd
    have h1' := h1 hd
    rw [ee, nI_clamp (by omega), Nat.add_sub_cancel_left] at h1'
    rw [ee]
    rintro z3 rfl
    rw [show (nI (48 + e) - 48 : Int32) = nI e by
      rw [show (48 : Int32) = nI 48 from rfl, pk_sub (by omega), Nat.add_sub_cancel_left]]
    cases hR : nuR (σ 12 24 0) L 80 e (q + 1) with
    | mk w0 q0 =>
    have k1 := h1' w0 q0 hR
    unfold wp_X6_number_L12
    refine lpN_rel 80 (fun i a => ∃ u, a = (nI u, ms σ g (q + 1 + i) 0) ∧ u ≤ 999 ∧ nuR (σ 12 24 0) L (80 - i) u (q + 1 + i) = (w0, q0)) ?_ ?_ 0 _ (Nat.zero_le _) ⟨e, rfl, by omega, hR⟩
    · rintro K i a hi ⟨u, rfl, hu, he⟩ hK
      dsimp only
      rw [show 80 - i = (79 - i) + 1 by omega, nuR_s] at he
      have done : (u, q + 1 + i) = (w0, q0) → Q (nI u) (ms σ g (q + 1 + i) 0) := by
        intro z
        have e1 : u = w0 := congrArg Prod.fst z
        have e2 : q + 1 + i = q0 := congrArg Prod.snd z
        rw [e1, e2]
        exact k1
      unfold st_X6_number_L12
      rw [ms_10, ms_9, ms_j (by decide) (by decide), h7, nI_clamp (n := q + 1 + i) (by omega), ms_k (by decide)]
      refine ⟨fun c => ?_, fun c => ⟨fun d => absurd rfl d, fun _ => ⟨fun d => ?_, fun d => ?_⟩⟩⟩
      · have u0 : u = 0 := by
          have := (nI_leI (a := u) (b := 0) (by omega) (by decide)).mp c
          omega
        rw [if_pos u0] at he
        exact done he
      · have hge := (nI_leI (a := L) (b := q + 1 + i) (by omega) (by omega)).mp d
        have hdf : dgB (σ 12 24 0) L (q + 1 + i) = false := by
          cases z : dgB (σ 12 24 0) L (q + 1 + i) with
          | false => rfl
          | true =>
            obtain ⟨-, -, -, zl⟩ := dg_nI z
            omega
        rw [if_pos hdf] at he
        exact done (by
          by_cases y : u = 0
          · rw [if_pos y] at he; exact he
          · rw [if_neg y] at he; exact he)
      · have hlt : q + 1 + i < L := by
          by_cases z : q + 1 + i < L
          · exact z
          · exact absurd (nI_le (by omega) (by omega)) d
        have ec : chA (σ 12 24 0) L (q + 1 + i) = σ 12 24 0 (q + 1 + i) := if_pos hlt
        have un : ¬ u = 0 := fun y => c (by rw [y]; decide)
        rw [if_neg un] at he
        refine ⟨vp_in_nI (by omega) (by decide), ?_⟩
        refine s_X6_bt (fun b => ⟨fun d => absurd d (by decide), fun _ => ⟨vp_in_nI (by omega) (by decide), ?_⟩⟩) (fun b => ⟨fun _ => ?_, fun d => absurd rfl d⟩)
        · have hd2 : dgB (σ 12 24 0) L (q + 1 + i) = true := by unfold dgB; rw [ec, b]; rfl
          obtain ⟨e', e9', ee', -⟩ := dg_nI hd2
          rw [hd2, if_neg (by decide), ee', nI_clamp (by omega)] at he
          rw [ec] at ee'
          rw [ms_9, nI_clamp (n := q + 1 + i) (by omega), ms_k (by decide), ee', show (((10 : Int32) * nI u) + nI (48 + e')) - (48 : Int32) = nI (10 * u + (48 + e') - 48) by
            rw [show (10 : Int32) = nI 10 from rfl, show (48 : Int32) = nI 48 from rfl, pk_mul, nI_add, pk_sub (by omega)]]
          refine ⟨fun f => ?_, fun f => ⟨vp_in_nI (by omega) (by decide), ?_⟩⟩
          · have f' : 999 < 10 * u + (48 + e') - 48 := (nI_ltI (a := 999) (b := 10 * u + (48 + e') - 48) (by decide) (by omega)).mp f
            rw [if_pos f'] at he
            exact done he
          · have f' : ¬ 999 < 10 * u + (48 + e') - 48 := fun z => f (show nI 999 < nI (10 * u + (48 + e') - 48) from (nI_ltI (by decide) (by omega)).mpr z)
            rw [if_neg f'] at he
            rintro z11 rfl σ12 rfl
            rw [nI_1, ms_u9]
            exact hK _ ⟨_, rfl, by omega, by rw [show 80 - (i + 1) = 79 - i by omega]; exact he⟩
        · have hdf : dgB (σ 12 24 0) L (q + 1 + i) = false := by unfold dgB; rw [ec, b]; rfl
          rw [if_pos hdf] at he
          exact done he
    · rintro K a ⟨u, rfl, hu, he⟩
      dsimp only
      have e1 : u = w0 := congrArg Prod.fst he
      have e2 : q + 1 + 80 = q0 := congrArg Prod.snd he
      have fin : Q (nI u) (ms σ g (q + 1 + 80) 0) := by
        rw [e1, e2]
        exact k1
      unfold st_X6_number_L12
      rw [ms_10, ms_9, ms_j (by decide) (by decide), h7]
      refine ⟨fun _ => fin, fun _ => ⟨fun _ => fin, fun _ => ⟨fun _ => fin, fun d => absurd (nI_le (by omega) (by omega)) d⟩⟩⟩
  · have hd : dgB (σ 12 24 0) L q = false := by unfold dgB; rw [c]; rfl
    rintro z3 rfl
    exact nm_stop (Or.inr (by decide)) (h0 hd _)
end RG
