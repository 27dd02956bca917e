/-! The fault of a text, on both sides. -/
theorem nuR_ge (c : Nat → Int32) (L : Nat) : ∀ f v q, q ≤ (nuR c L f v q).2 := by
  intro f
  induction f with
  | zero => exact fun v q => Nat.le_refl q
  | succ f ih =>
    intro v q
    rw [nuR_s]
    split
    · exact Nat.le_refl q
    · split
      · exact Nat.le_refl q
      · split
        · exact Nat.le_refl q
        · exact Nat.le_trans (Nat.le_succ q) (ih _ (q + 1))
theorem nmP_adv {c : Nat → Int32} {L q : Nat} {f : Nat → Nat × Nat × Nat} (h : (nmP c L q f).2.1 = true) : q < (nmP c L q f).1 := by
  unfold nmP at h ⊢
  by_cases d : dgB c L q = true
  · rw [if_pos d]
    exact Nat.lt_of_lt_of_le (Nat.lt_succ_self q) (nuR_ge c L 80 _ (q + 1))
  · rw [if_neg d] at h
    exact absurd (show false = true from h) (by decide)
theorem orP_adv {c : Nat → Int32} {L q : Nat} (h : (orP c L q).2.1 = true) : q < (orP c L q).1 := by
  unfold orP at h ⊢
  by_cases c1 : chA c L q = 104
  · rw [if_pos c1] at h ⊢
    by_cases d1 : dgB c L (q + 1) = true
    · rw [if_pos d1] at h ⊢
      by_cases d2 : chA c L (q + 2) = 46
      · rw [if_pos d2] at h ⊢
        by_cases d3 : dgB c L (q + 3) = true
        · rw [if_pos d3] at h ⊢
          by_cases d4 : chA c L (q + 4) = 42
          · rw [if_pos d4] at h ⊢
            have := nmP_adv h
            omega
          · rw [if_neg d4] at h; exact absurd (show false = true from h) (by decide)
        · rw [if_neg d3] at h; exact absurd (show false = true from h) (by decide)
      · rw [if_neg d2] at h; exact absurd (show false = true from h) (by decide)
    · rw [if_neg d1] at h; exact absurd (show false = true from h) (by decide)
  rw [if_neg c1] at h ⊢
  by_cases c2 : chA c L q = 102
  · rw [if_pos c2] at h ⊢
    by_cases d1 : dgB c L (q + 1) = true
    · rw [if_pos d1] at h ⊢
      by_cases d2 : chA c L (q + 2) = 43
      · rw [if_pos d2] at h ⊢
        have := nmP_adv h
        omega
      · rw [if_neg d2] at h; exact absurd (show false = true from h) (by decide)
    · rw [if_neg d1] at h; exact absurd (show false = true from h) (by decide)
  rw [if_neg c2] at h ⊢
  by_cases c3 : chA c L q = 115
  · rw [if_pos c3] at h ⊢
    have := nmP_adv h
    omega
  rw [if_neg c3] at h ⊢
  by_cases c4 : chA c L q = 114
  · rw [if_pos c4] at h ⊢
    have := nmP_adv h
    omega
  rw [if_neg c4] at h ⊢
  by_cases c5 : chA c L q = 97
  · rw [if_pos c5] at h ⊢
    by_cases d1 : dgB c L (q + 1) = true
    · rw [if_pos d1] at h ⊢
      by_cases d2 : dgB c L (q + 2) = true
      · rw [if_pos d2] at h ⊢
        show q < q + 3
        omega
      · rw [if_neg d2] at h; exact absurd (show false = true from h) (by decide)
    · rw [if_neg d1] at h; exact absurd (show false = true from h) (by decide)
  rw [if_neg c5] at h ⊢
  by_cases c6 : chA c L q = 116
  · rw [if_pos c6] at h ⊢
    show q < q + 1
    omega
  · rw [if_neg c6] at h; exact absurd (show false = true from h) (by decide)
theorem nuR_le (c : Nat → Int32) (L : Nat) : ∀ f v q, (nuR c L f v q).2 ≤ q + f := by
  intro f
  induction f with
  | zero => exact fun v q => Nat.le_refl q
  | succ f ih =>
    intro v q
    rw [nuR_s]
    split
    · exact Nat.le_add_right q _
    · split
      · exact Nat.le_add_right q _
      · split
        · exact Nat.le_add_right q _
        · have := ih (10 * v + (chA c L q).toNatClampNeg - 48) (q + 1)
          omega
theorem orP_le (c : Nat → Int32) (L q : Nat) : (orP c L q).1 ≤ q + 90 := by
  unfold orP nmP
  repeat' split
  all_goals first | (dsimp only; omega) | exact Nat.le_trans (nuR_le c L 80 _ _) (by omega)
def fltP (c : Nat → Int32) (L : Nat) : Nat → Nat → Bool × Nat
  | 0, q => (false, q)
  | f + 1, q => if (orP c L q).2.1 = false then (false, (orP c L q).1) else if L ≤ (orP c L q).1 then (true, (orP c L q).1) else if chA c L (orP c L q).1 = 59 then fltP c L f ((orP c L q).1 + 1) else (false, (orP c L q).1)
theorem fltP_s (c : Nat → Int32) (L f q : Nat) : fltP c L (f + 1) q = if (orP c L q).2.1 = false then (false, (orP c L q).1) else if L ≤ (orP c L q).1 then (true, (orP c L q).1) else if chA c L (orP c L q).1 = 59 then fltP c L f ((orP c L q).1 + 1) else (false, (orP c L q).1) := rfl
theorem ch_congr {c c' : Nat → Int32} {L : Nat} (h : ∀ j, j < L → c j = c' j) : chA c L = chA c' L := by
  funext q
  unfold chA
  by_cases z : q < L
  · rw [if_pos z, if_pos z, h q z]
  · rw [if_neg z, if_neg z]
theorem or_congr {c c' : Nat → Int32} {L : Nat} (h : ∀ j, j < L → c j = c' j) : orP c L = orP c' L := by
  have hc := ch_congr h
  have hd : dgB c L = dgB c' L := by
    funext q
    unfold dgB
    rw [hc]
  have hv : dvl c L = dvl c' L := by
    funext q
    unfold dvl
    rw [hc]
  have hn : nuR c L = nuR c' L := by
    funext f
    induction f with
    | zero => rfl
    | succ f ih =>
      funext v q
      rw [nuR_s, nuR_s, hc, hd, ih]
  funext q
  unfold orP nmP
  rw [hc, hd, hv, hn]
theorem flt_congr {c c' : Nat → Int32} {L : Nat} (h : ∀ j, j < L → c j = c' j) : fltP c L = fltP c' L := by
  have hc := ch_congr h
  have ho := or_congr h
  funext f
  induction f with
  | zero => rfl
  | succ f ih =>
    funext q
    rw [fltP_s, fltP_s, hc, ho, ih]
section FA
variable {σ : Sg} {Q : Int32 → Sg → Prop} {P : Int32 → Int32 → Sg → Prop} {g v : Nat → Int32} {L : Nat}
theorem up2_ms (σ : Sg) : up (up σ 12 18 0 9 0) 12 18 0 10 0 = ms σ (σ 12 18 0) 0 0 := ua_up
theorem s_X6_go0 (hL : L ≤ 80) (h7 : σ 12 18 0 7 = nI L) (ht : (fltP (σ 12 24 0) L 80 0).1 = true → ∀ u, Q u (ms σ (σ 12 18 0) (fltP (σ 12 24 0) L 80 0).2 0)) (hf : (fltP (σ 12 24 0) L 80 0).1 = false → ∀ u, Q u (ms σ (σ 12 18 0) (fltP (σ 12 24 0) L 80 0).2 1)) : wp_X6_go 0 σ Q := by
  unfold wp_X6_go
  rintro σ1 rfl σ2 rfl
  rw [up2_ms]
  unfold wp_X6_go_L14
  generalize hR : fltP (σ 12 24 0) L 80 0 = R at ht hf
  refine lpN_rel 80 (fun k a => ∃ u, (∃ q, a = (u, 1, ms σ (σ 12 18 0) q 0) ∧ 2 * k ≤ q ∧ q ≤ 80 ∧ fltP (σ 12 24 0) L (80 - k) q = R) ∨ (R.1 = true ∧ a = (u, 0, ms σ (σ 12 18 0) R.2 0)) ∨ (R.1 = false ∧ a = (u, 0, ms σ (σ 12 18 0) R.2 1))) ?_ ?_ 0 _ (Nat.zero_le _) ⟨0, Or.inl ⟨0, rfl, Nat.le_refl 0, Nat.zero_le _, hR⟩⟩
  · rintro K k a hk ⟨u, ⟨q, rfl, hq1, hq2, he⟩ | ⟨hr, rfl⟩ | ⟨hr, rfl⟩⟩ hK
    · dsimp only
      unfold st_X6_go_L14
      refine ⟨fun d => absurd d (by decide), fun _ => ?_⟩
      rw [show 80 - k = (79 - k) + 1 by omega, fltP_s] at he
      refine s_X6_order hL h7 (by omega) (fun hb => ⟨rfl, ⟨fun _ => ?_, fun d => absurd (by decide) d⟩⟩) (fun hok => ⟨fun _ => ⟨fun _ => ?_, fun d => absurd (by decide) d⟩, fun d => absurd rfl d⟩)
      · rw [if_pos hb] at he
        rintro z7 rfl
        rw [ms_10]
        refine ⟨fun _ => ?_, fun d => absurd d (by decide)⟩
        unfold wp_X6_go_b53 wp_X6_go_b54
        refine ⟨fun _ => hK _ ⟨u + 1, Or.inr (Or.inr ⟨by rw [← he], by rw [← he]⟩)⟩, fun d => absurd rfl d⟩
      · rw [if_neg (by rw [hok]; decide)] at he
        have adv := orP_adv hok
        rintro z7 rfl
        rw [ms_10, ms_9, ms_j (by decide) (by decide), h7]
        refine ⟨fun d => absurd rfl d, fun _ => ⟨fun d => ?_, fun d => ?_⟩⟩
        · have hge : L ≤ (orP (σ 12 24 0) L q).1 := by
            by_cases z : L ≤ (orP (σ 12 24 0) L q).1
            · exact z
            · exact absurd d (nI_ge (by omega) (by omega))
          rw [if_pos hge] at he
          unfold wp_X6_go_b53 wp_X6_go_b54
          exact ⟨fun _ => hK _ ⟨u + 1, Or.inr (Or.inl ⟨by rw [← he], by rw [← he]⟩)⟩, fun d => absurd rfl d⟩
        · have hlt : (orP (σ 12 24 0) L q).1 < L := by
            by_cases z : (orP (σ 12 24 0) L q).1 < L
            · exact z
            · exact absurd (nI_le (by omega) (by have := orP_le (σ 12 24 0) L q; omega)) d
          rw [if_neg (by omega)] at he
          unfold wp_X6_go_b54
          refine ⟨fun d => absurd d (by decide), fun _ => ?_⟩
          refine s_X6_sign hL h7 (by omega) (by decide) (fun hs => ?_) (fun hs => ?_)
          · rw [ms_10]
            rw [if_pos (ot_eq.mp hs)] at he
            unfold wp_X6_go_b81
            exact ⟨fun d => absurd rfl d, fun _ => hK _ ⟨u + 1, Or.inl ⟨(orP (σ 12 24 0) L q).1 + 1, rfl, by omega, by omega, by rw [show 80 - (k + 1) = 79 - k by omega]; exact he⟩⟩⟩
          · rw [ms_10]
            rw [if_neg (fun z => by rw [ot_eq.mpr z] at hs; exact absurd hs (by decide))] at he
            unfold wp_X6_go_b81
            exact ⟨fun _ => hK _ ⟨u + 1, Or.inr (Or.inr ⟨by rw [← he], by rw [← he]⟩)⟩, fun d => absurd d (by decide)⟩
    · dsimp only
      unfold st_X6_go_L14
      exact ⟨fun _ => ht hr u, fun d => absurd rfl d⟩
    · dsimp only
      unfold st_X6_go_L14
      exact ⟨fun _ => hf hr u, fun d => absurd rfl d⟩
  · rintro K a ⟨u, ⟨q, rfl, hq1, hq2, he⟩ | ⟨hr, rfl⟩ | ⟨hr, rfl⟩⟩
    · omega
    · dsimp only
      unfold st_X6_go_L14
      exact ⟨fun _ => ht hr u, fun d => absurd rfl d⟩
    · dsimp only
      unfold st_X6_go_L14
      exact ⟨fun _ => hf hr u, fun d => absurd rfl d⟩
theorem s_X3_signHere2 {q : Nat} (h2 : g 2 = nI L) (h3 : g 3 = nI q) (hL : L ≤ 80) (hq0 : q < 2 ^ 20) (hq : Q (chA (σ 11 16 0) L q) (pd σ g v)) : wp_X3_signHere (pd σ g v) Q := by
  unfold wp_X3_signHere
  rw [pd_g, h2, h3]
  unfold chA at hq
  refine ⟨fun c => absurd c (nI_pos (by omega)), fun _ => ⟨fun c => ?_, fun c => ?_⟩⟩
  · have := (nI_leI (a := L) (b := q) (by omega) (by omega)).mp c
    rw [if_neg (by omega)] at hq
    exact hq
  · have hlt : q < L := by
      by_cases z : q < L
      · exact z
      · exact absurd (nI_le (by omega) (by omega)) c
    rw [if_pos hlt] at hq
    refine ⟨fun d => absurd d (show ¬ nI 80 ≤ nI q from nI_ge (by omega) (by decide)), fun _ => ?_⟩
    rw [nI_clamp (by omega), pd_k (by decide) (by decide)]
    exact ⟨vp_in_nI (by omega) (by decide), hq⟩
theorem s_X3_readSign2 {q : Nat} {x : Int32} (h2 : g 2 = nI L) (h3 : g 3 = nI q) (hL : L ≤ 80) (hq0 : q < 2 ^ 20) (h1 : chA (σ 11 16 0) L q = x → Q 1 (pd σ (upd g 3 (nI (q + 1))) v)) (h0 : ¬ chA (σ 11 16 0) L q = x → Q 0 (pd σ g v)) : wp_X3_readSign x (pd σ g v) Q := by
  unfold wp_X3_readSign
  refine s_X3_signHere2 h2 h3 hL hq0 ⟨fun c => ?_, h0⟩
  rintro σ4 rfl
  rw [pd_ug, pd_g, h3, nI_1]
  exact h1 c
theorem s_X3_findFault (hg : g 2 = nI L) (hL : L ≤ 80) (h : ∀ g' v', g' 2 = nI L → Q (if (fltP (σ 11 16 0) L 80 0).1 then -6 else nI (fltP (σ 11 16 0) L 80 0).2) (pd σ g' v')) : wp_X3_findFault (pd σ g v) Q := by
  unfold wp_X3_findFault wp_X3_startReading
  rintro σ1 rfl
  rw [pd_ug]
  unfold wp_X3_findFault_L6
  generalize hR : fltP (σ 11 16 0) L 80 0 = R at h
  refine lpN_rel 80 (fun k a => ∃ q g' v', a = (nI k, pd σ g' v') ∧ g' 2 = nI L ∧ g' 3 = nI q ∧ q ≤ 80 ∧ fltP (σ 11 16 0) L (80 - k) q = R) ?_ ?_ 0 _ (Nat.zero_le _) ⟨0, _, v, rfl, by rw [pk_un (by decide)]; exact hg, pk_us, Nat.zero_le _, hR⟩
  · rintro K k a hk ⟨q, g1, v1, rfl, k2, k3, hq2, he⟩ hK
    dsimp only
    unfold st_X3_findFault_L6
    refine ⟨fun c => absurd c (show ¬ nI 80 ≤ nI k from nI_ge hk (by decide)), fun _ => ?_⟩
    rw [show 80 - k = (79 - k) + 1 by omega, fltP_s] at he
    refine s_X3_readOrder ⟨k2, k3⟩ hL (by omega) (fun hok g2 v2 m2 m3 m4 _ => ⟨fun _ => ?_, fun d => absurd d (by decide)⟩) (fun hbad g2 v2 m2 m3 => ⟨fun d => absurd rfl d, fun _ => ?_⟩)
    · have hor : (orP (σ 11 16 0) L q).2.1 = true := by
        unfold okC at hok
        rw [Bool.and_eq_true] at hok
        exact hok.1
      rw [if_neg (by rw [hor]; decide)] at he
      rw [pd_g, m2, m3]
      have hle := orP_le (σ 11 16 0) L q
      refine ⟨fun c => ?_, fun c => ?_⟩
      · have hlt : (orP (σ 11 16 0) L q).1 < L := (nI_ltI (by omega) (by omega)).mp c
        rw [if_neg (by omega)] at he
        refine s_X3_readSign2 m2 m3 hL (by omega) (fun e => ⟨fun _ => ?_, fun d => absurd d (by decide)⟩) (fun e => ⟨fun d => absurd rfl d, fun _ => ?_⟩)
        · rw [if_pos e] at he
          rintro z10 rfl
          rw [nI_1]
          exact hK _ ⟨(orP (σ 11 16 0) L q).1 + 1, _, v2, rfl, by rw [pk_un (by decide)]; exact m2, pk_us, by omega, by rw [show 80 - (k + 1) = 79 - k by omega]; exact he⟩
        · rw [if_neg e] at he
          have := h g2 v2 m2
          rw [← he] at this
          rw [pd_g, m3]
          exact this
      · have hge : L ≤ (orP (σ 11 16 0) L q).1 := by
          by_cases z : L ≤ (orP (σ 11 16 0) L q).1
          · exact z
          · exact absurd ((nI_ltI (by omega) (by omega)).mpr (by omega)) c
        rw [if_pos hge] at he
        have := h g2 v2 m2
        rw [← he] at this
        exact this
    · have hR2 : R = (false, (orP (σ 11 16 0) L q).1) := by
        rw [← he]
        by_cases hb : (orP (σ 11 16 0) L q).2.1 = false
        · rw [if_pos hb]
        · rw [if_neg hb]
          rw [Bool.not_eq_false] at hb
          unfold okC at hbad
          rw [hb, Bool.true_and, Bool.not_eq_false', Bool.and_eq_true] at hbad
          obtain ⟨e, e9, ee, elt⟩ := dg_nI hbad.2
          rw [if_neg (by omega), if_neg (by
            rw [ee]
            intro z
            have := (nI_eq (a := 48 + e) (b := 59) (by omega) (by decide)).mp z
            omega)]
      have := h g2 v2 m2
      rw [hR2] at this
      rw [pd_g, m3]
      exact this
  · rintro K a ⟨q, g1, v1, rfl, k2, k3, hq2, he⟩
    dsimp only
    unfold st_X3_findFault_L6
    refine ⟨fun _ => ?_, fun c => absurd (nI_le (Nat.le_refl 80) (by decide)) c⟩
    rw [pd_g, k3]
    have := h g1 v1 k2
    rw [← he] at this
    exact this
end FA
