/-! The reference's ticks and runs. -/
def sd (σ : Sg) (d : Nat → Int32) : Sg := ua σ 12 25 0 d
theorem sd_row (σ : Sg) (d : Nat → Int32) : sd σ d 12 25 0 = d := by simp [sd, ua]
theorem srd_row (σ : Sg) (d r : Nat → Int32) : sr (sd σ d) r 12 25 0 = d := by rw [sr_ne2 _ _ (by decide), sd_row]
theorem srd_up (σ : Sg) (d r : Nat → Int32) (j : Nat) (x : Int32) : up (sr (sd σ d) r) 12 25 0 j x = sr (sd σ (upd d j x)) r := by
  unfold up
  rw [srd_row]
  funext a b c
  unfold sr sd ua
  by_cases h : a = 12 ∧ b = 19 ∧ c = 0
  · rw [if_neg (by omega), if_pos h, if_pos h]
  · rw [if_neg h, if_neg h]
    split <;> rfl
theorem srd_self (σ : Sg) : sr (sd σ (σ 12 25 0)) (σ 12 19 0) = σ := by
  funext a b c
  unfold sr sd ua
  split
  · next h => rw [h.1, h.2.1, h.2.2]
  · split
    · next h => rw [h.1, h.2.1, h.2.2]
    · rfl
theorem upd_upd (f : Nat → Int32) (j : Nat) (x y : Int32) : upd (upd f j x) j y = upd f j y := by
  funext q
  unfold upd
  split <;> rfl
theorem laneC_IR {n l : Nat} (hl : l < 4) : ∀ {r : Nat → Int32}, IR r → IR (laneC n l r).2.2 ∧ ∀ j, j < 4 → (laneC n l r).2.2 j = r j := by
  induction n with
  | zero => exact fun h => ⟨h, fun _ _ => rfl⟩
  | succ n ih =>
    intro r h
    unfold laneC
    by_cases c : rsR r l = 0
    · rw [if_pos c]
      obtain ⟨h1, h2⟩ := ih (IR_try h hl c)
      exact ⟨h1, fun j hj => (h2 j hj).trans (tryR_ne r h hl (rs_0 h hl c).1 hj)⟩
    · rw [if_neg c]
      exact ⟨h, fun _ _ => rfl⟩
def lanesC : Nat → Nat → (Nat → Int32) → (Nat → Int32) → Int32 × (Nat → Int32) × (Nat → Int32)
  | 0, _, r, d => (0, r, d)
  | n + 1, k, r, d => ((laneC (r 0).toNatClampNeg k r).2.1 + (lanesC n (k + 1) (laneC (r 0).toNatClampNeg k r).2.2 (upd d k (laneC (r 0).toNatClampNeg k r).1)).1, (lanesC n (k + 1) (laneC (r 0).toNatClampNeg k r).2.2 (upd d k (laneC (r 0).toNatClampNeg k r).1)).2)
def tickC (r d : Nat → Int32) : Int32 × (Nat → Int32) × (Nat → Int32) := ((lanesC 4 0 r d).1, upd (lanesC 4 0 r d).2.1 191 ((lanesC 4 0 r d).2.1 191 + 1), (lanesC 4 0 r d).2.2)
def runsC : Nat → (Nat → Int32) → (Nat → Int32) → Int32 × (Nat → Int32) × (Nat → Int32)
  | 0, r, d => (0, r, d)
  | n + 1, r, d => ((tickC r d).1 + (runsC n (tickC r d).2.1 (tickC r d).2.2).1, (runsC n (tickC r d).2.1 (tickC r d).2.2).2)
theorem runsC_s (n : Nat) (r d : Nat → Int32) : runsC (n + 1) r d = ((tickC r d).1 + (runsC n (tickC r d).2.1 (tickC r d).2.2).1, (runsC n (tickC r d).2.1 (tickC r d).2.2).2) := rfl
theorem lanesC_IR {n : Nat} : ∀ {k : Nat} {r d : Nat → Int32}, k + n ≤ 4 → IR r → IR (lanesC n k r d).2.1 ∧ ∀ j, j < 4 → (lanesC n k r d).2.1 j = r j := by
  induction n with
  | zero => exact fun _ h => ⟨h, fun _ _ => rfl⟩
  | succ n ih =>
    intro k r d hk h
    obtain ⟨h1, h2⟩ := laneC_IR (n := (r 0).toNatClampNeg) (l := k) (by omega) h
    obtain ⟨h3, h4⟩ := ih (k := k + 1) (d := upd d k (laneC (r 0).toNatClampNeg k r).1) (by omega) h1
    exact ⟨h3, fun j hj => (h4 j hj).trans (h2 j hj)⟩
theorem tickC_IR {r d : Nat → Int32} (h : IR r) : IR (tickC r d).2.1 ∧ ∀ j, j < 4 → (tickC r d).2.1 j = r j := by
  obtain ⟨h1, h2⟩ := lanesC_IR (n := 4) (k := 0) (d := d) (by omega) h
  refine ⟨IR_upd _ h1 (by omega) (by omega) (by omega) (fun l w hl hw => by omega), fun j hj => ?_⟩
  show upd _ 191 _ j = r j
  rw [pk_un (by omega)]
  exact h2 j hj
theorem runsC_IR {n : Nat} : ∀ {r d : Nat → Int32}, IR r → IR (runsC n r d).2.1 ∧ ∀ j, j < 4 → (runsC n r d).2.1 j = r j := by
  induction n with
  | zero => exact fun h => ⟨h, fun _ _ => rfl⟩
  | succ n ih =>
    intro r d h
    obtain ⟨h1, h2⟩ := tickC_IR (d := d) h
    obtain ⟨h3, h4⟩ := ih (d := (tickC r d).2.2) h1
    exact ⟨h3, fun j hj => (h4 j hj).trans (h2 j hj)⟩
section RU
variable {σ : Sg} {r d : Nat → Int32}
theorem s_X6_reasonI {Q : Int32 → Sg → Prop} {x1 : Int32} (l : Nat) (hl : l < 4) (hI : IR r) (e1 : x1 = nI l := by rfl) (hq : Q (rsR r l) (sr σ r)) : wp_X6_reason x1 (sr σ r) Q := by
  obtain ⟨n, hn, he, hh⟩ := hI.2.2.2.2.2.1 l hl
  obtain ⟨T, hT2, hT, -⟩ := hI.2.2.2.2.1
  by_cases c : 0 < n
  · obtain ⟨⟨f, hf, ef⟩, -⟩ := hh 0 c
    exact s_X6_reason l n f T hl hn (fun _ => ⟨hf, by rw [sr_row]; exact ef⟩) (by rw [sr_row]; exact he) (by rw [sr_row]; exact hT) hT2 e1 (by rw [sr_row]; exact hq)
  · exact s_X6_reason l n 0 T hl hn (fun z => absurd z c) (by rw [sr_row]; exact he) (by rw [sr_row]; exact hT) hT2 e1 (by rw [sr_row]; exact hq)
theorem tick_inner {Q : Int32 → Sg → Prop} {K4 : Int32 → Int32 → Sg → Prop} {v1 : Int32} {l N : Nat} (hl : l < 4) (hI : IR r) (hN : r 0 = nI N) (hN2 : N ≤ 9) {z : Int32 × Int32 × (Nat → Int32)} (hz : laneC N l r = z) (hk : K4 (v1 + z.2.1) (nI (l + 1)) (sr (sd σ (upd d l z.1)) z.2.2)) : wp_X6_tick_L18 K4 Q v1 (nI l) 0 (sr (sd σ (upd d l 0)) r) := by
  unfold wp_X6_tick_L18
  have hzN : z.2.2 0 = nI N := by rw [← hz]; exact ((laneC_IR hl hI).2 0 (by decide)).trans hN
  refine lpN_rel N (fun k a => (∃ a' r', a = (v1 + a', nI l, nI k, sr (sd σ (upd d l 0)) r') ∧ IR r' ∧ r' 0 = nI N ∧ a' + (laneC (N - k) l r').2.1 = z.2.1 ∧ (laneC (N - k) l r').1 = z.1 ∧ (laneC (N - k) l r').2.2 = z.2.2) ∨ (a = (v1 + z.2.1, nI l, nI k, sr (sd σ (upd d l z.1)) z.2.2) ∧ ¬ z.1 = 0)) ?_ ?_ 0 _ (Nat.zero_le _) (Or.inl ⟨0, r, by rw [i_add0]; rfl, hI, hN, by rw [Nat.sub_zero, hz]; simp, by rw [Nat.sub_zero, hz], by rw [Nat.sub_zero, hz]⟩)
  · rintro K k ⟨w1, w2, w3, σ'⟩ hk2 h hK
    rcases h with ⟨a', r', e, hI', hN', g1, g2, g3⟩ | ⟨e, hz1⟩
    · cases e
      dsimp only
      unfold st_X6_tick_L18
      rw [sr_row, hN', nI_clamp (n := l) (by omega), srd_row, pk_us]
      refine ⟨fun c => absurd c (nI_ge hk2 (by omega)), fun _ => ⟨vp_in_nI hl (by decide), fun c => absurd rfl c, fun _ => ?_⟩⟩
      refine s_X6_reasonI l hl hI' rfl ?_
      refine ⟨vp_in_nI hl (by decide), ?_⟩
      rintro σ8 rfl
      rw [srd_up, upd_upd, srd_row, pk_us]
      have e3 : N - k = (N - (k + 1)) + 1 := by omega
      rw [e3] at g1 g2 g3
      unfold laneC at g1 g2 g3
      refine ⟨vp_in_nI hl (by decide), fun c => ?_, fun c => ?_⟩
      · rw [if_neg c] at g1 g2 g3
        unfold wp_X6_tick_b67
        rintro z13 rfl z14 rfl
        refine hK _ (Or.inr ⟨?_, by rw [← g2]; exact c⟩)
        rw [← g1, ← g2, ← g3, i_add0, i_add0, nI_1]
      · rw [if_pos c] at g1 g2 g3
        rw [c]
        refine s_X6_tryOnce l hl hI' c rfl ?_
        unfold wp_X6_tick_b67
        rintro z13 rfl z14 rfl
        refine hK _ (Or.inl ⟨a' + (tryR r' l).1, (tryR r' l).2, by rw [nI_1, Int32.add_assoc], IR_try hI' hl c, (tryR_ne r' hI' hl (rs_0 hI' hl c).1 (by decide)).trans hN', by rw [Int32.add_assoc]; exact g1, g2, g3⟩)
    · cases e
      dsimp only
      unfold st_X6_tick_L18
      rw [sr_row, hzN, nI_clamp (n := l) (by omega), srd_row, pk_us]
      refine ⟨fun c => absurd c (nI_ge hk2 (by omega)), fun _ => ⟨vp_in_nI hl (by decide), fun _ => ?_, fun c => absurd c hz1⟩⟩
      unfold wp_X6_tick_b75
      rintro z12 rfl
      rw [nI_1]
      exact hk
  · rintro K ⟨w1, w2, w3, σ'⟩ h
    rcases h with ⟨a', r', e, hI', hN', g1, g2, g3⟩ | ⟨e, hz1⟩
    · cases e
      dsimp only
      unfold st_X6_tick_L18
      rw [sr_row, hN']
      refine ⟨fun _ => ?_, fun c => absurd (nI_le (Nat.le_refl N) (by omega)) c⟩
      unfold wp_X6_tick_b75
      rintro z12 rfl
      rw [Nat.sub_self] at g1 g2 g3
      have f1 : a' = z.2.1 := by rw [← g1]; exact (i_add0 a').symm
      have f2 : (0 : Int32) = z.1 := g2
      have f3 : r' = z.2.2 := g3
      rw [nI_1, f1, f3]
      rw [← f2] at hk
      exact hk
    · cases e
      dsimp only
      unfold st_X6_tick_L18
      rw [sr_row, hzN]
      refine ⟨fun _ => ?_, fun c => absurd (nI_le (Nat.le_refl N) (by omega)) c⟩
      unfold wp_X6_tick_b75
      rintro z12 rfl
      rw [nI_1]
      exact hk
theorem s_X6_tick {Q : Int32 → Sg → Prop} (hI : IR r) (hq : Q (tickC r d).1 (sr (sd σ (tickC r d).2.2) (tickC r d).2.1)) : wp_X6_tick (sr (sd σ d) r) Q := by
  unfold wp_X6_tick wp_X6_tick_L4
  refine lpN_rel 4 (fun k a => ∃ a' r' d', a = (a', nI k, sr (sd σ d') r') ∧ IR r' ∧ a' + (lanesC (4 - k) k r' d').1 = (lanesC 4 0 r d).1 ∧ (lanesC (4 - k) k r' d').2 = (lanesC 4 0 r d).2) ?_ ?_ 0 _ (Nat.zero_le _) ⟨0, r, d, rfl, hI, by simp, rfl⟩
  · rintro K k ⟨w1, w2, σ'⟩ hk ⟨a', r', d', e, hI', g1, g2⟩ hK
    cases e
    dsimp only
    unfold st_X6_tick_L4
    refine ⟨fun c => absurd c (ge_4 hk), fun _ => ⟨vp_in_nI hk (by decide), ?_⟩⟩
    rintro σ3 rfl
    rw [nI_clamp (n := k) (by omega), srd_up]
    obtain ⟨N, h1, h2, h3⟩ := hI'.1
    refine tick_inner hk hI' h3 h2 rfl ?_
    have e3 : 4 - k = (4 - (k + 1)) + 1 := by omega
    rw [e3] at g1 g2
    unfold lanesC at g1 g2
    rw [h3, nI_clamp (by omega)] at g1 g2
    exact hK _ ⟨_, _, _, rfl, (laneC_IR hk hI').1, by rw [Int32.add_assoc]; exact g1, g2⟩
  · rintro K ⟨w1, w2, σ'⟩ ⟨a', r', d', e, hI', g1, g2⟩
    cases e
    dsimp only
    unfold st_X6_tick_L4
    refine ⟨fun _ => ?_, fun c => absurd (nI_le (Nat.le_refl 4) (by decide)) c⟩
    rintro σ2 rfl
    rw [sr_up, sr_row]
    have f1 : w1 = (lanesC 4 0 r d).1 := by rw [← g1]; exact (i_add0 w1).symm
    have f2 : (r', d') = (lanesC 4 0 r d).2 := g2
    have f3 : r' = (lanesC 4 0 r d).2.1 := by rw [← f2]
    have f4 : d' = (lanesC 4 0 r d).2.2 := by rw [← f2]
    rw [f1, f3, f4]
    exact hq
theorem s_X6_runs {Q : Int32 → Sg → Prop} {x1 : Int32} (n : Nat) (hn : n < 2 ^ 31) (hI : IR r) (e1 : x1 = nI n := by rfl) (hq : Q (runsC n r d).1 (sr (sd σ (runsC n r d).2.2) (runsC n r d).2.1)) : wp_X6_runs x1 (sr (sd σ d) r) Q := by
  subst e1
  unfold wp_X6_runs wp_X6_runs_L4
  refine lpN_rel n (fun k a => ∃ a' r' d', a = (a', nI k, sr (sd σ d') r') ∧ IR r' ∧ a' + (runsC (n - k) r' d').1 = (runsC n r d).1 ∧ (runsC (n - k) r' d').2 = (runsC n r d).2) ?_ ?_ 0 _ (Nat.zero_le _) ⟨0, r, d, rfl, hI, by simp, rfl⟩
  · rintro K k ⟨w1, w2, σ'⟩ hk ⟨a', r', d', e, hI', g1, g2⟩ hK
    cases e
    dsimp only
    unfold st_X6_runs_L4
    refine ⟨fun c => absurd c (nI_ge hk hn), fun _ => ?_⟩
    refine s_X6_tick hI' ?_
    rintro z4 rfl z5 rfl
    have e3 : n - k = (n - (k + 1)) + 1 := by omega
    rw [e3] at g1 g2
    rw [runsC_s] at g1 g2
    exact hK _ ⟨_, _, _, by rw [nI_1], (tickC_IR hI').1, by rw [Int32.add_assoc]; exact g1, g2⟩
  · rintro K ⟨w1, w2, σ'⟩ ⟨a', r', d', e, hI', g1, g2⟩
    cases e
    dsimp only
    unfold st_X6_runs_L4
    refine ⟨fun _ => ?_, fun c => absurd (nI_le (Nat.le_refl n) hn) c⟩
    rw [Nat.sub_self] at g1 g2
    have f1 : w1 = (runsC n r d).1 := by rw [← g1]; exact (i_add0 w1).symm
    have f2 : (r', d') = (runsC n r d).2 := g2
    have f3 : r' = (runsC n r d).2.1 := by rw [← f2]
    have f4 : d' = (runsC n r d).2.2 := by rw [← f2]
    rw [f1, f3, f4]
    exact hq
end RU
