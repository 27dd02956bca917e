/-! Each change keeps what is known, and answers no other error than the two that the law lets pass. -/
theorem KR_out {r s : Nat → Int32} (h : ∀ j, 73 ≤ j → j < 191 → s j = r j) (hw : ∀ l, l < 4 → s (4 + 17 * l + 16) = r (4 + 17 * l + 16)) (hH : HR s) (hK : KR r) : KR s := by
  have ha : ∀ f, f < 6 → s (185 + f) = r (185 + f) := fun f hf => h _ (by omega) (by omega)
  have ht : ∀ t f, t < 16 → f < 6 → s (74 + 7 * t + f) = r (74 + 7 * t + f) := fun t f h1 h2 => h _ (by omega) (by omega)
  have hs : ∀ t, t < 16 → s (73 + 7 * t) = r (73 + 7 * t) := fun t h1 => h _ (by omega) (by omega)
  have hsw : ∀ t, t < 16 → swR s t = swR r t := fun t h1 => swR_congr (fun f hf => ht t f h1 hf)
  obtain ⟨⟨a1, a2⟩, u, sh, hh, ff⟩ := hK
  refine ⟨⟨fun f g hf hg => ?_, fun f hf => ?_⟩, fun t f g h1 h2 h3 h4 h5 h6 => ?_, fun t h1 h2 => ?_, hH, ?_⟩
  · rw [ha f hf, ha g hg]; exact a1 f g hf hg
  · rw [ha f hf]; exact a2 f hf
  · rw [hs t h1] at h4
    rw [ht t f h1 h2] at h5
    rw [ht t g h1 h3] at h6
    rw [ha f h2]
    exact u t f g h1 h2 h3 h4 h5 h6
  · rw [hs t h1] at h2
    rw [hsw t h1]
    exact sh t h1 h2
  · show lnR s 16 = sumN (fun t => swR s t) 16
    have e1 : lnR s 16 = lnR r 16 := sumN_congr (fun l hl => hw l hl)
    rw [e1, ff]
    exact (sumN_congr (fun t h1 => hsw t h1)).symm
theorem IR_set0 {r : Nat → Int32} {j : Nat} (hI : IR r) (hj : j < 4) : ¬ r j < 0 := by
  have hj4 : j = 0 ∨ j = 1 ∨ j = 2 ∨ j = 3 := by omega
  rcases hj4 with e | e | e | e <;> subst e
  · obtain ⟨a, -, a2, a3⟩ := hI.1
    rw [a3]; exact nI_pos (by omega)
  · obtain ⟨a, -, a2, a3⟩ := hI.2.1
    rw [a3]; exact nI_pos (by omega)
  · obtain ⟨a, -, a2, a3⟩ := hI.2.2.1
    rw [a3]; exact nI_pos (by omega)
  · obtain ⟨a, -, a2, a3⟩ := hI.2.2.2.1
    rw [a3]; exact nI_pos (by omega)
theorem ob_f {j n : Nat} (h : j < n) (hn : n < 2 ^ 31) : ¬ obB (nI j) n = true := by rw [ob_0 h hn]; decide
theorem ot_f {n a b : Nat} (h1 : a ≤ n) (h2 : n ≤ b) (hb : b < 2 ^ 31) : ¬ otB (nI n) (nI a) (nI b) = true := by rw [ot_ok h1 h2 hb]; decide
section KP
variable {r : Nat → Int32}
theorem NV_upd {j : Nat} {x : Int32} (hj : j < 4 ∨ j = 72) (h : NV r) : NV (upd r j x) := by
  obtain ⟨hJ, hT, hL⟩ := h
  exact ⟨JR_congr (fun q h1 h2 h3 h4 => pk_un (by omega)) hJ, TR_congr (pk_un (by omega)) (pk_un (by omega)) (pk_un (by omega)) (fun l hl => pk_un (by omega)) hT, LR_congr (fun l hl => pk_un (by omega)) hL⟩
theorem set_at {k n lo hi : Nat} (hk : k < 4) (e1 : lst k = nI lo) (e2 : mst k = nI hi) (h1 : lo ≤ n) (h2 : n ≤ hi) (hh : hi < 2 ^ 31) : setR r (nI k) (nI n) = (r k, upd r k (nI n)) := by
  unfold setR
  rw [if_neg (ob_f hk (by decide)), nI_clamp (by omega), e1, e2, if_neg (ot_f h1 h2 hh)]
theorem hp_nn (hI : IR r) {l : Nat} (hl : l < 4) : ∃ S, S ≤ 5994 ∧ hpR r l = nI S := by
  obtain ⟨n, hn, he, hh⟩ := hI.2.2.2.2.2.1 l hl
  have e : (r (4 + 17 * l)).toNatClampNeg = n := by rw [he]; exact nI_clamp (by omega)
  have hb : n * 999 ≤ 5994 := by omega
  obtain ⟨S, h1, h2, -⟩ := sum_nI (f := fun h => r (4 + 17 * l + (2 + 2 * h))) (n := n) (b := 999) (by omega) (fun k hk => by
    obtain ⟨-, s, s1, s2, s3⟩ := hh k hk
    exact ⟨s, s2, s3⟩)
  refine ⟨S, by omega, ?_⟩
  unfold hpR
  rw [e]
  exact h2
theorem sw_nn (hI : IR r) {t : Nat} (ht : t < 16) : ∃ S, S ≤ 594 ∧ swR r t = nI S ∧ ∀ g s, g < 6 → r (74 + 7 * t + g) = nI s → s ≤ 99 → s ≤ S := by
  obtain ⟨S, h1, h2, h3⟩ := sum_nI (f := fun q => r (74 + 7 * t + q)) (n := 6) (b := 99) (by decide) (hI.2.2.2.2.2.2 t ht).2
  exact ⟨S, by omega, h2, h3⟩
theorem HR_put {l f : Nat} {z : Int32} (hI : IR r) (hl : l < 4) (hp : ¬ placeR r l f = 6) (hH : HR r) : HR (putR r l f z) := by
  obtain ⟨n, hn, he, hh⟩ := hI.2.2.2.2.2.1 l hl
  have e : (r (4 + 17 * l)).toNatClampNeg = n := by rw [he]; exact nI_clamp (by omega)
  have hc := place_cases (f := f) hn he
  have hp6 : placeR r l f < 6 := by rcases hc with ⟨c, -⟩ | ⟨c, -⟩ <;> omega
  have hpn : placeR r l f ≤ n := by rcases hc with ⟨c, -⟩ | ⟨c, -⟩ <;> omega
  intro k q hk hq5 hq
  by_cases c : k = l
  · subst c
    rw [putR_n, nI_clamp (by omega)] at hq
    rw [(putR_h (by omega)).1]
    by_cases d : q + 1 < placeR r k f
    · rw [(putR_h d).1]
      exact hH k q hk hq5 (by omega)
    · have ed : q + 1 = placeR r k f := by omega
      rw [ed, putR_f]
      rcases hc with ⟨c1, c2⟩ | ⟨c1, c2, c3⟩
      · intro w
        refine c2 ⟨by omega, ?_⟩
        rw [show n - 1 = q by omega]
        exact w
      · have := hH k q hk hq5 (by omega)
        rw [← c3, show n - 1 = q + 1 by omega]
        exact this
  · have far : ∀ w, w < 13 → 4 + 17 * k + w < 4 + 17 * l ∨ 4 + 17 * l + 13 ≤ 4 + 17 * k + w := by
      intro w hw
      rcases Nat.lt_trichotomy l k with q | q | q <;> omega
    have out : ∀ w, w < 13 → putR r l f z (4 + 17 * k + w) = r (4 + 17 * k + w) := fun w hw => putR_out hp6 _ (far w hw)
    have o0 := out 0 (by omega)
    rw [Nat.add_zero] at o0
    rw [o0] at hq
    rw [out _ (by omega), out _ (by omega)]
    exact hH k q hk hq5 hq
theorem NV_put {l f : Nat} {z : Int32} (hI : IR r) (hl : l < 4) (hp : ¬ placeR r l f = 6) (h : NV r) : NV (putR r l f z) := by
  obtain ⟨n, hn, he, hh⟩ := hI.2.2.2.2.2.1 l hl
  have hp6 : placeR r l f < 6 := by rcases place_cases (f := f) hn he with ⟨c, -⟩ | ⟨c, -⟩ <;> omega
  obtain ⟨⟨hK, hE⟩, hT, hL⟩ := h
  have out : ∀ j, (j < 4 + 17 * l ∨ 4 + 17 * l + 13 ≤ j) → putR r l f z j = r j := putR_out hp6
  refine ⟨⟨KR_out (fun j h1 h2 => out j (by omega)) (fun k hk => out _ (by omega)) (HR_put hI hl hp hK.2.2.2.1) hK, fun k hk => ?_⟩, TR_congr (out _ (by omega)) (out _ (by omega)) (out _ (by omega)) (fun k hk => out _ (by omega)) hT, LR_congr (fun k hk => out _ (by omega)) hL⟩
  rw [out _ (by omega), out (4 + 17 * k + 14) (by omega), out (4 + 17 * k + 15) (by omega)]
  exact hE k hk
/-- an answer that the law lets pass -/
def OKa (v : Int32) : Prop := ¬ v < 0 ∨ v = -4 ∨ v = -5
theorem ok_nI {n : Nat} (h : n < 2 ^ 31) : OKa (nI n) := Or.inl (nI_pos h)
theorem k_heap {a b c : Nat} (hI : IR r) (h : NV r) (ha : a < 4) (hb : b < 6) (h1 : 1 ≤ c) (h2 : c ≤ 200) : OKa (heapsR r (nI a) (nI b) (nI c)).1 ∧ NV (heapsR r (nI a) (nI b) (nI c)).2 := by
  have hI2 := IR_heaps (x := nI a) (y := nI b) (z := nI c) hI
  unfold heapsR at hI2 ⊢
  rw [if_neg (ob_f ha (by decide)), if_neg (ob_f hb (by decide)), if_neg (show ¬ otB (nI c) 1 200 = true from ot_f (a := 1) (b := 200) h1 h2 (by decide)), nI_clamp (by omega), nI_clamp (by omega)] at hI2 ⊢
  unfold addR at hI2 ⊢
  by_cases c1 : placeR r a b = 6
  · rw [if_pos c1]; exact ⟨Or.inr (Or.inl rfl), h⟩
  · rw [if_neg c1] at hI2 ⊢
    by_cases c2 : hpR r a + nI c ≤ 999
    · rw [if_pos c2] at hI2 ⊢
      obtain ⟨S, s1, s2⟩ := hp_nn hI2 ha
      refine ⟨?_, NV_put hI ha c1 h⟩
      show OKa (hpR (putR r a b (nI c)) a)
      rw [s2]
      exact ok_nI (by omega)
    · rw [if_neg c2]; exact ⟨Or.inr (Or.inl rfl), h⟩
theorem k_foil {a c : Nat} (h : NV r) (ha : a < 4) (h1 : 1 ≤ c) (h2 : c ≤ 999) : OKa (foilsR r (nI a) (nI c)).1 ∧ NV (foilsR r (nI a) (nI c)).2 := by
  unfold foilsR
  rw [if_neg (ob_f ha (by decide)), if_neg (show ¬ otB (nI c) 1 999 = true from ot_f (a := 1) (b := 999) h1 h2 (by decide)), nI_clamp (by omega)]
  obtain ⟨q, q1, q2⟩ := h.2.2 a ha
  rw [q2, nI_add]
  by_cases c1 : nI (q + c) ≤ 9999
  · rw [if_pos c1]
    show OKa (nI (q + c)) ∧ NV (upd r (4 + 17 * a + 13) (nI (q + c)))
    have c2 : q + c ≤ 9999 := (nI_leI (by omega) (by decide)).mp (show nI (q + c) ≤ nI 9999 from c1)
    refine ⟨ok_nI (by omega), JR_congr (fun j h1 h2 h3 h4 => pk_un (h4 a ha)) h.1, TR_congr (pk_un (by omega)) (pk_un (by omega)) (pk_un (by omega)) (fun l hl => pk_un (by omega)) h.2.1, fun l hl => ?_⟩
    by_cases z : l = a
    · subst z
      exact ⟨q + c, c2, pk_us⟩
    · obtain ⟨q', p1, p2⟩ := h.2.2 l hl
      exact ⟨q', p1, (pk_un (by omega)).trans p2⟩
  · rw [if_neg c1]; exact ⟨Or.inr (Or.inl rfl), h⟩
theorem k_tin (hI : IR r) (h : NV r) : OKa (tinsR r).1 ∧ NV (tinsR r).2 := by
  unfold tinsR
  by_cases c : nT r = 16
  · rw [if_pos c]; exact ⟨Or.inr (Or.inl rfl), h⟩
  · rw [if_neg c]
    have := (IR_nT hI).1
    exact ⟨ok_nI (by omega), NV_upd (Or.inr rfl) h⟩
theorem k_ship {t : Nat} (hI : IR r) (h : NV r) (ht : t < nT r) : OKa (shipsR r (nI t)).1 ∧ NV (shipsR r (nI t)).2 := by
  have hT := (IR_nT hI).1
  unfold shipsR
  rw [if_neg (ob_f ht (by omega)), nI_clamp (by omega)]
  by_cases c1 : r (73 + 7 * t) = 1
  · rw [if_pos c1]; exact ⟨Or.inr (Or.inr rfl), h⟩
  · rw [if_neg c1]
    by_cases c2 : swR r t = 0
    · rw [if_pos c2]; exact ⟨Or.inr (Or.inr rfl), h⟩
    · rw [if_neg c2]
      show OKa (swR r t) ∧ NV (upd r (73 + 7 * t) 1)
      obtain ⟨S, s1, s2, -⟩ := sw_nn hI (t := t) (by omega)
      obtain ⟨⟨⟨⟨a1, a2⟩, u, sh, hh, ff⟩, hE⟩, hTR, hL⟩ := h
      have hsw : ∀ u, swR (upd r (73 + 7 * t) 1) u = swR r u := fun u => swR_congr (fun g hg => pk_un (by omega))
      have ea : ∀ g, g < 6 → upd r (73 + 7 * t) 1 (185 + g) = r (185 + g) := fun g hg => pk_un (by omega)
      refine ⟨by rw [s2]; exact ok_nI (by omega), ⟨⟨⟨fun x y hx hy => ?_, fun x hx => ?_⟩, fun v x y hv hx hy h4 h5 h6 => ?_, fun v hv h2 => ?_, HR_congr (fun l w hl hw => pk_un (by omega)) hh, ?_⟩, fun l hl => ?_⟩, TR_congr (pk_un (by omega)) (pk_un (by omega)) (pk_un (by omega)) (fun l hl => pk_un (by omega)) hTR, LR_congr (fun l hl => pk_un (by omega)) hL⟩
      · rw [ea x hx, ea y hy]; exact a1 x y hx hy
      · rw [ea x hx]; exact a2 x hx
      · by_cases z : v = t
        · subst z
          exact absurd pk_us h4
        · rw [pk_un (by omega)] at h4 h5 h6
          rw [ea x hx]
          exact u v x y hv hx hy h4 h5 h6
      · rw [hsw v]
        by_cases z : v = t
        · rw [z]; exact c2
        · rw [pk_un (by omega)] at h2
          exact sh v hv h2
      · show lnR (upd r (73 + 7 * t) 1) 16 = sumN (fun v => swR (upd r (73 + 7 * t) 1) v) 16
        rw [show lnR (upd r (73 + 7 * t) 1) 16 = lnR r 16 from sumN_congr (fun l hl => pk_un (by omega)), ff]
        exact (sumN_congr (fun v hv => hsw v)).symm
      · rw [pk_un (by omega), pk_un (by omega), pk_un (by omega)]
        exact hE l hl
theorem turn_tb {f o x y : Nat} (hf : f < 6) (ho : o < 6) (hfo : f ≠ o) (hx : x < 6) (hy : y < 6) : tb (turnR r f o (185 + x)) y = (tb (r (185 + x)) y ^^ (decide (x = f ∧ y = o) || decide (x = o ∧ y = f))) := by
  unfold turnR
  by_cases c1 : x = o
  · subst c1
    have n1 : ¬ (x = f ∧ y = x) := fun z => hfo z.1.symm
    rw [pk_us, tb_xor, tb_bit (by omega) (by omega), decide_eq_false n1, Bool.false_or]
    congr 1
    exact decide_eq_decide.mpr ⟨fun z => ⟨rfl, z.symm⟩, fun z => z.2.symm⟩
  · rw [pk_un (by omega), decide_eq_false (p := x = o ∧ y = f) (fun z => c1 z.1), Bool.or_false]
    by_cases c2 : x = f
    · subst c2
      rw [pk_us, tb_xor, tb_bit (by omega) (by omega)]
      congr 1
      exact decide_eq_decide.mpr ⟨fun z => ⟨rfl, z.symm⟩, fun z => z.2.symm⟩
    · rw [pk_un (by omega), decide_eq_false (fun z => c2 z.1), Bool.xor_false]
theorem NV_turn {f o : Nat} (hf : f < 6) (ho : o < 6) (hfo : f ≠ o) (h : NV r) (hn : tb (r (185 + f)) o = false → ∀ t, t < 16 → ¬ r (73 + 7 * t) = 1 → ¬ r (74 + 7 * t + f) ≤ 0 → ¬ r (74 + 7 * t + o) ≤ 0 → False) : NV (turnR r f o) := by
  have out : ∀ j, j < 185 ∨ 191 ≤ j → turnR r f o j = r j := by
    intro j hj
    unfold turnR
    rw [pk_un (by omega), pk_un (by omega)]
  obtain ⟨⟨⟨⟨a1, a2⟩, u, sh, hh, ff⟩, hE⟩, hTR, hL⟩ := h
  have hsw : ∀ v, v < 16 → swR (turnR r f o) v = swR r v := fun v hv => swR_congr (fun g hg => out _ (by omega))
  refine ⟨⟨⟨⟨fun x y hx hy => ?_, fun x hx => ?_⟩, fun v x y hv hx hy h4 h5 h6 => ?_, fun v hv h2 => ?_, HR_congr (fun l w hl hw => out _ (by omega)) hh, ?_⟩, fun l hl => ?_⟩, TR_congr (out _ (by omega)) (out _ (by omega)) (out _ (by omega)) (fun l hl => out _ (by omega)) hTR, LR_congr (fun l hl => out _ (by omega)) hL⟩
  · rw [turn_tb hf ho hfo hx hy, turn_tb hf ho hfo hy hx, a1 x y hx hy]
    congr 1
    rw [Bool.or_comm]
    congr 1
    · exact decide_eq_decide.mpr ⟨fun z => ⟨z.2, z.1⟩, fun z => ⟨z.2, z.1⟩⟩
    · exact decide_eq_decide.mpr ⟨fun z => ⟨z.2, z.1⟩, fun z => ⟨z.2, z.1⟩⟩
  · rw [turn_tb hf ho hfo hx hx, a2 x hx, decide_eq_false (fun z => hfo (z.1.symm.trans z.2)), decide_eq_false (fun z => hfo (z.2.symm.trans z.1))]
    rfl
  · rw [out _ (by omega)] at h4 h5 h6
    have k := u v x y hv hx hy h4 h5 h6
    rw [turn_tb hf ho hfo hx hy, k]
    by_cases c1 : x = f ∧ y = o
    · obtain ⟨rfl, rfl⟩ := c1
      exact (hn k v hv h4 h5 h6).elim
    · by_cases c2 : x = o ∧ y = f
      · obtain ⟨rfl, rfl⟩ := c2
        rw [a1 x y hx hy] at k
        exact (hn k v hv h4 h6 h5).elim
      · rw [decide_eq_false c1, decide_eq_false c2]
        rfl
  · rw [out _ (by omega)] at h2
    rw [hsw v hv]
    exact sh v hv h2
  · show lnR (turnR r f o) 16 = sumN (fun v => swR (turnR r f o) v) 16
    rw [show lnR (turnR r f o) 16 = lnR r 16 from sumN_congr (fun l hl => out _ (by omega)), ff]
    exact (sumN_congr (fun v hv => hsw v hv)).symm
  · rw [out _ (by omega), out _ (by omega), out _ (by omega)]
    exact hE l hl
/-- apart, of two flavours -/
theorem apart_at {f o : Nat} (hf : f < 6) (ho : o < 6) (hfo : f ≠ o) : apartR r (nI f) (nI o) = (if tb (r (185 + f)) o then (0, turnR r f o) else if fstN (bothB r f o) (nT r) < nT r then (-5, r) else (1, turnR r f o)) := by
  unfold apartR
  rw [if_neg (ob_f hf (by decide)), if_neg (ob_f ho (by decide)), if_neg (fun z => hfo ((nI_eq (by omega) (by omega)).mp z)), nI_clamp (by omega), nI_clamp (by omega)]
theorem k_apart {f o : Nat} (hI : IR r) (h : NV r) (hf : f < 6) (ho : o < 6) (hfo : f ≠ o) : OKa (apartR r (nI f) (nI o)).1 ∧ NV (apartR r (nI f) (nI o)).2 := by
  rw [apart_at hf ho hfo]
  by_cases c1 : tb (r (185 + f)) o = true
  · rw [if_pos c1]
    exact ⟨ok_nI (n := 0) (by decide), NV_turn hf ho hfo h (fun z => absurd (c1.symm.trans z) (by decide))⟩
  · rw [if_neg c1]
    by_cases c2 : fstN (bothB r f o) (nT r) < nT r
    · rw [if_pos c2]; exact ⟨Or.inr (Or.inr rfl), h⟩
    · rw [if_neg c2]
      refine ⟨ok_nI (n := 1) (by decide), NV_turn hf ho hfo h (fun _ t ht h4 h5 h6 => ?_)⟩
      by_cases c3 : t < nT r
      · rcases fstN_cases (bothB r f o) (nT r) with ⟨-, k⟩ | ⟨k, -⟩
        · have := k t c3
          unfold bothB opB at this
          rw [decide_eq_true h4, (tb_mk hf).mpr h5, (tb_mk ho).mpr h6] at this
          exact absurd this (by decide)
        · exact c2 k
      · have := ((IR_nT hI).2.2 t (by omega) ht).2 f hf
        rw [this] at h5
        exact h5 (by decide)
theorem k_run {n : Nat} (hI : IR r) (h : NV r) (h1 : 1 ≤ n) (h2 : n ≤ 99) : OKa (goesR r d0 (nI n)).1 ∧ NV (goesR r d0 (nI n)).2.1 := by
  refine ⟨?_, NV_goes hI h h1 h2⟩
  obtain ⟨T, t1, t2, -⟩ := id h.2.1
  rw [goes_eq h1 h2 t2 t1]
  by_cases c : T + n ≤ 9999
  · rw [if_pos c]
    obtain ⟨W, w1, w2⟩ := runsC_w (n := n) (r := r) (d := d0) h2 hI
    rw [w2]
    exact ok_nI (by omega)
  · rw [if_neg c]; exact Or.inr (Or.inr rfl)
end KP
