/-! What stays true of a row beside IR: flavours kept apart, tins unmixed, shipped ones not empty, heaps that differ from the next, wraps, pulls and tears, sweets in tins, foil. -/
def AR (r : Nat → Int32) : Prop := (∀ f g, f < 6 → g < 6 → tb (r (185 + f)) g = tb (r (185 + g)) f) ∧ ∀ f, f < 6 → tb (r (185 + f)) f = false
def UR (r : Nat → Int32) : Prop := ∀ t f g, t < 16 → f < 6 → g < 6 → ¬ r (73 + 7 * t) = 1 → ¬ r (74 + 7 * t + f) ≤ 0 → ¬ r (74 + 7 * t + g) ≤ 0 → tb (r (185 + f)) g = false
def SR (r : Nat → Int32) : Prop := ∀ t, t < 16 → r (73 + 7 * t) = 1 → ¬ swR r t = 0
def HR (r : Nat → Int32) : Prop := ∀ l h, l < 4 → h < 5 → h + 1 < (r (4 + 17 * l)).toNatClampNeg → ¬ r (4 + 17 * l + (1 + 2 * h)) = r (4 + 17 * l + (1 + 2 * (h + 1)))
def FR (r : Nat → Int32) : Prop := lnR r 16 = sumN (fun t => swR r t) 16
def ER (r : Nat → Int32) : Prop := ∀ l, l < 4 → r (4 + 17 * l + 16) = r (4 + 17 * l + 14) - r (4 + 17 * l + 15)
def KR (r : Nat → Int32) : Prop := AR r ∧ UR r ∧ SR r ∧ HR r ∧ FR r
def JR (r : Nat → Int32) : Prop := KR r ∧ ER r
def GR (r : Nat → Int32) (B : Nat) (p : Nat → Nat) : Prop := (∃ P W, r 192 = nI P ∧ r 193 = nI W ∧ W ≤ P ∧ P ≤ B) ∧ ∀ l, l < 4 → ∃ q, r (4 + 17 * l + 14) = nI q ∧ q ≤ p l
def TR (r : Nat → Int32) : Prop := ∃ T, T ≤ 9999 ∧ r 191 = nI T ∧ GR r (144 * T) (fun _ => 9 * T)
theorem GR.mono {r : Nat → Int32} {B B' : Nat} {p p' : Nat → Nat} (h : GR r B p) (hB : B ≤ B') (hp : ∀ l, l < 4 → p l ≤ p' l) : GR r B' p' := by
  obtain ⟨⟨P, W, h1, h2, h3, h4⟩, h5⟩ := h
  refine ⟨⟨P, W, h1, h2, h3, by omega⟩, fun l hl => ?_⟩
  obtain ⟨q, q1, q2⟩ := h5 l hl
  have := hp l hl
  exact ⟨q, q1, by omega⟩
theorem HR_congr {r s : Nat → Int32} (hp : ∀ l w, l < 4 → w < 13 → s (4 + 17 * l + w) = r (4 + 17 * l + w)) (hh : HR r) : HR s := by
  intro l k hl hk5 hk
  have e0 := hp l 0 hl (by omega)
  rw [Nat.add_zero] at e0
  rw [e0] at hk
  rw [hp l _ hl (by omega), hp l _ hl (by omega)]
  exact hh l k hl hk5 hk
theorem KR_congr {r s : Nat → Int32} (h : ∀ j, 4 ≤ j → j < 191 → j ≠ 72 → (∀ l w, l < 4 → 13 ≤ w → w ≤ 15 → j ≠ 4 + 17 * l + w) → s j = r j) (hK : KR r) : KR s := by
  have ha : ∀ f, f < 6 → s (185 + f) = r (185 + f) := fun f hf => h _ (by omega) (by omega) (by omega) (fun l w hl h1 h2 => by omega)
  have ht : ∀ t f, t < 16 → f < 6 → s (74 + 7 * t + f) = r (74 + 7 * t + f) := fun t f h1 h2 => h _ (by omega) (by omega) (by omega) (fun l w hl h1 h2 => by omega)
  have hs : ∀ t, t < 16 → s (73 + 7 * t) = r (73 + 7 * t) := fun t h1 => h _ (by omega) (by omega) (by omega) (fun l w hl h1 h2 => by omega)
  have hp : ∀ l w, l < 4 → w < 13 → s (4 + 17 * l + w) = r (4 + 17 * l + w) := fun l w hl hw => h _ (by omega) (by omega) (by omega) (fun l' w' hl' h1 h2 => by omega)
  have hw : ∀ l, l < 4 → s (4 + 17 * l + 16) = r (4 + 17 * l + 16) := fun l hl => h _ (by omega) (by omega) (by omega) (fun l' w' hl' h1 h2 => by omega)
  have hsw : ∀ t, t < 16 → swR s t = swR r t := fun t h1 => swR_congr (fun f hf => ht t f h1 hf)
  obtain ⟨⟨a1, a2⟩, u, sh, hh, ff⟩ := hK
  refine ⟨⟨fun f g hf hg => ?_, fun f hf => ?_⟩, fun t f g h1 h2 h3 h4 h5 h6 => ?_, fun t h1 h2 => ?_, HR_congr hp hh, ?_⟩
  · rw [ha f hf, ha g hg]; exact a1 f g hf hg
  · rw [ha f hf]; exact a2 f hf
  · rw [hs t h1] at h4
    rw [ht t f h1 h2] at h5
    rw [ht t g h1 h3] at h6
    rw [ha f h2]
    exact u t f g h1 h2 h3 h4 h5 h6
  · rw [hs t h1] at h2
    rw [hsw t h1]
    exact sh t h1 h2
  · show lnR s 16 = sumN (fun t => swR s t) 16
    have e1 : lnR s 16 = lnR r 16 := sumN_congr (fun l hl => hw l hl)
    rw [e1, ff]
    exact (sumN_congr (fun t h1 => hsw t h1)).symm
theorem JR_congr {r s : Nat → Int32} (h : ∀ j, 4 ≤ j → j < 191 → j ≠ 72 → (∀ l, l < 4 → j ≠ 4 + 17 * l + 13) → s j = r j) (hJ : JR r) : JR s := by
  refine ⟨KR_congr (fun j h1 h2 h3 h4 => h j h1 h2 h3 (fun l hl => h4 l 13 hl (by omega) (by omega))) hJ.1, fun l hl => ?_⟩
  rw [h _ (by omega) (by omega) (by omega) (fun l' hl' => by omega), h (4 + 17 * l + 14) (by omega) (by omega) (by omega) (fun l' hl' => by omega), h (4 + 17 * l + 15) (by omega) (by omega) (by omega) (fun l' hl' => by omega)]
  exact hJ.2 l hl
theorem GR_congr {r s : Nat → Int32} {B : Nat} {p : Nat → Nat} (h2 : s 192 = r 192) (h3 : s 193 = r 193) (h4 : ∀ l, l < 4 → s (4 + 17 * l + 14) = r (4 + 17 * l + 14)) (h : GR r B p) : GR s B p := by
  obtain ⟨⟨P, W, g1, g2, g3, g4⟩, g5⟩ := h
  exact ⟨⟨P, W, h2.trans g1, h3.trans g2, g3, g4⟩, fun l hl => by rw [h4 l hl]; exact g5 l hl⟩
theorem TR_congr {r s : Nat → Int32} (h1 : s 191 = r 191) (h2 : s 192 = r 192) (h3 : s 193 = r 193) (h4 : ∀ l, l < 4 → s (4 + 17 * l + 14) = r (4 + 17 * l + 14)) (h : TR r) : TR s := by
  obtain ⟨T, t1, t2, t3⟩ := h
  exact ⟨T, t1, h1.trans t2, GR_congr h2 h3 h4 t3⟩
/-- numbers: one more on both sides; one more on one -/
theorem i_pp (a b : Int32) : (a + 1) - (b + 1) = a - b := by
  apply Int32.toBitVec_inj.mp
  simp only [Int32.toBitVec_sub, Int32.toBitVec_add]
  generalize a.toBitVec = x
  generalize b.toBitVec = y
  generalize (1 : Int32).toBitVec = z
  bv_omega
theorem i_p1 (a b : Int32) : (a - b) + 1 = (a + 1) - b := by
  apply Int32.toBitVec_inj.mp
  simp only [Int32.toBitVec_sub, Int32.toBitVec_add]
  generalize a.toBitVec = x
  generalize b.toBitVec = y
  generalize (1 : Int32).toBitVec = z
  bv_omega
section TY
variable {r : Nat → Int32} {l : Nat}
/-- a torn try: what is elsewhere, what is there -/
theorem tp_ne {j : Nat} (h1 : j ≠ 4 + 17 * l + 13) (h2 : j ≠ 4 + 17 * l + 14) (h3 : j ≠ 4 + 17 * l + 15) (h4 : j ≠ 192) (h5 : j ≠ 193) : tornR (pullR r l) l j = r j := by
  unfold tornR
  rw [pk_un h5, pk_un h3]
  exact pullR_ne r h1 h2 h4
theorem pull_14 (hl : l < 4) : pullR r l (4 + 17 * l + 14) = r (4 + 17 * l + 14) + 1 := by
  unfold pullR
  rw [pk_un (by omega), pk_us]
theorem pull_192 (hl : l < 4) : pullR r l 192 = r 192 + (2 + r 3) := by
  unfold pullR
  rw [pk_us]
theorem JR_torn (hl : l < 4) (hJ : JR r) : JR (tornR (pullR r l) l) := by
  refine ⟨KR_congr (fun j h1 h2 h3 h4 => tp_ne (h4 l 13 hl (by omega) (by omega)) (h4 l 14 hl (by omega) (by omega)) (h4 l 15 hl (by omega) (by omega)) (by omega) (by omega)) hJ.1, fun k hk => ?_⟩
  by_cases e : k = l
  · subst e
    rw [tp_ne (by omega) (by omega) (by omega) (by omega) (by omega), hJ.2 k hk]
    unfold tornR
    rw [pk_un (j := 4 + 17 * k + 14) (by omega), pk_un (j := 4 + 17 * k + 14) (by omega), pull_14 hk, pk_un (j := 4 + 17 * k + 15) (by omega), pk_us, pullR_ne r (by omega) (by omega) (by omega), i_pp]
  · rw [tp_ne (by omega) (by omega) (by omega) (by omega) (by omega), tp_ne (by omega) (by omega) (by omega) (by omega) (by omega), tp_ne (by omega) (by omega) (by omega) (by omega) (by omega)]
    exact hJ.2 k hk
/-- a hopper from which a sweet is taken -/
theorem HR_take (hI : IR r) (hl : l < 4) (h0 : ¬ r (4 + 17 * l) = 0) (hH : HR r) : HR (takeR r l) := by
  obtain ⟨n, hn, he, hh⟩ := hI.2.2.2.2.2.1 l hl
  have e : (r (4 + 17 * l)).toNatClampNeg = n := by rw [he]; exact nI_clamp (by omega)
  have hn0 : 0 < n := Nat.pos_of_ne_zero (fun z => h0 (by rw [he, z]; rfl))
  intro k q hk hq5 hq
  by_cases z : k = l
  · subst z
    by_cases g : r (4 + 17 * k + 2) - 1 = 0
    · obtain ⟨g1, g2⟩ := takeR_gone hl hn hn0 he g
      rw [g1, nI_clamp (by omega)] at hq
      rw [(g2 q (by omega)).1, (g2 (q + 1) (by omega)).1]
      exact hH k (q + 1) hk (by omega) (by omega)
    · rw [takeR_stay g] at hq ⊢
      rw [pk_un (by omega)] at hq
      rw [pk_un (by omega), pk_un (by omega)]
      exact hH k q hk hq5 hq
  · have far : ∀ w, w < 13 → 4 + 17 * k + w < 4 + 17 * l ∨ 4 + 17 * l + 13 ≤ 4 + 17 * k + w := by
      intro w hw
      rcases Nat.lt_trichotomy l k with q | q | q <;> omega
    have out : ∀ w, w < 13 → takeR r l (4 + 17 * k + w) = r (4 + 17 * k + w) := fun w hw => takeR_out (by omega) (by omega) (far w hw)
    have o0 := out 0 (by omega)
    rw [Nat.add_zero] at o0
    rw [o0] at hq
    rw [out _ (by omega), out _ (by omega)]
    exact hH k q hk hq5 hq
theorem sw_add {t f u : Nat} (hf : f < 6) : swR (addT r t f) u = if u = t then swR r u + 1 else swR r u := by
  by_cases e : u = t
  · subst e
    rw [if_pos rfl]
    have e1 : swR (addT r u f) u = sumN (fun q => if q = f then r (74 + 7 * u + q) + 1 else r (74 + 7 * u + q)) 6 := sumN_congr (fun q hq => addT_f)
    rw [e1, sumN_one (g := fun q => r (74 + 7 * u + q)) hf]
    rfl
  · rw [if_neg e]
    exact swR_congr (fun g hg => pk_un (by omega))
/-- a wrap: what is there, what is elsewhere -/
theorem wr_16 {t f : Nat} : wrapR r l t f (4 + 17 * l + 16) = r (4 + 17 * l + 16) + 1 := pk_us
theorem wr_tin {t f u g : Nat} (hI : IR r) (hl : l < 4) (h0 : ¬ r (4 + 17 * l) = 0) (hf : f < 6) (hg : g < 6) : wrapR r l t f (74 + 7 * u + g) = if u = t ∧ g = f then r (74 + 7 * u + g) + 1 else r (74 + 7 * u + g) := by
  obtain ⟨n, hn, he, hh⟩ := hI.2.2.2.2.2.1 l hl
  have e : (r (4 + 17 * l)).toNatClampNeg = n := by rw [he]; exact nI_clamp (by omega)
  have hn0 : 0 < n := Nat.pos_of_ne_zero (fun z => h0 (by rw [he, z]; rfl))
  unfold wrapR addT
  rw [pk_un (by omega)]
  by_cases c : u = t ∧ g = f
  · obtain ⟨rfl, rfl⟩ := c
    rw [if_pos ⟨rfl, rfl⟩, pk_us, takeR_out (by omega) (by omega) (by omega)]
  · rw [if_neg c, pk_un (by
      intro d
      exact c ⟨by omega, by omega⟩), takeR_out (by omega) (by omega) (by omega)]
theorem wr_hop {t f k w : Nat} (hl : l < 4) (hk : k < 4) (hw : w < 13) : wrapR r l t f (4 + 17 * k + w) = takeR r l (4 + 17 * k + w) := by
  unfold wrapR addT
  rw [pk_un (by omega), pk_un (by omega)]
theorem wr_ne {t f j : Nat} (hI : IR r) (hl : l < 4) (h0 : ¬ r (4 + 17 * l) = 0) (hf : f < 6) (h1 : j < 4 + 17 * l ∨ 4 + 17 * l + 13 ≤ j) (h2 : j ≠ 4 + 17 * l + 16) (h3 : ∀ g, g < 6 → j ≠ 74 + 7 * t + g) : wrapR r l t f j = r j := by
  obtain ⟨n, hn, he, hh⟩ := hI.2.2.2.2.2.1 l hl
  have e : (r (4 + 17 * l)).toNatClampNeg = n := by rw [he]; exact nI_clamp (by omega)
  have hn0 : 0 < n := Nat.pos_of_ne_zero (fun z => h0 (by rw [he, z]; rfl))
  unfold wrapR addT
  rw [pk_un h2, pk_un (h3 f hf), takeR_out (by omega) (by omega) h1]
theorem tk_parts {t f : Nat} (hT : tkB r t f = true) : ¬ r (73 + 7 * t) = 1 ∧ swR r t < r 2 ∧ (mkR r t &&& r (185 + f)) = 0 := by
  simp only [tkB, Bool.and_eq_true, decide_eq_true_eq] at hT
  exact ⟨hT.1.1, hT.1.2, hT.2⟩
theorem tk_apart {t f g : Nat} (hT : tkB r t f = true) (hg : g < 6) (hp : ¬ r (74 + 7 * t + g) ≤ 0) : tb (r (185 + f)) g = false := by
  obtain ⟨-, -, h3⟩ := tk_parts hT
  have h4 := tb_and (mkR r t) (r (185 + f)) g
  rw [h3, tb_0, (tb_mk hg).mpr hp, Bool.true_and] at h4
  exact h4.symm
theorem sw_wrap {t f u : Nat} (hI : IR r) (hl : l < 4) (h0 : ¬ r (4 + 17 * l) = 0) (hf : f < 6) : swR (wrapR r l t f) u = if u = t then swR r u + 1 else swR r u := by
  by_cases e : u = t
  · subst e
    rw [if_pos rfl]
    have e1 : swR (wrapR r l u f) u = sumN (fun q => if q = f then r (74 + 7 * u + q) + 1 else r (74 + 7 * u + q)) 6 := sumN_congr (fun q hq => by
      rw [wr_tin hI hl h0 hf hq]
      by_cases z : q = f
      · rw [if_pos ⟨rfl, z⟩, if_pos z]
      · rw [if_neg (fun y => z y.2), if_neg z])
    rw [e1, sumN_one (g := fun q => r (74 + 7 * u + q)) hf]
    rfl
  · rw [if_neg e]
    exact swR_congr (fun g hg => by rw [wr_tin hI hl h0 hf hg, if_neg (fun y => e y.1)])
theorem KR_wrap {t f : Nat} (hI : IR r) (hl : l < 4) (h0 : ¬ r (4 + 17 * l) = 0) (ht : t < 16) (hf : f < 6) (hT : tkB r t f = true) (hK : KR r) : KR (wrapR r l t f) := by
  obtain ⟨⟨a1, a2⟩, u, sh, hh, ff⟩ := hK
  have hop := (tk_parts hT).1
  have ea : ∀ g, g < 6 → wrapR r l t f (185 + g) = r (185 + g) := fun g hg => wr_ne hI hl h0 hf (by omega) (by omega) (fun q hq => by omega)
  have es : ∀ u, u < 16 → wrapR r l t f (73 + 7 * u) = r (73 + 7 * u) := fun u hu => wr_ne hI hl h0 hf (by omega) (by omega) (fun q hq => by omega)
  refine ⟨⟨fun x y hx hy => ?_, fun x hx => ?_⟩, fun v x y hv hx hy h4 h5 h6 => ?_, fun v hv h2 => ?_, ?_, ?_⟩
  · rw [ea x hx, ea y hy]; exact a1 x y hx hy
  · rw [ea x hx]; exact a2 x hx
  · rw [es v hv] at h4
    rw [wr_tin hI hl h0 hf hx] at h5
    rw [wr_tin hI hl h0 hf hy] at h6
    rw [ea x hx]
    by_cases e : v = t
    · subst e
      by_cases c1 : x = f
      · by_cases c2 : y = f
        · rw [c1, c2]; exact a2 f hf
        · rw [if_neg (fun z => c2 z.2)] at h6
          rw [c1]
          exact tk_apart hT hy h6
      · rw [if_neg (fun z => c1 z.2)] at h5
        by_cases c2 : y = f
        · rw [c2, a1 x f hx hf]
          exact tk_apart hT hx h5
        · rw [if_neg (fun z => c2 z.2)] at h6
          exact u v x y hv hx hy h4 h5 h6
    · rw [if_neg (fun z => e z.1)] at h5 h6
      exact u v x y hv hx hy h4 h5 h6
  · rw [es v hv] at h2
    have e : v ≠ t := fun z => hop (by rw [← z]; exact h2)
    rw [sw_wrap hI hl h0 hf, if_neg e]
    exact sh v hv h2
  · exact HR_congr (fun k w hk hw => wr_hop hl hk hw) (HR_take hI hl h0 hh)
  · show lnR (wrapR r l t f) 16 = sumN (fun v => swR (wrapR r l t f) v) 16
    have e1 : lnR (wrapR r l t f) 16 = sumN (fun k => if k = l then r (4 + 17 * k + 16) + 1 else r (4 + 17 * k + 16)) 4 := sumN_congr (fun k hk => by
      by_cases z : k = l
      · rw [if_pos z, z]; exact wr_16
      · rw [if_neg z]; exact wr_ne hI hl h0 hf (by omega) (by omega) (fun q hq => by omega))
    have e2 : sumN (fun v => swR (wrapR r l t f) v) 16 = sumN (fun v => if v = t then swR r v + 1 else swR r v) 16 := sumN_congr (fun v hv => sw_wrap hI hl h0 hf)
    rw [e1, e2, sumN_one (g := fun k => r (4 + 17 * k + 16)) hl, sumN_one (g := fun v => swR r v) ht]
    exact congrArg (· + 1) ff
/-- a try, one or the other way -/
theorem try_cases (hI : IR r) (hl : l < 4) (hc : rsR r l = 0) : (tryR r l).2 = tornR (pullR r l) l ∨ ∃ t f, t < 16 ∧ f < 6 ∧ tkB (pullR r l) t f = true ∧ ¬ pullR r l (4 + 17 * l) = 0 ∧ (tryR r l).2 = wrapR (pullR r l) l t f := by
  obtain ⟨h0, f, t, T, hf, ef, ht, hT2, hT, et, hk⟩ := rs_0 hI hl hc
  by_cases c : tearsB r l = true
  · exact Or.inl (by unfold tryR; rw [if_pos c])
  · refine Or.inr ⟨t, f, by omega, hf, ?_, ?_, ?_⟩
    · rw [tkB_congr (s := r) (pullR_ne r (by omega) (by omega) (by omega)) (fun g hg => pullR_ne r (by omega) (by omega) (by omega)) (pullR_ne r (by omega) (by omega) (by omega)) (pullR_ne r (by omega) (by omega) (by omega))]
      exact hk
    · rw [pullR_ne r (by omega) (by omega) (by omega)]; exact h0
    · unfold tryR
      rw [if_neg c, ef, nI_clamp (n := f) (by omega), et, nI_clamp (n := t) (by omega)]
theorem JR_try (hI : IR r) (hl : l < 4) (hc : rsR r l = 0) (hJ : JR r) : JR (tryR r l).2 := by
  rcases try_cases hI hl hc with e | ⟨t, f, ht, hf, hk, h0, e⟩
  · rw [e]; exact JR_torn hl hJ
  · rw [e]
    have hI1 := IR_pull hI hl
    refine ⟨KR_wrap hI1 hl h0 ht hf hk (KR_congr (fun j h1 h2 h3 h4 => pullR_ne r (h4 l 13 hl (by omega) (by omega)) (h4 l 14 hl (by omega) (by omega)) (by omega)) hJ.1), fun k hk2 => ?_⟩
    rw [wr_ne hI1 hl h0 hf (j := 4 + 17 * k + 14) (by omega) (by omega) (fun q hq => by omega), wr_ne hI1 hl h0 hf (j := 4 + 17 * k + 15) (by omega) (by omega) (fun q hq => by omega), pullR_ne r (j := 4 + 17 * k + 15) (by omega) (by omega) (by omega)]
    by_cases z : k = l
    · subst z
      rw [wr_16, pull_14 hl, pullR_ne r (by omega) (by omega) (by omega), hJ.2 k hk2, i_p1]
    · rw [wr_ne hI1 hl h0 hf (by omega) (by omega) (fun q hq => by omega), pullR_ne r (by omega) (by omega) (by omega), pullR_ne r (by omega) (by omega) (by omega)]
      exact hJ.2 k hk2
/-- pulls of a try -/
theorem try_14 (hI : IR r) (hl : l < 4) (hc : rsR r l = 0) {k : Nat} (hk : k < 4) : (tryR r l).2 (4 + 17 * k + 14) = if k = l then r (4 + 17 * k + 14) + 1 else r (4 + 17 * k + 14) := by
  have e : (tryR r l).2 (4 + 17 * k + 14) = pullR r l (4 + 17 * k + 14) := by
    rcases try_cases hI hl hc with e | ⟨t, f, ht, hf, hk2, h0, e⟩
    · rw [e]
      unfold tornR
      rw [pk_un (by omega), pk_un (by omega)]
    · rw [e]
      exact wr_ne (IR_pull hI hl) hl h0 hf (by omega) (by omega) (fun q hq => by omega)
  rw [e]
  by_cases z : k = l
  · rw [if_pos z, z]; exact pull_14 hl
  · rw [if_neg z]; exact pullR_ne r (by omega) (by omega) (by omega)
theorem try_191 (hI : IR r) (hl : l < 4) (hc : rsR r l = 0) : (tryR r l).2 191 = r 191 := by
  rcases try_cases hI hl hc with e | ⟨t, f, ht, hf, hk2, h0, e⟩
  · rw [e]; exact tp_ne (by omega) (by omega) (by omega) (by omega) (by omega)
  · rw [e, wr_ne (IR_pull hI hl) hl h0 hf (by omega) (by omega) (fun q hq => by omega)]
    exact pullR_ne r (by omega) (by omega) (by omega)
theorem GR_try {B : Nat} {p : Nat → Nat} (hI : IR r) (hl : l < 4) (hc : rsR r l = 0) (hG : GR r B p) : GR (tryR r l).2 (B + 4) (fun k => if k = l then p k + 1 else p k) := by
  obtain ⟨tw, w1, w2, w3⟩ := hI.2.2.2.1
  have e2 : (2 : Int32) + r 3 = nI (2 + tw) := by rw [w3]; exact nI_add 2 tw
  obtain ⟨⟨P, W, g1, g2, g3, g4⟩, g5⟩ := hG
  have hp : ∀ k, k < 4 → ∃ q, (tryR r l).2 (4 + 17 * k + 14) = nI q ∧ q ≤ if k = l then p k + 1 else p k := by
    intro k hk
    obtain ⟨q, q1, q2⟩ := g5 k hk
    rw [try_14 hI hl hc hk]
    by_cases z : k = l
    · rw [if_pos z, if_pos z, q1, nI_1]
      exact ⟨q + 1, rfl, by omega⟩
    · rw [if_neg z, if_neg z]
      exact ⟨q, q1, q2⟩
  refine ⟨?_, hp⟩
  rcases try_cases hI hl hc with e | ⟨t, f, ht, hf, hk2, h0, e⟩
  · refine ⟨P + (2 + tw), W + (2 + tw), ?_, ?_, by omega, by omega⟩
    · rw [e]
      unfold tornR
      rw [pk_un (by omega), pk_un (by omega), pull_192 hl, e2, g1, nI_add]
    · rw [e]
      unfold tornR
      rw [pk_us, pullR_ne r (by omega) (by omega) (by omega), pullR_ne r (by omega) (by omega) (by omega), e2, g2, nI_add]
  · refine ⟨P + (2 + tw), W, ?_, ?_, by omega, by omega⟩
    · rw [e, wr_ne (IR_pull hI hl) hl h0 hf (by omega) (by omega) (fun q hq => by omega), pull_192 hl, e2, g1, nI_add]
    · rw [e, wr_ne (IR_pull hI hl) hl h0 hf (by omega) (by omega) (fun q hq => by omega), pullR_ne r (by omega) (by omega) (by omega), g2]
end TY
