/-! A sweet into a tin; a sweet out of a hopper. -/
theorem sum_nI {f : Nat → Int32} {n b : Nat} (hb : n * b < 2 ^ 30) (h : ∀ k, k < n → ∃ s, s ≤ b ∧ f k = nI s) : ∃ S, S ≤ n * b ∧ sumN f n = nI S ∧ ∀ k s, k < n → f k = nI s → s ≤ b → s ≤ S := by
  induction n with
  | zero => exact ⟨0, Nat.zero_le _, rfl, fun k s hk => absurd hk (Nat.not_lt_zero k)⟩
  | succ n ih =>
    have e : (n + 1) * b = n * b + b := Nat.succ_mul n b
    obtain ⟨S, h1, h2, h3⟩ := ih (by omega) (fun k hk => h k (by omega))
    obtain ⟨s, g1, g2⟩ := h n (by omega)
    refine ⟨S + s, by omega, by rw [sumN, h2, g2, nI_add], fun k s' hk e' hs' => ?_⟩
    by_cases hkn : k = n
    · subst hkn
      have : s' = s := (nI_eq (by omega) (by omega)).mp (e'.symm.trans g2)
      omega
    · have := h3 k s' (by omega) e' hs'
      omega
theorem sumN_one {g : Nat → Int32} {n k : Nat} (hk : k < n) : sumN (fun q => if q = k then g q + 1 else g q) n = sumN g n + 1 := by
  induction n with
  | zero => omega
  | succ n ih =>
    rw [sumN, sumN]
    by_cases e : k = n
    · subst e
      rw [if_pos rfl, sumN_congr (g := g) (fun q hq => if_neg (by omega)), Int32.add_assoc]
    · rw [ih (by omega), if_neg (fun z => e z.symm), Int32.add_assoc, Int32.add_comm 1, ← Int32.add_assoc]
theorem orN_one {g : Nat → Int32} {b : Int32} {n k : Nat} (hk : k < n) (hg : g k = 0 ∨ g k = b) : orN (fun q => if q = k then b else g q) n = orN g n ||| b := by
  induction n with
  | zero => omega
  | succ n ih =>
    rw [orN, orN]
    by_cases e : k = n
    · subst e
      rw [if_pos rfl, orN_congr (g := g) (fun q hq => if_neg (by omega))]
      rcases hg with z | z
      · rw [z]; simp
      · rw [z, Int32.or_assoc, Int32.or_self]
    · rw [ih (by omega), if_neg (fun z => e z.symm), Int32.or_assoc, Int32.or_comm b, ← Int32.or_assoc]
def addT (r : Nat → Int32) (t f : Nat) : Nat → Int32 := upd r (74 + 7 * t + f) (r (74 + 7 * t + f) + 1)
theorem addT_f {r : Nat → Int32} {t f g : Nat} : addT r t f (74 + 7 * t + g) = if g = f then r (74 + 7 * t + g) + 1 else r (74 + 7 * t + g) := by
  unfold addT
  by_cases e : g = f
  · subst e
    rw [pk_us, if_pos rfl]
  · rw [pk_un (by omega), if_neg e]
/-- a tin that takes a sweet has fewer than 99 -/
theorem tk_le {r : Nat → Int32} (hI : IR r) {t f g : Nat} (ht : t < 16) (hg : g < 6) (h : tkB r t f = true) : ∃ s, s ≤ 98 ∧ r (74 + 7 * t + g) = nI s := by
  obtain ⟨S, h1, h2, h3⟩ := sum_nI (f := fun q => r (74 + 7 * t + q)) (n := 6) (b := 99) (by decide) (hI.2.2.2.2.2.2 t ht).2
  obtain ⟨s, g1, g2⟩ := (hI.2.2.2.2.2.2 t ht).2 g hg
  obtain ⟨a, b1, b2, b3⟩ := hI.2.2.1
  have hs := h3 g s hg g2 g1
  simp only [tkB, Bool.and_eq_true, decide_eq_true_eq] at h
  have hlt : swR r t < r 2 := h.1.2
  rw [show swR r t = nI S from h2, b3, nI_ltI (by omega) (by omega)] at hlt
  exact ⟨s, by omega, g2⟩
theorem IR_addT {r : Nat → Int32} (hI : IR r) {t f T : Nat} (ht : t < T) (hT : r 72 = nI T) (hT2 : T ≤ 16) (hf : f < 6) (h : tkB r t f = true) : IR (addT r t f) := by
  obtain ⟨s, hs1, hs2⟩ := tk_le hI (show t < 16 by omega) hf h
  obtain ⟨a0, a1, a2, a3, a4, a5, a6⟩ := hI
  unfold addT
  refine ⟨?_, ?_, ?_, ?_, ?_, ?_, ?_⟩
  · rwa [pk_un (by omega)]
  · rwa [pk_un (by omega)]
  · rwa [pk_un (by omega)]
  · rwa [pk_un (by omega)]
  · obtain ⟨T', b1, b2, b3⟩ := a4
    have e : T' = T := (nI_eq (by omega) (by omega)).mp (b2.symm.trans hT)
    subst e
    refine ⟨T', b1, by rw [pk_un (by omega)]; exact b2, fun u hu1 hu2 => ?_⟩
    obtain ⟨c1, c2⟩ := b3 u hu1 hu2
    exact ⟨by rw [pk_un (by omega)]; exact c1, fun g hg => by rw [pk_un (by omega)]; exact c2 g hg⟩
  · intro l hl
    obtain ⟨n, b1, b2, b3⟩ := a5 l hl
    refine ⟨n, b1, by rw [pk_un (by omega)]; exact b2, fun q hq => ?_⟩
    rw [pk_un (by omega), pk_un (by omega)]
    exact b3 q hq
  · intro u hu
    obtain ⟨c1, c2⟩ := a6 u hu
    refine ⟨by rw [pk_un (by omega)]; exact c1, fun g hg => ?_⟩
    by_cases e : 74 + 7 * u + g = 74 + 7 * t + f
    · rw [e, pk_us, hs2]
      exact ⟨s + 1, by omega, nI_1 s⟩
    · rw [pk_un e]; exact c2 g hg
theorem MR_addT {μ : Nat → Nat → Nat → Int32} {r : Nat → Int32} (hM : MR μ r) (hI : IR r) {t f : Nat} (ht : t < 16) (hf : f < 6) (h : tkB r t f = true) : MR (um (um (um μ 9 t f (μ 9 t f + 1)) 8 t 1 (μ 8 t 1 ||| bitN f)) 8 t 2 (μ 8 t 2 + 1)) (addT r t f) := by
  obtain ⟨s, hs1, hs2⟩ := tk_le hI ht hf h
  obtain ⟨a0, a1, a2, a3, a4⟩ := hM
  obtain ⟨d1, d2, d3, d4⟩ := a4 t ht
  have oth : ∀ j, (∀ g, g < 6 → j ≠ 74 + 7 * t + g) → addT r t f j = r j := fun j hj => pk_un (hj f hf)
  refine ⟨fun j hj => ?_, ?_, fun f hf => ?_, fun l' hl' => ?_, fun u hu => ?_⟩
  · rw [um_k _ _ (by decide), um_k _ _ (by decide), um_k _ _ (by decide), oth _ (by omega)]; exact a0 j hj
  · rw [um_k _ _ (by decide), um_k _ _ (by decide), um_k _ _ (by decide), oth _ (by omega), oth _ (by omega), oth _ (by omega), oth _ (by omega)]; exact a1
  · rw [um_k _ _ (by decide), um_k _ _ (by decide), um_k _ _ (by decide), oth _ (by omega)]; exact a2 f hf
  · obtain ⟨b2, b3, b4, b5, b6, b7⟩ := a3 l' hl'
    have hn := IR_n hI hl'
    rw [um_k _ _ (by decide : 5 ≠ 8), um_k _ _ (by decide : 5 ≠ 8), um_k _ _ (by decide : 5 ≠ 9), um_k _ _ (by decide : 6 ≠ 8), um_k _ _ (by decide : 6 ≠ 8), um_k _ _ (by decide : 6 ≠ 9), um_k _ _ (by decide : 7 ≠ 8), um_k _ _ (by decide : 7 ≠ 8), um_k _ _ (by decide : 7 ≠ 9),
      oth (4 + 17 * l') (by omega), oth _ (by omega), oth _ (by omega), oth _ (by omega), oth _ (by omega)]
    exact ⟨b2, b3, b4, b5, b6, fun q hq => by rw [oth _ (by omega), oth _ (by omega)]; exact b7 q hq⟩
  · rw [um_k _ _ (by decide : 9 ≠ 8), um_k _ _ (by decide : 9 ≠ 8), oth (73 + 7 * u) (by omega)]
    by_cases e : u = t
    · subst e
      refine ⟨?_, ?_, ?_, fun g hg => ?_⟩
      · rw [um_j _ _ (by decide), um_eq, d1]
        have e1 : mkR (addT r u f) u = orN (fun q => if q = f then bitN f else if r (74 + 7 * u + q) ≤ 0 then 0 else bitN q) 6 := by
          unfold mkR
          refine orN_congr (fun q hq => ?_)
          rw [addT_f]
          by_cases z : q = f
          · subst z
            rw [if_pos rfl, if_pos rfl, if_neg]
            rw [hs2, nI_1]
            exact nI_nle (by omega) (by omega)
          · rw [if_neg z, if_neg z]
        rw [e1, orN_one (g := fun q => if r (74 + 7 * u + q) ≤ 0 then 0 else bitN q) hf]
        · rfl
        · by_cases z : r (74 + 7 * u + f) ≤ 0
          · exact Or.inl (if_pos z)
          · exact Or.inr (if_neg z)
      · rw [um_eq, d2]
        have e1 : swR (addT r u f) u = sumN (fun q => if q = f then r (74 + 7 * u + q) + 1 else r (74 + 7 * u + q)) 6 := sumN_congr (fun q hq => addT_f)
        rw [e1, sumN_one (g := fun q => r (74 + 7 * u + q)) hf]
        rfl
      · rw [um_j _ _ (by decide), um_j _ _ (by decide), um_k _ _ (by decide : 8 ≠ 9)]; exact d3
      · rw [addT_f]
        by_cases z : g = f
        · subst z
          rw [if_pos rfl, um_eq, d4 g hg]
        · rw [if_neg z, um_j _ _ z]; exact d4 g hg
    · obtain ⟨b1, b2, b3, b4⟩ := a4 u hu
      rw [um_i (k := 8) _ _ e, um_i (k := 8) _ _ e, um_k _ _ (by decide : 8 ≠ 9), um_i (k := 9) _ _ e, mkR_congr (s := r) (fun g hg => oth _ (by omega)), swR_congr (s := r) (fun g hg => oth _ (by omega))]
      exact ⟨b1, b2, b3, fun g hg => by rw [oth _ (by omega)]; exact b4 g hg⟩
/-- the heaps behind the first one move up -/
def shR (r : Nat → Int32) (a c : Nat) : Nat → Int32 := fun j => if a ≤ j ∧ j < a + c then r (j + 2) else r j
theorem shR_0 (r : Nat → Int32) (a : Nat) : shR r a 0 = r := by
  funext j
  exact if_neg (by omega)
theorem shR_s (r : Nat → Int32) (a k : Nat) : upd (shR r a k) (a + k) (shR r a k (a + k + 2)) = shR r a (k + 1) := by
  funext j
  unfold upd shR
  by_cases e : j = a + k
  · subst e
    rw [if_pos rfl, if_neg (by omega), if_pos (by omega)]
  · rw [if_neg e]
    by_cases z : a ≤ j ∧ j < a + k
    · rw [if_pos z, if_pos (by omega)]
    · rw [if_neg z, if_neg (by omega)]
def takeR (r : Nat → Int32) (l : Nat) : Nat → Int32 :=
  if r (4 + 17 * l + 2) - 1 = 0 then upd (upd (shR (upd (upd r (4 + 17 * l + 2) (r (4 + 17 * l + 2) - 1)) (4 + 17 * l) (nI ((r (4 + 17 * l)).toNatClampNeg - 1))) (4 + 17 * l + 1) (2 * ((r (4 + 17 * l)).toNatClampNeg - 1))) (4 + 17 * l + (1 + 2 * ((r (4 + 17 * l)).toNatClampNeg - 1))) 0) (4 + 17 * l + (2 + 2 * ((r (4 + 17 * l)).toNatClampNeg - 1))) 0
  else upd r (4 + 17 * l + 2) (r (4 + 17 * l + 2) - 1)
/-- outside the hopper nothing moves -/
theorem takeR_out {r : Nat → Int32} {l j : Nat} (hn : (r (4 + 17 * l)).toNatClampNeg ≤ 6) (h0 : 0 < (r (4 + 17 * l)).toNatClampNeg) (h : j < 4 + 17 * l ∨ 4 + 17 * l + 13 ≤ j) : takeR r l j = r j := by
  unfold takeR
  split
  · rw [pk_un (by omega), pk_un (by omega)]
    unfold shR
    rw [if_neg (by omega), pk_un (by omega), pk_un (by omega)]
  · rw [pk_un (by omega)]
theorem takeR_gone {r : Nat → Int32} {l n : Nat} (hl : l < 4) (hn : n ≤ 6) (h0 : 0 < n) (he : r (4 + 17 * l) = nI n) (hs : r (4 + 17 * l + 2) - 1 = 0) : takeR r l (4 + 17 * l) = nI (n - 1) ∧ ∀ h, h < n - 1 → takeR r l (4 + 17 * l + (1 + 2 * h)) = r (4 + 17 * l + (1 + 2 * (h + 1))) ∧ takeR r l (4 + 17 * l + (2 + 2 * h)) = r (4 + 17 * l + (2 + 2 * (h + 1))) := by
  have e : (r (4 + 17 * l)).toNatClampNeg = n := by rw [he]; exact nI_clamp (by omega)
  unfold takeR
  rw [if_pos hs, e]
  refine ⟨?_, fun h hh => ⟨?_, ?_⟩⟩
  · rw [pk_un (by omega), pk_un (by omega)]
    unfold shR
    rw [if_neg (by omega), pk_us]
  · rw [pk_un (by omega), pk_un (by omega)]
    unfold shR
    rw [if_pos (by omega), pk_un (by omega), pk_un (by omega)]
    rw [show 4 + 17 * l + (1 + 2 * h) + 2 = 4 + 17 * l + (1 + 2 * (h + 1)) by omega]
  · rw [pk_un (by omega), pk_un (by omega)]
    unfold shR
    rw [if_pos (by omega), pk_un (by omega), pk_un (by omega)]
    rw [show 4 + 17 * l + (2 + 2 * h) + 2 = 4 + 17 * l + (2 + 2 * (h + 1)) by omega]
theorem takeR_stay {r : Nat → Int32} {l : Nat} (hs : ¬ r (4 + 17 * l + 2) - 1 = 0) : takeR r l = upd r (4 + 17 * l + 2) (r (4 + 17 * l + 2) - 1) := by
  unfold takeR
  rw [if_neg hs]
theorem nI_m1 {s : Nat} (h : 1 ≤ s) : nI s - 1 = nI (s - 1) := pk_sub (b := 1) h
theorem nI_z {s : Nat} (h : s < 2 ^ 31) (e : nI s = 0) : s = 0 := (nI_eq (b := 0) h (by decide)).mp e
theorem IR_take {r : Nat → Int32} (hI : IR r) {l : Nat} (hl : l < 4) (h0 : ¬ r (4 + 17 * l) = 0) : IR (takeR r l) := by
  obtain ⟨n, hn, he, hh⟩ := hI.2.2.2.2.2.1 l hl
  have e : (r (4 + 17 * l)).toNatClampNeg = n := by rw [he]; exact nI_clamp (by omega)
  have hn0 : 0 < n := Nat.pos_of_ne_zero (fun z => h0 (by rw [he, z]; rfl))
  have out : ∀ j, (j < 4 + 17 * l ∨ 4 + 17 * l + 13 ≤ j) → takeR r l j = r j := fun j hj => takeR_out (by omega) (by omega) hj
  obtain ⟨a0, a1, a2, a3, a4, a5, a6⟩ := hI
  refine ⟨?_, ?_, ?_, ?_, ?_, ?_, ?_⟩
  · rwa [out _ (by omega)]
  · rwa [out _ (by omega)]
  · rwa [out _ (by omega)]
  · rwa [out _ (by omega)]
  · obtain ⟨T, b1, b2, b3⟩ := a4
    refine ⟨T, b1, by rw [out _ (by omega)]; exact b2, fun t ht1 ht2 => ?_⟩
    obtain ⟨c1, c2⟩ := b3 t ht1 ht2
    exact ⟨by rw [out _ (by omega)]; exact c1, fun f hf => by rw [out _ (by omega)]; exact c2 f hf⟩
  · intro l' hl'
    by_cases z : l' = l
    · subst z
      obtain ⟨⟨f0, hf0, ef0⟩, s0, hs1, hs2, es0⟩ := hh 0 hn0
      have es0' : r (4 + 17 * l' + 2) = nI s0 := es0
      by_cases g : r (4 + 17 * l' + 2) - 1 = 0
      · obtain ⟨g1, g2⟩ := takeR_gone hl hn hn0 he g
        refine ⟨n - 1, by omega, g1, fun h hh2 => ?_⟩
        rw [(g2 h hh2).1, (g2 h hh2).2]
        exact hh (h + 1) (by omega)
      · rw [takeR_stay g]
        refine ⟨n, hn, by rw [pk_un (by omega)]; exact he, fun h hh2 => ?_⟩
        rw [pk_un (by omega)]
        refine ⟨(hh h hh2).1, ?_⟩
        by_cases y : h = 0
        · subst y
          rw [show 4 + 17 * l' + (2 + 2 * 0) = 4 + 17 * l' + 2 by omega, pk_us, es0', nI_m1 hs1]
          rw [es0', nI_m1 hs1] at g
          exact ⟨s0 - 1, Nat.pos_of_ne_zero (fun q => g (by rw [q]; rfl)), by omega, rfl⟩
        · rw [pk_un (by omega)]
          exact (hh h hh2).2
    · obtain ⟨n', b1, b2, b3⟩ := a5 l' hl'
      have far : ∀ w, w < 13 → 4 + 17 * l' + w < 4 + 17 * l ∨ 4 + 17 * l + 13 ≤ 4 + 17 * l' + w := by
        intro w hw
        rcases Nat.lt_trichotomy l l' with q | q | q <;> omega
      refine ⟨n', b1, by rw [out (4 + 17 * l') (far 0 (by decide))]; exact b2, fun h hh2 => ?_⟩
      rw [out _ (far _ (by omega)), out _ (far _ (by omega))]
      exact b3 h hh2
  · intro t ht
    obtain ⟨c1, c2⟩ := a6 t ht
    exact ⟨by rw [out _ (by omega)]; exact c1, fun f hf => by rw [out _ (by omega)]; exact c2 f hf⟩
