/-! States and rows under writes. -/
/-- the reference's row set; a machine set -/
def sr (σ : Sg) (r : Nat → Int32) : Sg := ua σ 12 19 0 r
def sm (σ : Sg) (m : Nat) (μ : Nat → Nat → Nat → Int32) : Sg := fun a => if a = m then μ else σ a
def um (μ : Nat → Nat → Nat → Int32) (k i j : Nat) (x : Int32) : Nat → Nat → Nat → Int32 := fun a b => if a = k ∧ b = i then upd (μ k i) j x else μ a b
theorem sr_row (σ : Sg) (r : Nat → Int32) : sr σ r 12 19 0 = r := by simp [sr, ua]
theorem sr_self (σ : Sg) : sr σ (σ 12 19 0) = σ := by
  funext a b c
  unfold sr ua
  split
  · next h => rw [h.1, h.2.1, h.2.2]
  · rfl
theorem sr_up (σ : Sg) (r : Nat → Int32) (j : Nat) (x : Int32) : up (sr σ r) 12 19 0 j x = sr σ (upd r j x) := by
  unfold up
  rw [sr_row]
  funext a b c
  unfold sr ua
  split <;> rfl
theorem sr_ne (σ : Sg) (r : Nat → Int32) {a : Nat} (h : a ≠ 12) : sr σ r a = σ a := by
  funext b c
  unfold sr ua
  rw [if_neg (fun z => h z.1)]
theorem sr_ne2 (σ : Sg) (r : Nat → Int32) {b : Nat} (h : b ≠ 19) : sr σ r 12 b = σ 12 b := by
  funext c
  unfold sr ua
  rw [if_neg (fun z => h z.2.1)]
theorem sm_m (σ : Sg) (m : Nat) (μ : Nat → Nat → Nat → Int32) : sm σ m μ m = μ := if_pos rfl
theorem sm_ne (σ : Sg) {m a : Nat} (μ : Nat → Nat → Nat → Int32) (h : a ≠ m) : sm σ m μ a = σ a := if_neg h
theorem sm_self (σ : Sg) (m : Nat) : sm σ m (σ m) = σ := by
  funext a
  unfold sm
  split
  · next h => rw [h]
  · rfl
theorem sm_sm (σ : Sg) (m : Nat) (μ ν : Nat → Nat → Nat → Int32) : sm (sm σ m μ) m ν = sm σ m ν := by
  funext a
  unfold sm
  split <;> rfl
theorem up_sm (σ : Sg) (m k i j : Nat) (x : Int32) : up σ m k i j x = sm σ m (um (σ m) k i j x) := by
  funext a b c
  unfold up ua sm um
  by_cases h : a = m
  · subst h
    simp
  · simp [h]
theorem sm_up (σ : Sg) (m : Nat) (μ : Nat → Nat → Nat → Int32) (k i j : Nat) (x : Int32) : up (sm σ m μ) m k i j x = sm σ m (um μ k i j x) := by
  rw [up_sm, sm_m, sm_sm]
theorem um_eq (μ : Nat → Nat → Nat → Int32) (k i j : Nat) (x : Int32) : um μ k i j x k i j = x := by simp [um, upd]
theorem um_row (μ : Nat → Nat → Nat → Int32) (k i j : Nat) (x : Int32) : um μ k i j x k i = upd (μ k i) j x := by simp [um]
theorem um_k (μ : Nat → Nat → Nat → Int32) {k i j a : Nat} (x : Int32) (h : a ≠ k) : um μ k i j x a = μ a := by
  funext b
  simp [um, h]
theorem um_i (μ : Nat → Nat → Nat → Int32) {k i j a b : Nat} (x : Int32) (h : b ≠ i) : um μ k i j x a b = μ a b := by
  simp [um, h]
theorem um_j (μ : Nat → Nat → Nat → Int32) {k i j c : Nat} (x : Int32) (h : c ≠ j) : um μ k i j x k i c = μ k i c := by simp [um, upd, h]
theorem upd_comm {f : Nat → Int32} {j k : Nat} (h : j ≠ k) (x y : Int32) : upd (upd f j x) k y = upd (upd f k y) j x := by
  funext q
  unfold upd
  by_cases h1 : q = k
  · rw [if_pos h1, if_neg (fun z => h (z.symm.trans h1)), if_pos h1]
  · rw [if_neg h1]
    by_cases h2 : q = j
    · rw [if_pos h2, if_pos h2]
    · rw [if_neg h2, if_neg h2, if_neg h1]
theorem ln_ne {l l' w w' : Nat} (hw : w < 17) (hw' : w' < 17) (h : w ≠ w') : 4 + 17 * l + w ≠ 4 + 17 * l' + w' := by
  rcases Nat.lt_trichotomy l l' with z | z | z <;> omega
theorem swR_congr {r s : Nat → Int32} {t : Nat} (h : ∀ f, f < 6 → r (74 + 7 * t + f) = s (74 + 7 * t + f)) : swR r t = swR s t := sumN_congr h
theorem mkR_congr {r s : Nat → Int32} {t : Nat} (h : ∀ f, f < 6 → r (74 + 7 * t + f) = s (74 + 7 * t + f)) : mkR r t = mkR s t := orN_congr (fun f hf => by rw [h f hf])
/-- a row's place that nothing of IR reads -/
theorem IR_upd {r : Nat → Int32} {j : Nat} (x : Int32) (h : IR r) (h0 : 3 < j) (h1 : j ≠ 72) (h2 : j < 73 ∨ 185 ≤ j) (h3 : ∀ l w, l < 4 → w < 13 → j ≠ 4 + 17 * l + w) : IR (upd r j x) := by
  obtain ⟨a0, a1, a2, a3, a4, a5, a6⟩ := h
  refine ⟨?_, ?_, ?_, ?_, ?_, ?_, ?_⟩
  · rwa [pk_un (by omega)]
  · rwa [pk_un (by omega)]
  · rwa [pk_un (by omega)]
  · rwa [pk_un (by omega)]
  · obtain ⟨T, b1, b2, b3⟩ := a4
    refine ⟨T, b1, by rw [pk_un (by omega)]; exact b2, fun t ht1 ht2 => ?_⟩
    obtain ⟨c1, c2⟩ := b3 t ht1 ht2
    exact ⟨by rw [pk_un (by omega)]; exact c1, fun f hf => by rw [pk_un (by omega)]; exact c2 f hf⟩
  · intro l hl
    obtain ⟨n, b1, b2, b3⟩ := a5 l hl
    refine ⟨n, b1, by rw [pk_un (j := 4 + 17 * l) (fun e => h3 l 0 hl (by decide) e.symm)]; exact b2, fun h hh => ?_⟩
    rw [pk_un (fun e => h3 l (1 + 2 * h) hl (by omega) e.symm), pk_un (fun e => h3 l (2 + 2 * h) hl (by omega) e.symm)]
    exact b3 h hh
  · intro t ht
    obtain ⟨c1, c2⟩ := a6 t ht
    exact ⟨by rw [pk_un (by omega)]; exact c1, fun f hf => by rw [pk_un (by omega)]; exact c2 f hf⟩
theorem IR_n {r : Nat → Int32} (h : IR r) {l : Nat} (hl : l < 4) : (r (4 + 17 * l)).toNatClampNeg ≤ 6 := by
  obtain ⟨n, b1, b2, -⟩ := h.2.2.2.2.2.1 l hl
  rw [b2, nI_clamp (by omega)]
  exact b1
/-- a lane's number beside its hopper: 3 foil, 4 pulls, 5 torn, 6 wrapped -/
theorem MR_lane {μ : Nat → Nat → Nat → Int32} {r : Nat → Int32} (h : MR μ r) (hI : IR r) {l k : Nat} (hl : l < 4) (hk1 : 3 ≤ k) (hk2 : k ≤ 6) (x : Int32) : MR (um μ 5 l k x) (upd r (4 + 17 * l + (10 + k)) x) := by
  obtain ⟨a0, a1, a2, a3, a4⟩ := h
  refine ⟨fun j hj => ?_, ?_, fun f hf => ?_, fun l' hl' => ?_, fun t ht => ?_⟩
  · rw [um_k _ _ (by decide), pk_un (by omega)]; exact a0 j hj
  · rw [um_k _ _ (by decide), pk_un (by omega), pk_un (by omega), pk_un (by omega), pk_un (by omega)]; exact a1
  · rw [um_k _ _ (by decide), pk_un (by omega)]; exact a2 f hf
  · obtain ⟨b2, b3, b4, b5, b6, b7⟩ := a3 l' hl'
    have hn := IR_n hI hl'
    rw [um_k _ _ (by decide : 6 ≠ 5), um_k _ _ (by decide : 7 ≠ 5), pk_un (j := 4 + 17 * l') (by omega)]
    have key : ∀ c, 3 ≤ c → c ≤ 6 → μ 5 l' c = r (4 + 17 * l' + (10 + c)) → um μ 5 l k x 5 l' c = upd r (4 + 17 * l + (10 + k)) x (4 + 17 * l' + (10 + c)) := by
      intro c hc1 hc2 e
      by_cases hh : l' = l
      · subst hh
        by_cases hc : c = k
        · subst hc
          rw [um_eq, pk_us]
        · rw [um_j _ _ hc, pk_un (by omega)]; exact e
      · rw [um_i _ _ hh, pk_un (by omega)]; exact e
    refine ⟨?_, key 3 (by decide) (by decide) b3, key 4 (by decide) (by decide) b4, key 5 (by decide) (by decide) b5, key 6 (by decide) (by decide) b6, fun h hh => ?_⟩
    · by_cases e : l' = l
      · subst e
        rw [um_j _ _ (by omega)]; exact b2
      · rw [um_i _ _ e]; exact b2
    · rw [pk_un (ln_ne (by omega) (by omega) (by omega)), pk_un (ln_ne (by omega) (by omega) (by omega))]; exact b7 h hh
  · obtain ⟨b1, b2, b3, b4⟩ := a4 t ht
    rw [um_k _ _ (by decide : 8 ≠ 5), um_k _ _ (by decide : 9 ≠ 5), pk_un (j := 73 + 7 * t) (by omega), mkR_congr (s := r) (fun f hf => pk_un (by omega)), swR_congr (s := r) (fun f hf => pk_un (by omega))]
    exact ⟨b1, b2, b3, fun f hf => by rw [pk_un (by omega)]; exact b4 f hf⟩
/-- why a lane stood still: no part of it -/
theorem MR_last {μ : Nat → Nat → Nat → Int32} {r : Nat → Int32} (h : MR μ r) {l : Nat} (x : Int32) : MR (um μ 5 l 7 x) r := by
  obtain ⟨a0, a1, a2, a3, a4⟩ := h
  refine ⟨fun j hj => ?_, ?_, fun f hf => ?_, fun l' hl' => ?_, fun t ht => ?_⟩
  · rw [um_k _ _ (by decide)]; exact a0 j hj
  · rw [um_k _ _ (by decide)]; exact a1
  · rw [um_k _ _ (by decide)]; exact a2 f hf
  · rw [um_k _ _ (by decide : 6 ≠ 5), um_k _ _ (by decide : 7 ≠ 5)]
    by_cases e : l' = l
    · subst e
      rw [um_j _ _ (by decide), um_j _ _ (by decide), um_j _ _ (by decide), um_j _ _ (by decide), um_j _ _ (by decide)]
      exact a3 l' hl'
    · rw [um_i _ _ e]
      exact a3 l' hl'
  · rw [um_k _ _ (by decide : 8 ≠ 5), um_k _ _ (by decide : 9 ≠ 5)]; exact a4 t ht
/-- the machine's own numbers: ticks, foil pulled, foil wasted -/
theorem MR_glob {μ : Nat → Nat → Nat → Int32} {r : Nat → Int32} (h : MR μ r) (hI : IR r) {k : Nat} (hk1 : 5 ≤ k) (hk2 : k ≤ 7) (x : Int32) : MR (um μ 0 0 k x) (upd r (186 + k) x) := by
  obtain ⟨a0, ⟨c4, c5, c6, c7⟩, a2, a3, a4⟩ := h
  refine ⟨fun j hj => ?_, ?_, fun f hf => ?_, fun l' hl' => ?_, fun t ht => ?_⟩
  · rw [um_k _ _ (by decide), pk_un (by omega)]; exact a0 j hj
  · have key : ∀ c, 5 ≤ c → c ≤ 7 → μ 0 0 c = r (186 + c) → um μ 0 0 k x 0 0 c = upd r (186 + k) x (186 + c) := by
      intro c h1 h2 e
      by_cases hc : c = k
      · subst hc
        rw [um_eq, pk_us]
      · rw [um_j _ _ hc, pk_un (by omega)]; exact e
    exact ⟨by rw [um_j _ _ (by omega), pk_un (by omega)]; exact c4, key 5 (by decide) (by decide) c5, key 6 (by decide) (by decide) c6, key 7 (by decide) (by decide) c7⟩
  · rw [um_k _ _ (by decide), pk_un (by omega)]; exact a2 f hf
  · obtain ⟨b2, b3, b4, b5, b6, b7⟩ := a3 l' hl'
    have hn := IR_n hI hl'
    rw [um_k _ _ (by decide : 5 ≠ 0), um_k _ _ (by decide : 6 ≠ 0), um_k _ _ (by decide : 7 ≠ 0), pk_un (j := 4 + 17 * l') (by omega), pk_un (by omega), pk_un (by omega), pk_un (by omega), pk_un (by omega)]
    exact ⟨b2, b3, b4, b5, b6, fun h hh => by rw [pk_un (by omega), pk_un (by omega)]; exact b7 h hh⟩
  · obtain ⟨b1, b2, b3, b4⟩ := a4 t ht
    rw [um_k _ _ (by decide : 8 ≠ 0), um_k _ _ (by decide : 9 ≠ 0), pk_un (j := 73 + 7 * t) (by omega), mkR_congr (s := r) (fun f hf => pk_un (by omega)), swR_congr (s := r) (fun f hf => pk_un (by omega))]
    exact ⟨b1, b2, b3, fun f hf => by rw [pk_un (by omega)]; exact b4 f hf⟩
