/-! The machine's tries, ticks and runs. -/
theorem MR_hop {μ μ' : Nat → Nat → Nat → Int32} {r r' : Nat → Int32} {l : Nat} (hM : MR μ r) (hI : IR r) (hl : l < 4) (hμ : ∀ a b, ¬ ((a = 5 ∨ a = 6 ∨ a = 7) ∧ b = l) → μ' a b = μ a b) (h5 : ∀ k, 3 ≤ k → k ≤ 6 → μ' 5 l k = μ 5 l k) (hr : ∀ j, (j < 4 + 17 * l ∨ 4 + 17 * l + 13 ≤ j) → r' j = r j) (hn : μ' 5 l 2 = r' (4 + 17 * l)) (hh : ∀ h, h < (r' (4 + 17 * l)).toNatClampNeg → μ' 6 l h = r' (4 + 17 * l + (1 + 2 * h)) ∧ μ' 7 l h = r' (4 + 17 * l + (2 + 2 * h))) : MR μ' r' := by
  obtain ⟨a0, a1, a2, a3, a4⟩ := hM
  refine ⟨fun j hj => ?_, ?_, fun f hf => ?_, fun l' hl' => ?_, fun t ht => ?_⟩
  · rw [hμ 1 0 (by omega), hr _ (by omega)]; exact a0 j hj
  · rw [hμ 0 0 (by omega), hr _ (by omega), hr _ (by omega), hr _ (by omega), hr _ (by omega)]; exact a1
  · rw [hμ 4 0 (by omega), hr _ (by omega)]; exact a2 f hf
  · obtain ⟨b2, b3, b4, b5, b6, b7⟩ := a3 l' hl'
    by_cases e : l' = l
    · subst e
      refine ⟨hn, ?_, ?_, ?_, ?_, hh⟩
      · rw [h5 3 (by decide) (by decide), hr _ (by omega)]; exact b3
      · rw [h5 4 (by decide) (by decide), hr _ (by omega)]; exact b4
      · rw [h5 5 (by decide) (by decide), hr _ (by omega)]; exact b5
      · rw [h5 6 (by decide) (by decide), hr _ (by omega)]; exact b6
    · have far : ∀ w, w < 17 → 4 + 17 * l' + w < 4 + 17 * l ∨ 4 + 17 * l + 13 ≤ 4 + 17 * l' + w := by
        intro w hw
        rcases Nat.lt_trichotomy l l' with q | q | q <;> omega
      have hnn := IR_n hI hl'
      rw [hμ 5 l' (by omega), hμ 6 l' (by omega), hμ 7 l' (by omega), hr (4 + 17 * l') (far 0 (by decide)), hr _ (far 13 (by decide)), hr _ (far 14 (by decide)), hr _ (far 15 (by decide)), hr _ (far 16 (by decide))]
      exact ⟨b2, b3, b4, b5, b6, fun h hh => by rw [hr _ (far _ (by omega)), hr _ (far _ (by omega))]; exact b7 h hh⟩
  · obtain ⟨b1, b2, b3, b4⟩ := a4 t ht
    rw [hμ 8 t (by omega), hμ 9 t (by omega), hr (73 + 7 * t) (by omega), mkR_congr (s := r) (fun f hf => hr _ (by omega)), swR_congr (s := r) (fun f hf => hr _ (by omega))]
    exact ⟨b1, b2, b3, fun f hf => by rw [hr _ (by omega)]; exact b4 f hf⟩
def shL (g : Nat → Int32) (k : Nat) : Nat → Int32 := fun j => if j < k then g (j + 1) else g j
theorem shL_0 (g : Nat → Int32) : shL g 0 = g := by
  funext j
  exact if_neg (Nat.not_lt_zero j)
theorem shL_s (g : Nat → Int32) (k : Nat) : upd (shL g k) k (shL g k (k + 1)) = shL g (k + 1) := by
  funext j
  unfold upd shL
  by_cases e : j = k
  · subst e
    rw [if_pos rfl, if_neg (by omega), if_pos (by omega)]
  · rw [if_neg e]
    by_cases z : j < k
    · rw [if_pos z, if_pos (by omega)]
    · rw [if_neg z, if_neg (by omega)]
def sh2 (μ : Nat → Nat → Nat → Int32) (l k : Nat) : Nat → Nat → Nat → Int32 := fun a b => if a = 6 ∧ b = l then shL (μ 6 l) k else if a = 7 ∧ b = l then shL (μ 7 l) k else μ a b
theorem sh2_6 (μ : Nat → Nat → Nat → Int32) (l k : Nat) : sh2 μ l k 6 l = shL (μ 6 l) k := by simp [sh2]
theorem sh2_7 (μ : Nat → Nat → Nat → Int32) (l k : Nat) : sh2 μ l k 7 l = shL (μ 7 l) k := by simp [sh2]
theorem sh2_5 (μ : Nat → Nat → Nat → Int32) (l k : Nat) : sh2 μ l k 5 l = μ 5 l := by simp [sh2]
theorem sh2_0 (μ : Nat → Nat → Nat → Int32) (l : Nat) : sh2 μ l 0 = μ := by
  funext a b
  unfold sh2
  rw [shL_0, shL_0]
  split
  · next h => rw [h.1, h.2]
  · split
    · next h => rw [h.1, h.2]
    · rfl
theorem sh2_s (μ : Nat → Nat → Nat → Int32) (l k : Nat) : um (um (sh2 μ l k) 6 l k (sh2 μ l k 6 l (k + 1))) 7 l k (um (sh2 μ l k) 6 l k (sh2 μ l k 6 l (k + 1)) 7 l (k + 1)) = sh2 μ l (k + 1) := by
  have e7 : um (sh2 μ l k) 6 l k (sh2 μ l k 6 l (k + 1)) 7 l = shL (μ 7 l) k := by rw [um_k _ _ (by decide : 7 ≠ 6), sh2_7]
  funext a b
  by_cases h7 : a = 7 ∧ b = l
  · obtain ⟨rfl, rfl⟩ := h7
    rw [um_row, e7, sh2_7, shL_s]
  · by_cases h6 : a = 6 ∧ b = l
    · obtain ⟨rfl, rfl⟩ := h6
      rw [um_k _ _ (by decide : 6 ≠ 7), um_row, sh2_6, sh2_6, shL_s]
    · unfold um sh2
      rw [if_neg h7, if_neg h6, if_neg h6, if_neg h6, if_neg h7, if_neg h7]
theorem um5_7 (μ : Nat → Nat → Nat → Int32) {l k : Nat} (x : Int32) (hk : k ≠ 7) (l' : Nat) : um μ 5 l k x 5 l' 7 = μ 5 l' 7 := by
  by_cases e : l' = l
  · subst e
    exact um_j _ _ (Ne.symm hk)
  · rw [um_i _ _ e]
section CT
variable {σ : Sg} {m : Nat} {μ : Nat → Nat → Nat → Int32} {r : Nat → Int32}
theorem s_X1_wrapNext {Q : Sg → Prop} (l : Nat) (hl : l < 4) (hM : MR μ r) (hI : IR r) (h0 : ¬ r (4 + 17 * l) = 0) (hq : ∀ μ', MR μ' (takeR (upd r (4 + 17 * l + 16) (r (4 + 17 * l + 16) + 1)) l) → (∀ l', μ' 5 l' 7 = μ 5 l' 7) → Q (sm σ m μ')) : wp_X1_wrapNext m l (sm σ m μ) Q := by
  have hI1 : IR (upd r (4 + 17 * l + 16) (r (4 + 17 * l + 16) + 1)) := IR_upd _ hI (by omega) (by omega) (by omega) (fun l' w hl' hw => ln_ne (by omega) (by omega) (by omega))
  have hM1 := MR_lane hM hI hl (k := 6) (by decide) (by decide) (r (4 + 17 * l + 16) + 1)
  have e0 : upd r (4 + 17 * l + 16) (r (4 + 17 * l + 16) + 1) (4 + 17 * l) = r (4 + 17 * l) := pk_un (by omega)
  obtain ⟨n, hn, he, hh⟩ := hI.2.2.2.2.2.1 l hl
  have hn0 : 0 < n := Nat.pos_of_ne_zero (fun z => h0 (by rw [he, z]; rfl))
  obtain ⟨-, s, hs1, hs2, hs3⟩ := hh 0 hn0
  have es : r (4 + 17 * l + 2) = nI s := hs3
  unfold wp_X1_wrapNext
  rintro σ1 rfl
  rw [sm_m, (hM.2.2.2.1 l hl).2.2.2.2.1, sm_up]
  generalize hr1 : upd r (4 + 17 * l + 16) (r (4 + 17 * l + 16) + 1) = r1 at *
  have e2 : r1 (4 + 17 * l + 2) = nI s := by rw [← hr1, pk_un (by omega)]; exact es
  have en : (r1 (4 + 17 * l)).toNatClampNeg = n := by rw [e0, he]; exact nI_clamp (by omega)
  have hL1 : ∀ l', um μ 5 l 6 (r (4 + 17 * l + 16) + 1) 5 l' 7 = μ 5 l' 7 := um5_7 μ _ (by decide)
  generalize hμ1 : um μ 5 l 6 (r (4 + 17 * l + 16) + 1) = μ1 at *
  rintro σ2 rfl
  obtain ⟨g2, g3, g4, g5, g6, g7⟩ := hM1.2.2.2.1 l hl
  have e7 : μ1 7 l 0 = nI s := by rw [(g7 0 (by omega)).2]; exact e2
  rw [sm_m, e7, sm_up, nI_m1 hs1]
  refine ⟨fun c => ?_, fun c => ?_⟩
  · rw [sm_m, um_eq] at c
    have s1 : s - 1 = 0 := Nat.le_zero.mp ((nI_leI (b := 0) (by omega) (by decide)).mp c)
    have gone : r1 (4 + 17 * l + 2) - 1 = 0 := by rw [e2, nI_m1 hs1, s1]; rfl
    rintro σ4 rfl
    rw [sm_m, um_k _ _ (by decide : 5 ≠ 7), g2, e0, he, sm_up, nI_m1 hn0]
    obtain ⟨t1, t2⟩ := takeR_gone hl hn hn0 (e0.trans he) gone
    generalize hμ4 : um (um μ1 7 l 0 (nI (s - 1))) 5 l 2 (nI (n - 1)) = μ4
    have m5 : μ4 5 l 2 = nI (n - 1) := by rw [← hμ4, um_eq]
    have m6 : μ4 6 l = μ1 6 l := by rw [← hμ4, um_k _ _ (by decide), um_k _ _ (by decide)]
    have m7 : ∀ j, j ≠ 0 → μ4 7 l j = μ1 7 l j := fun j hj => by rw [← hμ4, um_k _ _ (by decide), um_j _ _ hj]
    unfold wp_X1_wrapNext_L42
    refine lpN_rel (n - 1) (fun k a => a = (nI k, sm σ m (sh2 μ4 l k))) ?_ ?_ 0 _ (Nat.zero_le _) (by rw [sh2_0]; rfl)
    · rintro K k ⟨w1, σ'⟩ hk e hK
      cases e
      dsimp only
      unfold st_X1_wrapNext_L42
      rw [sm_m, sh2_5, m5, nI_1, nI_clamp (n := k) (by omega), nI_clamp (n := k + 1) (by omega)]
      refine ⟨fun c => absurd c (nI_ge hk (by omega)), fun _ => ⟨fun c => absurd c (ge_6 (by omega)), fun _ => ⟨vp_in_nI (by omega) (by decide), vp_in_nI (by omega) (by decide), ?_⟩⟩⟩
      rintro σ7 rfl
      rw [sm_up, sm_m]
      refine ⟨vp_in_nI (by omega) (by decide), vp_in_nI (by omega) (by decide), ?_⟩
      rintro σ8 rfl z9 rfl
      rw [sm_up, sh2_s]
      exact hK _ rfl
    · rintro K ⟨w1, σ'⟩ e
      cases e
      dsimp only
      unfold st_X1_wrapNext_L42
      rw [sm_m, sh2_5, m5]
      refine ⟨fun _ => hq _ ?_ (fun l' => by rw [show sh2 μ4 l (n - 1) 5 l' 7 = μ4 5 l' 7 by simp [sh2], ← hμ4, um5_7 _ _ (by decide), um_k _ _ (by decide : 5 ≠ 7)]; exact hL1 l'), fun c => absurd (nI_le (Nat.le_refl _) (by omega)) c⟩
      refine MR_hop hM1 hI1 hl (fun a b hab => ?_) (fun k hk1 hk2 => ?_) (fun j hj => takeR_out (by omega) (by omega) hj) ?_ (fun h hh => ?_)
      · have z6 : ¬ (a = 6 ∧ b = l) := by omega
        have z7 : ¬ (a = 7 ∧ b = l) := by omega
        have z5 : ¬ (a = 5 ∧ b = l) := by omega
        unfold sh2
        rw [if_neg z6, if_neg z7, ← hμ4]
        unfold um
        rw [if_neg z5, if_neg z7]
      · rw [sh2_5, ← hμ4, um_j _ _ (by omega), um_k _ _ (by decide)]
      · rw [sh2_5, m5, t1]
      · rw [t1, nI_clamp (by omega)] at hh
        rw [sh2_6, sh2_7, (t2 h hh).1, (t2 h hh).2]
        unfold shL
        rw [if_pos hh, if_pos hh, m6, m7 _ (by omega)]
        exact g7 (h + 1) (by omega)
  · rw [sm_m, um_eq] at c
    have stay : ¬ r1 (4 + 17 * l + 2) - 1 = 0 := by
      rw [e2, nI_m1 hs1]
      intro z
      exact c (by rw [z]; decide)
    refine hq _ ?_ (fun l' => by rw [um_k _ _ (by decide : 5 ≠ 7)]; exact hL1 l')
    rw [takeR_stay stay, e2, nI_m1 hs1]
    refine MR_hop hM1 hI1 hl (fun a b hab => ?_) (fun k hk1 hk2 => by rw [um_k _ _ (by decide)]) (fun j hj => pk_un (by omega)) ?_ (fun h hh => ?_)
    · have z7 : ¬ (a = 7 ∧ b = l) := by omega
      unfold um
      rw [if_neg z7]
    · rw [um_k _ _ (by decide : 5 ≠ 7), pk_un (by omega)]; exact g2
    · rw [pk_un (by omega)] at hh
      rw [um_k _ _ (by decide : 6 ≠ 7), pk_un (by omega)]
      refine ⟨(g7 h hh).1, ?_⟩
      by_cases z : h = 0
      · subst z
        rw [um_eq, show 4 + 17 * l + (2 + 2 * 0) = 4 + 17 * l + 2 by omega, pk_us]
      · rw [um_j _ _ z, pk_un (by omega)]
        exact (g7 h hh).2
theorem s_X4_add {Q : Sg → Prop} {x1 : Int32} (t f : Nat) (hf : f < 6) (e1 : x1 = nI f := by rfl) (hq : Q (sm σ m (um (um (um μ 9 t f (μ 9 t f + 1)) 8 t 1 (μ 8 t 1 ||| bitN f)) 8 t 2 (μ 8 t 2 + 1)))) : wp_X4_add m t x1 (sm σ m μ) Q := by
  subst e1
  unfold wp_X4_add
  refine s_X5_isIndex ?_
  rw [if_neg (nI_pos (by omega)), if_neg (ge_6 hf)]
  refine ⟨fun _ => ⟨vp_in_nI hf (by decide), vp_in_nI hf (by decide), ?_⟩, fun c => absurd c (by decide)⟩
  rintro σ4 rfl σ5 rfl σ6 rfl
  rw [nI_clamp (by omega), sm_m, sm_up, sm_m, sm_up, sm_m, sm_up, um_k _ _ (by decide : 8 ≠ 9), um_j _ _ (by decide), um_k _ _ (by decide : 8 ≠ 9)]
  exact hq
theorem s_X1_pullTears {Q : Int32 → Sg → Prop} {x1 x2 : Int32} (l : Nat) (hl : l < 4) (hM : MR μ r) (hI : IR r) (e2 : x2 = evR r) (hq1 : tearsB r l = true → ∀ μ', MR μ' (upd (upd (upd r (4 + 17 * l + 13) (r (4 + 17 * l + 13) - x1)) (4 + 17 * l + 14) (r (4 + 17 * l + 14) + 1)) (4 + 17 * l + 15) (r (4 + 17 * l + 15) + 1)) → (∀ l', μ' 5 l' 7 = μ 5 l' 7) → Q 1 (sm σ m μ')) (hq0 : tearsB r l = false → ∀ μ', MR μ' (upd (upd r (4 + 17 * l + 13) (r (4 + 17 * l + 13) - x1)) (4 + 17 * l + 14) (r (4 + 17 * l + 14) + 1)) → (∀ l', μ' 5 l' 7 = μ 5 l' 7) → Q 0 (sm σ m μ')) : wp_X1_pullTears m l x1 x2 (sm σ m μ) Q := by
  obtain ⟨g2, g3, g4, g5, g6, -⟩ := hM.2.2.2.1 l hl
  have hI1 : IR (upd r (4 + 17 * l + 13) (r (4 + 17 * l + 13) - x1)) := IR_upd _ hI (by omega) (by omega) (by omega) (fun l' w hl' hw => ln_ne (by omega) (by omega) (by omega))
  have hM1 := MR_lane hM hI hl (k := 3) (by decide) (by decide) (r (4 + 17 * l + 13) - x1)
  have hM2 := MR_lane hM1 hI1 hl (k := 4) (by decide) (by decide) (r (4 + 17 * l + 14) + 1)
  have hI2 : IR (upd (upd r (4 + 17 * l + 13) (r (4 + 17 * l + 13) - x1)) (4 + 17 * l + 14) (r (4 + 17 * l + 14) + 1)) := IR_upd _ hI1 (by omega) (by omega) (by omega) (fun l' w hl' hw => ln_ne (by omega) (by omega) (by omega))
  have hM3 := MR_lane hM2 hI2 hl (k := 5) (by decide) (by decide) (r (4 + 17 * l + 15) + 1)
  have h1 : (1 : Int32) < evR r ∨ (1 : Int32) < evR r := by
    unfold evR
    split
    · next c => exact Or.inl (Int32.lt_of_lt_of_le (by decide : (1 : Int32) < 2) c)
    · exact Or.inl (by decide)
  have h1 : (1 : Int32) < evR r := h1.elim id id
  unfold wp_X1_pullTears
  rintro σ1 rfl σ2 rfl
  subst e2
  rw [sm_m, g3, sm_up, sm_m, um_j _ _ (by decide), g4, sm_up, sm_m, um_eq]
  refine ⟨fun c => absurd (Int32.lt_trans h1 c) (by simp), fun _ => ⟨fun z => by rw [z] at h1; exact absurd h1 (by decide), fun c => ?_, fun c => ?_⟩⟩
  · rintro σ5 rfl
    rw [sm_up, um_j _ _ (by decide), um_j _ _ (by decide), g5]
    exact hq1 (decide_eq_true c) _ hM3 (fun l' => by rw [um5_7 _ _ (by decide), um5_7 _ _ (by decide), um5_7 _ _ (by decide)])
  · exact hq0 (decide_eq_false c) _ hM2 (fun l' => by rw [um5_7 _ _ (by decide), um5_7 _ _ (by decide)])
end CT
