/-! The law looks at the tins. -/
theorem sumN_add (f g : Nat → Int32) (n : Nat) : sumN (fun k => f k + g k) n = sumN f n + sumN g n := by
  induction n with
  | zero => rfl
  | succ n ih =>
    rw [sumN, sumN, sumN, ih]
    rw [Int32.add_assoc, Int32.add_assoc]
    congr 1
    rw [← Int32.add_assoc, ← Int32.add_assoc, Int32.add_comm (f n) (sumN g n)]
theorem sumN_zero (n : Nat) : sumN (fun _ => 0) n = 0 := by
  induction n with
  | zero => rfl
  | succ n ih => rw [sumN, ih]; rfl
theorem sumN_swap (f : Nat → Nat → Int32) (m n : Nat) : sumN (fun a => sumN (fun b => f a b) n) m = sumN (fun b => sumN (fun a => f a b) m) n := by
  induction m with
  | zero => exact (sumN_zero n).symm
  | succ m ih =>
    rw [sumN, ih, ← sumN_add]
    rfl
theorem sumN_if (f : Nat → Int32) (n : Nat) (p : Prop) [Decidable p] : sumN (fun k => if p then f k else 0) n = if p then sumN f n else 0 := by
  by_cases c : p
  · rw [if_pos c]
    exact sumN_congr (fun k _ => if_pos c)
  · rw [if_neg c]
    rw [sumN_congr (g := fun _ => 0) (fun k _ => if_neg c)]
    exact sumN_zero n
theorem bit_at {x : Int32} {f : Nat} (hf : f < 32) : ((x >>> (nI f &&& 31)) &&& 1) = 1 ↔ tb x f = true := by rw [tb_one, tb_shr f hf]
section TI
variable {σ : Sg} {Q : Int32 → Sg → Prop} {r : Nat → Int32} {K12 : Int32 → Int32 → Int32 → Int32 → Int32 → Sg → Prop}
theorem mk_hi {t i : Nat} (h : tb (mkR r t) i = true) (hi : i < 32) : i < 6 ∧ ¬ r (74 + 7 * t + i) ≤ 0 := by
  unfold mkR at h
  obtain ⟨k, hk, h2⟩ := tb_orN.mp h
  by_cases c : r (74 + 7 * t + k) ≤ 0
  · rw [if_pos c, tb_0] at h2; exact absurd h2 (by decide)
  · rw [if_neg c, tb_bit (by omega) hi, decide_eq_true_eq] at h2
    subst h2
    exact ⟨hk, c⟩
/-- what is kept apart from a flavour of an open tin isn't in it -/
theorem ap_mk (hN : NV r) {t f : Nat} (ht : t < 16) (hf : f < 6) (ho : ¬ r (73 + 7 * t) = 1) (h : tb (mkR r t) f = true) : (r (185 + f) &&& mkR r t) = 0 := by
  refine tb_ext (fun i hi => ?_)
  rw [tb_and, tb_0]
  cases c : tb (mkR r t) i with
  | false => rw [Bool.and_false]
  | true =>
    obtain ⟨i6, p⟩ := mk_hi c hi
    obtain ⟨-, pf⟩ := mk_hi h (by omega)
    rw [hN.1.1.2.1 t f i ht hf i6 ho pf p]
    rfl
theorem tins_L48 (h : RC σ r) {t : Nat} (ht : t < nT r) {v1 v2 v3 v4 v8 : Int32} (hq : wp_L_areTinsSo_L102 K12 Q v1 v2 v3 v4 (nI t) (swR r t) (mkR r t) v8 0 0 σ) : wp_L_areTinsSo_L48 K12 Q v1 v2 v3 v4 (nI t) 0 0 v8 0 σ := by
  unfold wp_L_areTinsSo_L48
  refine lpN_rel 6 (fun k a => a = (v1, v2, v3, v4, nI t, sumN (fun f => r (74 + 7 * t + f)) k, orN (fun f => if r (74 + 7 * t + f) ≤ 0 then 0 else bitN f) k, v8, nI k, σ)) ?_ ?_ 0 _ (Nat.zero_le _) rfl
  · rintro K k a hk rfl hK
    dsimp only
    unfold st_L_areTinsSo_L48
    refine ⟨fun c => absurd c (ge_6 hk), fun _ => ?_⟩
    refine q_inTin h t k ht hk rfl rfl ?_
    rintro z23 rfl
    unfold wp_L_areTinsSo_b87
    refine ⟨fun c => ?_, fun c => ?_⟩
    · rintro z60 rfl z61 rfl
      exact hK _ (by rw [orN, if_pos c, nI_1]; rfl)
    · rintro z60 rfl z61 rfl
      exact hK _ (by rw [orN, if_neg c, nI_1]; rfl)
  · rintro K a rfl
    dsimp only
    unfold st_L_areTinsSo_L48
    exact ⟨fun _ => hq, fun c => absurd (nI_le (Nat.le_refl 6) (by decide)) c⟩
set_option maxHeartbeats 4000000 in
theorem tins_L102 (h : RC σ r) (hN : NV r) {t : Nat} (ht : t < nT r) {v1 v2 v3 v8 : Int32} (h8 : (v8 = 1 ∧ r (73 + 7 * t) = 0) ∨ (v8 = 0 ∧ r (73 + 7 * t) = 1)) (hq : K12 (v1 + swR r t) (v2 + if r (73 + 7 * t) = 1 then swR r t else 0) (v3 ||| if r (73 + 7 * t) = 0 then bitN t else 0) 1 (nI (t + 1)) σ) : wp_L_areTinsSo_L102 K12 Q v1 v2 v3 1 (nI t) (swR r t) (mkR r t) v8 0 0 σ := by
  have hI := h.2
  have hT := (IR_nT hI).1
  unfold wp_L_areTinsSo_L102
  refine lpN_rel 6 (fun k a => a = (v1, v2, v3, 1, nI t, swR r t, mkR r t, v8, orN (fun f => if tkB r t f then bitN f else 0) k, nI k, σ)) ?_ ?_ 0 _ (Nat.zero_le _) rfl
  · rintro K k a hk rfl hK
    dsimp only
    unfold st_L_areTinsSo_L102
    refine ⟨fun c => absurd c (ge_6 hk), fun _ => ?_⟩
    have e160 : ∀ z : Int32, z = 1 → wp_L_areTinsSo_b160 K12 (fun v1 v2 v3 v4 v5 v6 v7 v8 v9 v10 σ => K (v1, v2, v3, v4, v5, v6, v7, v8, v9, v10, σ)) Q v1 v2 v3 (nI t) (swR r t) (mkR r t) v8 (orN (fun f => if tkB r t f then bitN f else 0) k) (nI k) z σ := by
      rintro z rfl
      have no : tkB r t k = false → wp_L_areTinsSo_b200 K12 (fun v1 v2 v3 v4 v5 v6 v7 v8 v9 v10 σ => K (v1, v2, v3, v4, v5, v6, v7, v8, v9, v10, σ)) Q v1 v2 v3 1 (nI t) (swR r t) (mkR r t) v8 (nI k) (orN (fun f => if tkB r t f then bitN f else 0) k) σ := by
        intro e
        unfold wp_L_areTinsSo_b200 wp_L_areTinsSo_b201
        rintro z58 rfl z59 rfl
        exact hK _ (by rw [orN, if_neg (by rw [e]; decide), nI_1])
      unfold wp_L_areTinsSo_b160
      rcases h8 with ⟨rfl, ho⟩ | ⟨rfl, hs⟩
      · refine ⟨fun c => absurd c (by decide), fun _ => ?_⟩
        refine q_count13 h ⟨fun c => no ?_, fun c => ?_⟩
        · simp only [tkB, decide_eq_false (Int32.not_lt.mpr c), Bool.and_false, Bool.false_and]
        · refine q_flavour3 h k hk rfl ⟨fun d => no ?_, fun d => ?_⟩
          · simp only [tkB]
            rw [decide_eq_false (p := (mkR r t &&& r (185 + k)) = 0) (by rw [Int32.and_comm]; exact d), Bool.and_false]
          · unfold wp_L_areTinsSo_b201
            rintro z58 rfl z59 rfl
            have e : tkB r t k = true := by
              simp only [tkB]
              rw [decide_eq_true (p := ¬ r (73 + 7 * t) = 1) (by rw [ho]; decide), decide_eq_true (p := swR r t < r 2) (Int32.not_le.mp c), decide_eq_true (p := (mkR r t &&& r (185 + k)) = 0) (by rw [Int32.and_comm]; exact d)]
              rfl
            exact hK _ (by rw [orN, if_pos e, nI_1]; rfl)
      · refine ⟨fun _ => no ?_, fun c => absurd rfl c⟩
        simp only [tkB]
        rw [decide_eq_false (p := ¬ r (73 + 7 * t) = 1) (fun z => z hs), Bool.false_and, Bool.false_and]
    have e138 : ∀ z : Int32, (v8 = 1 → z = 0) → wp_L_areTinsSo_b138 K12 (fun v1 v2 v3 v4 v5 v6 v7 v8 v9 v10 σ => K (v1, v2, v3, v4, v5, v6, v7, v8, v9, v10, σ)) Q v1 v2 v3 1 (nI t) (swR r t) (mkR r t) v8 (orN (fun f => if tkB r t f then bitN f else 0) k) (nI k) z σ := by
      intro z hz
      unfold wp_L_areTinsSo_b138
      refine ⟨fun c => absurd c (by decide), fun _ => ⟨fun _ => e160 1 rfl, fun c8 => ⟨fun c => ?_, fun _ => e160 1 rfl⟩⟩⟩
      rcases h8 with ⟨e8, -⟩ | ⟨e8, -⟩
      · exact absurd (hz e8) c
      · exact absurd e8 c8
    refine ⟨fun _ => e138 0 (fun _ => rfl), fun c => ?_⟩
    have hb : tb (mkR r t) k = true := (bit_at (by omega)).mp c
    refine q_flavour3 h k hk rfl ⟨fun _ => e138 0 (fun _ => rfl), fun d => e138 1 (fun e8 => ?_)⟩
    rcases h8 with ⟨-, ho⟩ | ⟨e9, -⟩
    · exact absurd (ap_mk hN (by omega) hk (by rw [ho]; decide) hb) d
    · exact absurd (e8.symm.trans e9) (by decide)
  · rintro K a rfl
    dsimp only
    unfold st_L_areTinsSo_L102
    refine ⟨fun _ => ?_, fun c => absurd (nI_le (Nat.le_refl 6) (by decide)) c⟩
    rintro z26 rfl
    have fin : ∀ w : Int32, w = 1 → ∀ sh op : Int32, sh = (v2 + if r (73 + 7 * t) = 1 then swR r t else 0) → op = (v3 ||| if r (73 + 7 * t) = 0 then bitN t else 0) → wp_L_areTinsSo_b301 K12 Q (v1 + swR r t) sh op (nI t) w σ := by
      rintro w rfl sh op rfl rfl
      unfold wp_L_areTinsSo_b301
      rintro z47 rfl
      rw [nI_1]
      exact hq
    have e243 : ∀ sh a b : Int32, sh = (v2 + if r (73 + 7 * t) = 1 then swR r t else 0) → (b ||| a) = (v3 ||| if r (73 + 7 * t) = 0 then bitN t else 0) → wp_L_areTinsSo_b243 K12 Q (v1 + swR r t) sh 1 (nI t) (swR r t) (mkR r t) v8 (orN (fun f => if tkB r t f then bitN f else 0) 6) a b σ := by
      intro sh a b e1 e2
      unfold wp_L_areTinsSo_b243
      rintro z34 rfl
      refine ⟨fun c => absurd c (by decide), fun _ => ?_⟩
      refine q_ofTin0 h t ht rfl ⟨fun c => absurd rfl c, fun _ => ?_⟩
      refine q_ofTin2 h t ht rfl ⟨fun c => absurd rfl c, fun _ => ?_⟩
      refine q_ofTin3 h t ht rfl ⟨fun c => absurd rfl c, fun _ => ?_⟩
      refine ⟨fun _ => fin 1 rfl _ _ e1 e2, fun c8 => ⟨fun c => ?_, fun _ => fin 1 rfl _ _ e1 e2⟩⟩
      rcases h8 with ⟨e8, -⟩ | ⟨-, hs⟩
      · exact absurd (e8.symm.trans c8) (by decide)
      · obtain ⟨S, s1, s2, -⟩ := sw_nn hI (t := t) (by omega)
        have hne := hN.1.1.2.2.1 t (by omega) hs
        rw [s2] at hne c
        exact absurd c (nI_nle (Nat.pos_of_ne_zero (fun z => hne (by rw [z]; rfl))) (by omega))
    unfold wp_L_areTinsSo_b227
    refine ⟨fun c => ?_, fun c => ?_⟩
    · rintro z32 rfl
      rcases h8 with ⟨e8, -⟩ | ⟨-, hs⟩
      · exact absurd (e8.symm.trans c) (by decide)
      · refine ⟨fun _ => e243 _ _ _ (by rw [if_pos hs]) (by rw [if_neg (by rw [hs]; decide)]), fun d => absurd c d⟩
    · rintro z32 rfl
      rcases h8 with ⟨-, ho⟩ | ⟨e8, -⟩
      · refine ⟨fun d => absurd d c, fun _ => e243 _ _ _ (by rw [if_neg (by rw [ho]; decide)]) (by rw [if_pos ho]; rfl)⟩
      · exact absurd e8 c
theorem q_tins (h : RC σ r) (hN : NV r) (hq : Q 1 σ) : wp_L_areTinsSo σ Q := by
  have hI := h.2
  obtain ⟨hT, -, hz⟩ := IR_nT hI
  unfold wp_L_areTinsSo wp_L_areTinsSo_L12
  refine lpN_rel (nT r) (fun k a => a = (sumN (fun t => swR r t) k, sumN (fun t => if r (73 + 7 * t) = 1 then swR r t else 0) k, orN (fun t => if r (73 + 7 * t) = 0 then bitN t else 0) k, 1, nI k, σ)) ?_ ?_ 0 _ (Nat.zero_le _) rfl
  · rintro K k a hk rfl hK
    dsimp only
    unfold st_L_areTinsSo_L12
    refine q_count1 h ⟨fun c => absurd c (nI_ge hk (by omega)), fun _ => ?_⟩
    refine q_ofTin1 h k hk rfl ?_
    have go : ∀ v8 : Int32, ((v8 = 1 ∧ r (73 + 7 * k) = 0) ∨ (v8 = 0 ∧ r (73 + 7 * k) = 1)) → wp_L_areTinsSo_b43 (fun v1 v2 v3 v4 v5 σ => K (v1, v2, v3, v4, v5, σ)) Q (sumN (fun t => swR r t) k) (sumN (fun t => if r (73 + 7 * t) = 1 then swR r t else 0) k) (orN (fun t => if r (73 + 7 * t) = 0 then bitN t else 0) k) 1 (nI k) 0 0 v8 σ := by
      intro v8 h8
      unfold wp_L_areTinsSo_b43
      refine tins_L48 h hk (tins_L102 h hN hk h8 ?_)
      exact hK _ rfl
    refine ⟨fun c => go 0 (Or.inr ⟨rfl, ?_⟩), fun c => go 1 (Or.inl ⟨rfl, c⟩)⟩
    exact ((hI.2.2.2.2.2.2 k (by omega)).1).resolve_left c
  · rintro K a rfl
    dsimp only
    unfold st_L_areTinsSo_L12
    refine q_count1 h ⟨fun _ => ?_, fun c => absurd (nI_le (Nat.le_refl _) (by omega)) c⟩
    refine ⟨fun c => absurd c (by decide), fun _ => ?_⟩
    have sz : ∀ t, nT r ≤ t → t < 16 → swR r t = 0 := by
      intro t h1 h2
      unfold swR
      rw [sumN_congr (g := fun _ => 0) (fun f hf => (hz t h1 h2).2 f hf)]
      exact sumN_zero 6
    refine q_count5 h ⟨fun c => ?_, fun _ => ?_⟩
    · refine absurd ?_ c
      rw [hN.1.1.2.2.2.2]
      exact (sumN_ext hT sz).symm
    · refine q_count6 h ⟨fun c => ?_, fun _ => ?_⟩
      · refine absurd ?_ c
        unfold ssR itR
        rw [sumN_swap]
        refine sumN_congr (fun t ht => ?_)
        exact (sumN_if (fun f => r (74 + 7 * t + f)) 6 (r (73 + 7 * t) = 1)).symm
      · refine q_count2 h ⟨fun c => absurd rfl c, fun _ => ?_⟩
        refine q_count3 h ⟨fun c => ?_, fun _ => hq⟩
        refine absurd (tb_ext (fun i hi => ?_)) c
        rw [tb_and, tb_0]
        cases d : tb (tsR r 1) i with
        | false => rw [Bool.false_and]
        | true =>
          rw [Bool.true_and]
          cases g : tb (orN (fun t => if r (73 + 7 * t) = 0 then bitN t else 0) (nT r)) i with
          | false => rfl
          | true =>
            obtain ⟨t1, h1, d1⟩ := tb_orN.mp d
            obtain ⟨t2, h2, g1⟩ := tb_orN.mp g
            by_cases c1 : r (73 + 7 * t1) = 1
            · rw [if_pos c1, tb_bit (by omega) hi, decide_eq_true_eq] at d1
              by_cases c2 : r (73 + 7 * t2) = 0
              · rw [if_pos c2, tb_bit (by omega) hi, decide_eq_true_eq] at g1
                have e : t1 = t2 := d1.trans g1.symm
                rw [e, c2] at c1
                exact absurd c1 (by decide)
              · rw [if_neg c2, tb_0] at g1
                exact absurd g1 (by decide)
            · rw [if_neg c1, tb_0] at d1
              exact absurd d1 (by decide)
end TI
