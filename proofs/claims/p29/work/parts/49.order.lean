/-! The law looks at the ranks. -/
section OR
variable {σ : Sg} {Q : Int32 → Sg → Prop} {r : Nat → Int32}
theorem op_0 (hI : IR r) {t : Nat} (ht : t < 16) (h : opB r t = true) : r (73 + 7 * t) = 0 := by
  have h1 : ¬ r (73 + 7 * t) = 1 := of_decide_eq_true h
  rcases (hI.2.2.2.2.2.2 t ht).1 with z | z
  · exact z
  · exact absurd z h1
theorem ranks_L242 (h : RC σ r) {v1 v4 : Int32} (hv : ∀ i, i < 32 → (tb v4 i = true ↔ i < 6 ∧ meF r i = true)) (e1 : v1 = tsR r 0) (hq : Q 1 σ) : wp_L_areRanksSo_L242 Q v1 1 v4 0 σ := by
  unfold wp_L_areRanksSo_L242
  refine lpN_rel 6 (fun k a => a = (v1, 1, v4, nI k, σ)) ?_ ?_ 0 _ (Nat.zero_le _) rfl
  · rintro K k a hk rfl hK
    dsimp only
    unfold st_L_areRanksSo_L242
    refine ⟨fun c => absurd c (ge_6 hk), fun _ => ⟨fun c => absurd c (by decide), fun _ => ?_⟩⟩
    have go : wp_L_areRanksSo_b300 (fun v1 v3 v4 v5 σ => K (v1, v3, v4, v5, σ)) Q v1 v4 (nI k) 1 σ := by
      unfold wp_L_areRanksSo_b300
      rintro z50 rfl
      exact hK _ (by rw [nI_1])
    refine q_flavour1 h k hk rfl (q_flavour2 h k hk rfl ⟨fun c => ?_, fun c => ?_⟩)
    · have hm : ¬ meF r k = true := fun z => absurd (show iaR r k ≤ 0 from c) (of_decide_eq_true z)
      unfold wp_L_areRanksSo_b276 wp_L_areRanksSo_b292
      refine ⟨fun _ => ⟨fun d => absurd rfl d, fun _ => go⟩, fun d => ?_⟩
      exact absurd ((hv k (by omega)).mp ((bit_at (by omega)).mp d)).2 hm
    · have hm : meF r k = true := decide_eq_true (show ¬ iaR r k ≤ 0 from c)
      unfold wp_L_areRanksSo_b276 wp_L_areRanksSo_b292
      refine ⟨fun d => ?_, fun _ => ⟨fun d => absurd rfl d, fun _ => go⟩⟩
      exact absurd ((bit_at (by omega)).mpr ((hv k (by omega)).mpr ⟨hk, hm⟩)) d
  · rintro K a rfl
    dsimp only
    unfold st_L_areRanksSo_L242
    refine ⟨fun _ => ⟨fun c => absurd c (by decide), fun _ => ?_⟩, fun c => absurd (nI_le (Nat.le_refl 6) (by decide)) c⟩
    exact q_count2 h ⟨fun c => absurd e1 c, fun _ => hq⟩
theorem ranks_L119 (h : RC σ r) {v1 : Int32} (e1 : v1 = tsR r 0) (hq : Q 1 σ) : wp_L_areRanksSo_L119 Q v1 (-1) 1 0 0 σ := by
  have hI := h.2
  obtain ⟨M, m1, m2, m3⟩ := rk_K (key := kyF r) (p := meF r) (N := 6)
  unfold wp_L_areRanksSo_L119
  refine lpN_rel M (fun k a => ∃ v2 v4, a = (v1, v2, 1, v4, nI k, σ) ∧ (∀ i, i < 32 → (tb v4 i = true ↔ i < 6 ∧ meF r i = true ∧ rkK (kyF r) (meF r) 6 i < k)) ∧ ((k = 0 ∧ v2 = -1) ∨ ∃ t', t' < 6 ∧ meF r t' = true ∧ rkK (kyF r) (meF r) 6 t' + 1 = k ∧ v2 = nI t')) ?_ ?_ 0 _ (Nat.zero_le _) ⟨-1, 0, rfl, fun i hi => ?_, Or.inl ⟨rfl, rfl⟩⟩
  · rintro K k a hk ⟨v2, v4, rfl, hv, hl⟩ hK
    dsimp only
    unfold st_L_areRanksSo_L119
    obtain ⟨f, f1, f2, f3, f4⟩ := bc_some hI (k := k) (by omega) (m2 k hk)
    obtain ⟨g1, g2⟩ := kyF_eq hI f1
    have g3 := (meF_iff hI f1).mp f2
    refine q_byCount h ?_
    rw [f4]
    refine ⟨fun c => absurd c (nI_pos (by omega)), fun _ => ⟨fun c => absurd c (ge_6 (by omega)), fun _ => ?_⟩⟩
    refine q_byCount h ?_
    rw [f4]
    refine q_flavour1 h f f1 rfl (q_flavour2 h f f1 rfl ?_)
    rintro z33 rfl
    have ez : itR r f 0 + itR r f 1 = iaR r f := rfl
    rw [ez]
    have go : wp_L_areRanksSo_b215 (fun v1 v2 v3 v4 v5 σ => K (v1, v2, v3, v4, v5, σ)) Q v1 v4 (nI k) (nI f) σ := by
      unfold wp_L_areRanksSo_b215 wp_L_areRanksSo_b220
      rintro z58 rfl z59 rfl
      refine hK _ ⟨nI f, v4 ||| bitN f, by rw [nI_1]; rfl, fun i hi => ?_, Or.inr ⟨f, f1, f2, by omega, rfl⟩⟩
      rw [tb_or, tb_bit (by omega) hi, Bool.or_eq_true, decide_eq_true_eq, hv i hi]
      refine ⟨fun z => ?_, fun z => ?_⟩
      · rcases z with z | z
        · exact ⟨z.1, z.2.1, by omega⟩
        · rw [← z]
          exact ⟨f1, f2, by omega⟩
      · by_cases d : rkK (kyF r) (meF r) 6 i < k
        · exact Or.inl ⟨z.1, z.2.1, d⟩
        · exact Or.inr (rk_eq (key := kyF r) f1 z.1 f2 z.2.1 (by omega))
    refine ⟨fun c => ?_, fun c => ?_⟩
    · rcases hl with ⟨-, e⟩ | ⟨t', t1, t2, t3, rfl⟩
      · rw [e] at c; exact absurd c (by decide)
      · refine q_flavour1 h t' t1 rfl (q_flavour2 h t' t1 rfl ?_)
        rw [show itR r t' 0 + itR r t' 1 = iaR r t' from rfl]
        obtain ⟨p1, p2⟩ := kyF_eq hI t1
        have hb := bfK_iff.mp (rk_ord (key := kyF r) (p := meF r) (N := 6) (a := t') (b := f) f1 f2 (by omega))
        rw [g1, p1]
        unfold wp_L_areRanksSo_b184
        refine ⟨fun c => absurd c (by decide), fun _ => ⟨fun c => absurd c (nI_nle g3 (by omega)), fun _ => ⟨fun _ => go, fun c2 => ⟨fun c3 => ?_, fun c3 => ⟨fun c4 => ?_, fun _ => go⟩⟩⟩⟩⟩
        · have n1 : ¬ kyF r f < kyF r t' := fun z => c2 (nI_lt z (by omega))
          exact absurd (show nI (kyF r f) = nI (kyF r t') by rw [show kyF r f = kyF r t' by omega]) c3
        · have n1 : ¬ kyF r f < kyF r t' := fun z => c2 (nI_lt z (by omega))
          have := (nI_leI (by omega) (by omega)).mp c4
          omega
    · rcases hl with ⟨-, e⟩ | ⟨t', t1, t2, t3, rfl⟩
      · rw [g1, nI_1]
        unfold wp_L_areRanksSo_b184
        refine ⟨fun c => absurd c (by decide), fun _ => ⟨fun c => absurd c (nI_nle g3 (by omega)), fun _ => ⟨fun _ => go, fun c2 => absurd (nI_lt (Nat.lt_succ_self _) (by omega)) c2⟩⟩⟩
      · exact absurd (nI_pos' (by omega)) c
  · rintro K a ⟨v2, v4, rfl, hv, hl⟩
    dsimp only
    unfold st_L_areRanksSo_L119
    refine q_byCount h ?_
    rw [bc_none hI (by omega) m3]
    refine ⟨fun _ => ?_, fun c => absurd (by decide) c⟩
    unfold wp_L_areRanksSo_b239
    refine ranks_L242 h (fun i hi => ?_) e1 hq
    rw [hv i hi]
    exact ⟨fun z => ⟨z.1, z.2.1⟩, fun z => ⟨z.1, z.2, m3 i z.1 z.2⟩⟩
  · rw [tb_0]
    exact ⟨fun z => absurd z (by decide), fun z => by omega⟩
theorem q_ranks (h : RC σ r) (hq : Q 1 σ) : wp_L_areRanksSo σ Q := by
  have hI := h.2
  have hT := (IR_nT hI).1
  obtain ⟨M, m1, m2, m3⟩ := rk_K (key := kyT r) (p := opB r) (N := nT r)
  unfold wp_L_areRanksSo wp_L_areRanksSo_L9
  refine lpN_rel M (fun k a => ∃ v1 v2, a = (v1, v2, 1, nI k, σ) ∧ (∀ i, i < 32 → (tb v1 i = true ↔ i < nT r ∧ opB r i = true ∧ rkK (kyT r) (opB r) (nT r) i < k)) ∧ ((k = 0 ∧ v2 = -1) ∨ ∃ t', t' < nT r ∧ opB r t' = true ∧ rkK (kyT r) (opB r) (nT r) t' + 1 = k ∧ v2 = nI t')) ?_ ?_ 0 _ (Nat.zero_le _) ⟨0, -1, rfl, fun i hi => ?_, Or.inl ⟨rfl, rfl⟩⟩
  · rintro K k a hk ⟨v1, v2, rfl, hv, hl⟩ hK
    dsimp only
    unfold st_L_areRanksSo_L9
    obtain ⟨f, f1, f2, f3, f4⟩ := br_some hI (k := k) (by omega) (m2 k hk)
    obtain ⟨g1, g2⟩ := kyT_eq hI (t := f) (by omega)
    refine q_byRoom h ?_
    rw [f4]
    refine ⟨fun c => absurd c (nI_pos (by omega)), fun _ => ⟨fun c => absurd c (ge_16 (by omega)), fun _ => ?_⟩⟩
    refine q_byRoom h ?_
    rw [f4]
    have go : wp_L_areRanksSo_b89 (fun v1 v2 v3 v4 σ => K (v1, v2, v3, v4, σ)) Q v1 (nI k) (nI f) σ := by
      unfold wp_L_areRanksSo_b89 wp_L_areRanksSo_b94
      rintro z60 rfl z61 rfl
      refine hK _ ⟨v1 ||| bitN f, nI f, by rw [nI_1]; rfl, fun i hi => ?_, Or.inr ⟨f, f1, f2, by omega, rfl⟩⟩
      rw [tb_or, tb_bit (by omega) hi, Bool.or_eq_true, decide_eq_true_eq, hv i hi]
      refine ⟨fun z => ?_, fun z => ?_⟩
      · rcases z with z | z
        · exact ⟨z.1, z.2.1, by omega⟩
        · rw [← z]
          exact ⟨f1, f2, by omega⟩
      · by_cases d : rkK (kyT r) (opB r) (nT r) i < k
        · exact Or.inl ⟨z.1, z.2.1, d⟩
        · exact Or.inr (rk_eq (key := kyT r) f1 z.1 f2 z.2.1 (by omega))
    refine ⟨fun c => absurd c (by decide), fun _ => ?_⟩
    refine q_ofTin1 h f f1 rfl ⟨fun c => absurd (op_0 hI (by omega) f2) c, fun _ => ⟨fun _ => go, fun c => ?_⟩⟩
    rcases hl with ⟨-, e⟩ | ⟨t', t1, t2, t3, rfl⟩
    · rw [e] at c; exact absurd (by decide) c
    · obtain ⟨p1, p2⟩ := kyT_eq hI (t := t') (by omega)
      have hb := bfK_iff.mp (rk_ord (key := kyT r) (p := opB r) (N := nT r) (a := t') (b := f) f1 f2 (by omega))
      refine q_ofTin0 h f f1 rfl (q_ofTin0 h t' t1 rfl ?_)
      rw [g1, p1]
      refine ⟨fun _ => go, fun c2 => ?_⟩
      refine q_ofTin0 h f f1 rfl (q_ofTin0 h t' t1 rfl ?_)
      rw [g1, p1]
      have n1 : ¬ kyT r f < kyT r t' := fun z => c2 (nI_lt z (by omega))
      refine ⟨fun c3 => ?_, fun c3 => ⟨fun c4 => ?_, fun _ => go⟩⟩
      · exact absurd (show nI (kyT r f) = nI (kyT r t') by rw [show kyT r f = kyT r t' by omega]) c3
      · have := (nI_leI (by omega) (by omega)).mp c4
        omega
  · rintro K a ⟨v1, v2, rfl, hv, hl⟩
    dsimp only
    unfold st_L_areRanksSo_L9
    refine q_byRoom h ?_
    rw [br_none hI (by omega) m3]
    refine ⟨fun _ => ?_, fun c => absurd (by decide) c⟩
    unfold wp_L_areRanksSo_b111
    refine ranks_L119 h (tb_ext (fun i hi => ?_)) hq
    have e : tb (tsR r 0) i = true ↔ i < nT r ∧ opB r i = true ∧ rkK (kyT r) (opB r) (nT r) i < M := by
      refine ⟨fun z => ?_, fun z => ?_⟩
      · obtain ⟨t, h1, d1⟩ := tb_orN.mp z
        by_cases c1 : r (73 + 7 * t) = 0
        · rw [if_pos c1, tb_bit (by omega) hi, decide_eq_true_eq] at d1
          subst d1
          have ho : opB r t = true := decide_eq_true (show ¬ r (73 + 7 * t) = 1 by rw [c1]; decide)
          exact ⟨h1, ho, m3 t h1 ho⟩
        · rw [if_neg c1, tb_0] at d1
          exact absurd d1 (by decide)
      · refine tb_orN.mpr ⟨i, z.1, ?_⟩
        rw [if_pos (op_0 hI (by omega) z.2.1), tb_bit hi hi]
        exact decide_eq_true rfl
    exact Bool.eq_iff_iff.mpr ((hv i hi).trans e.symm)
  · rw [tb_0]
    exact ⟨fun z => absurd z (by decide), fun z => by omega⟩
end OR
