/-! The machine's lanes, ticks and runs. -/
theorem wrap_eq {r : Nat → Int32} {l t f : Nat} (hn : (r (4 + 17 * l)).toNatClampNeg ≤ 6) (h0 : 0 < (r (4 + 17 * l)).toNatClampNeg) (hl : l < 4) : takeR (upd (addT r t f) (4 + 17 * l + 16) (addT r t f (4 + 17 * l + 16) + 1)) l = wrapR r l t f := by
  have e0 : addT r t f (4 + 17 * l) = r (4 + 17 * l) := pk_un (by omega)
  have e1 : addT r t f (4 + 17 * l + 16) = r (4 + 17 * l + 16) := pk_un (by omega)
  rw [takeR_upd (by rw [e0]; exact hn) (by omega), e1]
  unfold wrapR addT
  rw [takeR_upd hn (by omega), takeR_out hn h0 (by omega)]
theorem pull_eq (r : Nat → Int32) {l : Nat} (hl : l < 4) : upd (upd (upd r 192 (r 192 + (2 + r 3))) (4 + 17 * l + 13) (upd r 192 (r 192 + (2 + r 3)) (4 + 17 * l + 13) - (2 + r 3))) (4 + 17 * l + 14) (upd r 192 (r 192 + (2 + r 3)) (4 + 17 * l + 14) + 1) = pullR r l := by
  unfold pullR
  rw [pk_un (by omega), pk_un (by omega), upd_comm (j := 192) (by omega), upd_comm (j := 192) (by omega)]
section CW
variable {σ : Sg} {m : Nat} {μ : Nat → Nat → Nat → Int32} {r : Nat → Int32}
theorem s_X2_workLane {Q : Int32 → Sg → Prop} (l N : Nat) (hl : l < 4) (hM : MR μ r) (hI : IR r) (hN : r 0 = nI N) (hN2 : N ≤ 9) {z : Int32 × Int32 × (Nat → Int32)} (hz : laneC N l r = z) (hq : ∀ μ', MR μ' z.2.2 → μ' 5 l 7 = z.1 → (∀ l', l' ≠ l → μ' 5 l' 7 = μ 5 l' 7) → Q z.2.1 (sm σ m μ')) : wp_X2_workLane m l (sm σ m μ) Q := by
  unfold wp_X2_workLane
  refine s_X2_foilOfPull (r := r) (by rw [sm_m]; exact hM) ?_
  refine s_X2_pullsUntilTear (r := r) (by rw [sm_m]; exact hM) hI ?_
  rintro σ5 rfl
  rw [sm_up]
  unfold wp_X2_workLane_L21
  refine lpN_rel N (fun k a => ∃ a' r' μ', a = (2 + r 3, evR r, a', nI k, sm σ m μ') ∧ MR μ' r' ∧ IR r' ∧ (∀ j, j < 4 → r' j = r j) ∧ μ' 5 l 7 = 0 ∧ (∀ l', l' ≠ l → μ' 5 l' 7 = μ 5 l' 7) ∧ a' + (laneC (N - k) l r').2.1 = z.2.1 ∧ (laneC (N - k) l r').1 = z.1 ∧ (laneC (N - k) l r').2.2 = z.2.2) ?_ ?_ 0 _ (Nat.zero_le _) ⟨0, r, _, rfl, MR_last hM _, hI, fun _ _ => rfl, um_eq _ _ _ _ _, fun l' hl' => by rw [um_i _ _ hl'], by rw [Nat.sub_zero, hz]; simp, by rw [Nat.sub_zero, hz], by rw [Nat.sub_zero, hz]⟩
  · rintro K k ⟨w2, w3, w4, w5, σ'⟩ hk ⟨a', r', μ', e, hM', hI', hR, h7, hL, g1, g2, g3⟩ hK
    cases e
    dsimp only
    unfold st_X2_workLane_L21
    have e3 : N - k = (N - (k + 1)) + 1 := by omega
    rw [e3] at g1 g2 g3
    unfold laneC at g1 g2 g3
    rw [sm_m, hM'.1 0 (by decide), hR 0 (by decide), hN]
    refine ⟨fun c => absurd c (nI_ge hk (by omega)), fun _ => ?_⟩
    have hMs : MR (sm σ m μ' m) r' := by rw [sm_m]; exact hM'
    obtain ⟨n, hn, he, hh⟩ := hI'.2.2.2.2.2.1 l hl
    refine s_X1_nextFlavour hMs l n hl hn he ?_
    by_cases c0 : n = 0
    · have hz0 : r' (4 + 17 * l) = 0 := by rw [he, c0]; rfl
      have hrs : rsR r' l = 1 := by unfold rsR; rw [if_pos hz0]
      rw [if_pos c0]
      refine s_X2_tinFor6 ?_
      refine s_X2_reasonOf hMs l hl ?_
      rw [if_pos hz0]
      rintro σ13 rfl
      rw [sm_up, sm_m, um_eq]
      rw [if_neg (by rw [hrs]; decide), hrs] at g1 g2 g3
      refine ⟨fun _ => ?_, fun c => absurd c (by decide)⟩
      have f1 : w4 = z.2.1 := by rw [← g1]; exact (i_add0 w4).symm
      have f3 : r' = z.2.2 := g3
      rw [f1]
      exact hq _ (by rw [← f3]; exact MR_last hM' _) (by rw [um_eq]; exact g2) (fun l' hl' => by rw [um_i _ _ hl']; exact hL l' hl')
    · obtain ⟨⟨f, hf, ef⟩, -⟩ := hh 0 (by omega)
      have ef' : r' (4 + 17 * l + 1) = nI f := ef
      have hz0 : ¬ r' (4 + 17 * l) = 0 := by rw [he]; exact nI_ne0 (by omega) (by omega)
      have hrs : rsR r' l = if r' (4 + 17 * l) = 0 then 1 else if tfR r' f = -6 then 2 else if 2 + r' 3 ≤ r' (4 + 17 * l + 13) then 0 else 3 := by
        unfold rsR
        rw [ef', nI_clamp (by omega)]
      rw [if_neg c0]
      refine s_X2_tinFor hMs hI' f hf ef' ?_
      refine s_X2_reasonOf hMs l hl ?_
      rw [← hrs]
      rintro σ13 rfl
      rw [sm_up, sm_m, um_eq]
      refine ⟨fun c => ?_, fun c => ?_⟩
      · rw [if_neg c] at g1 g2 g3
        have f1 : w4 = z.2.1 := by rw [← g1]; exact (i_add0 w4).symm
        have f3 : r' = z.2.2 := g3
        rw [f1]
        exact hq _ (by rw [← f3]; exact MR_last hM' _) (by rw [um_eq]; exact g2) (fun l' hl' => by rw [um_i _ _ hl']; exact hL l' hl')
      · rw [if_pos c] at g1 g2 g3
        obtain ⟨-, f2, t, T, hf2, ef2, ht, hT2, hT, etf, etk⟩ := rs_0 hI' hl c
        have eff : f2 = f := (nI_eq (by omega) (by omega)).mp (ef2.symm.trans ef')
        subst eff
        rw [etf]
        refine s_X5_isIndex ?_
        rw [if_neg (nI_pos (by omega)), if_neg (ge_16 (by omega))]
        refine ⟨fun _ => ?_, fun c => absurd c (by decide)⟩
        rintro σ18 rfl
        have hMa := MR_last hM' (l := l) (rsR r' l)
        have hRa : ∀ l', um μ' 5 l 7 (rsR r' l) 5 l' 7 = if l' = l then 0 else μ 5 l' 7 := by
          intro l'
          by_cases q : l' = l
          · subst q
            rw [um_eq, if_pos rfl]; exact c
          · rw [um_i _ _ q, if_neg q]; exact hL l' q
        generalize um μ' 5 l 7 (rsR r' l) = μa at *
        have h3 : r 3 = r' 3 := (hR 3 (by decide)).symm
        have hev : evR r = evR r' := by
          unfold evR
          rw [hR 0 (by decide), hR 1 (by decide)]
        have hMb := MR_glob hMa hI' (k := 6) (by decide) (by decide) (r' 192 + (2 + r' 3))
        have hIb : IR (upd r' (186 + 6) (r' 192 + (2 + r' 3))) := IR_upd _ hI' (by omega) (by omega) (by omega) (fun l' w hl' hw => by omega)
        have hn1 : (r' (4 + 17 * l)).toNatClampNeg = n := by rw [he]; exact nI_clamp (by omega)
        have hp0 : pullR r' l (4 + 17 * l) = r' (4 + 17 * l) := pullR_ne r' (by omega) (by omega) (by omega)
        rw [sm_m, hMa.2.1.2.2.1, sm_up, h3, hev]
        refine s_X1_pullTears l hl hMb hIb (by unfold evR; rw [pk_un (by omega), pk_un (by omega)]) (fun tb μc hMc hLc => ?_) (fun tb μc hMc hLc => ?_)
        · have tb' : tearsB r' l = true := by
            rw [← tb]
            unfold tearsB evR
            rw [pk_un (by omega), pk_un (by omega), pk_un (by omega)]
          have hrow := pull_eq r' hl
          have e15 : upd r' (186 + 6) (r' 192 + (2 + r' 3)) (4 + 17 * l + 15) = pullR r' l (4 + 17 * l + 15) := by rw [pk_un (by omega), pullR_ne r' (by omega) (by omega) (by omega)]
          rw [hrow, e15] at hMc
          refine ⟨fun c => absurd c (by decide), fun _ => ?_⟩
          rintro σ27 rfl
          have hIc : IR (upd (pullR r' l) (4 + 17 * l + 15) (pullR r' l (4 + 17 * l + 15) + 1)) := IR_upd _ (IR_pull hI' hl) (by omega) (by omega) (by omega) (fun l' w hl' hw => ln_ne (by omega) (by omega) (by omega))
          have hMd := MR_glob hMc hIc (k := 7) (by decide) (by decide) (pullR r' l 193 + (2 + r' 3))
          rw [sm_m, hMc.2.1.2.2.2, sm_up, pk_un (by omega)]
          unfold wp_X2_workLane_b128
          rintro z28 rfl
          have et : (tryR r' l).2 = upd (upd (pullR r' l) (4 + 17 * l + 15) (pullR r' l (4 + 17 * l + 15) + 1)) (186 + 7) (pullR r' l 193 + (2 + r' 3)) := by
            unfold tryR
            rw [tb', if_pos rfl]
            show tornR (pullR r' l) l = _
            unfold tornR
            rw [pullR_ne r' (j := 3) (by omega) (by omega) (by omega)]
          have ec : (tryR r' l).1 = 0 := by
            unfold tryR
            rw [tb', if_pos rfl]
          rw [← et] at hMd
          rw [ec] at g1
          refine hK _ ⟨w4, _, _, by rw [nI_1, h3, hev], hMd, IR_try hI' hl c, fun j hj => (tryR_ne r' hI' hl hz0 hj).trans (hR j hj), ?_, fun l' hl' => ?_, by rw [← g1]; simp, g2, g3⟩
          · rw [um_k _ _ (by decide : 5 ≠ 0), hLc, um_k _ _ (by decide : 5 ≠ 0), hRa, if_pos rfl]
          · rw [um_k _ _ (by decide : 5 ≠ 0), hLc, um_k _ _ (by decide : 5 ≠ 0), hRa, if_neg hl']
        · have tb' : tearsB r' l = false := by
            rw [← tb]
            unfold tearsB evR
            rw [pk_un (by omega), pk_un (by omega), pk_un (by omega)]
          have hrow := pull_eq r' hl
          rw [hrow] at hMc
          refine ⟨fun _ => ?_, fun c => absurd rfl c⟩
          refine ⟨vp_in_nI (by omega) (by decide), ?_⟩
          rintro a23 rfl
          rw [nI_clamp (n := t) (by omega), ef']
          refine s_X4_add t f2 hf rfl ?_
          have hP := IR_pull hI' hl
          have etk' : tkB (pullR r' l) t f2 = true := by
            rw [tkB_congr (s := r') (pullR_ne r' (by omega) (by omega) (by omega)) (fun g hg => pullR_ne r' (by omega) (by omega) (by omega)) (pullR_ne r' (by omega) (by omega) (by omega)) (pullR_ne r' (by omega) (by omega) (by omega))]
            exact etk
          have hMd := MR_addT hMc hP (show t < 16 by omega) hf etk'
          have hId := IR_addT hP ht (by rw [pullR_ne r' (by omega) (by omega) (by omega)]; exact hT) hT2 hf etk'
          refine s_X1_wrapNext l hl hMd hId (by rw [show addT (pullR r' l) t f2 (4 + 17 * l) = pullR r' l (4 + 17 * l) from pk_un (by omega), hp0]; exact hz0) (fun μe hMe hLe => ?_)
          rintro z26 rfl
          unfold wp_X2_workLane_b128
          rintro z28 rfl
          rw [wrap_eq (by rw [hp0]; omega) (by rw [hp0]; omega) hl] at hMe
          have et : (tryR r' l).2 = wrapR (pullR r' l) l t f2 := by
            unfold tryR
            rw [tb', if_neg (by decide), ef', nI_clamp (by omega), etf, nI_clamp (by omega)]
          have ec : (tryR r' l).1 = 1 := by
            unfold tryR
            rw [tb', if_neg (by decide)]
          rw [← et] at hMe
          rw [ec] at g1
          refine hK _ ⟨w4 + 1, _, _, by rw [nI_1, h3, hev], hMe, IR_try hI' hl c, fun j hj => (tryR_ne r' hI' hl hz0 hj).trans (hR j hj), ?_, fun l' hl' => ?_, by rw [← g1, Int32.add_assoc], g2, g3⟩
          · rw [hLe, um_k _ _ (by decide : 5 ≠ 8), um_k _ _ (by decide : 5 ≠ 8), um_k _ _ (by decide : 5 ≠ 9), hLc, um_k _ _ (by decide : 5 ≠ 0), hRa, if_pos rfl]
          · rw [hLe, um_k _ _ (by decide : 5 ≠ 8), um_k _ _ (by decide : 5 ≠ 8), um_k _ _ (by decide : 5 ≠ 9), hLc, um_k _ _ (by decide : 5 ≠ 0), hRa, if_neg hl']
  · rintro K ⟨w2, w3, w4, w5, σ'⟩ ⟨a', r', μ', e, hM', hI', hR, h7, hL, g1, g2, g3⟩
    cases e
    dsimp only
    unfold st_X2_workLane_L21
    rw [sm_m, hM'.1 0 (by decide), hR 0 (by decide), hN]
    refine ⟨fun _ => ?_, fun c => absurd (nI_le (Nat.le_refl N) (by omega)) c⟩
    rw [Nat.sub_self] at g1 g2 g3
    have f1 : w4 = z.2.1 := by rw [← g1]; exact (i_add0 w4).symm
    have f2 : (0 : Int32) = z.1 := g2
    have f3 : r' = z.2.2 := g3
    rw [f1]
    exact hq _ (by rw [← f3]; exact hM') (h7.trans f2) hL
theorem s_X2_work {Q : Int32 → Sg → Prop} {x1 : Int32} (n : Nat) (hn : n < 2 ^ 31) (d : Nat → Int32) (hM : MR μ r) (hI : IR r) (e1 : x1 = nI n := by rfl) (hq : ∀ μ', MR μ' (runsC n r d).2.1 → (0 < n → ∀ l, l < 4 → μ' 5 l 7 = (runsC n r d).2.2 l) → Q (runsC n r d).1 (sm σ m μ')) : wp_X2_work m x1 (sm σ m μ) Q := by
  subst e1
  unfold wp_X2_work wp_X2_work_L4
  refine lpN_rel n (fun k a => ∃ a' r' d' μ', a = (a', nI k, sm σ m μ') ∧ MR μ' r' ∧ IR r' ∧ (0 < k → ∀ l, l < 4 → μ' 5 l 7 = d' l) ∧ a' + (runsC (n - k) r' d').1 = (runsC n r d).1 ∧ (runsC (n - k) r' d').2 = (runsC n r d).2) ?_ ?_ 0 _ (Nat.zero_le _) ⟨0, r, d, μ, rfl, hM, hI, fun h => absurd h (Nat.lt_irrefl 0), by simp, rfl⟩
  · rintro K k ⟨w1, w2, σ'⟩ hk ⟨a', r', d', μ', e, hM', hI', hd, g1, g2⟩ hK
    cases e
    dsimp only
    unfold st_X2_work_L4
    refine ⟨fun c => absurd c (nI_ge hk hn), fun _ => ?_⟩
    have e3 : n - k = (n - (k + 1)) + 1 := by omega
    rw [e3] at g1 g2
    rw [runsC_s] at g1 g2
    unfold wp_X2_work_L12
    refine lpN_rel 4 (fun j a => ∃ a'' r'' d'' μ'', a = (a'', nI k, nI j, sm σ m μ'') ∧ MR μ'' r'' ∧ IR r'' ∧ (∀ l, l < j → μ'' 5 l 7 = d'' l) ∧ a'' + (lanesC (4 - j) j r'' d'').1 = w1 + (lanesC 4 0 r' d').1 ∧ (lanesC (4 - j) j r'' d'').2 = (lanesC 4 0 r' d').2) ?_ ?_ 0 _ (Nat.zero_le _) ⟨w1, r', d', μ', rfl, hM', hI', fun l h => absurd h (Nat.not_lt_zero l), rfl, rfl⟩
    · rintro K2 j ⟨u1, u2, u3, σ''⟩ hj ⟨a'', r'', d'', μ'', e, hM'', hI'', hd'', p1, p2⟩ hK2
      cases e
      dsimp only
      unfold st_X2_work_L12
      refine ⟨fun c => absurd c (ge_4 hj), fun _ => ⟨vp_in_nI hj (by decide), ?_⟩⟩
      rintro a6 rfl
      rw [nI_clamp (n := j) (by omega)]
      obtain ⟨N, h1, h2, h3⟩ := hI''.1
      have e4 : 4 - j = (4 - (j + 1)) + 1 := by omega
      rw [e4] at p1 p2
      unfold lanesC at p1 p2
      rw [h3, nI_clamp (by omega)] at p1 p2
      refine s_X2_workLane j N hj hM'' hI'' h3 h2 rfl (fun μ3 hM3 h7 hL3 => ?_)
      rintro z9 rfl z10 rfl
      refine hK2 _ ⟨_, _, _, μ3, by rw [nI_1], hM3, (laneC_IR hj hI'').1, fun l hl => ?_, by rw [Int32.add_assoc]; exact p1, p2⟩
      by_cases q : l = j
      · subst q
        rw [pk_us]; exact h7
      · rw [pk_un q, hL3 l q]; exact hd'' l (by omega)
    · rintro K2 ⟨u1, u2, u3, σ''⟩ ⟨a'', r'', d'', μ'', e, hM'', hI'', hd'', p1, p2⟩
      cases e
      dsimp only
      unfold st_X2_work_L12
      refine ⟨fun _ => ?_, fun c => absurd (nI_le (Nat.le_refl 4) (by decide)) c⟩
      rintro σ3 rfl z4 rfl
      have f1 : u1 = w1 + (lanesC 4 0 r' d').1 := by rw [← p1]; exact (i_add0 u1).symm
      have f2 : (r'', d'') = (lanesC 4 0 r' d').2 := p2
      have f3 : r'' = (lanesC 4 0 r' d').2.1 := by rw [← f2]
      have f4 : d'' = (lanesC 4 0 r' d').2.2 := by rw [← f2]
      have hM5 := MR_glob hM'' hI'' (k := 5) (by decide) (by decide) (r'' 191 + 1)
      rw [sm_m, hM''.2.1.2.1, sm_up]
      have et : (tickC r' d').2.1 = upd r'' (186 + 5) (r'' 191 + 1) := by
        unfold tickC
        rw [f3]
      refine hK _ ⟨u1, (tickC r' d').2.1, (tickC r' d').2.2, _, by rw [nI_1], by rw [et]; exact hM5, (tickC_IR hI').1, fun _ l hl => ?_, ?_, g2⟩
      · rw [um_k _ _ (by decide : 5 ≠ 0), hd'' l hl, f4]
        rfl
      · rw [f1, ← g1, Int32.add_assoc]
        rfl
  · rintro K ⟨w1, w2, σ'⟩ ⟨a', r', d', μ', e, hM', hI', hd, g1, g2⟩
    cases e
    dsimp only
    unfold st_X2_work_L4
    refine ⟨fun _ => ?_, fun c => absurd (nI_le (Nat.le_refl n) hn) c⟩
    rw [Nat.sub_self] at g1 g2
    have f1 : w1 = (runsC n r d).1 := by rw [← g1]; exact (i_add0 w1).symm
    have f2 : (r', d') = (runsC n r d).2 := g2
    have f3 : r' = (runsC n r d).2.1 := by rw [← f2]
    have f4 : d' = (runsC n r d).2.2 := by rw [← f2]
    rw [f1]
    exact hq _ (by rw [← f3]; exact hM') (fun h l hl => by rw [← f4]; exact hd h l hl)
end CW
