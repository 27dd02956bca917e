/-! The start: classes, array classes, statics, Strings, out of the premises. -/
section ST
variable {s : State} {args : Array Value}
theorem st_word (hts : ∀ w ∈ lw_tbl, w.before args s = true) (i : Nat) {w : Cond} (h : tables_1[i]? = some w) : w.before args s = true := hts w (List.mem_append_right _ (List.mem_of_getElem? h))
theorem st_arr {ty : FieldType} (h : (Cond.arrayClass ty).before args s = true) : ∃ cA : ClassId, ArrOfT s cA ty ∧ s.vm.findClass ("[" ++ ty.toString) = some cA := by
  obtain ⟨cA, kA, comp, h1, h2, h3⟩ := Cond.arrayClass_spec h
  exact ⟨cA, fun n z => ⟨fun k h => (by cases h), kA, h2, comp, h3⟩, h1⟩
theorem st_over {D : String} (h : (Cond.arrayOver (.object D)).before args s = true) : ∃ cA : ClassId, ArrOfT s cA (.object D) ∧ va_RA s cA (.object D) := by
  obtain ⟨comp, cA, kA, h1, h2, h3, h4, h5⟩ := Cond.arrayOver_spec h
  exact ⟨cA, fun n z => ⟨fun k h => (by cases h), kA, h3, comp, h4⟩, kA, comp, h3, h4, h1, h5⟩
theorem st_classes (hts : ∀ w ∈ lw_tbl, w.before args s = true) : ∃ (D : va_G) (C : Nat → ClassId), (∀ (c : Nat) (q : vw_C), vwCl[c]? = some q → u_Kn s q.1 q.2.1 q.2.2 (D.1 c) (D.2 c)) ∧ (ArrOfT s (C 0) .int ∧ va_RA s (C 0) .int) ∧ (ArrOfT s (C 1) .boolean ∧ va_RA s (C 1) .boolean) ∧ (ArrOfT s (C 2) .char ∧ va_RA s (C 2) .char) ∧ (ArrOfT s (C 3) (.object RX1) ∧ va_RA s (C 3) (.object RX1)) ∧ (ArrOfT s (C 4) (.object RX4) ∧ va_RA s (C 4) (.object RX4)) ∧ (ArrOfT s (C 5) (.object RX2) ∧ va_RA s (C 5) (.object RX2)) := by
  have hb : ∀ w ∈ BIG, w.before args s = true := fun w h => hts w (big_good w h).1
  obtain ⟨c0, i0, k0⟩ := u_known (C := RX0) (T := TX0) (N := 3) (n := 3) hb inX0 (hb _ bw_116)
  obtain ⟨c1, i1, k1⟩ := u_known (C := RX1) (T := TX1) (N := 8) (n := 8) hb inX1 (hb _ bw_27)
  obtain ⟨c2, i2, k2⟩ := u_known (C := RX2) (T := TX2) (N := 8) (n := 8) hb inX2 (hb _ bw_18)
  obtain ⟨c3, i3, k3⟩ := u_known (C := RX3) (T := TX3) (N := 6) (n := 6) hb inX3 (hb _ bw_136)
  obtain ⟨c4, i4, k4⟩ := u_known (C := RX4) (T := TX4) (N := 4) (n := 4) hb inX4 (hb _ bw_66)
  obtain ⟨c5, i5, k5⟩ := u_known (C := RX5) (T := TX5) (N := 6) (n := 6) hb inX5 (hb _ bw_10)
  obtain ⟨a0, ha0, hb0⟩ := st_arr (hb _ bw_65)
  obtain ⟨a1, ha1, hb1⟩ := st_arr (hb _ bw_157)
  obtain ⟨a2, ha2, hb2⟩ := st_arr (hb _ bw_158)
  obtain ⟨a3, h3⟩ := st_over (D := RX1) (st_word hts 24 (by decide +kernel))
  obtain ⟨a4, h4⟩ := st_over (D := RX4) (st_word hts 26 (by decide +kernel))
  obtain ⟨a5, h5⟩ := st_over (D := RX2) (st_word hts 122 (by decide +kernel))
  refine ⟨(fun k => match k with | 0 => c0 | 1 => c1 | 2 => c2 | 3 => c3 | 4 => c4 | _ => c5, fun k => match k with | 0 => i0 | 1 => i1 | 2 => i2 | 3 => i3 | 4 => i4 | _ => i5), fun k => match k with | 0 => a0 | 1 => a1 | 2 => a2 | 3 => a3 | 4 => a4 | _ => a5, ?_, ⟨ha0, hb0⟩, ⟨ha1, hb1⟩, ⟨ha2, hb2⟩, h3, h4, h5⟩
  intro k q hq
  match k, hq with
  | 0, hq => cases hq; exact k0
  | 1, hq => cases hq; exact k1
  | 2, hq => cases hq; exact k2
  | 3, hq => cases hq; exact k3
  | 4, hq => cases hq; exact k4
  | 5, hq => cases hq; exact k5
  | k + 6, hq => cases hq
abbrev stG : List Cond := flatC (Cond.and given_1 narrow_1)
abbrev tLE : Term := Term.static "SweetWraps" "LEAST_OF_SETTING" "[I"
abbrev tMO : Term := Term.static "SweetWraps" "MOST_OF_SETTING" "[I"
theorem sm_le1 : Cond.arrayOf tLE .int ∈ stG := by decide +kernel
theorem sm_le2 : Cond.eq (.length tLE) (.int (Int32.ofNat 4)) ∈ stG := by decide +kernel
theorem sm_le3 : ∀ j, j < 4 → Cond.eq (.elem tLE (.int (Int32.ofNat j))) (.int (lst j)) ∈ stG := by decide +kernel
theorem sm_mo1 : Cond.arrayOf tMO .int ∈ stG := by decide +kernel
theorem sm_mo2 : Cond.eq (.length tMO) (.int (Int32.ofNat 4)) ∈ stG := by decide +kernel
theorem sm_mo3 : ∀ j, j < 4 → Cond.eq (.elem tMO (.int (Int32.ofNat j))) (.int (mst j)) ∈ stG := by decide +kernel
theorem st_env (hts : ∀ w ∈ lw_tbl, w.before args s = true) (hgv : (Jvm.Cond.and given_1 narrow_1).before args s = true) : ∃ (D : va_G) (C : Nat → ClassId) (T : Nat → Nat), EV (E0 D s.heap.size C T T T) s s.heap ∧ EC (E0 D s.heap.size C T T T) s := by
  have hf : ∀ c ∈ stG, c.before args s = true := flat_of_before _ hgv
  have hb : ∀ w ∈ BIG, w.before args s = true := fun w h => hts w (big_good w h).1
  have hA : ∀ a : Nat, a < s.heap.size → ¬ (fun q : Nat => s.heap.size ≤ q) a := fun a h => Nat.not_le.mpr h
  obtain ⟨D, C, hD, hC0, hC1, hC2, hC3, hC4, hC5⟩ := st_classes hts
  obtain ⟨t0, ht0, hT0⟩ := va_Tof (tm := tLE) (ty := .int) (N := 4) (f := fun j => .int (lst j)) (by decide) (hf _ sm_le1) (va_eqt (hf _ sm_le2)) (fun j hj => va_eqt (hf _ (sm_le3 j hj))) hA
  obtain ⟨t1, ht1, hT1⟩ := va_Tof (tm := tMO) (ty := .int) (N := 4) (f := fun j => .int (mst j)) (by decide) (hf _ sm_mo1) (va_eqt (hf _ sm_mo2)) (fun j hj => va_eqt (hf _ (sm_mo3 j hj))) hA
  have hZ0 := va_Zof (st_word hts 368 (by decide +kernel)) (hb _ bw_1) ht0 hA
  have hZ1 := va_Zof (st_word hts 370 (by decide +kernel)) (hb _ bw_1) ht1 hA
  have hn1 : ∀ a i y h, Cond.methodLinkNest a i y h ∈ tables_1 → va_Nw (Cond.methodLinkNest a i y h) s := fun a i y h z => va_tabs rfl rfl (hts _ (List.mem_append_right _ z))
  have hn2 : ∀ a i b n d h, Cond.fieldLinkNest a i b n d h ∈ tables_1 → va_Nw (Cond.fieldLinkNest a i b n d h) s := fun a i b n d h z => va_tabs rfl rfl (hts _ (List.mem_append_right _ z))
  have hB : ∀ q : Nat, eA (E0 D s.heap.size C (fun k => match k with | 0 => t0 | _ => t1) (fun k => match k with | 0 => t0 | _ => t1) (fun k => match k with | 0 => t0 | _ => t1)) q → s.heap.size ≤ q := fun q h => E0_eA h
  have hK : va_K D vwCl (ety (E0 D s.heap.size C (fun k => match k with | 0 => t0 | _ => t1) (fun k => match k with | 0 => t0 | _ => t1) (fun k => match k with | 0 => t0 | _ => t1))) s := by
    refine ⟨hD, fun k q hq => ?_⟩
    match k, hq with
    | 0, hq => cases hq; exact hC0
    | 1, hq => cases hq; exact hC1
    | 2, hq => cases hq; exact hC2
    | 3, hq => cases hq; exact hC3
    | 4, hq => cases hq; exact hC4
    | 5, hq => cases hq; exact hC5
    | k + 6, hq => cases hq
  exact ⟨D, C, fun k => match k with | 0 => t0 | _ => t1, ⟨hK, E0_inj, hn1, hn2, hZ0.narrow hB, hT0.narrow hB, hZ1.narrow hB, hT1.narrow hB⟩, hK, hn1, va_AO.of (st_word hts 24 (by decide +kernel)), va_AO.of (st_word hts 122 (by decide +kernel)), va_AO.of (st_word hts 26 (by decide +kernel))⟩
end ST
