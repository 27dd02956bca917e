/-! cell: a number of the script, or what stands behind its end. -/
section CE
variable {X : Tx} {cc : ByteArray} {own : String} {ret : Option FieldType} {fr lo nL : Nat} {Qc : Array Value → State → Outcome → State → Prop} {σ : Sg} {lv : List (Nat × Value)} {st : List Value} {pc : Nat}
theorem gx_sld (C : Cx X cc own ret fr lo nL Qc) {b L : Nat} {xs : Nat → Int32} (hX : va_X b L xs (tS X) (tS X).heap) (hbl : b < (tS X).heap.size) (hbA : ¬ eA (tE X) b) {x : Int32} {j : Nat} (e : x = nI j) (hj : j < L) (hL : L < 2 ^ 31) (hd : decode cc pc = .ok (.iaload, 1)) (kk : G X σ lv (.int (xs j) :: st) (pc + 1)) : G X σ lv (.int x :: .ref b :: st) pc := by
  intro H locs ls hW hS hl
  subst e
  refine va_sld C.1 C.2.1 hX hbl hbA hS (nI_in hj hL) hd ?_
  rw [nI_clamp (Nat.lt_trans hj hL)]
  exact kk H locs ls hW hS hl
theorem gx_slen (C : Cx X cc own ret fr lo nL Qc) {b L : Nat} {xs : Nat → Int32} (hX : va_X b L xs (tS X) (tS X).heap) (hbl : b < (tS X).heap.size) (hbA : ¬ eA (tE X) b) (hd : decode cc pc = .ok (.arraylength, 1)) (kk : G X σ lv (.int (nI L) :: st) (pc + 1)) : G X σ lv (.ref b :: st) pc := fun H locs ls hW hS hl => va_slen C.1 C.2.1 hX hbl hbA hS hd (kk H locs ls hW hS hl)
abbrev PCe (E : Ev) (b L : Nat) (xs : Nat → Int32) (av : List Value) (σ : Sg) : Array Value → State → Prop := va_Pc av (fun U => (WD E σ U.heap ∧ EV E U U.heap) ∧ va_X b L xs U U.heap)
set_option maxHeartbeats 4000000 in
theorem c_L_cell (l : Launch) (E : Ev) {b L : Nat} {xs : Nat → Int32} (hbA : ¬ eA E b) (hL : L ≤ 260) {k : Nat} (hk : k < 50) {σ : Sg} : Met l yL_cell (Cond.code yL_cell cL_cell 2 (some .int) :: BIG) { frames := 0, cells := 0, slots := 0, locals := 0 } (PCe E b L xs [.ref b, .int (nI k)] σ) (QI E (fun _ τ => τ = σ)) 0 0 (eA E) := by
  refine Met.ofW (cc := cL_cell) (maxL := 2) (ret := some .int) (by decide) rfl ?_
  intro p e s m args below meth c s₁ B hml hv
  obtain ⟨rfl, ⟨hW, hE⟩, hX⟩ := hv
  have hts := atoms_spec (ws := Cond.code yL_cell cL_cell 2 (some .int) :: BIG) B.pre
  have key : ∀ X : Tx, X = (p, l, e, (headSpec (Cond.code yL_cell cL_cell 2 (some .int) :: BIG) { frames := 0, cells := 0, slots := 0, locals := 0 }).room, s, m, ([.ref b, .int (nI k)] : List Value).toArray, below, meth, c, MQ below (QI E (fun _ τ => τ = σ)) ([.ref b, .int (nI k)] : List Value).toArray s 0 0 (eA E), E, 2) → G X σ [(0, .ref b), (1, .int (nI k))] [] 0 := by
    intro X hXX
    have C : Cx X cL_cell "SweetWrapsLaw" (some .int) 0 0 2 (QI (tE X) (fun _ τ => τ = σ)) := by
      subst hXX
      exact ⟨B.exec, B.bytes, B.returns, hml, findClass_of_methodNamed B.named, B.notSynchronized, fun w h => hts w (List.mem_cons_of_mem _ h), hE, rfl, rfl, rfl⟩
    have hX2 : va_X b L xs (tS X) (tS X).heap := by subst hXX; exact hX
    have hbA2 : ¬ eA (tE X) b := by subst hXX; exact hbA
    clear hXX
    have hbl : b < (tS X).heap.size := by
      obtain ⟨scr, h1, -⟩ := hX2
      exact (Array.getElem?_eq_some_iff.mp h1).1
    have fin : ∀ v : Int32, G X σ [(0, .ref b), (1, .int (nI k))] [.int v] 24 := fun v => gx_iret C rfl rfl dL_cell_24 rfl
    refine gx_iload_n C dL_cell_0 1 rfl ?_
    refine gx_aload_n C dL_cell_1 0 rfl ?_
    refine gx_slen C hX2 hbl hbA2 dL_cell_2 ?_
    refine gx_icmp_ge (tgt := 12) C dL_cell_3 (by decide) (fun _ => ?_) (fun c6 => ?_)
    · refine gx_sipush (v := (7919 : Int32)) C dL_cell_12 (by decide) ?_
      refine gx_iload_n C dL_cell_15 1 rfl ?_
      refine gx_iconst (v := (3 : Int32)) C dL_cell_16 (by decide) ?_
      refine gx_iadd C dL_cell_17 ?_
      refine gx_imul C dL_cell_18 ?_
      refine gx_iload_n C dL_cell_19 1 rfl ?_
      refine gx_bipush (v := (11 : Int32)) C dL_cell_20 (by decide) ?_
      refine gx_iadd C dL_cell_22 ?_
      refine gx_imul C dL_cell_23 ?_
      exact fin _
    · have hkL : k < L := by
        by_cases z : k < L
        · exact z
        · exact absurd (nI_le (Nat.not_lt.mp z) (by omega)) c6
      refine gx_aload_n C dL_cell_6 0 rfl ?_
      refine gx_iload_n C dL_cell_7 1 rfl ?_
      refine gx_sld C hX2 hbl hbA2 rfl hkL (by omega) dL_cell_8 ?_
      refine gx_goto (tgt := 24) C dL_cell_9 (by decide) ?_
      exact fin _
  rw [lg_entry_eq]
  exact key _ rfl s.heap [] _ hW va_S.rf (lv_entry ([.ref b, .int (nI k)] : List Value) (Nat.le_of_ble_eq_true rfl))
theorem ce_blind {E : Ev} {b L : Nat} {xs : Nat → Int32} {av : List Value} {σ : Sg} : FrameBlind (PCe E b L xs av σ) := fun a U g mk q => ⟨q.1, ⟨q.2.1.1, EV.same (u := U) (U := U.calling g mk a) rfl rfl q.2.1.2⟩, va_X.moved (u := U) (U := U.calling g mk a) (Vm.Alike.refl _) q.2.2⟩
theorem gl_cell (C : Cl X cc "SweetWrapsLaw" ret fr lo nL) {b L : Nat} {xs : Nat → Int32} (hX : va_X b L xs (tS X) (tS X).heap) (hbl : b < (tS X).heap.size) (hbA : ¬ eA (tE X) b) (hL : L ≤ 260) {k : Nat} (hk : k < 50) (hR : 0 + 1 ≤ fr ∧ 8 + (2 + 11) + 0 ≤ lo) (hd : decode cc pc = .ok (.invokestatic 83, 3)) (kk : ∀ v : Int32, GL X σ lv [.int v] (pc + 3)) : GL X σ lv [.int (nI k), .ref b] pc := by
  intro H locs ls hW hS hl
  have pre : ∀ U : State, U.heap = H → (tS X).WarmedH U.vm → PCe (tE X) b L xs [.ref b, .int (nI k)] σ ([.ref b, .int (nI k)] : List Value).toArray U := fun U hU hWm => ⟨rfl, ⟨by rw [hU]; exact hW, EV.next C.2.2.2.2.2.2.2.1 hWm hS hU⟩, by
    rw [hU]
    exact va_X.moved hWm.alike (va_X.kept hX (hS.2.1 b hbl hbA))⟩
  exact va_calli (va_runS (As := [.ref b, .int (nI k)]) (rest := []) ⟨C.1, C.2.1, C.2.2.2.1, C.2.2.2.2.1, C.2.2.2.2.2.2.1⟩ (c_L_cell (tL X) (tE X) hbA hL hk) (va_cwS 2 C.2.2.2.2.2.2.1 (big_wsS bw_178 bw_179 bw_0 (big_code bw_180)) rfl rfl rfl hyS_L_cell (by rw [C.2.2.2.2.2.2.2.2.1]; exact hR)) ⟨ce_blind, pre⟩ rfl rfl hl.1 rfl (lv_room (Nat.le_of_ble_eq_true rfl)) hd ⟨by rw [C.2.2.2.2.2.2.2.2.1]; exact Nat.le_refl _, by rw [C.2.2.2.2.2.2.2.2.1]; exact Nat.le_refl _⟩) hS (fun q _ h => h) (fun q h => h) (fun r u t H1 locs1 ht hvm hw hB hz1 hk1 hS1 => by
    have e : u = σ := hw
    subst e
    exact kk r H1 locs1 ls (by rw [← ht]; exact hB) hS1 hl)
end CE
