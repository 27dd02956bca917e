/-! Methods walked by hand: copyNumbers, shapeOf, the index checks of the JDK. -/
theorem pk_refl (n : Nat) : (if nI n < nI n then nI n else nI n) = nI n := by split <;> rfl
theorem dX5_copyNumbers_0 : decode cX5_copyNumbers 0 = .ok (.aload_n 0, 1) := by decide +kernel
theorem dX5_copyNumbers_1 : decode cX5_copyNumbers 1 = .ok (.iconst 0, 1) := by decide +kernel
theorem dX5_copyNumbers_2 : decode cX5_copyNumbers 2 = .ok (.aload_n 1, 1) := by decide +kernel
theorem dX5_copyNumbers_3 : decode cX5_copyNumbers 3 = .ok (.iconst 0, 1) := by decide +kernel
theorem dX5_copyNumbers_4 : decode cX5_copyNumbers 4 = .ok (.aload_n 0, 1) := by decide +kernel
theorem dX5_copyNumbers_5 : decode cX5_copyNumbers 5 = .ok (.arraylength, 1) := by decide +kernel
theorem dX5_copyNumbers_6 : decode cX5_copyNumbers 6 = .ok (.aload_n 1, 1) := by decide +kernel
theorem dX5_copyNumbers_7 : decode cX5_copyNumbers 7 = .ok (.arraylength, 1) := by decide +kernel
theorem dX5_copyNumbers_8 : decode cX5_copyNumbers 8 = .ok (.invokestatic 181, 3) := by decide +kernel
theorem dX5_copyNumbers_11 : decode cX5_copyNumbers 11 = .ok (.invokestatic 186, 3) := by decide +kernel
theorem dX5_copyNumbers_14 : decode cX5_copyNumbers 14 = .ok (.return_, 1) := by decide +kernel
set_option maxHeartbeats 4000000 in
theorem c_X5_copyNumbers (l : Launch) (E : Ev) {m1 k i1 m2 i2 : Nat} (ok1 : okc m1 k i1) (ok2 : okc m2 k i2) {n : Nat} (hn : n < 1000) (he : ∀ m i f, ce E k m i f = .inl (eC E 0, n, .inl f)) {σ : Sg} : CT l E yX5_copyNumbers cX5_copyNumbers 2 none 1 60 [.ref (ad E m1 k i1), .ref (ad E m2 k i2)] σ (QV E (fun σ' => σ' = ua σ m2 k i2 (va_cpy (σ m1 k i1) (σ m2 k i2) 0 0 n))) := by
  refine CT_of (by decide) (Nat.le_of_ble_eq_true rfl) (fun X h1 h2 C => ?_)
  subst h1; subst h2
  have C : Cx X cX5_copyNumbers "SweetWraps" none 1 60 2 (QV (tE X) (fun σ' => σ' = ua σ m2 k i2 (va_cpy (σ m1 k i1) (σ m2 k i2) 0 0 n))) := C
  show G X σ [(0, .ref (ad (tE X) m1 k i1)), (1, .ref (ad (tE X) m2 k i2))] [] 0
  refine gx_aload_n C dX5_copyNumbers_0 0 rfl ?_
  refine gx_iconst (v := (0 : Int32)) C dX5_copyNumbers_1 (by decide) ?_
  refine gx_aload_n C dX5_copyNumbers_2 1 rfl ?_
  refine gx_iconst (v := (0 : Int32)) C dX5_copyNumbers_3 (by decide) ?_
  refine gx_aload_n C dX5_copyNumbers_4 0 rfl ?_
  refine gx_alen C ok1 (he _ _ _) (t0 := 0) rfl (v := nI n) rfl dX5_copyNumbers_5 ?_
  refine gx_aload_n C dX5_copyNumbers_6 1 rfl ?_
  refine gx_alen C ok2 (he _ _ _) (t0 := 0) rfl (v := nI n) rfl dX5_copyNumbers_7 ?_
  refine gx_mmin C dX5_copyNumbers_8 bw_203 bw_204 bw_7 bw_205 ⟨by decide, Nat.le_of_ble_eq_true rfl⟩ ?_
  rw [pk_refl]
  have z : (nI n).toNatClampNeg = n := nI_clamp (by omega)
  refine gx_copy C ok1 ok2 (he _ _) (he _ _) (nI_pos (by omega)) (by rw [z]; exact Nat.le_refl _) (by rw [z]; exact Nat.le_refl _) dX5_copyNumbers_11 bw_206 bw_208 bw_207 bw_8 ⟨by decide, by decide⟩ ?_
  rw [z]
  exact gx_vret C dX5_copyNumbers_14 rfl
theorem hyS_X5_copyNumbers : yX5_copyNumbers.cls ≠ "java/lang/invoke/MethodHandle" ∧ yX5_copyNumbers.cls ≠ "java/lang/invoke/VarHandle" ∧ (parseMethodDescriptor yX5_copyNumbers.desc).map (fun d => d.parameters.length) = some 2 := by decide +kernel
section SM
variable {X : Tx} {cc : ByteArray} {own : String} {ret : Option FieldType} {fr lo nL : Nat} {Qc : Array Value → State → Outcome → State → Prop} {σ : Sg} {lv : List (Nat × Value)} {st : List Value} {pc : Nat}
theorem ce_row (E : Ev) (f : Nat → Int32) {mm : Nat} (hm : mm < 11) (j : Nat) : (.inl (eC E 5, 6, .inr (.inr (.inr (.inr (va_up (fun q => some (ad E (f q).toNatClampNeg 0 0)) j (some (ad E mm 0 0)))))) ) : va_E) = ce E 12 11 0 (upd f j (nI mm)) := by
  have h : va_up (fun q => some (ad E (f q).toNatClampNeg 0 0)) j (some (ad E mm 0 0)) = fun q => some (ad E (upd f j (nI mm) q).toNatClampNeg 0 0) := by
    funext q
    by_cases hq : q = j
    · subst hq
      simp only [va_up, upd, if_true]
      rw [nI_back hm]
    · simp only [va_up, upd, if_neg hq]
  rw [h]
  rfl
theorem gx_aastM (C : Cx X cc own ret fr lo nL Qc) {mm : Nat} (hm : mm < 11) {x : Int32} (hx : vp_in x 6) (j : Nat) (hj : x.toNatClampNeg = j) (hd : decode cc pc = .ok (.aastore, 1)) (kk : G X (ua σ 11 12 0 (upd (σ 11 12 0) j (nI mm))) lv st (pc + 1)) : G X σ lv (.ref (ad (tE X) mm 0 0) :: .int x :: .ref (ad (tE X) 11 12 0) :: st) pc := by
  intro H locs ls hW hS hl
  obtain ⟨q, hq, hwl⟩ := wl_at (tE X) σ okg_12
  obtain ⟨qk, hqk, hwk⟩ := wl_at (tE X) σ (ok0 hm)
  refine va_astq C.1 C.2.1 C.2.2.2.2.2.2.2.1.1 hW (wl_D _ _ C.2.2.2.2.2.2.2.1.2.1) hS q 5 qk 2 (n := 6) (f := fun q => some (ad (tE X) (σ 11 12 0 q).toNatClampNeg 0 0)) (r := (RX2, TX2, 8)) hwl rfl hwk rfl hx hd (fun H1 locs1 hP1 hD1 hS1 => ?_)
  rw [hj, ce_row _ _ hm, wl_set _ _ hq] at hP1
  exact kk H1 locs1 ls hP1 hS1 hl
end SM
