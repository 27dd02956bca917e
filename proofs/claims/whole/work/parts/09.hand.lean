/-! Methods walked by hand: copyNumbers, shapeOf, the index checks of the JDK. -/
theorem pk_refl (n : Nat) : (if nI n < nI n then nI n else nI n) = nI n := by split <;> rfl
theorem dX5_copyNumbers_0 : decode cX5_copyNumbers 0 = .ok (.aload_n 0, 1) := by decide +kernel
theorem dX5_copyNumbers_1 : decode cX5_copyNumbers 1 = .ok (.iconst 0, 1) := by decide +kernel
theorem dX5_copyNumbers_2 : decode cX5_copyNumbers 2 = .ok (.aload_n 1, 1) := by decide +kernel
theorem dX5_copyNumbers_3 : decode cX5_copyNumbers 3 = .ok (.iconst 0, 1) := by decide +kernel
theorem dX5_copyNumbers_4 : decode cX5_copyNumbers 4 = .ok (.aload_n 0, 1) := by decide +kernel
theorem dX5_copyNumbers_5 : decode cX5_copyNumbers 5 = .ok (.arraylength, 1) := by decide +kernel
theorem dX5_copyNumbers_6 : decode cX5_copyNumbers 6 = .ok (.aload_n 1, 1) := by decide +kernel
theorem dX5_copyNumbers_7 : decode cX5_copyNumbers 7 = .ok (.arraylength, 1) := by decide +kernel
theorem dX5_copyNumbers_8 : decode cX5_copyNumbers 8 = .ok (.invokestatic 181, 3) := by decide +kernel
theorem dX5_copyNumbers_11 : decode cX5_copyNumbers 11 = .ok (.invokestatic 186, 3) := by decide +kernel
theorem dX5_copyNumbers_14 : decode cX5_copyNumbers 14 = .ok (.return_, 1) := by decide +kernel
set_option maxHeartbeats 4000000 in
theorem c_X5_copyNumbers (l : Launch) (E : Ev) {m1 k i1 m2 i2 : Nat} (ok1 : okc m1 k i1) (ok2 : okc m2 k i2) {n : Nat} (hn : n < 1000) (he : ∀ m i f, ce E k m i f = .inl (eC E 0, n, .inl f)) {σ : Sg} : CT l E yX5_copyNumbers cX5_copyNumbers 2 none 1 60 [.ref (ad E m1 k i1), .ref (ad E m2 k i2)] σ (QV E (fun σ' => σ' = ua σ m2 k i2 (va_cpy (σ m1 k i1) (σ m2 k i2) 0 0 n))) := by
  refine CT_of (by decide) (Nat.le_of_ble_eq_true rfl) (fun X h1 h2 C => ?_)
  subst h1; subst h2
  have C : Cx X cX5_copyNumbers "SweetWraps" none 1 60 2 (QV (tE X) (fun σ' => σ' = ua σ m2 k i2 (va_cpy (σ m1 k i1) (σ m2 k i2) 0 0 n))) := C
  show G X σ [(0, .ref (ad (tE X) m1 k i1)), (1, .ref (ad (tE X) m2 k i2))] [] 0
  refine gx_aload_n C dX5_copyNumbers_0 0 rfl ?_
  refine gx_iconst (v := (0 : Int32)) C dX5_copyNumbers_1 (by decide) ?_
  refine gx_aload_n C dX5_copyNumbers_2 1 rfl ?_
  refine gx_iconst (v := (0 : Int32)) C dX5_copyNumbers_3 (by decide) ?_
  refine gx_aload_n C dX5_copyNumbers_4 0 rfl ?_
  refine gx_alen C ok1 (he _ _ _) (t0 := 0) rfl (v := nI n) rfl dX5_copyNumbers_5 ?_
  refine gx_aload_n C dX5_copyNumbers_6 1 rfl ?_
  refine gx_alen C ok2 (he _ _ _) (t0 := 0) rfl (v := nI n) rfl dX5_copyNumbers_7 ?_
  refine gx_mmin C dX5_copyNumbers_8 bw_205 bw_206 bw_8 bw_207 ⟨by decide, Nat.le_of_ble_eq_true rfl⟩ ?_
  rw [pk_refl]
  have z : (nI n).toNatClampNeg = n := nI_clamp (by omega)
  refine gx_copy C ok1 ok2 (he _ _) (he _ _) (nI_pos (by omega)) (by rw [z]; exact Nat.le_refl _) (by rw [z]; exact Nat.le_refl _) dX5_copyNumbers_11 bw_208 bw_210 bw_209 bw_9 ⟨by decide, by decide⟩ ?_
  rw [z]
  exact gx_vret C dX5_copyNumbers_14 rfl
theorem hyS_X5_copyNumbers : yX5_copyNumbers.cls ≠ "java/lang/invoke/MethodHandle" ∧ yX5_copyNumbers.cls ≠ "java/lang/invoke/VarHandle" ∧ (parseMethodDescriptor yX5_copyNumbers.desc).map (fun d => d.parameters.length) = some 2 := by decide +kernel
theorem dX3_shapeOf_0 : decode cX3_shapeOf 0 = .ok (.iload_n 0, 1) := by decide +kernel
theorem dX3_shapeOf_1 : decode cX3_shapeOf 1 = .ok (.tableswitch 113 97 116 #[107, 113, 113, 113, 113, 98, 113, 95, 113, 113, 113, 113, 113, 113, 113, 113, 113, 110, 104, 101], 95) := by decide +kernel
theorem dX3_shapeOf_96 : decode cX3_shapeOf 96 = .ok (.ldc 79, 2) := by decide +kernel
theorem dX3_shapeOf_98 : decode cX3_shapeOf 98 = .ok (.areturn, 1) := by decide +kernel
theorem dX3_shapeOf_99 : decode cX3_shapeOf 99 = .ok (.ldc 81, 2) := by decide +kernel
theorem dX3_shapeOf_101 : decode cX3_shapeOf 101 = .ok (.areturn, 1) := by decide +kernel
theorem dX3_shapeOf_102 : decode cX3_shapeOf 102 = .ok (.ldc 83, 2) := by decide +kernel
theorem dX3_shapeOf_104 : decode cX3_shapeOf 104 = .ok (.areturn, 1) := by decide +kernel
theorem dX3_shapeOf_105 : decode cX3_shapeOf 105 = .ok (.ldc 85, 2) := by decide +kernel
theorem dX3_shapeOf_107 : decode cX3_shapeOf 107 = .ok (.areturn, 1) := by decide +kernel
theorem dX3_shapeOf_108 : decode cX3_shapeOf 108 = .ok (.ldc 87, 2) := by decide +kernel
theorem dX3_shapeOf_110 : decode cX3_shapeOf 110 = .ok (.areturn, 1) := by decide +kernel
theorem dX3_shapeOf_111 : decode cX3_shapeOf 111 = .ok (.ldc 89, 2) := by decide +kernel
theorem dX3_shapeOf_113 : decode cX3_shapeOf 113 = .ok (.areturn, 1) := by decide +kernel
theorem dX3_shapeOf_114 : decode cX3_shapeOf 114 = .ok (.ldc 91, 2) := by decide +kernel
theorem dX3_shapeOf_116 : decode cX3_shapeOf 116 = .ok (.areturn, 1) := by decide +kernel
def shp (k : Int32) : Nat := if k = 97 then 4 else if k = 102 then 1 else if k = 104 then 0 else if k = 114 then 5 else if k = 115 then 3 else if k = 116 then 2 else 6
theorem shp_lt (k : Int32) : shp k < 7 := by
  unfold shp
  repeat' split
  all_goals decide
section SH
variable {X : Tx} {cc : ByteArray} {own : String} {ret : Option FieldType} {fr lo nL : Nat} {Qc : Array Value → State → Outcome → State → Prop} {σ : Sg} {lv : List (Nat × Value)} {st : List Value} {pc : Nat}
abbrev QS (E : Ev) (σ : Sg) (j : Nat) : Array Value → State → Outcome → State → Prop := va_Qr (fun u : Sg => u = σ) (fun u a t => a = eK E j ∧ WD E u t.heap) (eA E)
theorem gx_aretS {j0 : Nat} (C : Cx X cc own (some (.object "java/lang/String")) fr lo nL (QS (tE X) σ j0)) {j : Nat} (e : j = j0) (hd : decode cc pc = .ok (.areturn, 1)) : G X σ lv [.ref (eK (tE X) j)] pc := by
  intro H locs ls hW hS hl
  subst e
  unfold GH
  rw [C.2.2.2.2.2.2.2.2.2.2]
  exact W.aret C.1 C.2.1 C.2.2.1 (Or.inl ⟨_, rfl⟩) (Or.inr ⟨_, rfl⟩) (fun t ht hWm => ⟨⟨σ, _, rfl, rfl, rfl, by show WD (tE X) σ t.heap; rw [ht]; exact hW⟩, hS.F ht⟩) hS.2.2 hd C.2.2.2.2.2.1
set_option maxHeartbeats 4000000 in
theorem c_X3_shapeOf (l : Launch) (E : Ev) {x : Int32} {σ : Sg} : CT l E yX3_shapeOf cX3_shapeOf 1 (some (.object "java/lang/String")) 0 0 [.int x] σ (QS E σ (shp x)) := by
  refine CT_of (by decide) (Nat.le_of_ble_eq_true rfl) (fun X h1 h2 C => ?_)
  subst h1; subst h2
  have C : Cx X cX3_shapeOf "SweetWraps$Pad" (some (.object "java/lang/String")) 0 0 1 (QS (tE X) σ (shp x)) := C
  show G X σ [(0, .int x)] [] 0
  refine gx_iload_n C dX3_shapeOf_0 0 rfl ?_
  by_cases c0 : x = (97 : Int32)
  · refine gx_table (tgt := 108) (off := 107) C dX3_shapeOf_1 (97 : Int32) c0 (by decide) (by decide) rfl (by decide) ?_
    refine gx_ldcS C 4 (by decide) rfl rfl dX3_shapeOf_108 ?_
    exact gx_aretS C (by rw [c0]; rfl) dX3_shapeOf_110
  · skip
    by_cases c1 : x = (102 : Int32)
    · refine gx_table (tgt := 99) (off := 98) C dX3_shapeOf_1 (102 : Int32) c1 (by decide) (by decide) rfl (by decide) ?_
      refine gx_ldcS C 1 (by decide) rfl rfl dX3_shapeOf_99 ?_
      exact gx_aretS C (by rw [c1]; rfl) dX3_shapeOf_101
    · skip
      by_cases c2 : x = (104 : Int32)
      · refine gx_table (tgt := 96) (off := 95) C dX3_shapeOf_1 (104 : Int32) c2 (by decide) (by decide) rfl (by decide) ?_
        refine gx_ldcS C 0 (by decide) rfl rfl dX3_shapeOf_96 ?_
        exact gx_aretS C (by rw [c2]; rfl) dX3_shapeOf_98
      · skip
        by_cases c3 : x = (114 : Int32)
        · refine gx_table (tgt := 111) (off := 110) C dX3_shapeOf_1 (114 : Int32) c3 (by decide) (by decide) rfl (by decide) ?_
          refine gx_ldcS C 5 (by decide) rfl rfl dX3_shapeOf_111 ?_
          exact gx_aretS C (by rw [c3]; rfl) dX3_shapeOf_113
        · skip
          by_cases c4 : x = (115 : Int32)
          · refine gx_table (tgt := 105) (off := 104) C dX3_shapeOf_1 (115 : Int32) c4 (by decide) (by decide) rfl (by decide) ?_
            refine gx_ldcS C 3 (by decide) rfl rfl dX3_shapeOf_105 ?_
            exact gx_aretS C (by rw [c4]; rfl) dX3_shapeOf_107
          · skip
            by_cases c5 : x = (116 : Int32)
            · refine gx_table (tgt := 102) (off := 101) C dX3_shapeOf_1 (116 : Int32) c5 (by decide) (by decide) rfl (by decide) ?_
              refine gx_ldcS C 2 (by decide) rfl rfl dX3_shapeOf_102 ?_
              exact gx_aretS C (by rw [c5]; rfl) dX3_shapeOf_104
            · skip
              refine gx_tableD (tgt := 114) C dX3_shapeOf_1 (by decide) [((107 : Int), (0 : Nat)), ((113 : Int), (1 : Nat)), ((113 : Int), (2 : Nat)), ((113 : Int), (3 : Nat)), ((113 : Int), (4 : Nat)), ((98 : Int), (5 : Nat)), ((113 : Int), (6 : Nat)), ((95 : Int), (7 : Nat)), ((113 : Int), (8 : Nat)), ((113 : Int), (9 : Nat)), ((113 : Int), (10 : Nat)), ((113 : Int), (11 : Nat)), ((113 : Int), (12 : Nat)), ((113 : Int), (13 : Nat)), ((113 : Int), (14 : Nat)), ((113 : Int), (15 : Nat)), ((113 : Int), (16 : Nat)), ((110 : Int), (17 : Nat)), ((104 : Int), (18 : Nat)), ((101 : Int), (19 : Nat))] rfl (List.forall_mem_cons.mpr ⟨Or.inr ⟨(97 : Int32), c0, by decide⟩, List.forall_mem_cons.mpr ⟨Or.inl rfl, List.forall_mem_cons.mpr ⟨Or.inl rfl, List.forall_mem_cons.mpr ⟨Or.inl rfl, List.forall_mem_cons.mpr ⟨Or.inl rfl, List.forall_mem_cons.mpr ⟨Or.inr ⟨(102 : Int32), c1, by decide⟩, List.forall_mem_cons.mpr ⟨Or.inl rfl, List.forall_mem_cons.mpr ⟨Or.inr ⟨(104 : Int32), c2, by decide⟩, List.forall_mem_cons.mpr ⟨Or.inl rfl, List.forall_mem_cons.mpr ⟨Or.inl rfl, List.forall_mem_cons.mpr ⟨Or.inl rfl, List.forall_mem_cons.mpr ⟨Or.inl rfl, List.forall_mem_cons.mpr ⟨Or.inl rfl, List.forall_mem_cons.mpr ⟨Or.inl rfl, List.forall_mem_cons.mpr ⟨Or.inl rfl, List.forall_mem_cons.mpr ⟨Or.inl rfl, List.forall_mem_cons.mpr ⟨Or.inl rfl, List.forall_mem_cons.mpr ⟨Or.inr ⟨(114 : Int32), c3, by decide⟩, List.forall_mem_cons.mpr ⟨Or.inr ⟨(115 : Int32), c4, by decide⟩, List.forall_mem_cons.mpr ⟨Or.inr ⟨(116 : Int32), c5, by decide⟩, fun _ h => absurd h List.not_mem_nil⟩⟩⟩⟩⟩⟩⟩⟩⟩⟩⟩⟩⟩⟩⟩⟩⟩⟩⟩⟩) (by decide) ?_
              refine gx_ldcS C 6 (by decide) rfl rfl dX3_shapeOf_114 ?_
              exact gx_aretS C (by simp only [shp, if_neg c0, if_neg c1, if_neg c2, if_neg c3, if_neg c4, if_neg c5]) dX3_shapeOf_116
theorem hyS_X3_shapeOf : yX3_shapeOf.cls ≠ "java/lang/invoke/MethodHandle" ∧ yX3_shapeOf.cls ≠ "java/lang/invoke/VarHandle" ∧ (parseMethodDescriptor yX3_shapeOf.desc).map (fun d => d.parameters.length) = some 1 := by decide +kernel
theorem gx_shapeOf (C : Cx X cc "SweetWraps$Pad" ret fr lo nL Qc) {x : Int32} {j idx : Nat} (hd : decode cc pc = .ok (.invokestatic idx, 3)) (h1 : Cond.methodLink "SweetWraps$Pad" idx yX3_shapeOf ∈ BIG) (ej : j = shp x) (hR : 0 + 1 ≤ fr ∧ 8 + (1 + 11) + 0 ≤ lo) (kk : G X σ lv [.ref (eK (tE X) j)] (pc + 3)) : G X σ lv [.int x] pc := by
  intro H locs ls hW hS hl
  subst ej
  exact va_callr (va_runS (As := [.int x]) (rest := []) ⟨C.1, C.2.1, C.2.2.2.1, C.2.2.2.2.1, C.2.2.2.2.2.2.1⟩ (c_X3_shapeOf (tL X) (tE X)) (va_cwS 1 C.2.2.2.2.2.2.1 (big_wsS h1 bw_554 bw_6 (big_code bw_555)) rfl rfl rfl hyS_X3_shapeOf (by rw [C.2.2.2.2.2.2.2.2.1]; exact hR)) ⟨big_blind, big_pre C hW hS⟩ rfl rfl hl.1 rfl (lv_room (Nat.le_of_ble_eq_true rfl)) hd ⟨Nat.zero_le _, Nat.zero_le _⟩) hS (fun q _ h => h) (fun q h => h) (fun u ra t H1 locs1 ht hvm hw hB hz1 hk1 hS1 => by
    obtain ⟨e1, e2⟩ := hB
    subst e1
    subst hw
    exact kk H1 locs1 ls (by rw [← ht]; exact e2) hS1 hl)
theorem gx_tableD_ok : True := trivial
end SH
theorem dJ3_checkIndex_8e157_0 : decode cJ3_checkIndex_8e157 0 = .ok (.iload_n 0, 1) := by decide +kernel
theorem dJ3_checkIndex_8e157_1 : decode cJ3_checkIndex_8e157 1 = .ok (.ifCond .lt 8, 3) := by decide +kernel
theorem dJ3_checkIndex_8e157_4 : decode cJ3_checkIndex_8e157 4 = .ok (.iload_n 0, 1) := by decide +kernel
theorem dJ3_checkIndex_8e157_5 : decode cJ3_checkIndex_8e157 5 = .ok (.iload_n 1, 1) := by decide +kernel
theorem dJ3_checkIndex_8e157_6 : decode cJ3_checkIndex_8e157 6 = .ok (.if_icmp .lt 10, 3) := by decide +kernel
theorem dJ3_checkIndex_8e157_16 : decode cJ3_checkIndex_8e157 16 = .ok (.iload_n 0, 1) := by decide +kernel
theorem dJ3_checkIndex_8e157_17 : decode cJ3_checkIndex_8e157 17 = .ok (.ireturn, 1) := by decide +kernel
theorem dJ0_checkIndex_df160_0 : decode cJ0_checkIndex_df160 0 = .ok (.iload_n 0, 1) := by decide +kernel
theorem dJ0_checkIndex_df160_1 : decode cJ0_checkIndex_df160 1 = .ok (.iload_n 1, 1) := by decide +kernel
theorem dJ0_checkIndex_df160_2 : decode cJ0_checkIndex_df160 2 = .ok (.getstatic 1053, 3) := by decide +kernel
theorem dJ0_checkIndex_df160_5 : decode cJ0_checkIndex_df160 5 = .ok (.invokestatic 1059, 3) := by decide +kernel
theorem dJ0_checkIndex_df160_8 : decode cJ0_checkIndex_df160 8 = .ok (.pop, 1) := by decide +kernel
theorem dJ0_checkIndex_df160_9 : decode cJ0_checkIndex_df160 9 = .ok (.return_, 1) := by decide +kernel
set_option maxHeartbeats 4000000 in
theorem c_J3_checkIndex (l : Launch) (E : Ev) {x0 x1 : Int32} {f : Option Nat} {σ : Sg} {Q : Int32 → Sg → Prop} (h0 : ¬ x0 < 0) (h1 : x0 < x1) (hw : Q x0 σ) : CT l E yJ3_checkIndex_8e157 cJ3_checkIndex_8e157 3 (some .int) 0 0 [.int x0, .int x1, va_rf f] σ (QI E Q) := by
  have hcat : (lg_sl [.int x0, .int x1, va_rf f]).length ≤ 3 := by cases f <;> exact Nat.le_of_ble_eq_true rfl
  refine CT_of (by decide) hcat (fun X h2 h3 C => ?_)
  subst h2; subst h3
  have C : Cx X cJ3_checkIndex_8e157 "jdk/internal/util/Preconditions" (some .int) 0 0 3 (QI (tE X) Q) := C
  have e : lv_args 0 [.int x0, .int x1, va_rf f] = [(0, .int x0), (1, .int x1), (2, va_rf f)] := by cases f <;> rfl
  rw [e]
  refine gx_iload_n C dJ3_checkIndex_8e157_0 0 rfl ?_
  refine gx_if_lt (tgt := 9) C dJ3_checkIndex_8e157_1 (by decide) (fun c => ?_) (fun c => ?_)
  · exact absurd c h0
  · refine gx_iload_n C dJ3_checkIndex_8e157_4 0 rfl ?_
    refine gx_iload_n C dJ3_checkIndex_8e157_5 1 rfl ?_
    refine gx_icmp_lt (tgt := 16) C dJ3_checkIndex_8e157_6 (by decide) (fun c => ?_) (fun c => ?_)
    · refine gx_iload_n C dJ3_checkIndex_8e157_16 0 rfl ?_
      exact gx_iret C rfl rfl dJ3_checkIndex_8e157_17 hw
    · exact absurd h1 c
theorem hyS_J3_checkIndex : yJ3_checkIndex_8e157.cls ≠ "java/lang/invoke/MethodHandle" ∧ yJ3_checkIndex_8e157.cls ≠ "java/lang/invoke/VarHandle" ∧ (parseMethodDescriptor yJ3_checkIndex_8e157.desc).map (fun d => d.parameters.length) = some 3 := by decide +kernel
section SI
variable {X : Tx} {cc : ByteArray} {own : String} {ret : Option FieldType} {fr lo nL : Nat} {Qc : Array Value → State → Outcome → State → Prop} {σ : Sg} {lv : List (Nat × Value)} {st : List Value} {pc : Nat}
theorem gx_sioobe (C : Cx X cc own ret fr lo nL Qc) {idx : Nat} (hw : Cond.fieldLink own idx "jdk/internal/util/Preconditions" "SIOOBE_FORMATTER" "Ljava/util/function/BiFunction;" ∈ BIG) (hd : decode cc pc = .ok (.getstatic idx, 3)) (kk : ∀ f : Option Nat, G X σ lv (va_rf f :: st) (pc + 3)) : G X σ lv st pc := by
  intro H locs ls hW hS hl
  rcases C.2.2.2.2.2.2.2.1.2.2.2.2.2.2.2.2.2.2.2 with h | ⟨t, h⟩
  · exact va_gets C.1 C.2.1 h hS C.2.2.2.2.1 (C.2.2.2.2.2.2.1 _ hw) (fun _ h => h) hd (kk none H locs ls hW hS hl)
  · exact va_gets C.1 C.2.1 h hS C.2.2.2.2.1 (C.2.2.2.2.2.2.1 _ hw) (fun _ h => h) hd (kk (some t) H locs ls hW hS hl)
end SI
def wp_J0_checkIndex_df160 (x0 x1 : Int32) (σ : Sg) (Q : Sg → Prop) : Prop := ¬ x0 < 0 ∧ x0 < x1 ∧ Q σ
set_option maxHeartbeats 4000000 in
theorem c_J0_checkIndex_df160 (l : Launch) (E : Ev) {x0 x1 : Int32} {σ : Sg} {Q : Sg → Prop} (hw : wp_J0_checkIndex_df160 x0 x1 σ Q) : CT l E yJ0_checkIndex_df160 cJ0_checkIndex_df160 2 none 1 60 [.int x0, .int x1] σ (QV E Q) := by
  refine CT_of (by decide) (Nat.le_of_ble_eq_true rfl) (fun X h1 h2 C => ?_)
  subst h1; subst h2
  have C : Cx X cJ0_checkIndex_df160 "java/lang/String" none 1 60 2 (QV (tE X) Q) := C
  show G X σ [(0, .int x0), (1, .int x1)] [] 0
  refine gx_iload_n C dJ0_checkIndex_df160_0 0 rfl ?_
  refine gx_iload_n C dJ0_checkIndex_df160_1 1 rfl ?_
  refine gx_sioobe C bw_587 dJ0_checkIndex_df160_2 (fun f => ?_)
  refine gx_scalli (As := [.int x0, .int x1, va_rf f]) (rest := []) C (c_J3_checkIndex (Q := fun _ σ' => σ' = σ) _ _ hw.1 hw.2.1 rfl) bw_589 bw_590 bw_12 bw_591 hyS_J3_checkIndex ⟨by decide, by decide⟩ rfl (Nat.le_of_ble_eq_true rfl) dJ0_checkIndex_df160_5 (fun r σ' h => ?_)
  subst h
  refine gx_pop C dJ0_checkIndex_df160_8 rfl ?_
  exact gx_vret C dJ0_checkIndex_df160_9 hw.2.2
theorem hyS_J0_checkIndex_df160 : yJ0_checkIndex_df160.cls ≠ "java/lang/invoke/MethodHandle" ∧ yJ0_checkIndex_df160.cls ≠ "java/lang/invoke/VarHandle" ∧ (parseMethodDescriptor yJ0_checkIndex_df160.desc).map (fun d => d.parameters.length) = some 2 := by decide +kernel
section SM
variable {X : Tx} {cc : ByteArray} {own : String} {ret : Option FieldType} {fr lo nL : Nat} {Qc : Array Value → State → Outcome → State → Prop} {σ : Sg} {lv : List (Nat × Value)} {st : List Value} {pc : Nat}
theorem ce_row (E : Ev) (f : Nat → Int32) {mm : Nat} (hm : mm < 11) (j : Nat) : (.inl (eC E 5, 6, .inr (.inr (.inr (.inr (va_up (fun q => some (ad E (f q).toNatClampNeg 0 0)) j (some (ad E mm 0 0)))))) ) : va_E) = ce E 12 11 0 (upd f j (nI mm)) := by
  have h : va_up (fun q => some (ad E (f q).toNatClampNeg 0 0)) j (some (ad E mm 0 0)) = fun q => some (ad E (upd f j (nI mm) q).toNatClampNeg 0 0) := by
    funext q
    by_cases hq : q = j
    · subst hq
      simp only [va_up, upd, if_true]
      rw [nI_back hm]
    · simp only [va_up, upd, if_neg hq]
  rw [h]
  rfl
theorem gx_aastM (C : Cx X cc own ret fr lo nL Qc) {mm : Nat} (hm : mm < 11) {x : Int32} (hx : vp_in x 6) (j : Nat) (hj : x.toNatClampNeg = j) (hd : decode cc pc = .ok (.aastore, 1)) (kk : G X (ua σ 11 12 0 (upd (σ 11 12 0) j (nI mm))) lv st (pc + 1)) : G X σ lv (.ref (ad (tE X) mm 0 0) :: .int x :: .ref (ad (tE X) 11 12 0) :: st) pc := by
  intro H locs ls hW hS hl
  obtain ⟨q, hq, hwl⟩ := wl_at (tE X) σ okg_12
  obtain ⟨qk, hqk, hwk⟩ := wl_at (tE X) σ (ok0 hm)
  refine va_astq C.1 C.2.1 C.2.2.2.2.2.2.2.1.1 hW (wl_D _ _ C.2.2.2.2.2.2.2.1.2.1) hS q 5 qk 2 (n := 6) (f := fun q => some (ad (tE X) (σ 11 12 0 q).toNatClampNeg 0 0)) (r := (RX2, TX2, 8)) hwl rfl hwk rfl hx hd (fun H1 locs1 hP1 hD1 hS1 => ?_)
  rw [hj, ce_row _ _ hm, wl_set _ _ hq] at hP1
  exact kk H1 locs1 ls hP1 hS1 hl
end SM
