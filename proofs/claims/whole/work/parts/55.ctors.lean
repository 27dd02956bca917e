/-! The constructors. -/
abbrev zX0 : va_E := .inr (0, [.null, .null, .int 0])
abbrev zX1 : va_E := .inr (1, [.null, .null, .int 0, .int 0, .int 0, .int 0, .int 0, .int 0])
abbrev zX2 : va_E := .inr (2, [.null, .null, .null, .null, .int 0, .int 0, .int 0, .int 0])
abbrev zX3 : va_E := .inr (3, [.null, .null, .int 0, .int 0, .int 0, .int 0])
abbrev zX4 : va_E := .inr (4, [.null, .int 0, .int 0, .int 0])
abbrev zX5 : va_E := .inr (5, [.null, .null, .null, .null, .null, .null])
abbrev zX6 : va_E := .inr (6, [.null, .null, .null, .int 0, .null, .null, .null, .int 0, .null, .int 0, .int 0])
abbrev iaE (E : Ev) (n : Nat) : va_E := .inl (eC E 0, n, .inl (fun _ => 0))
def stF : Nat → Int32 := upd (upd (upd (upd (fun _ => 0) 0 3) 1 20) 2 12) 3 1
def esTin (E : Ev) (b : Nat) : List va_E := [.inr (4, [.ref (b + 1), .int 0, .int 0, .int 0]), iaE E 6]
def esLane (E : Ev) (b : Nat) : List va_E := [.inr (1, [.ref (b + 1), .ref (b + 2), .int 0, .int 0, .int 0, .int 0, .int 0, .int 0]), iaE E 6, iaE E 6]
def esPad (E : Ev) (b : Nat) : List va_E := [.inr (3, [.ref (b + 1), .ref (b + 2), .int 0, .int 0, .int 0, .int 0]), .inl (eC E 2, 80, .inl (fun _ => 0)), iaE E 3]
def esModel (E : Ev) (b : Nat) : List va_E := [.inr (6, [.ref (b + 1), .ref (b + 2), .ref (b + 3), .int 0, .ref (b + 4), .ref (b + 5), .ref (b + 6), .int 0, .ref (b + 7), .int 0, .int 0]), .inl (eC E 0, 194, .inl stF), iaE E 194, iaE E 1164, iaE E 388, .inl (eC E 1, 2, .inl (fun _ => 0)), iaE E 80, iaE E 4]
theorem dX4_init_0 : decode cX4_init 0 = .ok (.aload_n 0, 1) := by decide +kernel
theorem dX4_init_1 : decode cX4_init 1 = .ok (.invokespecial 3, 3) := by decide +kernel
theorem dX4_init_4 : decode cX4_init 4 = .ok (.aload_n 0, 1) := by decide +kernel
theorem dX4_init_5 : decode cX4_init 5 = .ok (.bipush 6, 2) := by decide +kernel
theorem dX4_init_7 : decode cX4_init 7 = .ok (.newarray .int, 2) := by decide +kernel
theorem dX4_init_9 : decode cX4_init 9 = .ok (.putfield 9, 3) := by decide +kernel
theorem dX4_init_12 : decode cX4_init 12 = .ok (.return_, 1) := by decide +kernel
set_option maxHeartbeats 4000000 in
set_option maxRecDepth 100000 in
theorem c_X4_init (l : Launch) (E : Ev) (b : Nat) : CN l E yX4_init cX4_init 1 1 12 1 6 b zX4 (esTin E b) := by
  refine CN_of (by decide) rfl (by decide) (fun X hL hE C hi hret hlk hZ => ?_)
  subst hL
  subst hE
  have C : Cy X cX4_init "SweetWraps$Tin" 1 12 1 1 6 := C
  show GB X b [.inr (4, [.null, .int 0, .int 0, .int 0])] 0 0 [(0, .ref b)] [] 0
  refine gb_aload_n C dX4_init_0 0 rfl ?_
  refine gb_objInit C bw_75 ⟨by decide, by decide⟩ dX4_init_1 ?_
  refine gb_aload_n C dX4_init_4 0 rfl ?_
  refine gb_bipush (v := (6 : Int32)) C dX4_init_5 (by decide) ?_
  refine gb_newa (atype := .int) (ty := .int) (N' := 6) (a0 := (6, .inl (fun _ => 0))) C rfl bw_70 0 rfl (fun h => h) rfl (by decide) (by decide) (Nat.le_of_ble_eq_true rfl) (Nat.le_of_ble_eq_true rfl) (Nat.le_of_ble_eq_true rfl) (o := b + 1) rfl dX4_init_7 ?_
  show GB X b ([.inr (4, [.null, .int 0, .int 0, .int 0]), .inl (eC (tE X) 0, 6, .inl (fun _ => 0))] : List va_E) 1 6 [(0, .ref b)] [.ref (b + 1), .ref b] 9
  refine gb_putF (T := TX4) (N := 4) C hi 0  rfl rfl inX4 tyX4 tyX4_ok nmX4 0 (by decide) bw_76 rfl rfl rfl rfl (by show 0 < 4; decide) (Nat.add_zero b).symm dX4_init_9 (es' := [.inr (4, [.ref (b + 1), .int 0, .int 0, .int 0]), .inl (eC (tE X) 0, 6, .inl (fun _ => 0))]) rfl ?_
  exact gb_vret C hret hlk rfl hZ (Nat.le_of_ble_eq_true rfl) (Nat.le_of_ble_eq_true rfl) dX4_init_12
theorem dX1_init_0 : decode cX1_init 0 = .ok (.aload_n 0, 1) := by decide +kernel
theorem dX1_init_1 : decode cX1_init 1 = .ok (.invokespecial 3, 3) := by decide +kernel
theorem dX1_init_4 : decode cX1_init 4 = .ok (.aload_n 0, 1) := by decide +kernel
theorem dX1_init_5 : decode cX1_init 5 = .ok (.bipush 6, 2) := by decide +kernel
theorem dX1_init_7 : decode cX1_init 7 = .ok (.newarray .int, 2) := by decide +kernel
theorem dX1_init_9 : decode cX1_init 9 = .ok (.putfield 9, 3) := by decide +kernel
theorem dX1_init_12 : decode cX1_init 12 = .ok (.aload_n 0, 1) := by decide +kernel
theorem dX1_init_13 : decode cX1_init 13 = .ok (.bipush 6, 2) := by decide +kernel
theorem dX1_init_15 : decode cX1_init 15 = .ok (.newarray .int, 2) := by decide +kernel
theorem dX1_init_17 : decode cX1_init 17 = .ok (.putfield 15, 3) := by decide +kernel
theorem dX1_init_20 : decode cX1_init 20 = .ok (.return_, 1) := by decide +kernel
set_option maxHeartbeats 4000000 in
set_option maxRecDepth 100000 in
theorem c_X1_init (l : Launch) (E : Ev) (b : Nat) : CN l E yX1_init cX1_init 1 1 12 2 12 b zX1 (esLane E b) := by
  refine CN_of (by decide) rfl (by decide) (fun X hL hE C hi hret hlk hZ => ?_)
  subst hL
  subst hE
  have C : Cy X cX1_init "SweetWraps$Lane" 1 12 1 2 12 := C
  show GB X b [.inr (1, [.null, .null, .int 0, .int 0, .int 0, .int 0, .int 0, .int 0])] 0 0 [(0, .ref b)] [] 0
  refine gb_aload_n C dX1_init_0 0 rfl ?_
  refine gb_objInit C bw_36 ⟨by decide, by decide⟩ dX1_init_1 ?_
  refine gb_aload_n C dX1_init_4 0 rfl ?_
  refine gb_bipush (v := (6 : Int32)) C dX1_init_5 (by decide) ?_
  refine gb_newa (atype := .int) (ty := .int) (N' := 6) (a0 := (6, .inl (fun _ => 0))) C rfl bw_70 0 rfl (fun h => h) rfl (by decide) (by decide) (Nat.le_of_ble_eq_true rfl) (Nat.le_of_ble_eq_true rfl) (Nat.le_of_ble_eq_true rfl) (o := b + 1) rfl dX1_init_7 ?_
  show GB X b ([.inr (1, [.null, .null, .int 0, .int 0, .int 0, .int 0, .int 0, .int 0]), .inl (eC (tE X) 0, 6, .inl (fun _ => 0))] : List va_E) 1 6 [(0, .ref b)] [.ref (b + 1), .ref b] 9
  refine gb_putF (T := TX1) (N := 8) C hi 0  rfl rfl inX1 tyX1 tyX1_ok nmX1 0 (by decide) bw_37 rfl rfl rfl rfl (by show 0 < 8; decide) (Nat.add_zero b).symm dX1_init_9 (es' := [.inr (1, [.ref (b + 1), .null, .int 0, .int 0, .int 0, .int 0, .int 0, .int 0]), .inl (eC (tE X) 0, 6, .inl (fun _ => 0))]) rfl ?_
  refine gb_aload_n C dX1_init_12 0 rfl ?_
  refine gb_bipush (v := (6 : Int32)) C dX1_init_13 (by decide) ?_
  refine gb_newa (atype := .int) (ty := .int) (N' := 6) (a0 := (6, .inl (fun _ => 0))) C rfl bw_70 0 rfl (fun h => h) rfl (by decide) (by decide) (Nat.le_of_ble_eq_true rfl) (Nat.le_of_ble_eq_true rfl) (Nat.le_of_ble_eq_true rfl) (o := b + 2) rfl dX1_init_15 ?_
  show GB X b ([.inr (1, [.ref (b + 1), .null, .int 0, .int 0, .int 0, .int 0, .int 0, .int 0]), .inl (eC (tE X) 0, 6, .inl (fun _ => 0)), .inl (eC (tE X) 0, 6, .inl (fun _ => 0))] : List va_E) 2 12 [(0, .ref b)] [.ref (b + 2), .ref b] 17
  refine gb_putF (T := TX1) (N := 8) C hi 0  rfl rfl inX1 tyX1 tyX1_ok nmX1 1 (by decide) bw_39 rfl rfl rfl rfl (by show 1 < 8; decide) (Nat.add_zero b).symm dX1_init_17 (es' := [.inr (1, [.ref (b + 1), .ref (b + 2), .int 0, .int 0, .int 0, .int 0, .int 0, .int 0]), .inl (eC (tE X) 0, 6, .inl (fun _ => 0)), .inl (eC (tE X) 0, 6, .inl (fun _ => 0))]) rfl ?_
  exact gb_vret C hret hlk rfl hZ (Nat.le_of_ble_eq_true rfl) (Nat.le_of_ble_eq_true rfl) dX1_init_20
theorem dX3_init_0 : decode cX3_init 0 = .ok (.aload_n 0, 1) := by decide +kernel
theorem dX3_init_1 : decode cX3_init 1 = .ok (.invokespecial 3, 3) := by decide +kernel
theorem dX3_init_4 : decode cX3_init 4 = .ok (.aload_n 0, 1) := by decide +kernel
theorem dX3_init_5 : decode cX3_init 5 = .ok (.bipush 80, 2) := by decide +kernel
theorem dX3_init_7 : decode cX3_init 7 = .ok (.newarray .char, 2) := by decide +kernel
theorem dX3_init_9 : decode cX3_init 9 = .ok (.putfield 9, 3) := by decide +kernel
theorem dX3_init_12 : decode cX3_init 12 = .ok (.aload_n 0, 1) := by decide +kernel
theorem dX3_init_13 : decode cX3_init 13 = .ok (.iconst 3, 1) := by decide +kernel
theorem dX3_init_14 : decode cX3_init 14 = .ok (.newarray .int, 2) := by decide +kernel
theorem dX3_init_16 : decode cX3_init 16 = .ok (.putfield 15, 3) := by decide +kernel
theorem dX3_init_19 : decode cX3_init 19 = .ok (.return_, 1) := by decide +kernel
set_option maxHeartbeats 4000000 in
set_option maxRecDepth 100000 in
theorem c_X3_init (l : Launch) (E : Ev) (b : Nat) : CN l E yX3_init cX3_init 1 1 12 2 83 b zX3 (esPad E b) := by
  refine CN_of (by decide) rfl (by decide) (fun X hL hE C hi hret hlk hZ => ?_)
  subst hL
  subst hE
  have C : Cy X cX3_init "SweetWraps$Pad" 1 12 1 2 83 := C
  show GB X b [.inr (3, [.null, .null, .int 0, .int 0, .int 0, .int 0])] 0 0 [(0, .ref b)] [] 0
  refine gb_aload_n C dX3_init_0 0 rfl ?_
  refine gb_objInit C bw_146 ⟨by decide, by decide⟩ dX3_init_1 ?_
  refine gb_aload_n C dX3_init_4 0 rfl ?_
  refine gb_bipush (v := (80 : Int32)) C dX3_init_5 (by decide) ?_
  refine gb_newa (atype := .char) (ty := .char) (N' := 80) (a0 := (80, .inl (fun _ => 0))) C rfl bw_170 2 rfl (fun h => h) rfl (by decide) (by decide) (Nat.le_of_ble_eq_true rfl) (Nat.le_of_ble_eq_true rfl) (Nat.le_of_ble_eq_true rfl) (o := b + 1) rfl dX3_init_7 ?_
  show GB X b ([.inr (3, [.null, .null, .int 0, .int 0, .int 0, .int 0]), .inl (eC (tE X) 2, 80, .inl (fun _ => 0))] : List va_E) 1 80 [(0, .ref b)] [.ref (b + 1), .ref b] 9
  refine gb_putF (T := TX3) (N := 6) C hi 0  rfl rfl inX3 tyX3 tyX3_ok nmX3 0 (by decide) bw_147 rfl rfl rfl rfl (by show 0 < 6; decide) (Nat.add_zero b).symm dX3_init_9 (es' := [.inr (3, [.ref (b + 1), .null, .int 0, .int 0, .int 0, .int 0]), .inl (eC (tE X) 2, 80, .inl (fun _ => 0))]) rfl ?_
  refine gb_aload_n C dX3_init_12 0 rfl ?_
  refine gb_iconst (v := (3 : Int32)) C dX3_init_13 (by decide) ?_
  refine gb_newa (atype := .int) (ty := .int) (N' := 3) (a0 := (3, .inl (fun _ => 0))) C rfl bw_70 0 rfl (fun h => h) rfl (by decide) (by decide) (Nat.le_of_ble_eq_true rfl) (Nat.le_of_ble_eq_true rfl) (Nat.le_of_ble_eq_true rfl) (o := b + 2) rfl dX3_init_14 ?_
  show GB X b ([.inr (3, [.ref (b + 1), .null, .int 0, .int 0, .int 0, .int 0]), .inl (eC (tE X) 2, 80, .inl (fun _ => 0)), .inl (eC (tE X) 0, 3, .inl (fun _ => 0))] : List va_E) 2 83 [(0, .ref b)] [.ref (b + 2), .ref b] 16
  refine gb_putF (T := TX3) (N := 6) C hi 0  rfl rfl inX3 tyX3 tyX3_ok nmX3 1 (by decide) bw_148 rfl rfl rfl rfl (by show 1 < 6; decide) (Nat.add_zero b).symm dX3_init_16 (es' := [.inr (3, [.ref (b + 1), .ref (b + 2), .int 0, .int 0, .int 0, .int 0]), .inl (eC (tE X) 2, 80, .inl (fun _ => 0)), .inl (eC (tE X) 0, 3, .inl (fun _ => 0))]) rfl ?_
  exact gb_vret C hret hlk rfl hZ (Nat.le_of_ble_eq_true rfl) (Nat.le_of_ble_eq_true rfl) dX3_init_19
theorem dX6_init_0 : decode cX6_init 0 = .ok (.aload_n 0, 1) := by decide +kernel
theorem dX6_init_1 : decode cX6_init 1 = .ok (.invokespecial 1, 3) := by decide +kernel
theorem dX6_init_4 : decode cX6_init 4 = .ok (.aload_n 0, 1) := by decide +kernel
theorem dX6_init_5 : decode cX6_init 5 = .ok (.sipush 194, 3) := by decide +kernel
theorem dX6_init_8 : decode cX6_init 8 = .ok (.newarray .int, 2) := by decide +kernel
theorem dX6_init_10 : decode cX6_init 10 = .ok (.putfield 7, 3) := by decide +kernel
theorem dX6_init_13 : decode cX6_init 13 = .ok (.aload_n 0, 1) := by decide +kernel
theorem dX6_init_14 : decode cX6_init 14 = .ok (.sipush 194, 3) := by decide +kernel
theorem dX6_init_17 : decode cX6_init 17 = .ok (.newarray .int, 2) := by decide +kernel
theorem dX6_init_19 : decode cX6_init 19 = .ok (.putfield 13, 3) := by decide +kernel
theorem dX6_init_22 : decode cX6_init 22 = .ok (.aload_n 0, 1) := by decide +kernel
theorem dX6_init_23 : decode cX6_init 23 = .ok (.sipush 1164, 3) := by decide +kernel
theorem dX6_init_26 : decode cX6_init 26 = .ok (.newarray .int, 2) := by decide +kernel
theorem dX6_init_28 : decode cX6_init 28 = .ok (.putfield 16, 3) := by decide +kernel
theorem dX6_init_31 : decode cX6_init 31 = .ok (.aload_n 0, 1) := by decide +kernel
theorem dX6_init_32 : decode cX6_init 32 = .ok (.sipush 388, 3) := by decide +kernel
theorem dX6_init_35 : decode cX6_init 35 = .ok (.newarray .int, 2) := by decide +kernel
theorem dX6_init_37 : decode cX6_init 37 = .ok (.putfield 19, 3) := by decide +kernel
theorem dX6_init_40 : decode cX6_init 40 = .ok (.aload_n 0, 1) := by decide +kernel
theorem dX6_init_41 : decode cX6_init 41 = .ok (.iconst 2, 1) := by decide +kernel
theorem dX6_init_42 : decode cX6_init 42 = .ok (.newarray .boolean, 2) := by decide +kernel
theorem dX6_init_44 : decode cX6_init 44 = .ok (.putfield 22, 3) := by decide +kernel
theorem dX6_init_47 : decode cX6_init 47 = .ok (.aload_n 0, 1) := by decide +kernel
theorem dX6_init_48 : decode cX6_init 48 = .ok (.bipush 80, 2) := by decide +kernel
theorem dX6_init_50 : decode cX6_init 50 = .ok (.newarray .int, 2) := by decide +kernel
theorem dX6_init_52 : decode cX6_init 52 = .ok (.putfield 26, 3) := by decide +kernel
theorem dX6_init_55 : decode cX6_init 55 = .ok (.aload_n 0, 1) := by decide +kernel
theorem dX6_init_56 : decode cX6_init 56 = .ok (.iconst 4, 1) := by decide +kernel
theorem dX6_init_57 : decode cX6_init 57 = .ok (.newarray .int, 2) := by decide +kernel
theorem dX6_init_59 : decode cX6_init 59 = .ok (.putfield 29, 3) := by decide +kernel
theorem dX6_init_62 : decode cX6_init 62 = .ok (.aload_n 0, 1) := by decide +kernel
theorem dX6_init_63 : decode cX6_init 63 = .ok (.getfield 7, 3) := by decide +kernel
theorem dX6_init_66 : decode cX6_init 66 = .ok (.iconst 0, 1) := by decide +kernel
theorem dX6_init_67 : decode cX6_init 67 = .ok (.iconst 3, 1) := by decide +kernel
theorem dX6_init_68 : decode cX6_init 68 = .ok (.iastore, 1) := by decide +kernel
theorem dX6_init_69 : decode cX6_init 69 = .ok (.aload_n 0, 1) := by decide +kernel
theorem dX6_init_70 : decode cX6_init 70 = .ok (.getfield 7, 3) := by decide +kernel
theorem dX6_init_73 : decode cX6_init 73 = .ok (.iconst 1, 1) := by decide +kernel
theorem dX6_init_74 : decode cX6_init 74 = .ok (.bipush 20, 2) := by decide +kernel
theorem dX6_init_76 : decode cX6_init 76 = .ok (.iastore, 1) := by decide +kernel
theorem dX6_init_77 : decode cX6_init 77 = .ok (.aload_n 0, 1) := by decide +kernel
theorem dX6_init_78 : decode cX6_init 78 = .ok (.getfield 7, 3) := by decide +kernel
theorem dX6_init_81 : decode cX6_init 81 = .ok (.iconst 2, 1) := by decide +kernel
theorem dX6_init_82 : decode cX6_init 82 = .ok (.bipush 12, 2) := by decide +kernel
theorem dX6_init_84 : decode cX6_init 84 = .ok (.iastore, 1) := by decide +kernel
theorem dX6_init_85 : decode cX6_init 85 = .ok (.aload_n 0, 1) := by decide +kernel
theorem dX6_init_86 : decode cX6_init 86 = .ok (.getfield 7, 3) := by decide +kernel
theorem dX6_init_89 : decode cX6_init 89 = .ok (.iconst 3, 1) := by decide +kernel
theorem dX6_init_90 : decode cX6_init 90 = .ok (.iconst 1, 1) := by decide +kernel
theorem dX6_init_91 : decode cX6_init 91 = .ok (.iastore, 1) := by decide +kernel
theorem dX6_init_92 : decode cX6_init 92 = .ok (.return_, 1) := by decide +kernel
set_option maxHeartbeats 4000000 in
set_option maxRecDepth 100000 in
theorem c_X6_init (l : Launch) (E : Ev) (b : Nat) : CN l E yX6_init cX6_init 1 1 12 7 2026 b zX6 (esModel E b) := by
  refine CN_of (by decide) rfl (by decide) (fun X hL hE C hi hret hlk hZ => ?_)
  subst hL
  subst hE
  have C : Cy X cX6_init "SweetWrapsModel" 1 12 1 7 2026 := C
  show GB X b [.inr (6, [.null, .null, .null, .int 0, .null, .null, .null, .int 0, .null, .int 0, .int 0])] 0 0 [(0, .ref b)] [] 0
  refine gb_aload_n C dX6_init_0 0 rfl ?_
  refine gb_objInit C bw_672 ⟨by decide, by decide⟩ dX6_init_1 ?_
  refine gb_aload_n C dX6_init_4 0 rfl ?_
  refine gb_sipush (v := (194 : Int32)) C dX6_init_5 (by decide) ?_
  refine gb_newa (atype := .int) (ty := .int) (N' := 194) (a0 := (194, .inl (fun _ => 0))) C rfl bw_70 0 rfl (fun h => h) rfl (by decide) (by decide) (Nat.le_of_ble_eq_true rfl) (Nat.le_of_ble_eq_true rfl) (Nat.le_of_ble_eq_true rfl) (o := b + 1) rfl dX6_init_8 ?_
  show GB X b ([.inr (6, [.null, .null, .null, .int 0, .null, .null, .null, .int 0, .null, .int 0, .int 0]), .inl (eC (tE X) 0, 194, .inl (fun _ => 0))] : List va_E) 1 194 [(0, .ref b)] [.ref (b + 1), .ref b] 10
  refine gb_putF (T := TX6) (N := 11) C hi 0  rfl rfl inX6 tyX6 tyX6_ok nmX6 0 (by decide) bw_673 rfl rfl rfl rfl (by show 0 < 11; decide) (Nat.add_zero b).symm dX6_init_10 (es' := [.inr (6, [.ref (b + 1), .null, .null, .int 0, .null, .null, .null, .int 0, .null, .int 0, .int 0]), .inl (eC (tE X) 0, 194, .inl (fun _ => 0))]) rfl ?_
  refine gb_aload_n C dX6_init_13 0 rfl ?_
  refine gb_sipush (v := (194 : Int32)) C dX6_init_14 (by decide) ?_
  refine gb_newa (atype := .int) (ty := .int) (N' := 194) (a0 := (194, .inl (fun _ => 0))) C rfl bw_70 0 rfl (fun h => h) rfl (by decide) (by decide) (Nat.le_of_ble_eq_true rfl) (Nat.le_of_ble_eq_true rfl) (Nat.le_of_ble_eq_true rfl) (o := b + 2) rfl dX6_init_17 ?_
  show GB X b ([.inr (6, [.ref (b + 1), .null, .null, .int 0, .null, .null, .null, .int 0, .null, .int 0, .int 0]), .inl (eC (tE X) 0, 194, .inl (fun _ => 0)), .inl (eC (tE X) 0, 194, .inl (fun _ => 0))] : List va_E) 2 388 [(0, .ref b)] [.ref (b + 2), .ref b] 19
  refine gb_putF (T := TX6) (N := 11) C hi 0  rfl rfl inX6 tyX6 tyX6_ok nmX6 1 (by decide) bw_674 rfl rfl rfl rfl (by show 1 < 11; decide) (Nat.add_zero b).symm dX6_init_19 (es' := [.inr (6, [.ref (b + 1), .ref (b + 2), .null, .int 0, .null, .null, .null, .int 0, .null, .int 0, .int 0]), .inl (eC (tE X) 0, 194, .inl (fun _ => 0)), .inl (eC (tE X) 0, 194, .inl (fun _ => 0))]) rfl ?_
  refine gb_aload_n C dX6_init_22 0 rfl ?_
  refine gb_sipush (v := (1164 : Int32)) C dX6_init_23 (by decide) ?_
  refine gb_newa (atype := .int) (ty := .int) (N' := 1164) (a0 := (1164, .inl (fun _ => 0))) C rfl bw_70 0 rfl (fun h => h) rfl (by decide) (by decide) (Nat.le_of_ble_eq_true rfl) (Nat.le_of_ble_eq_true rfl) (Nat.le_of_ble_eq_true rfl) (o := b + 3) rfl dX6_init_26 ?_
  show GB X b ([.inr (6, [.ref (b + 1), .ref (b + 2), .null, .int 0, .null, .null, .null, .int 0, .null, .int 0, .int 0]), .inl (eC (tE X) 0, 194, .inl (fun _ => 0)), .inl (eC (tE X) 0, 194, .inl (fun _ => 0)), .inl (eC (tE X) 0, 1164, .inl (fun _ => 0))] : List va_E) 3 1552 [(0, .ref b)] [.ref (b + 3), .ref b] 28
  refine gb_putF (T := TX6) (N := 11) C hi 0  rfl rfl inX6 tyX6 tyX6_ok nmX6 2 (by decide) bw_675 rfl rfl rfl rfl (by show 2 < 11; decide) (Nat.add_zero b).symm dX6_init_28 (es' := [.inr (6, [.ref (b + 1), .ref (b + 2), .ref (b + 3), .int 0, .null, .null, .null, .int 0, .null, .int 0, .int 0]), .inl (eC (tE X) 0, 194, .inl (fun _ => 0)), .inl (eC (tE X) 0, 194, .inl (fun _ => 0)), .inl (eC (tE X) 0, 1164, .inl (fun _ => 0))]) rfl ?_
  refine gb_aload_n C dX6_init_31 0 rfl ?_
  refine gb_sipush (v := (388 : Int32)) C dX6_init_32 (by decide) ?_
  refine gb_newa (atype := .int) (ty := .int) (N' := 388) (a0 := (388, .inl (fun _ => 0))) C rfl bw_70 0 rfl (fun h => h) rfl (by decide) (by decide) (Nat.le_of_ble_eq_true rfl) (Nat.le_of_ble_eq_true rfl) (Nat.le_of_ble_eq_true rfl) (o := b + 4) rfl dX6_init_35 ?_
  show GB X b ([.inr (6, [.ref (b + 1), .ref (b + 2), .ref (b + 3), .int 0, .null, .null, .null, .int 0, .null, .int 0, .int 0]), .inl (eC (tE X) 0, 194, .inl (fun _ => 0)), .inl (eC (tE X) 0, 194, .inl (fun _ => 0)), .inl (eC (tE X) 0, 1164, .inl (fun _ => 0)), .inl (eC (tE X) 0, 388, .inl (fun _ => 0))] : List va_E) 4 1940 [(0, .ref b)] [.ref (b + 4), .ref b] 37
  refine gb_putF (T := TX6) (N := 11) C hi 0  rfl rfl inX6 tyX6 tyX6_ok nmX6 4 (by decide) bw_677 rfl rfl rfl rfl (by show 4 < 11; decide) (Nat.add_zero b).symm dX6_init_37 (es' := [.inr (6, [.ref (b + 1), .ref (b + 2), .ref (b + 3), .int 0, .ref (b + 4), .null, .null, .int 0, .null, .int 0, .int 0]), .inl (eC (tE X) 0, 194, .inl (fun _ => 0)), .inl (eC (tE X) 0, 194, .inl (fun _ => 0)), .inl (eC (tE X) 0, 1164, .inl (fun _ => 0)), .inl (eC (tE X) 0, 388, .inl (fun _ => 0))]) rfl ?_
  refine gb_aload_n C dX6_init_40 0 rfl ?_
  refine gb_iconst (v := (2 : Int32)) C dX6_init_41 (by decide) ?_
  refine gb_newa (atype := .boolean) (ty := .boolean) (N' := 2) (a0 := (2, .inl (fun _ => 0))) C rfl bw_169 1 rfl (fun h => h) rfl (by decide) (by decide) (Nat.le_of_ble_eq_true rfl) (Nat.le_of_ble_eq_true rfl) (Nat.le_of_ble_eq_true rfl) (o := b + 5) rfl dX6_init_42 ?_
  show GB X b ([.inr (6, [.ref (b + 1), .ref (b + 2), .ref (b + 3), .int 0, .ref (b + 4), .null, .null, .int 0, .null, .int 0, .int 0]), .inl (eC (tE X) 0, 194, .inl (fun _ => 0)), .inl (eC (tE X) 0, 194, .inl (fun _ => 0)), .inl (eC (tE X) 0, 1164, .inl (fun _ => 0)), .inl (eC (tE X) 0, 388, .inl (fun _ => 0)), .inl (eC (tE X) 1, 2, .inl (fun _ => 0))] : List va_E) 5 1942 [(0, .ref b)] [.ref (b + 5), .ref b] 44
  refine gb_putF (T := TX6) (N := 11) C hi 0  rfl rfl inX6 tyX6 tyX6_ok nmX6 5 (by decide) bw_678 rfl rfl rfl rfl (by show 5 < 11; decide) (Nat.add_zero b).symm dX6_init_44 (es' := [.inr (6, [.ref (b + 1), .ref (b + 2), .ref (b + 3), .int 0, .ref (b + 4), .ref (b + 5), .null, .int 0, .null, .int 0, .int 0]), .inl (eC (tE X) 0, 194, .inl (fun _ => 0)), .inl (eC (tE X) 0, 194, .inl (fun _ => 0)), .inl (eC (tE X) 0, 1164, .inl (fun _ => 0)), .inl (eC (tE X) 0, 388, .inl (fun _ => 0)), .inl (eC (tE X) 1, 2, .inl (fun _ => 0))]) rfl ?_
  refine gb_aload_n C dX6_init_47 0 rfl ?_
  refine gb_bipush (v := (80 : Int32)) C dX6_init_48 (by decide) ?_
  refine gb_newa (atype := .int) (ty := .int) (N' := 80) (a0 := (80, .inl (fun _ => 0))) C rfl bw_70 0 rfl (fun h => h) rfl (by decide) (by decide) (Nat.le_of_ble_eq_true rfl) (Nat.le_of_ble_eq_true rfl) (Nat.le_of_ble_eq_true rfl) (o := b + 6) rfl dX6_init_50 ?_
  show GB X b ([.inr (6, [.ref (b + 1), .ref (b + 2), .ref (b + 3), .int 0, .ref (b + 4), .ref (b + 5), .null, .int 0, .null, .int 0, .int 0]), .inl (eC (tE X) 0, 194, .inl (fun _ => 0)), .inl (eC (tE X) 0, 194, .inl (fun _ => 0)), .inl (eC (tE X) 0, 1164, .inl (fun _ => 0)), .inl (eC (tE X) 0, 388, .inl (fun _ => 0)), .inl (eC (tE X) 1, 2, .inl (fun _ => 0)), .inl (eC (tE X) 0, 80, .inl (fun _ => 0))] : List va_E) 6 2022 [(0, .ref b)] [.ref (b + 6), .ref b] 52
  refine gb_putF (T := TX6) (N := 11) C hi 0  rfl rfl inX6 tyX6 tyX6_ok nmX6 6 (by decide) bw_679 rfl rfl rfl rfl (by show 6 < 11; decide) (Nat.add_zero b).symm dX6_init_52 (es' := [.inr (6, [.ref (b + 1), .ref (b + 2), .ref (b + 3), .int 0, .ref (b + 4), .ref (b + 5), .ref (b + 6), .int 0, .null, .int 0, .int 0]), .inl (eC (tE X) 0, 194, .inl (fun _ => 0)), .inl (eC (tE X) 0, 194, .inl (fun _ => 0)), .inl (eC (tE X) 0, 1164, .inl (fun _ => 0)), .inl (eC (tE X) 0, 388, .inl (fun _ => 0)), .inl (eC (tE X) 1, 2, .inl (fun _ => 0)), .inl (eC (tE X) 0, 80, .inl (fun _ => 0))]) rfl ?_
  refine gb_aload_n C dX6_init_55 0 rfl ?_
  refine gb_iconst (v := (4 : Int32)) C dX6_init_56 (by decide) ?_
  refine gb_newa (atype := .int) (ty := .int) (N' := 4) (a0 := (4, .inl (fun _ => 0))) C rfl bw_70 0 rfl (fun h => h) rfl (by decide) (by decide) (Nat.le_of_ble_eq_true rfl) (Nat.le_of_ble_eq_true rfl) (Nat.le_of_ble_eq_true rfl) (o := b + 7) rfl dX6_init_57 ?_
  show GB X b ([.inr (6, [.ref (b + 1), .ref (b + 2), .ref (b + 3), .int 0, .ref (b + 4), .ref (b + 5), .ref (b + 6), .int 0, .null, .int 0, .int 0]), .inl (eC (tE X) 0, 194, .inl (fun _ => 0)), .inl (eC (tE X) 0, 194, .inl (fun _ => 0)), .inl (eC (tE X) 0, 1164, .inl (fun _ => 0)), .inl (eC (tE X) 0, 388, .inl (fun _ => 0)), .inl (eC (tE X) 1, 2, .inl (fun _ => 0)), .inl (eC (tE X) 0, 80, .inl (fun _ => 0)), .inl (eC (tE X) 0, 4, .inl (fun _ => 0))] : List va_E) 7 2026 [(0, .ref b)] [.ref (b + 7), .ref b] 59
  refine gb_putF (T := TX6) (N := 11) C hi 0  rfl rfl inX6 tyX6 tyX6_ok nmX6 8 (by decide) bw_681 rfl rfl rfl rfl (by show 8 < 11; decide) (Nat.add_zero b).symm dX6_init_59 (es' := [.inr (6, [.ref (b + 1), .ref (b + 2), .ref (b + 3), .int 0, .ref (b + 4), .ref (b + 5), .ref (b + 6), .int 0, .ref (b + 7), .int 0, .int 0]), .inl (eC (tE X) 0, 194, .inl (fun _ => 0)), .inl (eC (tE X) 0, 194, .inl (fun _ => 0)), .inl (eC (tE X) 0, 1164, .inl (fun _ => 0)), .inl (eC (tE X) 0, 388, .inl (fun _ => 0)), .inl (eC (tE X) 1, 2, .inl (fun _ => 0)), .inl (eC (tE X) 0, 80, .inl (fun _ => 0)), .inl (eC (tE X) 0, 4, .inl (fun _ => 0))]) rfl ?_
  refine gb_aload_n C dX6_init_62 0 rfl ?_
  refine gb_get (T := TX6) (N := 11) C 0 rfl rfl inX6 0 (by decide) bw_673 rfl rfl (Nat.add_zero b).symm dX6_init_63 ?_
  refine gb_iconst (v := (0 : Int32)) C dX6_init_66 (by decide) ?_
  refine gb_iconst (v := (3 : Int32)) C dX6_init_67 (by decide) ?_
  refine gb_iast C 1 rfl (nI_in (c := 0) (by decide) (by decide)) rfl dX6_init_68 (es' := [.inr (6, [.ref (b + 1), .ref (b + 2), .ref (b + 3), .int 0, .ref (b + 4), .ref (b + 5), .ref (b + 6), .int 0, .ref (b + 7), .int 0, .int 0]), .inl (eC (tE X) 0, 194, .inl (upd (fun _ => 0) 0 3)), .inl (eC (tE X) 0, 194, .inl (fun _ => 0)), .inl (eC (tE X) 0, 1164, .inl (fun _ => 0)), .inl (eC (tE X) 0, 388, .inl (fun _ => 0)), .inl (eC (tE X) 1, 2, .inl (fun _ => 0)), .inl (eC (tE X) 0, 80, .inl (fun _ => 0)), .inl (eC (tE X) 0, 4, .inl (fun _ => 0))]) rfl ?_
  refine gb_aload_n C dX6_init_69 0 rfl ?_
  refine gb_get (T := TX6) (N := 11) C 0 rfl rfl inX6 0 (by decide) bw_673 rfl rfl (Nat.add_zero b).symm dX6_init_70 ?_
  refine gb_iconst (v := (1 : Int32)) C dX6_init_73 (by decide) ?_
  refine gb_bipush (v := (20 : Int32)) C dX6_init_74 (by decide) ?_
  refine gb_iast C 1 rfl (nI_in (c := 1) (by decide) (by decide)) rfl dX6_init_76 (es' := [.inr (6, [.ref (b + 1), .ref (b + 2), .ref (b + 3), .int 0, .ref (b + 4), .ref (b + 5), .ref (b + 6), .int 0, .ref (b + 7), .int 0, .int 0]), .inl (eC (tE X) 0, 194, .inl (upd (upd (fun _ => 0) 0 3) 1 20)), .inl (eC (tE X) 0, 194, .inl (fun _ => 0)), .inl (eC (tE X) 0, 1164, .inl (fun _ => 0)), .inl (eC (tE X) 0, 388, .inl (fun _ => 0)), .inl (eC (tE X) 1, 2, .inl (fun _ => 0)), .inl (eC (tE X) 0, 80, .inl (fun _ => 0)), .inl (eC (tE X) 0, 4, .inl (fun _ => 0))]) rfl ?_
  refine gb_aload_n C dX6_init_77 0 rfl ?_
  refine gb_get (T := TX6) (N := 11) C 0 rfl rfl inX6 0 (by decide) bw_673 rfl rfl (Nat.add_zero b).symm dX6_init_78 ?_
  refine gb_iconst (v := (2 : Int32)) C dX6_init_81 (by decide) ?_
  refine gb_bipush (v := (12 : Int32)) C dX6_init_82 (by decide) ?_
  refine gb_iast C 1 rfl (nI_in (c := 2) (by decide) (by decide)) rfl dX6_init_84 (es' := [.inr (6, [.ref (b + 1), .ref (b + 2), .ref (b + 3), .int 0, .ref (b + 4), .ref (b + 5), .ref (b + 6), .int 0, .ref (b + 7), .int 0, .int 0]), .inl (eC (tE X) 0, 194, .inl (upd (upd (upd (fun _ => 0) 0 3) 1 20) 2 12)), .inl (eC (tE X) 0, 194, .inl (fun _ => 0)), .inl (eC (tE X) 0, 1164, .inl (fun _ => 0)), .inl (eC (tE X) 0, 388, .inl (fun _ => 0)), .inl (eC (tE X) 1, 2, .inl (fun _ => 0)), .inl (eC (tE X) 0, 80, .inl (fun _ => 0)), .inl (eC (tE X) 0, 4, .inl (fun _ => 0))]) rfl ?_
  refine gb_aload_n C dX6_init_85 0 rfl ?_
  refine gb_get (T := TX6) (N := 11) C 0 rfl rfl inX6 0 (by decide) bw_673 rfl rfl (Nat.add_zero b).symm dX6_init_86 ?_
  refine gb_iconst (v := (3 : Int32)) C dX6_init_89 (by decide) ?_
  refine gb_iconst (v := (1 : Int32)) C dX6_init_90 (by decide) ?_
  refine gb_iast C 1 rfl (nI_in (c := 3) (by decide) (by decide)) rfl dX6_init_91 (es' := [.inr (6, [.ref (b + 1), .ref (b + 2), .ref (b + 3), .int 0, .ref (b + 4), .ref (b + 5), .ref (b + 6), .int 0, .ref (b + 7), .int 0, .int 0]), .inl (eC (tE X) 0, 194, .inl (upd (upd (upd (upd (fun _ => 0) 0 3) 1 20) 2 12) 3 1)), .inl (eC (tE X) 0, 194, .inl (fun _ => 0)), .inl (eC (tE X) 0, 1164, .inl (fun _ => 0)), .inl (eC (tE X) 0, 388, .inl (fun _ => 0)), .inl (eC (tE X) 1, 2, .inl (fun _ => 0)), .inl (eC (tE X) 0, 80, .inl (fun _ => 0)), .inl (eC (tE X) 0, 4, .inl (fun _ => 0))]) rfl ?_
  exact gb_vret C hret hlk rfl hZ (Nat.le_of_ble_eq_true rfl) (Nat.le_of_ble_eq_true rfl) dX6_init_92
