/-! The constructors. -/
abbrev zX0 : va_E := .inr (0, [.null, .null, .int 0])
abbrev zX1 : va_E := .inr (1, [.null, .null, .int 0, .int 0, .int 0, .int 0, .int 0, .int 0])
abbrev zX2 : va_E := .inr (2, [.null, .null, .null, .null, .int 0, .int 0, .int 0, .int 0])
abbrev zX3 : va_E := .inr (3, [.null, .null, .int 0, .int 0, .int 0, .int 0])
abbrev zX4 : va_E := .inr (4, [.null, .int 0, .int 0, .int 0])
abbrev zX5 : va_E := .inr (5, [.null, .null, .null, .null, .null, .null])
abbrev iaE (E : Ev) (n : Nat) : va_E := .inl (eC E 0, n, .inl (fun _ => 0))
def stF : Nat → Int32 := upd (upd (upd (upd (fun _ => 0) 0 3) 1 20) 2 12) 3 1
def esTin (E : Ev) (b : Nat) : List va_E := [.inr (4, [.ref (b + 1), .int 0, .int 0, .int 0]), iaE E 6]
def esLane (E : Ev) (b : Nat) : List va_E := [.inr (1, [.ref (b + 1), .ref (b + 2), .int 0, .int 0, .int 0, .int 0, .int 0, .int 0]), iaE E 6, iaE E 6]
def esPad (E : Ev) (b : Nat) : List va_E := [.inr (3, [.ref (b + 1), .ref (b + 2), .int 0, .int 0, .int 0, .int 0]), .inl (eC E 2, 80, .inl (fun _ => 0)), iaE E 3]
theorem dX4_init_0 : decode cX4_init 0 = .ok (.aload_n 0, 1) := by decide +kernel
theorem dX4_init_1 : decode cX4_init 1 = .ok (.invokespecial 3, 3) := by decide +kernel
theorem dX4_init_4 : decode cX4_init 4 = .ok (.aload_n 0, 1) := by decide +kernel
theorem dX4_init_5 : decode cX4_init 5 = .ok (.bipush 6, 2) := by decide +kernel
theorem dX4_init_7 : decode cX4_init 7 = .ok (.newarray .int, 2) := by decide +kernel
theorem dX4_init_9 : decode cX4_init 9 = .ok (.putfield 9, 3) := by decide +kernel
theorem dX4_init_12 : decode cX4_init 12 = .ok (.return_, 1) := by decide +kernel
set_option maxHeartbeats 4000000 in
set_option maxRecDepth 100000 in
theorem c_X4_init (l : Launch) (E : Ev) (b : Nat) : CN l E yX4_init cX4_init 1 1 12 1 6 b zX4 (esTin E b) := by
  refine CN_of (by decide) rfl (by decide) (fun X hL hE C hi hret hlk hZ => ?_)
  subst hL
  subst hE
  have C : Cy X cX4_init "SweetWraps$Tin" 1 12 1 1 6 := C
  show GB X b [.inr (4, [.null, .int 0, .int 0, .int 0])] 0 0 [(0, .ref b)] [] 0
  refine gb_aload_n C dX4_init_0 0 rfl ?_
  refine gb_objInit C bw_70 ⟨by decide, by decide⟩ dX4_init_1 ?_
  refine gb_aload_n C dX4_init_4 0 rfl ?_
  refine gb_bipush (v := (6 : Int32)) C dX4_init_5 (by decide) ?_
  refine gb_newa (atype := .int) (ty := .int) (N' := 6) (a0 := (6, .inl (fun _ => 0))) C rfl bw_65 0 rfl (fun h => h) rfl (by decide) (by decide) (Nat.le_of_ble_eq_true rfl) (Nat.le_of_ble_eq_true rfl) (Nat.le_of_ble_eq_true rfl) (o := b + 1) rfl dX4_init_7 ?_
  show GB X b ([.inr (4, [.null, .int 0, .int 0, .int 0]), .inl (eC (tE X) 0, 6, .inl (fun _ => 0))] : List va_E) 1 6 [(0, .ref b)] [.ref (b + 1), .ref b] 9
  refine gb_putF (T := TX4) (N := 4) C hi 0  rfl rfl inX4 tyX4 tyX4_ok nmX4 0 (by decide) bw_71 rfl rfl rfl rfl (by show 0 < 4; decide) (Nat.add_zero b).symm dX4_init_9 (es' := [.inr (4, [.ref (b + 1), .int 0, .int 0, .int 0]), .inl (eC (tE X) 0, 6, .inl (fun _ => 0))]) rfl ?_
  exact gb_vret C hret hlk rfl hZ (Nat.le_of_ble_eq_true rfl) (Nat.le_of_ble_eq_true rfl) dX4_init_12
theorem dX1_init_0 : decode cX1_init 0 = .ok (.aload_n 0, 1) := by decide +kernel
theorem dX1_init_1 : decode cX1_init 1 = .ok (.invokespecial 3, 3) := by decide +kernel
theorem dX1_init_4 : decode cX1_init 4 = .ok (.aload_n 0, 1) := by decide +kernel
theorem dX1_init_5 : decode cX1_init 5 = .ok (.bipush 6, 2) := by decide +kernel
theorem dX1_init_7 : decode cX1_init 7 = .ok (.newarray .int, 2) := by decide +kernel
theorem dX1_init_9 : decode cX1_init 9 = .ok (.putfield 9, 3) := by decide +kernel
theorem dX1_init_12 : decode cX1_init 12 = .ok (.aload_n 0, 1) := by decide +kernel
theorem dX1_init_13 : decode cX1_init 13 = .ok (.bipush 6, 2) := by decide +kernel
theorem dX1_init_15 : decode cX1_init 15 = .ok (.newarray .int, 2) := by decide +kernel
theorem dX1_init_17 : decode cX1_init 17 = .ok (.putfield 15, 3) := by decide +kernel
theorem dX1_init_20 : decode cX1_init 20 = .ok (.return_, 1) := by decide +kernel
set_option maxHeartbeats 4000000 in
set_option maxRecDepth 100000 in
theorem c_X1_init (l : Launch) (E : Ev) (b : Nat) : CN l E yX1_init cX1_init 1 1 12 2 12 b zX1 (esLane E b) := by
  refine CN_of (by decide) rfl (by decide) (fun X hL hE C hi hret hlk hZ => ?_)
  subst hL
  subst hE
  have C : Cy X cX1_init "SweetWraps$Lane" 1 12 1 2 12 := C
  show GB X b [.inr (1, [.null, .null, .int 0, .int 0, .int 0, .int 0, .int 0, .int 0])] 0 0 [(0, .ref b)] [] 0
  refine gb_aload_n C dX1_init_0 0 rfl ?_
  refine gb_objInit C bw_31 ⟨by decide, by decide⟩ dX1_init_1 ?_
  refine gb_aload_n C dX1_init_4 0 rfl ?_
  refine gb_bipush (v := (6 : Int32)) C dX1_init_5 (by decide) ?_
  refine gb_newa (atype := .int) (ty := .int) (N' := 6) (a0 := (6, .inl (fun _ => 0))) C rfl bw_65 0 rfl (fun h => h) rfl (by decide) (by decide) (Nat.le_of_ble_eq_true rfl) (Nat.le_of_ble_eq_true rfl) (Nat.le_of_ble_eq_true rfl) (o := b + 1) rfl dX1_init_7 ?_
  show GB X b ([.inr (1, [.null, .null, .int 0, .int 0, .int 0, .int 0, .int 0, .int 0]), .inl (eC (tE X) 0, 6, .inl (fun _ => 0))] : List va_E) 1 6 [(0, .ref b)] [.ref (b + 1), .ref b] 9
  refine gb_putF (T := TX1) (N := 8) C hi 0  rfl rfl inX1 tyX1 tyX1_ok nmX1 0 (by decide) bw_32 rfl rfl rfl rfl (by show 0 < 8; decide) (Nat.add_zero b).symm dX1_init_9 (es' := [.inr (1, [.ref (b + 1), .null, .int 0, .int 0, .int 0, .int 0, .int 0, .int 0]), .inl (eC (tE X) 0, 6, .inl (fun _ => 0))]) rfl ?_
  refine gb_aload_n C dX1_init_12 0 rfl ?_
  refine gb_bipush (v := (6 : Int32)) C dX1_init_13 (by decide) ?_
  refine gb_newa (atype := .int) (ty := .int) (N' := 6) (a0 := (6, .inl (fun _ => 0))) C rfl bw_65 0 rfl (fun h => h) rfl (by decide) (by decide) (Nat.le_of_ble_eq_true rfl) (Nat.le_of_ble_eq_true rfl) (Nat.le_of_ble_eq_true rfl) (o := b + 2) rfl dX1_init_15 ?_
  show GB X b ([.inr (1, [.ref (b + 1), .null, .int 0, .int 0, .int 0, .int 0, .int 0, .int 0]), .inl (eC (tE X) 0, 6, .inl (fun _ => 0)), .inl (eC (tE X) 0, 6, .inl (fun _ => 0))] : List va_E) 2 12 [(0, .ref b)] [.ref (b + 2), .ref b] 17
  refine gb_putF (T := TX1) (N := 8) C hi 0  rfl rfl inX1 tyX1 tyX1_ok nmX1 1 (by decide) bw_34 rfl rfl rfl rfl (by show 1 < 8; decide) (Nat.add_zero b).symm dX1_init_17 (es' := [.inr (1, [.ref (b + 1), .ref (b + 2), .int 0, .int 0, .int 0, .int 0, .int 0, .int 0]), .inl (eC (tE X) 0, 6, .inl (fun _ => 0)), .inl (eC (tE X) 0, 6, .inl (fun _ => 0))]) rfl ?_
  exact gb_vret C hret hlk rfl hZ (Nat.le_of_ble_eq_true rfl) (Nat.le_of_ble_eq_true rfl) dX1_init_20
theorem dX3_init_0 : decode cX3_init 0 = .ok (.aload_n 0, 1) := by decide +kernel
theorem dX3_init_1 : decode cX3_init 1 = .ok (.invokespecial 3, 3) := by decide +kernel
theorem dX3_init_4 : decode cX3_init 4 = .ok (.aload_n 0, 1) := by decide +kernel
theorem dX3_init_5 : decode cX3_init 5 = .ok (.bipush 80, 2) := by decide +kernel
theorem dX3_init_7 : decode cX3_init 7 = .ok (.newarray .char, 2) := by decide +kernel
theorem dX3_init_9 : decode cX3_init 9 = .ok (.putfield 9, 3) := by decide +kernel
theorem dX3_init_12 : decode cX3_init 12 = .ok (.aload_n 0, 1) := by decide +kernel
theorem dX3_init_13 : decode cX3_init 13 = .ok (.iconst 3, 1) := by decide +kernel
theorem dX3_init_14 : decode cX3_init 14 = .ok (.newarray .int, 2) := by decide +kernel
theorem dX3_init_16 : decode cX3_init 16 = .ok (.putfield 15, 3) := by decide +kernel
theorem dX3_init_19 : decode cX3_init 19 = .ok (.return_, 1) := by decide +kernel
set_option maxHeartbeats 4000000 in
set_option maxRecDepth 100000 in
theorem c_X3_init (l : Launch) (E : Ev) (b : Nat) : CN l E yX3_init cX3_init 1 1 12 2 83 b zX3 (esPad E b) := by
  refine CN_of (by decide) rfl (by decide) (fun X hL hE C hi hret hlk hZ => ?_)
  subst hL
  subst hE
  have C : Cy X cX3_init "SweetWraps$Pad" 1 12 1 2 83 := C
  show GB X b [.inr (3, [.null, .null, .int 0, .int 0, .int 0, .int 0])] 0 0 [(0, .ref b)] [] 0
  refine gb_aload_n C dX3_init_0 0 rfl ?_
  refine gb_objInit C bw_140 ⟨by decide, by decide⟩ dX3_init_1 ?_
  refine gb_aload_n C dX3_init_4 0 rfl ?_
  refine gb_bipush (v := (80 : Int32)) C dX3_init_5 (by decide) ?_
  refine gb_newa (atype := .char) (ty := .char) (N' := 80) (a0 := (80, .inl (fun _ => 0))) C rfl bw_158 2 rfl (fun h => h) rfl (by decide) (by decide) (Nat.le_of_ble_eq_true rfl) (Nat.le_of_ble_eq_true rfl) (Nat.le_of_ble_eq_true rfl) (o := b + 1) rfl dX3_init_7 ?_
  show GB X b ([.inr (3, [.null, .null, .int 0, .int 0, .int 0, .int 0]), .inl (eC (tE X) 2, 80, .inl (fun _ => 0))] : List va_E) 1 80 [(0, .ref b)] [.ref (b + 1), .ref b] 9
  refine gb_putF (T := TX3) (N := 6) C hi 0  rfl rfl inX3 tyX3 tyX3_ok nmX3 0 (by decide) bw_141 rfl rfl rfl rfl (by show 0 < 6; decide) (Nat.add_zero b).symm dX3_init_9 (es' := [.inr (3, [.ref (b + 1), .null, .int 0, .int 0, .int 0, .int 0]), .inl (eC (tE X) 2, 80, .inl (fun _ => 0))]) rfl ?_
  refine gb_aload_n C dX3_init_12 0 rfl ?_
  refine gb_iconst (v := (3 : Int32)) C dX3_init_13 (by decide) ?_
  refine gb_newa (atype := .int) (ty := .int) (N' := 3) (a0 := (3, .inl (fun _ => 0))) C rfl bw_65 0 rfl (fun h => h) rfl (by decide) (by decide) (Nat.le_of_ble_eq_true rfl) (Nat.le_of_ble_eq_true rfl) (Nat.le_of_ble_eq_true rfl) (o := b + 2) rfl dX3_init_14 ?_
  show GB X b ([.inr (3, [.ref (b + 1), .null, .int 0, .int 0, .int 0, .int 0]), .inl (eC (tE X) 2, 80, .inl (fun _ => 0)), .inl (eC (tE X) 0, 3, .inl (fun _ => 0))] : List va_E) 2 83 [(0, .ref b)] [.ref (b + 2), .ref b] 16
  refine gb_putF (T := TX3) (N := 6) C hi 0  rfl rfl inX3 tyX3 tyX3_ok nmX3 1 (by decide) bw_142 rfl rfl rfl rfl (by show 1 < 6; decide) (Nat.add_zero b).symm dX3_init_16 (es' := [.inr (3, [.ref (b + 1), .ref (b + 2), .int 0, .int 0, .int 0, .int 0]), .inl (eC (tE X) 2, 80, .inl (fun _ => 0)), .inl (eC (tE X) 0, 3, .inl (fun _ => 0))]) rfl ?_
  exact gb_vret C hret hlk rfl hZ (Nat.le_of_ble_eq_true rfl) (Nat.le_of_ble_eq_true rfl) dX3_init_19
