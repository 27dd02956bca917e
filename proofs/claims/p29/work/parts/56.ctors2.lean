/-! The constructors with loops. -/
def reps (g : Nat → List va_E) (L : List va_E) : Nat → List va_E
  | 0 => L
  | n + 1 => reps g L n ++ g n
theorem reps_len {g : Nat → List va_E} {L : List va_E} {w : Nat} (h : ∀ n, (g n).length = w) (n : Nat) : (reps g L n).length = L.length + w * n := by
  induction n with
  | zero => rfl
  | succ n ih => rw [reps, List.length_append, ih, h, Nat.mul_succ]; omega
def rowR (a d i : Nat) : Nat → Option Nat := fun j => if j < i then some (a + d * j) else none
theorem rowR_0 (a d : Nat) : rowR a d 0 = fun _ => none := by
  funext j
  show (if j < 0 then some (a + d * j) else none) = none
  rw [if_neg (Nat.not_lt_zero j)]
theorem rowR_up {a d i : Nat} (h : i < 2 ^ 31) : va_up (rowR a d i) (nI i).toNatClampNeg (some (a + d * i)) = rowR a d (i + 1) := by
  rw [nI_clamp h]
  funext j
  show (if j = i then some (a + d * i) else if j < i then some (a + d * j) else none) = if j < i + 1 then some (a + d * j) else none
  by_cases e : j = i
  · rw [if_pos e, if_pos (by omega), e]
  · rw [if_neg e]
    by_cases l : j < i
    · rw [if_pos l, if_pos (by omega)]
    · rw [if_neg l, if_neg (by omega)]
theorem get_mid {p r : List va_E} {x : va_E} {n : Nat} (h : p.length = n) : (p ++ x :: r)[n]? = some x := by
  subst h
  rw [List.getElem?_append_right (Nat.le_refl _), Nat.sub_self]
  rfl
theorem set_mid {p r : List va_E} {x y : va_E} {n : Nat} (h : p.length = n) : (p ++ x :: r).set n y = p ++ y :: r := by
  subst h
  induction p with
  | nil => rfl
  | cons a p ih => exact congrArg (List.cons a) ih
theorem gb_es {X : Tx} {b : Nat} {es es' : List va_E} {cells slots c' s' : Nat} {lv : List (Nat × Value)} {st : List Value} {pc : Nat} (h : es = es') (hc : cells = c') (hs : slots = s') (kk : GB X b es' c' s' lv st pc) : GB X b es cells slots lv st pc := by
  subst h; subst hc; subst hs
  exact kk
abbrev mH (E : Ev) (b : Nat) (f g : Nat → Option Nat) : List va_E := [.inr (2, [.ref (b + 1), .ref (b + 2), .ref (b + 3), .ref (b + 4), .int 0, .int 0, .int 0, .int 0]), .inl (eC E 0, 4, .inl stF), .inl (eC E 3, 4, .inr (.inr (.inr (.inr f)))), .inl (eC E 4, 16, .inr (.inr (.inr (.inr g)))), iaE E 6]
def mL (E : Ev) (b i : Nat) : List va_E := reps (fun n => esLane E (b + 5 + 3 * n)) [] i
def mT (E : Ev) (b t : Nat) : List va_E := reps (fun n => esTin E (b + 17 + 2 * n)) (mL E b 4) t
theorem mL_len (E : Ev) (b i : Nat) : (mL E b i).length = 3 * i := by
  unfold mL
  rw [reps_len (w := 3) (fun _ => rfl)]
  show 0 + 3 * i = 3 * i
  omega
theorem mT_len (E : Ev) (b t : Nat) : (mT E b t).length = 12 + 2 * t := by
  unfold mT
  rw [reps_len (w := 2) (fun _ => rfl), mL_len]
def esMach (E : Ev) (b : Nat) : List va_E := mH E b (rowR (b + 5) 3 4) (rowR (b + 17) 2 16) ++ mT E b 16
theorem esMach_len (E : Ev) (b : Nat) : (esMach E b).length = 49 := by
  unfold esMach
  rw [List.length_append, mT_len]
  rfl
abbrev hH (E : Ev) (b : Nat) (f : Nat → Option Nat) : List va_E := [.inr (0, [.ref (b + 1), .ref (b + 2), .int 0]), .inl (eC E 5, 6, .inr (.inr (.inr (.inr f))))]
def hM (E : Ev) (b i : Nat) : List va_E := reps (fun n => esMach E (b + 51 + 49 * n)) (esMach E (b + 2)) i
theorem hM_len (E : Ev) (b i : Nat) : (hM E b i).length = 49 + 49 * i := by
  unfold hM
  rw [reps_len (w := 49) (fun _ => esMach_len _ _), esMach_len]
def esHist (E : Ev) (b : Nat) : List va_E := hH E b (rowR (b + 51) 49 6) ++ hM E b 6
theorem esHist_len (E : Ev) (b : Nat) : (esHist E b).length = 345 := by
  unfold esHist
  rw [List.length_append, hM_len]
  rfl
theorem esPad_len (E : Ev) (b : Nat) : (esPad E b).length = 3 := rfl
def swQ (E : Ev) (b : Nat) : List va_E := (([.inr (5, [.ref (b + 1), .ref (b + 50), .ref (b + 99), .ref (b + 444), .ref (b + 445), .ref (b + 446)])] ++ esMach E (b + 1)) ++ esMach E (b + 50)) ++ esHist E (b + 99)
theorem swQ_len (E : Ev) (b : Nat) : (swQ E b).length = 444 := by
  unfold swQ
  rw [List.length_append, List.length_append, List.length_append, esMach_len, esMach_len, esHist_len]
  rfl
def swM (E : Ev) (b i : Nat) : List va_E := reps (fun n => esMach E (b + 449 + 49 * n)) ([.inl (eC E 1, 2, .inl (fun _ => 0))] ++ esPad E (b + 446)) i
theorem swM_len (E : Ev) (b i : Nat) : (swM E b i).length = 4 + 49 * i := by
  unfold swM
  rw [reps_len (w := 49) (fun _ => esMach_len _ _)]
  rfl
def esSW (E : Ev) (b : Nat) : List va_E := swQ E b ++ (.inl (eC E 5, 2, .inr (.inr (.inr (.inr (rowR (b + 449) 49 2))))) :: swM E b 2)
theorem esSW_len (E : Ev) (b : Nat) : (esSW E b).length = 547 := by
  unfold esSW
  rw [List.length_append, List.length_cons, swQ_len, swM_len]
theorem sw_assoc (Q P : List va_E) (a s : va_E) : ((Q ++ [a]) ++ [s]) ++ P = Q ++ (a :: ([s] ++ P)) := by
  rw [List.append_assoc, List.append_assoc]
  rfl
theorem dX2_init_0 : decode cX2_init 0 = .ok (.aload_n 0, 1) := by decide +kernel
theorem dX2_init_1 : decode cX2_init 1 = .ok (.invokespecial 3, 3) := by decide +kernel
theorem dX2_init_4 : decode cX2_init 4 = .ok (.aload_n 0, 1) := by decide +kernel
theorem dX2_init_5 : decode cX2_init 5 = .ok (.iconst 4, 1) := by decide +kernel
theorem dX2_init_6 : decode cX2_init 6 = .ok (.newarray .int, 2) := by decide +kernel
theorem dX2_init_8 : decode cX2_init 8 = .ok (.dup, 1) := by decide +kernel
theorem dX2_init_9 : decode cX2_init 9 = .ok (.iconst 0, 1) := by decide +kernel
theorem dX2_init_10 : decode cX2_init 10 = .ok (.iconst 3, 1) := by decide +kernel
theorem dX2_init_11 : decode cX2_init 11 = .ok (.iastore, 1) := by decide +kernel
theorem dX2_init_12 : decode cX2_init 12 = .ok (.dup, 1) := by decide +kernel
theorem dX2_init_13 : decode cX2_init 13 = .ok (.iconst 1, 1) := by decide +kernel
theorem dX2_init_14 : decode cX2_init 14 = .ok (.bipush 20, 2) := by decide +kernel
theorem dX2_init_16 : decode cX2_init 16 = .ok (.iastore, 1) := by decide +kernel
theorem dX2_init_17 : decode cX2_init 17 = .ok (.dup, 1) := by decide +kernel
theorem dX2_init_18 : decode cX2_init 18 = .ok (.iconst 2, 1) := by decide +kernel
theorem dX2_init_19 : decode cX2_init 19 = .ok (.bipush 12, 2) := by decide +kernel
theorem dX2_init_21 : decode cX2_init 21 = .ok (.iastore, 1) := by decide +kernel
theorem dX2_init_22 : decode cX2_init 22 = .ok (.dup, 1) := by decide +kernel
theorem dX2_init_23 : decode cX2_init 23 = .ok (.iconst 3, 1) := by decide +kernel
theorem dX2_init_24 : decode cX2_init 24 = .ok (.iconst 1, 1) := by decide +kernel
theorem dX2_init_25 : decode cX2_init 25 = .ok (.iastore, 1) := by decide +kernel
theorem dX2_init_26 : decode cX2_init 26 = .ok (.putfield 9, 3) := by decide +kernel
theorem dX2_init_29 : decode cX2_init 29 = .ok (.aload_n 0, 1) := by decide +kernel
theorem dX2_init_30 : decode cX2_init 30 = .ok (.iconst 4, 1) := by decide +kernel
theorem dX2_init_31 : decode cX2_init 31 = .ok (.anewarray 15, 3) := by decide +kernel
theorem dX2_init_34 : decode cX2_init 34 = .ok (.putfield 17, 3) := by decide +kernel
theorem dX2_init_37 : decode cX2_init 37 = .ok (.aload_n 0, 1) := by decide +kernel
theorem dX2_init_38 : decode cX2_init 38 = .ok (.bipush 16, 2) := by decide +kernel
theorem dX2_init_40 : decode cX2_init 40 = .ok (.anewarray 21, 3) := by decide +kernel
theorem dX2_init_43 : decode cX2_init 43 = .ok (.putfield 23, 3) := by decide +kernel
theorem dX2_init_46 : decode cX2_init 46 = .ok (.aload_n 0, 1) := by decide +kernel
theorem dX2_init_47 : decode cX2_init 47 = .ok (.bipush 6, 2) := by decide +kernel
theorem dX2_init_49 : decode cX2_init 49 = .ok (.newarray .int, 2) := by decide +kernel
theorem dX2_init_51 : decode cX2_init 51 = .ok (.putfield 27, 3) := by decide +kernel
theorem dX2_init_54 : decode cX2_init 54 = .ok (.iconst 0, 1) := by decide +kernel
theorem dX2_init_55 : decode cX2_init 55 = .ok (.istore_n 1, 1) := by decide +kernel
theorem dX2_init_56 : decode cX2_init 56 = .ok (.iload_n 1, 1) := by decide +kernel
theorem dX2_init_57 : decode cX2_init 57 = .ok (.aload_n 0, 1) := by decide +kernel
theorem dX2_init_58 : decode cX2_init 58 = .ok (.getfield 17, 3) := by decide +kernel
theorem dX2_init_61 : decode cX2_init 61 = .ok (.arraylength, 1) := by decide +kernel
theorem dX2_init_62 : decode cX2_init 62 = .ok (.if_icmp .ge 22, 3) := by decide +kernel
theorem dX2_init_65 : decode cX2_init 65 = .ok (.aload_n 0, 1) := by decide +kernel
theorem dX2_init_66 : decode cX2_init 66 = .ok (.getfield 17, 3) := by decide +kernel
theorem dX2_init_69 : decode cX2_init 69 = .ok (.iload_n 1, 1) := by decide +kernel
theorem dX2_init_70 : decode cX2_init 70 = .ok (.new 15, 3) := by decide +kernel
theorem dX2_init_73 : decode cX2_init 73 = .ok (.dup, 1) := by decide +kernel
theorem dX2_init_74 : decode cX2_init 74 = .ok (.invokespecial 30, 3) := by decide +kernel
theorem dX2_init_77 : decode cX2_init 77 = .ok (.aastore, 1) := by decide +kernel
theorem dX2_init_78 : decode cX2_init 78 = .ok (.iinc 1 1, 3) := by decide +kernel
theorem dX2_init_81 : decode cX2_init 81 = .ok (.goto (-25), 3) := by decide +kernel
theorem dX2_init_84 : decode cX2_init 84 = .ok (.iconst 0, 1) := by decide +kernel
theorem dX2_init_85 : decode cX2_init 85 = .ok (.istore_n 1, 1) := by decide +kernel
theorem dX2_init_86 : decode cX2_init 86 = .ok (.iload_n 1, 1) := by decide +kernel
theorem dX2_init_87 : decode cX2_init 87 = .ok (.aload_n 0, 1) := by decide +kernel
theorem dX2_init_88 : decode cX2_init 88 = .ok (.getfield 23, 3) := by decide +kernel
theorem dX2_init_91 : decode cX2_init 91 = .ok (.arraylength, 1) := by decide +kernel
theorem dX2_init_92 : decode cX2_init 92 = .ok (.if_icmp .ge 22, 3) := by decide +kernel
theorem dX2_init_95 : decode cX2_init 95 = .ok (.aload_n 0, 1) := by decide +kernel
theorem dX2_init_96 : decode cX2_init 96 = .ok (.getfield 23, 3) := by decide +kernel
theorem dX2_init_99 : decode cX2_init 99 = .ok (.iload_n 1, 1) := by decide +kernel
theorem dX2_init_100 : decode cX2_init 100 = .ok (.new 21, 3) := by decide +kernel
theorem dX2_init_103 : decode cX2_init 103 = .ok (.dup, 1) := by decide +kernel
theorem dX2_init_104 : decode cX2_init 104 = .ok (.invokespecial 31, 3) := by decide +kernel
theorem dX2_init_107 : decode cX2_init 107 = .ok (.aastore, 1) := by decide +kernel
theorem dX2_init_108 : decode cX2_init 108 = .ok (.iinc 1 1, 3) := by decide +kernel
theorem dX2_init_111 : decode cX2_init 111 = .ok (.goto (-25), 3) := by decide +kernel
theorem dX2_init_114 : decode cX2_init 114 = .ok (.return_, 1) := by decide +kernel
theorem dX0_init_0 : decode cX0_init 0 = .ok (.aload_n 0, 1) := by decide +kernel
theorem dX0_init_1 : decode cX0_init 1 = .ok (.invokespecial 3, 3) := by decide +kernel
theorem dX0_init_4 : decode cX0_init 4 = .ok (.aload_n 0, 1) := by decide +kernel
theorem dX0_init_5 : decode cX0_init 5 = .ok (.bipush 6, 2) := by decide +kernel
theorem dX0_init_7 : decode cX0_init 7 = .ok (.anewarray 9, 3) := by decide +kernel
theorem dX0_init_10 : decode cX0_init 10 = .ok (.putfield 11, 3) := by decide +kernel
theorem dX0_init_13 : decode cX0_init 13 = .ok (.aload_n 0, 1) := by decide +kernel
theorem dX0_init_14 : decode cX0_init 14 = .ok (.new 9, 3) := by decide +kernel
theorem dX0_init_17 : decode cX0_init 17 = .ok (.dup, 1) := by decide +kernel
theorem dX0_init_18 : decode cX0_init 18 = .ok (.invokespecial 17, 3) := by decide +kernel
theorem dX0_init_21 : decode cX0_init 21 = .ok (.putfield 18, 3) := by decide +kernel
theorem dX0_init_24 : decode cX0_init 24 = .ok (.iconst 0, 1) := by decide +kernel
theorem dX0_init_25 : decode cX0_init 25 = .ok (.istore_n 1, 1) := by decide +kernel
theorem dX0_init_26 : decode cX0_init 26 = .ok (.iload_n 1, 1) := by decide +kernel
theorem dX0_init_27 : decode cX0_init 27 = .ok (.aload_n 0, 1) := by decide +kernel
theorem dX0_init_28 : decode cX0_init 28 = .ok (.getfield 11, 3) := by decide +kernel
theorem dX0_init_31 : decode cX0_init 31 = .ok (.arraylength, 1) := by decide +kernel
theorem dX0_init_32 : decode cX0_init 32 = .ok (.if_icmp .ge 22, 3) := by decide +kernel
theorem dX0_init_35 : decode cX0_init 35 = .ok (.aload_n 0, 1) := by decide +kernel
theorem dX0_init_36 : decode cX0_init 36 = .ok (.getfield 11, 3) := by decide +kernel
theorem dX0_init_39 : decode cX0_init 39 = .ok (.iload_n 1, 1) := by decide +kernel
theorem dX0_init_40 : decode cX0_init 40 = .ok (.new 9, 3) := by decide +kernel
theorem dX0_init_43 : decode cX0_init 43 = .ok (.dup, 1) := by decide +kernel
theorem dX0_init_44 : decode cX0_init 44 = .ok (.invokespecial 17, 3) := by decide +kernel
theorem dX0_init_47 : decode cX0_init 47 = .ok (.aastore, 1) := by decide +kernel
theorem dX0_init_48 : decode cX0_init 48 = .ok (.iinc 1 1, 3) := by decide +kernel
theorem dX0_init_51 : decode cX0_init 51 = .ok (.goto (-25), 3) := by decide +kernel
theorem dX0_init_54 : decode cX0_init 54 = .ok (.return_, 1) := by decide +kernel
theorem dX5_init_0 : decode cX5_init 0 = .ok (.aload_n 0, 1) := by decide +kernel
theorem dX5_init_1 : decode cX5_init 1 = .ok (.invokespecial 1, 3) := by decide +kernel
theorem dX5_init_4 : decode cX5_init 4 = .ok (.aload_n 0, 1) := by decide +kernel
theorem dX5_init_5 : decode cX5_init 5 = .ok (.new 7, 3) := by decide +kernel
theorem dX5_init_8 : decode cX5_init 8 = .ok (.dup, 1) := by decide +kernel
theorem dX5_init_9 : decode cX5_init 9 = .ok (.invokespecial 9, 3) := by decide +kernel
theorem dX5_init_12 : decode cX5_init 12 = .ok (.putfield 10, 3) := by decide +kernel
theorem dX5_init_15 : decode cX5_init 15 = .ok (.aload_n 0, 1) := by decide +kernel
theorem dX5_init_16 : decode cX5_init 16 = .ok (.new 7, 3) := by decide +kernel
theorem dX5_init_19 : decode cX5_init 19 = .ok (.dup, 1) := by decide +kernel
theorem dX5_init_20 : decode cX5_init 20 = .ok (.invokespecial 9, 3) := by decide +kernel
theorem dX5_init_23 : decode cX5_init 23 = .ok (.putfield 16, 3) := by decide +kernel
theorem dX5_init_26 : decode cX5_init 26 = .ok (.aload_n 0, 1) := by decide +kernel
theorem dX5_init_27 : decode cX5_init 27 = .ok (.new 19, 3) := by decide +kernel
theorem dX5_init_30 : decode cX5_init 30 = .ok (.dup, 1) := by decide +kernel
theorem dX5_init_31 : decode cX5_init 31 = .ok (.invokespecial 21, 3) := by decide +kernel
theorem dX5_init_34 : decode cX5_init 34 = .ok (.putfield 22, 3) := by decide +kernel
theorem dX5_init_37 : decode cX5_init 37 = .ok (.aload_n 0, 1) := by decide +kernel
theorem dX5_init_38 : decode cX5_init 38 = .ok (.iconst 2, 1) := by decide +kernel
theorem dX5_init_39 : decode cX5_init 39 = .ok (.anewarray 7, 3) := by decide +kernel
theorem dX5_init_42 : decode cX5_init 42 = .ok (.putfield 26, 3) := by decide +kernel
theorem dX5_init_45 : decode cX5_init 45 = .ok (.aload_n 0, 1) := by decide +kernel
theorem dX5_init_46 : decode cX5_init 46 = .ok (.iconst 2, 1) := by decide +kernel
theorem dX5_init_47 : decode cX5_init 47 = .ok (.newarray .boolean, 2) := by decide +kernel
theorem dX5_init_49 : decode cX5_init 49 = .ok (.putfield 30, 3) := by decide +kernel
theorem dX5_init_52 : decode cX5_init 52 = .ok (.aload_n 0, 1) := by decide +kernel
theorem dX5_init_53 : decode cX5_init 53 = .ok (.new 34, 3) := by decide +kernel
theorem dX5_init_56 : decode cX5_init 56 = .ok (.dup, 1) := by decide +kernel
theorem dX5_init_57 : decode cX5_init 57 = .ok (.invokespecial 36, 3) := by decide +kernel
theorem dX5_init_60 : decode cX5_init 60 = .ok (.putfield 37, 3) := by decide +kernel
theorem dX5_init_63 : decode cX5_init 63 = .ok (.iconst 0, 1) := by decide +kernel
theorem dX5_init_64 : decode cX5_init 64 = .ok (.istore_n 1, 1) := by decide +kernel
theorem dX5_init_65 : decode cX5_init 65 = .ok (.iload_n 1, 1) := by decide +kernel
theorem dX5_init_66 : decode cX5_init 66 = .ok (.aload_n 0, 1) := by decide +kernel
theorem dX5_init_67 : decode cX5_init 67 = .ok (.getfield 26, 3) := by decide +kernel
theorem dX5_init_70 : decode cX5_init 70 = .ok (.arraylength, 1) := by decide +kernel
theorem dX5_init_71 : decode cX5_init 71 = .ok (.if_icmp .ge 22, 3) := by decide +kernel
theorem dX5_init_74 : decode cX5_init 74 = .ok (.aload_n 0, 1) := by decide +kernel
theorem dX5_init_75 : decode cX5_init 75 = .ok (.getfield 26, 3) := by decide +kernel
theorem dX5_init_78 : decode cX5_init 78 = .ok (.iload_n 1, 1) := by decide +kernel
theorem dX5_init_79 : decode cX5_init 79 = .ok (.new 7, 3) := by decide +kernel
theorem dX5_init_82 : decode cX5_init 82 = .ok (.dup, 1) := by decide +kernel
theorem dX5_init_83 : decode cX5_init 83 = .ok (.invokespecial 9, 3) := by decide +kernel
theorem dX5_init_86 : decode cX5_init 86 = .ok (.aastore, 1) := by decide +kernel
theorem dX5_init_87 : decode cX5_init 87 = .ok (.iinc 1 1, 3) := by decide +kernel
theorem dX5_init_90 : decode cX5_init 90 = .ok (.goto (-25), 3) := by decide +kernel
theorem dX5_init_93 : decode cX5_init 93 = .ok (.return_, 1) := by decide +kernel
set_option maxHeartbeats 4000000 in
set_option maxRecDepth 100000 in
theorem c_X2_init (l : Launch) (E : Ev) (b : Nat) : CN l E yX2_init cX2_init 2 2 32 48 270 b zX2 (esMach E b) := by
  refine CN_of (by decide) rfl (by decide) (fun X hL hE C hi hret hlk hZ => ?_)
  subst hL
  subst hE
  have C : Cy X cX2_init "SweetWraps$Machine" 2 32 2 48 270 := C
  have hT : ∀ n t : Nat, t + n = 16 → GB X b (mH (tE X) b (rowR (b + 5) 3 4) (rowR (b + 17) 2 t) ++ mT (tE X) b t) (16 + 2 * t) (110 + 10 * t) [(1, .int (nI t)), (0, .ref b)] [] 86 := by
    intro n
    induction n with
    | zero =>
      intro t ht
      obtain rfl : t = 16 := by omega
      refine gb_iload_n C dX2_init_86 0 rfl ?_
      refine gb_aload_n C dX2_init_87 1 rfl ?_
      refine gb_get (T := TX2) (N := 8) C 0 rfl rfl inX2 2 (by decide) bw_92 rfl rfl (Nat.add_zero b).symm dX2_init_88 ?_
      refine gb_alen C 3 rfl (t0 := 4) rfl (v := nI 16) rfl rfl dX2_init_91 ?_
      refine gb_icmp_ge (tgt := 114) C dX2_init_92 (by decide) (fun _ => ?_) (fun c => absurd (by decide) c)
      exact gb_vret C hret hlk rfl hZ (Nat.le_of_ble_eq_true rfl) (Nat.le_of_ble_eq_true rfl) dX2_init_114
    | succ n ih =>
      intro t ht
      have hlt : t < 16 := by omega
      have hlen : (mH (tE X) b (rowR (b + 5) 3 4) (rowR (b + 17) 2 t) ++ mT (tE X) b t).length = 17 + 2 * t := by rw [List.length_append, mT_len]; show 5 + (12 + 2 * t) = 17 + 2 * t; omega
      refine gb_iload_n C dX2_init_86 0 rfl ?_
      refine gb_aload_n C dX2_init_87 1 rfl ?_
      refine gb_get (T := TX2) (N := 8) C 0 rfl rfl inX2 2 (by decide) bw_92 rfl rfl (Nat.add_zero b).symm dX2_init_88 ?_
      refine gb_alen C 3 rfl (t0 := 4) rfl (v := nI 16) rfl rfl dX2_init_91 ?_
      refine gb_icmp_ge (tgt := 114) C dX2_init_92 (by decide) (fun c => absurd c (nI_ge hlt (by decide))) (fun _ => ?_)
      refine gb_aload_n C dX2_init_95 1 rfl ?_
      refine gb_get (T := TX2) (N := 8) C 0 rfl rfl inX2 2 (by decide) bw_92 rfl rfl (Nat.add_zero b).symm dX2_init_96 ?_
      refine gb_iload_n C dX2_init_99 0 rfl ?_
      refine gb_new (ci := 4) (D := RX4) (T := TX4) (N := 4) (fs := [.null, .int 0, .int 0, .int 0]) C rfl inX4 tyX4 tyX4_ok bw_25 bw_66 bw_4 (fun j hj => by rcases (show j = 0 ∨ j = 1 ∨ j = 2 ∨ j = 3 by omega) with rfl | rfl | rfl | rfl <;> rfl) (by omega) (by omega) (o := b + 17 + 2 * t) (by rw [hlen]; omega) dX2_init_100 ?_
      refine gb_dup C dX2_init_103 rfl ?_
      refine gb_initN (host := "SweetWraps") (es0 := mH (tE X) b (rowR (b + 5) 3 4) (rowR (b + 17) 2 t) ++ mT (tE X) b t) C (c_X4_init (tL X) (tE X) (b + 17 + 2 * t)) (List.mem_of_getElem? (i := 67) (by decide +kernel)) bw_68 bw_4 bw_69 rfl (by decide) ⟨by decide, by decide⟩ (by omega) (by omega) (by rw [hlen]; omega) rfl (Nat.le_of_ble_eq_true rfl) dX2_init_104 ?_
      refine gb_aast C 3 4 (17 + 2 * t) 4 rfl rfl (get_mid (x := .inr (4, [.ref (b + 17 + 2 * t + 1), .int 0, .int 0, .int 0])) (r := [iaE (tE X) 6]) hlen) (r := (RX4, TX4, 4)) rfl (nI_in hlt (by decide)) rfl (by omega) dX2_init_107 (es' := mH (tE X) b (rowR (b + 5) 3 4) (rowR (b + 17) 2 (t + 1)) ++ mT (tE X) b (t + 1)) (by rw [rowR_up (by omega)] <;> rfl) ?_
      refine gb_iinc (v := nI (t + 1)) (lv' := [(1, .int (nI (t + 1))), (0, .ref b)]) C dX2_init_108 0 rfl (nI_1 t) (by decide) rfl ?_
      refine gb_goto (tgt := 86) C dX2_init_111 (by decide) ?_
      exact gb_es rfl (by omega) (by omega) (ih (t + 1) (by omega))
  have hL : ∀ n i : Nat, i + n = 4 → GB X b (mH (tE X) b (rowR (b + 5) 3 i) (rowR (b + 17) 2 0) ++ mL (tE X) b i) (4 + 3 * i) (30 + 20 * i) [(1, .int (nI i)), (0, .ref b)] [] 56 := by
    intro n
    induction n with
    | zero =>
      intro i ht
      obtain rfl : i = 4 := by omega
      refine gb_iload_n C dX2_init_56 0 rfl ?_
      refine gb_aload_n C dX2_init_57 1 rfl ?_
      refine gb_get (T := TX2) (N := 8) C 0 rfl rfl inX2 1 (by decide) bw_90 rfl rfl (Nat.add_zero b).symm dX2_init_58 ?_
      refine gb_alen C 2 rfl (t0 := 3) rfl (v := nI 4) rfl rfl dX2_init_61 ?_
      refine gb_icmp_ge (tgt := 84) C dX2_init_62 (by decide) (fun _ => ?_) (fun c => absurd (by decide) c)
      refine gb_iconst (v := (0 : Int32)) C dX2_init_84 (by decide) ?_
      refine gb_istore_n (lv' := [(1, .int (nI 0)), (0, .ref b)]) C dX2_init_85 (by decide) rfl ?_
      exact gb_es rfl rfl rfl (hT 16 0 rfl)
    | succ n ih =>
      intro i ht
      have hlt : i < 4 := by omega
      have hlen : (mH (tE X) b (rowR (b + 5) 3 i) (rowR (b + 17) 2 0) ++ mL (tE X) b i).length = 5 + 3 * i := by rw [List.length_append, mL_len]; show 5 + (3 * i) = 5 + 3 * i; omega
      refine gb_iload_n C dX2_init_56 0 rfl ?_
      refine gb_aload_n C dX2_init_57 1 rfl ?_
      refine gb_get (T := TX2) (N := 8) C 0 rfl rfl inX2 1 (by decide) bw_90 rfl rfl (Nat.add_zero b).symm dX2_init_58 ?_
      refine gb_alen C 2 rfl (t0 := 3) rfl (v := nI 4) rfl rfl dX2_init_61 ?_
      refine gb_icmp_ge (tgt := 84) C dX2_init_62 (by decide) (fun c => absurd c (nI_ge hlt (by decide))) (fun _ => ?_)
      refine gb_aload_n C dX2_init_65 1 rfl ?_
      refine gb_get (T := TX2) (N := 8) C 0 rfl rfl inX2 1 (by decide) bw_90 rfl rfl (Nat.add_zero b).symm dX2_init_66 ?_
      refine gb_iload_n C dX2_init_69 0 rfl ?_
      refine gb_new (ci := 1) (D := RX1) (T := TX1) (N := 8) (fs := [.null, .null, .int 0, .int 0, .int 0, .int 0, .int 0, .int 0]) C rfl inX1 tyX1 tyX1_ok bw_23 bw_27 bw_3 (fun j hj => by rcases (show j = 0 ∨ j = 1 ∨ j = 2 ∨ j = 3 ∨ j = 4 ∨ j = 5 ∨ j = 6 ∨ j = 7 by omega) with rfl | rfl | rfl | rfl | rfl | rfl | rfl | rfl <;> rfl) (by omega) (by omega) (o := b + 5 + 3 * i) (by rw [hlen]; omega) dX2_init_70 ?_
      refine gb_dup C dX2_init_73 rfl ?_
      refine gb_initN (host := "SweetWraps") (es0 := mH (tE X) b (rowR (b + 5) 3 i) (rowR (b + 17) 2 0) ++ mL (tE X) b i) C (c_X1_init (tL X) (tE X) (b + 5 + 3 * i)) (List.mem_of_getElem? (i := 28) (by decide +kernel)) bw_29 bw_3 bw_30 rfl (by decide) ⟨by decide, by decide⟩ (by omega) (by omega) (by rw [hlen]; omega) rfl (Nat.le_of_ble_eq_true rfl) dX2_init_74 ?_
      refine gb_aast C 2 3 (5 + 3 * i) 1 rfl rfl (get_mid (x := .inr (1, [.ref (b + 5 + 3 * i + 1), .ref (b + 5 + 3 * i + 2), .int 0, .int 0, .int 0, .int 0, .int 0, .int 0])) (r := [iaE (tE X) 6, iaE (tE X) 6]) hlen) (r := (RX1, TX1, 8)) rfl (nI_in hlt (by decide)) rfl (by omega) dX2_init_77 (es' := mH (tE X) b (rowR (b + 5) 3 (i + 1)) (rowR (b + 17) 2 0) ++ mL (tE X) b (i + 1)) (by rw [rowR_up (by omega)] <;> rfl) ?_
      refine gb_iinc (v := nI (i + 1)) (lv' := [(1, .int (nI (i + 1))), (0, .ref b)]) C dX2_init_78 0 rfl (nI_1 i) (by decide) rfl ?_
      refine gb_goto (tgt := 56) C dX2_init_81 (by decide) ?_
      exact gb_es rfl (by omega) (by omega) (ih (i + 1) (by omega))
  show GB X b [.inr (2, [.null, .null, .null, .null, .int 0, .int 0, .int 0, .int 0])] 0 0 [(0, .ref b)] [] 0
  refine gb_aload_n C dX2_init_0 0 rfl ?_
  refine gb_objInit C bw_22 ⟨by decide, by decide⟩ dX2_init_1 ?_
  refine gb_aload_n C dX2_init_4 0 rfl ?_
  refine gb_iconst (v := (4 : Int32)) C dX2_init_5 (by decide) ?_
  refine gb_newa (atype := .int) (ty := .int) (N' := 4) (a0 := (4, .inl (fun _ => 0))) C rfl bw_65 0 rfl (fun h => h) rfl (by decide) (by decide) (Nat.le_of_ble_eq_true rfl) (Nat.le_of_ble_eq_true rfl) (Nat.le_of_ble_eq_true rfl) (o := b + 1) rfl dX2_init_6 ?_
  show GB X b ([.inr (2, [.null, .null, .null, .null, .int 0, .int 0, .int 0, .int 0]), .inl (eC (tE X) 0, 4, .inl (fun _ => 0))]) 1 4 [(0, .ref b)] [.ref (b + 1), .ref b] 8
  refine gb_dup C dX2_init_8 rfl ?_
  refine gb_iconst (v := (0 : Int32)) C dX2_init_9 (by decide) ?_
  refine gb_iconst (v := (3 : Int32)) C dX2_init_10 (by decide) ?_
  refine gb_iast C 1 rfl (nI_in (c := 0) (by decide) (by decide)) rfl dX2_init_11 (es' := [.inr (2, [.null, .null, .null, .null, .int 0, .int 0, .int 0, .int 0]), .inl (eC (tE X) 0, 4, .inl (upd (fun _ => 0) 0 3))]) rfl ?_
  refine gb_dup C dX2_init_12 rfl ?_
  refine gb_iconst (v := (1 : Int32)) C dX2_init_13 (by decide) ?_
  refine gb_bipush (v := (20 : Int32)) C dX2_init_14 (by decide) ?_
  refine gb_iast C 1 rfl (nI_in (c := 1) (by decide) (by decide)) rfl dX2_init_16 (es' := [.inr (2, [.null, .null, .null, .null, .int 0, .int 0, .int 0, .int 0]), .inl (eC (tE X) 0, 4, .inl (upd (upd (fun _ => 0) 0 3) 1 20))]) rfl ?_
  refine gb_dup C dX2_init_17 rfl ?_
  refine gb_iconst (v := (2 : Int32)) C dX2_init_18 (by decide) ?_
  refine gb_bipush (v := (12 : Int32)) C dX2_init_19 (by decide) ?_
  refine gb_iast C 1 rfl (nI_in (c := 2) (by decide) (by decide)) rfl dX2_init_21 (es' := [.inr (2, [.null, .null, .null, .null, .int 0, .int 0, .int 0, .int 0]), .inl (eC (tE X) 0, 4, .inl (upd (upd (upd (fun _ => 0) 0 3) 1 20) 2 12))]) rfl ?_
  refine gb_dup C dX2_init_22 rfl ?_
  refine gb_iconst (v := (3 : Int32)) C dX2_init_23 (by decide) ?_
  refine gb_iconst (v := (1 : Int32)) C dX2_init_24 (by decide) ?_
  refine gb_iast C 1 rfl (nI_in (c := 3) (by decide) (by decide)) rfl dX2_init_25 (es' := [.inr (2, [.null, .null, .null, .null, .int 0, .int 0, .int 0, .int 0]), .inl (eC (tE X) 0, 4, .inl (upd (upd (upd (upd (fun _ => 0) 0 3) 1 20) 2 12) 3 1))]) rfl ?_
  refine gb_putF (T := TX2) (N := 8) C hi 0  rfl rfl inX2 tyX2 tyX2_ok nmX2 0 (by decide) bw_88 rfl rfl rfl rfl (by show 0 < 8; decide) (Nat.add_zero b).symm dX2_init_26 (es' := [.inr (2, [.ref (b + 1), .null, .null, .null, .int 0, .int 0, .int 0, .int 0]), .inl (eC (tE X) 0, 4, .inl (upd (upd (upd (upd (fun _ => 0) 0 3) 1 20) 2 12) 3 1))]) rfl ?_
  refine gb_aload_n C dX2_init_29 0 rfl ?_
  refine gb_iconst (v := (4 : Int32)) C dX2_init_30 (by decide) ?_
  refine gb_anew (D := RX1) (N' := 4) C 3 rfl bw_23 C.2.2.2.2.2.1.2.2.1 (by decide) (by decide) (Nat.le_of_ble_eq_true rfl) (Nat.le_of_ble_eq_true rfl) (Nat.le_of_ble_eq_true rfl) (o := b + 2) rfl dX2_init_31 ?_
  show GB X b ([.inr (2, [.ref (b + 1), .null, .null, .null, .int 0, .int 0, .int 0, .int 0]), .inl (eC (tE X) 0, 4, .inl (upd (upd (upd (upd (fun _ => 0) 0 3) 1 20) 2 12) 3 1)), .inl (eC (tE X) 3, 4, .inr (.inr (.inr (.inr (fun _ => none)))))]) 2 8 [(0, .ref b)] [.ref (b + 2), .ref b] 34
  refine gb_putF (T := TX2) (N := 8) C hi 0  rfl rfl inX2 tyX2 tyX2_ok nmX2 1 (by decide) bw_90 rfl rfl rfl rfl (by show 1 < 8; decide) (Nat.add_zero b).symm dX2_init_34 (es' := [.inr (2, [.ref (b + 1), .ref (b + 2), .null, .null, .int 0, .int 0, .int 0, .int 0]), .inl (eC (tE X) 0, 4, .inl (upd (upd (upd (upd (fun _ => 0) 0 3) 1 20) 2 12) 3 1)), .inl (eC (tE X) 3, 4, .inr (.inr (.inr (.inr (fun _ => none)))))]) rfl ?_
  refine gb_aload_n C dX2_init_37 0 rfl ?_
  refine gb_bipush (v := (16 : Int32)) C dX2_init_38 (by decide) ?_
  refine gb_anew (D := RX4) (N' := 16) C 4 rfl bw_25 C.2.2.2.2.2.1.2.2.2.2 (by decide) (by decide) (Nat.le_of_ble_eq_true rfl) (Nat.le_of_ble_eq_true rfl) (Nat.le_of_ble_eq_true rfl) (o := b + 3) rfl dX2_init_40 ?_
  show GB X b ([.inr (2, [.ref (b + 1), .ref (b + 2), .null, .null, .int 0, .int 0, .int 0, .int 0]), .inl (eC (tE X) 0, 4, .inl (upd (upd (upd (upd (fun _ => 0) 0 3) 1 20) 2 12) 3 1)), .inl (eC (tE X) 3, 4, .inr (.inr (.inr (.inr (fun _ => none))))), .inl (eC (tE X) 4, 16, .inr (.inr (.inr (.inr (fun _ => none)))))]) 3 24 [(0, .ref b)] [.ref (b + 3), .ref b] 43
  refine gb_putF (T := TX2) (N := 8) C hi 0  rfl rfl inX2 tyX2 tyX2_ok nmX2 2 (by decide) bw_92 rfl rfl rfl rfl (by show 2 < 8; decide) (Nat.add_zero b).symm dX2_init_43 (es' := [.inr (2, [.ref (b + 1), .ref (b + 2), .ref (b + 3), .null, .int 0, .int 0, .int 0, .int 0]), .inl (eC (tE X) 0, 4, .inl (upd (upd (upd (upd (fun _ => 0) 0 3) 1 20) 2 12) 3 1)), .inl (eC (tE X) 3, 4, .inr (.inr (.inr (.inr (fun _ => none))))), .inl (eC (tE X) 4, 16, .inr (.inr (.inr (.inr (fun _ => none)))))]) rfl ?_
  refine gb_aload_n C dX2_init_46 0 rfl ?_
  refine gb_bipush (v := (6 : Int32)) C dX2_init_47 (by decide) ?_
  refine gb_newa (atype := .int) (ty := .int) (N' := 6) (a0 := (6, .inl (fun _ => 0))) C rfl bw_65 0 rfl (fun h => h) rfl (by decide) (by decide) (Nat.le_of_ble_eq_true rfl) (Nat.le_of_ble_eq_true rfl) (Nat.le_of_ble_eq_true rfl) (o := b + 4) rfl dX2_init_49 ?_
  show GB X b ([.inr (2, [.ref (b + 1), .ref (b + 2), .ref (b + 3), .null, .int 0, .int 0, .int 0, .int 0]), .inl (eC (tE X) 0, 4, .inl (upd (upd (upd (upd (fun _ => 0) 0 3) 1 20) 2 12) 3 1)), .inl (eC (tE X) 3, 4, .inr (.inr (.inr (.inr (fun _ => none))))), .inl (eC (tE X) 4, 16, .inr (.inr (.inr (.inr (fun _ => none))))), .inl (eC (tE X) 0, 6, .inl (fun _ => 0))]) 4 30 [(0, .ref b)] [.ref (b + 4), .ref b] 51
  refine gb_putF (T := TX2) (N := 8) C hi 0  rfl rfl inX2 tyX2 tyX2_ok nmX2 3 (by decide) bw_93 rfl rfl rfl rfl (by show 3 < 8; decide) (Nat.add_zero b).symm dX2_init_51 (es' := [.inr (2, [.ref (b + 1), .ref (b + 2), .ref (b + 3), .ref (b + 4), .int 0, .int 0, .int 0, .int 0]), .inl (eC (tE X) 0, 4, .inl (upd (upd (upd (upd (fun _ => 0) 0 3) 1 20) 2 12) 3 1)), .inl (eC (tE X) 3, 4, .inr (.inr (.inr (.inr (fun _ => none))))), .inl (eC (tE X) 4, 16, .inr (.inr (.inr (.inr (fun _ => none))))), .inl (eC (tE X) 0, 6, .inl (fun _ => 0))]) rfl ?_
  refine gb_iconst (v := (0 : Int32)) C dX2_init_54 (by decide) ?_
  refine gb_istore_n (lv' := [(1, .int 0), (0, .ref b)]) C dX2_init_55 (by decide) rfl ?_
  exact gb_es (by rw [rowR_0, rowR_0] <;> rfl) rfl rfl (hL 4 0 rfl)
set_option maxHeartbeats 4000000 in
set_option maxRecDepth 100000 in
theorem c_X0_init (l : Launch) (E : Ev) (b : Nat) : CN l E yX0_init cX0_init 2 3 53 344 1952 b zX0 (esHist E b) := by
  refine CN_of (by decide) rfl (by decide) (fun X hL hE C hi hret hlk hZ => ?_)
  subst hL
  subst hE
  have C : Cy X cX0_init "SweetWraps$History" 3 53 2 344 1952 := C
  have hM1 : ∀ n i : Nat, i + n = 6 → GB X b (hH (tE X) b (rowR (b + 51) 49 i) ++ hM (tE X) b i) (50 + 49 * i) (284 + 278 * i) [(1, .int (nI i)), (0, .ref b)] [] 26 := by
    intro n
    induction n with
    | zero =>
      intro i ht
      obtain rfl : i = 6 := by omega
      refine gb_iload_n C dX0_init_26 0 rfl ?_
      refine gb_aload_n C dX0_init_27 1 rfl ?_
      refine gb_get (T := TX0) (N := 3) C 0 rfl rfl inX0 0 (by decide) bw_124 rfl rfl (Nat.add_zero b).symm dX0_init_28 ?_
      refine gb_alen C 1 rfl (t0 := 5) rfl (v := nI 6) rfl rfl dX0_init_31 ?_
      refine gb_icmp_ge (tgt := 54) C dX0_init_32 (by decide) (fun _ => ?_) (fun c => absurd (by decide) c)
      exact gb_vret C hret hlk rfl hZ (Nat.le_of_ble_eq_true rfl) (Nat.le_of_ble_eq_true rfl) dX0_init_54
    | succ n ih =>
      intro i ht
      have hlt : i < 6 := by omega
      have hlen : (hH (tE X) b (rowR (b + 51) 49 i) ++ hM (tE X) b i).length = 51 + 49 * i := by rw [List.length_append, hM_len]; show 2 + (49 + 49 * i) = 51 + 49 * i; omega
      refine gb_iload_n C dX0_init_26 0 rfl ?_
      refine gb_aload_n C dX0_init_27 1 rfl ?_
      refine gb_get (T := TX0) (N := 3) C 0 rfl rfl inX0 0 (by decide) bw_124 rfl rfl (Nat.add_zero b).symm dX0_init_28 ?_
      refine gb_alen C 1 rfl (t0 := 5) rfl (v := nI 6) rfl rfl dX0_init_31 ?_
      refine gb_icmp_ge (tgt := 54) C dX0_init_32 (by decide) (fun c => absurd c (nI_ge hlt (by decide))) (fun _ => ?_)
      refine gb_aload_n C dX0_init_35 1 rfl ?_
      refine gb_get (T := TX0) (N := 3) C 0 rfl rfl inX0 0 (by decide) bw_124 rfl rfl (Nat.add_zero b).symm dX0_init_36 ?_
      refine gb_iload_n C dX0_init_39 0 rfl ?_
      refine gb_new (ci := 2) (D := RX2) (T := TX2) (N := 8) (fs := [.null, .null, .null, .null, .int 0, .int 0, .int 0, .int 0]) C rfl inX2 tyX2 tyX2_ok bw_121 bw_18 bw_2 (fun j hj => by rcases (show j = 0 ∨ j = 1 ∨ j = 2 ∨ j = 3 ∨ j = 4 ∨ j = 5 ∨ j = 6 ∨ j = 7 by omega) with rfl | rfl | rfl | rfl | rfl | rfl | rfl | rfl <;> rfl) (by omega) (by omega) (o := b + 51 + 49 * i) (by rw [hlen]; omega) dX0_init_40 ?_
      refine gb_dup C dX0_init_43 rfl ?_
      refine gb_init (es0 := hH (tE X) b (rowR (b + 51) 49 i) ++ hM (tE X) b i) C (c_X2_init (tL X) (tE X) (b + 51 + 49 * i)) bw_123 bw_20 bw_2 bw_21 rfl (by decide) ⟨by decide, by decide⟩ (by omega) (by omega) (by rw [hlen]; omega) rfl (Nat.le_of_ble_eq_true rfl) dX0_init_44 ?_
      refine gb_aast C 1 5 (51 + 49 * i) 2 rfl rfl (get_mid (x := .inr (2, [.ref (b + 51 + 49 * i + 1), .ref (b + 51 + 49 * i + 2), .ref (b + 51 + 49 * i + 3), .ref (b + 51 + 49 * i + 4), .int 0, .int 0, .int 0, .int 0])) (r := (esMach (tE X) (b + 51 + 49 * i)).tail) hlen) (r := (RX2, TX2, 8)) rfl (nI_in hlt (by decide)) rfl (by omega) dX0_init_47 (es' := hH (tE X) b (rowR (b + 51) 49 (i + 1)) ++ hM (tE X) b (i + 1)) (by rw [rowR_up (by omega)] <;> rfl) ?_
      refine gb_iinc (v := nI (i + 1)) (lv' := [(1, .int (nI (i + 1))), (0, .ref b)]) C dX0_init_48 0 rfl (nI_1 i) (by decide) rfl ?_
      refine gb_goto (tgt := 26) C dX0_init_51 (by decide) ?_
      exact gb_es rfl (by omega) (by omega) (ih (i + 1) (by omega))
  show GB X b [.inr (0, [.null, .null, .int 0])] 0 0 [(0, .ref b)] [] 0
  refine gb_aload_n C dX0_init_0 0 rfl ?_
  refine gb_objInit C bw_120 ⟨by decide, by decide⟩ dX0_init_1 ?_
  refine gb_aload_n C dX0_init_4 0 rfl ?_
  refine gb_bipush (v := (6 : Int32)) C dX0_init_5 (by decide) ?_
  refine gb_anew (D := RX2) (N' := 6) C 5 rfl bw_121 C.2.2.2.2.2.1.2.2.2.1 (by decide) (by decide) (Nat.le_of_ble_eq_true rfl) (Nat.le_of_ble_eq_true rfl) (Nat.le_of_ble_eq_true rfl) (o := b + 1) rfl dX0_init_7 ?_
  show GB X b ([.inr (0, [.null, .null, .int 0]), .inl (eC (tE X) 5, 6, .inr (.inr (.inr (.inr (fun _ => none)))))]) 1 6 [(0, .ref b)] [.ref (b + 1), .ref b] 10
  refine gb_putF (T := TX0) (N := 3) C hi 0  rfl rfl inX0 tyX0 tyX0_ok nmX0 0 (by decide) bw_124 rfl rfl rfl rfl (by show 0 < 3; decide) (Nat.add_zero b).symm dX0_init_10 (es' := [.inr (0, [.ref (b + 1), .null, .int 0]), .inl (eC (tE X) 5, 6, .inr (.inr (.inr (.inr (fun _ => none)))))]) rfl ?_
  refine gb_aload_n C dX0_init_13 0 rfl ?_
  refine gb_new (ci := 2) (D := RX2) (T := TX2) (N := 8) (fs := [.null, .null, .null, .null, .int 0, .int 0, .int 0, .int 0]) C rfl inX2 tyX2 tyX2_ok bw_121 bw_18 bw_2 (fun j hj => by rcases (show j = 0 ∨ j = 1 ∨ j = 2 ∨ j = 3 ∨ j = 4 ∨ j = 5 ∨ j = 6 ∨ j = 7 by omega) with rfl | rfl | rfl | rfl | rfl | rfl | rfl | rfl <;> rfl) (Nat.le_of_ble_eq_true rfl) (Nat.le_of_ble_eq_true rfl) (o := b + 2) rfl dX0_init_14 ?_
  refine gb_dup C dX0_init_17 rfl ?_
  refine gb_init (es0 := [.inr (0, [.ref (b + 1), .null, .int 0]), .inl (eC (tE X) 5, 6, .inr (.inr (.inr (.inr (fun _ => none)))))]) C (c_X2_init (tL X) (tE X) (b + 2)) bw_123 bw_20 bw_2 bw_21 rfl (by decide) ⟨by decide, by decide⟩ (Nat.le_of_ble_eq_true rfl) (Nat.le_of_ble_eq_true rfl) rfl rfl (Nat.le_of_ble_eq_true rfl) dX0_init_18 ?_
  show GB X b ((([.inr (0, [.ref (b + 1), .null, .int 0]), .inl (eC (tE X) 5, 6, .inr (.inr (.inr (.inr (fun _ => none)))))] : List va_E) ++ esMach (tE X) (b + 2))) 50 284 [(0, .ref b)] [.ref (b + 2), .ref b] 21
  refine gb_put (T := TX0) (N := 3) C 0  rfl rfl inX0 tyX0 tyX0_ok nmX0 1 (by decide) bw_125 rfl rfl rfl rfl (by show 1 < 3; decide) (Nat.add_zero b).symm dX0_init_21 (es' := (([.inr (0, [.ref (b + 1), .ref (b + 2), .int 0]), .inl (eC (tE X) 5, 6, .inr (.inr (.inr (.inr (fun _ => none)))))] : List va_E) ++ esMach (tE X) (b + 2))) rfl ?_
  refine gb_iconst (v := (0 : Int32)) C dX0_init_24 (by decide) ?_
  refine gb_istore_n (lv' := [(1, .int 0), (0, .ref b)]) C dX0_init_25 (by decide) rfl ?_
  exact gb_es (by rw [rowR_0] <;> rfl) rfl rfl (hM1 6 0 rfl)
set_option maxHeartbeats 4000000 in
set_option maxRecDepth 100000 in
theorem c_X5_init (l : Launch) (E : Ev) (b : Nat) : CN l E yX5_init cX5_init 2 4 74 546 3160 b zX5 (esSW E b) := by
  refine CN_of (by decide) rfl (by decide) (fun X hL hE C hi hret hlk hZ => ?_)
  subst hL
  subst hE
  have C : Cy X cX5_init "SweetWraps" 4 74 2 546 3160 := C
  have hS1 : ∀ n i : Nat, i + n = 2 → GB X b (swQ (tE X) b ++ (.inl (eC (tE X) 5, 2, .inr (.inr (.inr (.inr (rowR (b + 449) 49 i))))) :: swM (tE X) b i)) (448 + 49 * i) (2604 + 278 * i) [(1, .int (nI i)), (0, .ref b)] [] 65 := by
    intro n
    induction n with
    | zero =>
      intro i ht
      obtain rfl : i = 2 := by omega
      refine gb_iload_n C dX5_init_65 0 rfl ?_
      refine gb_aload_n C dX5_init_66 1 rfl ?_
      refine gb_get (T := TX5) (N := 6) C 0 rfl rfl inX5 3 (by decide) bw_162 rfl rfl (Nat.add_zero b).symm dX5_init_67 ?_
      refine gb_alen C 444 (get_mid (swQ_len _ _)) (t0 := 5) rfl (v := nI 2) rfl rfl dX5_init_70 ?_
      refine gb_icmp_ge (tgt := 93) C dX5_init_71 (by decide) (fun _ => ?_) (fun c => absurd (by decide) c)
      exact gb_vret C hret hlk rfl hZ (Nat.le_of_ble_eq_true rfl) (Nat.le_of_ble_eq_true rfl) dX5_init_93
    | succ n ih =>
      intro i ht
      have hlt : i < 2 := by omega
      have hlen : (swQ (tE X) b ++ (.inl (eC (tE X) 5, 2, .inr (.inr (.inr (.inr (rowR (b + 449) 49 i))))) :: swM (tE X) b i)).length = 449 + 49 * i := by rw [List.length_append, List.length_cons, swQ_len, swM_len]; show 444 + (4 + 49 * i + 1) = 449 + 49 * i; omega
      refine gb_iload_n C dX5_init_65 0 rfl ?_
      refine gb_aload_n C dX5_init_66 1 rfl ?_
      refine gb_get (T := TX5) (N := 6) C 0 rfl rfl inX5 3 (by decide) bw_162 rfl rfl (Nat.add_zero b).symm dX5_init_67 ?_
      refine gb_alen C 444 (get_mid (swQ_len _ _)) (t0 := 5) rfl (v := nI 2) rfl rfl dX5_init_70 ?_
      refine gb_icmp_ge (tgt := 93) C dX5_init_71 (by decide) (fun c => absurd c (nI_ge hlt (by decide))) (fun _ => ?_)
      refine gb_aload_n C dX5_init_74 1 rfl ?_
      refine gb_get (T := TX5) (N := 6) C 0 rfl rfl inX5 3 (by decide) bw_162 rfl rfl (Nat.add_zero b).symm dX5_init_75 ?_
      refine gb_iload_n C dX5_init_78 0 rfl ?_
      refine gb_new (ci := 2) (D := RX2) (T := TX2) (N := 8) (fs := [.null, .null, .null, .null, .int 0, .int 0, .int 0, .int 0]) C rfl inX2 tyX2 tyX2_ok bw_17 bw_18 bw_2 (fun j hj => by rcases (show j = 0 ∨ j = 1 ∨ j = 2 ∨ j = 3 ∨ j = 4 ∨ j = 5 ∨ j = 6 ∨ j = 7 by omega) with rfl | rfl | rfl | rfl | rfl | rfl | rfl | rfl <;> rfl) (by omega) (by omega) (o := b + 449 + 49 * i) (by rw [hlen]; omega) dX5_init_79 ?_
      refine gb_dup C dX5_init_82 rfl ?_
      refine gb_init (es0 := swQ (tE X) b ++ (.inl (eC (tE X) 5, 2, .inr (.inr (.inr (.inr (rowR (b + 449) 49 i))))) :: swM (tE X) b i)) C (c_X2_init (tL X) (tE X) (b + 449 + 49 * i)) bw_19 bw_20 bw_2 bw_21 rfl (by decide) ⟨by decide, by decide⟩ (by omega) (by omega) (by rw [hlen]; omega) rfl (Nat.le_of_ble_eq_true rfl) dX5_init_83 ?_
      have hv9 := get_mid (x := .inr (2, [.ref (b + 449 + 49 * i + 1), .ref (b + 449 + 49 * i + 2), .ref (b + 449 + 49 * i + 3), .ref (b + 449 + 49 * i + 4), .int 0, .int 0, .int 0, .int 0])) (r := (esMach (tE X) (b + 449 + 49 * i)).tail) hlen
      rw [List.append_assoc] at hv9
      refine gb_es (List.append_assoc _ _ _) rfl rfl ?_
      refine gb_aast C 444 5 (449 + 49 * i) 2 (get_mid (swQ_len _ _)) rfl hv9 (r := (RX2, TX2, 8)) rfl (nI_in hlt (by decide)) rfl (by omega) dX5_init_86 (es' := swQ (tE X) b ++ (.inl (eC (tE X) 5, 2, .inr (.inr (.inr (.inr (rowR (b + 449) 49 (i + 1)))))) :: swM (tE X) b (i + 1))) ((set_mid (swQ_len _ _)).trans (by rw [rowR_up (by omega)] <;> rfl)) ?_
      refine gb_iinc (v := nI (i + 1)) (lv' := [(1, .int (nI (i + 1))), (0, .ref b)]) C dX5_init_87 0 rfl (nI_1 i) (by decide) rfl ?_
      refine gb_goto (tgt := 65) C dX5_init_90 (by decide) ?_
      exact gb_es rfl (by omega) (by omega) (ih (i + 1) (by omega))
  show GB X b [.inr (5, [.null, .null, .null, .null, .null, .null])] 0 0 [(0, .ref b)] [] 0
  refine gb_aload_n C dX5_init_0 0 rfl ?_
  refine gb_objInit C bw_14 ⟨by decide, by decide⟩ dX5_init_1 ?_
  refine gb_aload_n C dX5_init_4 0 rfl ?_
  refine gb_new (ci := 2) (D := RX2) (T := TX2) (N := 8) (fs := [.null, .null, .null, .null, .int 0, .int 0, .int 0, .int 0]) C rfl inX2 tyX2 tyX2_ok bw_17 bw_18 bw_2 (fun j hj => by rcases (show j = 0 ∨ j = 1 ∨ j = 2 ∨ j = 3 ∨ j = 4 ∨ j = 5 ∨ j = 6 ∨ j = 7 by omega) with rfl | rfl | rfl | rfl | rfl | rfl | rfl | rfl <;> rfl) (Nat.le_of_ble_eq_true rfl) (Nat.le_of_ble_eq_true rfl) (o := b + 1) rfl dX5_init_5 ?_
  refine gb_dup C dX5_init_8 rfl ?_
  refine gb_init (es0 := [.inr (5, [.null, .null, .null, .null, .null, .null])]) C (c_X2_init (tL X) (tE X) (b + 1)) bw_19 bw_20 bw_2 bw_21 rfl (by decide) ⟨by decide, by decide⟩ (Nat.le_of_ble_eq_true rfl) (Nat.le_of_ble_eq_true rfl) rfl rfl (Nat.le_of_ble_eq_true rfl) dX5_init_9 ?_
  show GB X b ((([.inr (5, [.null, .null, .null, .null, .null, .null])] : List va_E) ++ esMach (tE X) (b + 1))) 49 278 [(0, .ref b)] [.ref (b + 1), .ref b] 12
  refine gb_putF (T := TX5) (N := 6) C hi 0  rfl rfl inX5 tyX5 tyX5_ok nmX5 0 (by decide) bw_159 rfl rfl rfl rfl (by show 0 < 6; decide) (Nat.add_zero b).symm dX5_init_12 (es' := (([.inr (5, [.ref (b + 1), .null, .null, .null, .null, .null])] : List va_E) ++ esMach (tE X) (b + 1))) rfl ?_
  refine gb_aload_n C dX5_init_15 0 rfl ?_
  refine gb_new (ci := 2) (D := RX2) (T := TX2) (N := 8) (fs := [.null, .null, .null, .null, .int 0, .int 0, .int 0, .int 0]) C rfl inX2 tyX2 tyX2_ok bw_17 bw_18 bw_2 (fun j hj => by rcases (show j = 0 ∨ j = 1 ∨ j = 2 ∨ j = 3 ∨ j = 4 ∨ j = 5 ∨ j = 6 ∨ j = 7 by omega) with rfl | rfl | rfl | rfl | rfl | rfl | rfl | rfl <;> rfl) (Nat.le_of_ble_eq_true rfl) (Nat.le_of_ble_eq_true rfl) (o := b + 50) (by simp only [List.length_append, esMach_len, esHist_len, esPad_len, List.length_cons, List.length_nil] <;> omega) dX5_init_16 ?_
  refine gb_dup C dX5_init_19 rfl ?_
  refine gb_init (es0 := (([.inr (5, [.ref (b + 1), .null, .null, .null, .null, .null])] : List va_E) ++ esMach (tE X) (b + 1))) C (c_X2_init (tL X) (tE X) (b + 50)) bw_19 bw_20 bw_2 bw_21 rfl (by decide) ⟨by decide, by decide⟩ (Nat.le_of_ble_eq_true rfl) (Nat.le_of_ble_eq_true rfl) (by simp only [List.length_append, esMach_len, esHist_len, esPad_len, List.length_cons, List.length_nil] <;> omega) rfl (Nat.le_of_ble_eq_true rfl) dX5_init_20 ?_
  show GB X b (((([.inr (5, [.ref (b + 1), .null, .null, .null, .null, .null])] : List va_E) ++ esMach (tE X) (b + 1)) ++ esMach (tE X) (b + 50))) 98 556 [(0, .ref b)] [.ref (b + 50), .ref b] 23
  refine gb_putF (T := TX5) (N := 6) C hi 0  rfl rfl inX5 tyX5 tyX5_ok nmX5 1 (by decide) bw_160 rfl rfl rfl rfl (by show 1 < 6; decide) (Nat.add_zero b).symm dX5_init_23 (es' := ((([.inr (5, [.ref (b + 1), .ref (b + 50), .null, .null, .null, .null])] : List va_E) ++ esMach (tE X) (b + 1)) ++ esMach (tE X) (b + 50))) rfl ?_
  refine gb_aload_n C dX5_init_26 0 rfl ?_
  refine gb_new (ci := 0) (D := RX0) (T := TX0) (N := 3) (fs := [.null, .null, .int 0]) C rfl inX0 tyX0 tyX0_ok bw_115 bw_116 bw_5 (fun j hj => by rcases (show j = 0 ∨ j = 1 ∨ j = 2 by omega) with rfl | rfl | rfl <;> rfl) (Nat.le_of_ble_eq_true rfl) (Nat.le_of_ble_eq_true rfl) (o := b + 99) (by simp only [List.length_append, esMach_len, esHist_len, esPad_len, List.length_cons, List.length_nil] <;> omega) dX5_init_27 ?_
  refine gb_dup C dX5_init_30 rfl ?_
  refine gb_init (es0 := ((([.inr (5, [.ref (b + 1), .ref (b + 50), .null, .null, .null, .null])] : List va_E) ++ esMach (tE X) (b + 1)) ++ esMach (tE X) (b + 50))) C (c_X0_init (tL X) (tE X) (b + 99)) bw_117 bw_118 bw_5 bw_119 rfl (by decide) ⟨by decide, by decide⟩ (Nat.le_of_ble_eq_true rfl) (Nat.le_of_ble_eq_true rfl) (by simp only [List.length_append, esMach_len, esHist_len, esPad_len, List.length_cons, List.length_nil] <;> omega) rfl (Nat.le_of_ble_eq_true rfl) dX5_init_31 ?_
  show GB X b ((((([.inr (5, [.ref (b + 1), .ref (b + 50), .null, .null, .null, .null])] : List va_E) ++ esMach (tE X) (b + 1)) ++ esMach (tE X) (b + 50)) ++ esHist (tE X) (b + 99))) 443 2511 [(0, .ref b)] [.ref (b + 99), .ref b] 34
  refine gb_putF (T := TX5) (N := 6) C hi 0  rfl rfl inX5 tyX5 tyX5_ok nmX5 2 (by decide) bw_161 rfl rfl rfl rfl (by show 2 < 6; decide) (Nat.add_zero b).symm dX5_init_34 (es' := (((([.inr (5, [.ref (b + 1), .ref (b + 50), .ref (b + 99), .null, .null, .null])] : List va_E) ++ esMach (tE X) (b + 1)) ++ esMach (tE X) (b + 50)) ++ esHist (tE X) (b + 99))) rfl ?_
  refine gb_aload_n C dX5_init_37 0 rfl ?_
  refine gb_iconst (v := (2 : Int32)) C dX5_init_38 (by decide) ?_
  refine gb_anew (D := RX2) (N' := 2) C 5 rfl bw_17 C.2.2.2.2.2.1.2.2.2.1 (by decide) (by decide) (Nat.le_of_ble_eq_true rfl) (Nat.le_of_ble_eq_true rfl) (Nat.le_of_ble_eq_true rfl) (o := b + 444) (by simp only [List.length_append, esMach_len, esHist_len, esPad_len, List.length_cons, List.length_nil] <;> omega) dX5_init_39 ?_
  show GB X b (((((([.inr (5, [.ref (b + 1), .ref (b + 50), .ref (b + 99), .null, .null, .null])] : List va_E) ++ esMach (tE X) (b + 1)) ++ esMach (tE X) (b + 50)) ++ esHist (tE X) (b + 99)) ++ [.inl (eC (tE X) 5, 2, .inr (.inr (.inr (.inr (fun _ => none)))))])) 444 2513 [(0, .ref b)] [.ref (b + 444), .ref b] 42
  refine gb_putF (T := TX5) (N := 6) C hi 0  rfl rfl inX5 tyX5 tyX5_ok nmX5 3 (by decide) bw_162 rfl rfl rfl rfl (by show 3 < 6; decide) (Nat.add_zero b).symm dX5_init_42 (es' := ((((([.inr (5, [.ref (b + 1), .ref (b + 50), .ref (b + 99), .ref (b + 444), .null, .null])] : List va_E) ++ esMach (tE X) (b + 1)) ++ esMach (tE X) (b + 50)) ++ esHist (tE X) (b + 99)) ++ [.inl (eC (tE X) 5, 2, .inr (.inr (.inr (.inr (fun _ => none)))))])) rfl ?_
  refine gb_aload_n C dX5_init_45 0 rfl ?_
  refine gb_iconst (v := (2 : Int32)) C dX5_init_46 (by decide) ?_
  refine gb_newa (atype := .boolean) (ty := .boolean) (N' := 2) (a0 := (2, .inl (fun _ => 0))) C rfl bw_157 1 rfl (fun h => h) rfl (by decide) (by decide) (Nat.le_of_ble_eq_true rfl) (Nat.le_of_ble_eq_true rfl) (Nat.le_of_ble_eq_true rfl) (o := b + 445) (by simp only [List.length_append, esMach_len, esHist_len, esPad_len, List.length_cons, List.length_nil] <;> omega) dX5_init_47 ?_
  show GB X b ((((((([.inr (5, [.ref (b + 1), .ref (b + 50), .ref (b + 99), .ref (b + 444), .null, .null])] : List va_E) ++ esMach (tE X) (b + 1)) ++ esMach (tE X) (b + 50)) ++ esHist (tE X) (b + 99)) ++ [.inl (eC (tE X) 5, 2, .inr (.inr (.inr (.inr (fun _ => none)))))]) ++ [.inl (eC (tE X) 1, 2, .inl (fun _ => 0))])) 445 2515 [(0, .ref b)] [.ref (b + 445), .ref b] 49
  refine gb_putF (T := TX5) (N := 6) C hi 0  rfl rfl inX5 tyX5 tyX5_ok nmX5 4 (by decide) bw_163 rfl rfl rfl rfl (by show 4 < 6; decide) (Nat.add_zero b).symm dX5_init_49 (es' := (((((([.inr (5, [.ref (b + 1), .ref (b + 50), .ref (b + 99), .ref (b + 444), .ref (b + 445), .null])] : List va_E) ++ esMach (tE X) (b + 1)) ++ esMach (tE X) (b + 50)) ++ esHist (tE X) (b + 99)) ++ [.inl (eC (tE X) 5, 2, .inr (.inr (.inr (.inr (fun _ => none)))))]) ++ [.inl (eC (tE X) 1, 2, .inl (fun _ => 0))])) rfl ?_
  refine gb_aload_n C dX5_init_52 0 rfl ?_
  refine gb_new (ci := 3) (D := RX3) (T := TX3) (N := 6) (fs := [.null, .null, .int 0, .int 0, .int 0, .int 0]) C rfl inX3 tyX3 tyX3_ok bw_135 bw_136 bw_6 (fun j hj => by rcases (show j = 0 ∨ j = 1 ∨ j = 2 ∨ j = 3 ∨ j = 4 ∨ j = 5 by omega) with rfl | rfl | rfl | rfl | rfl | rfl <;> rfl) (Nat.le_of_ble_eq_true rfl) (Nat.le_of_ble_eq_true rfl) (o := b + 446) (by simp only [List.length_append, esMach_len, esHist_len, esPad_len, List.length_cons, List.length_nil] <;> omega) dX5_init_53 ?_
  refine gb_dup C dX5_init_56 rfl ?_
  refine gb_initN (host := "SweetWraps") (es0 := (((((([.inr (5, [.ref (b + 1), .ref (b + 50), .ref (b + 99), .ref (b + 444), .ref (b + 445), .null])] : List va_E) ++ esMach (tE X) (b + 1)) ++ esMach (tE X) (b + 50)) ++ esHist (tE X) (b + 99)) ++ [.inl (eC (tE X) 5, 2, .inr (.inr (.inr (.inr (fun _ => none)))))]) ++ [.inl (eC (tE X) 1, 2, .inl (fun _ => 0))])) C (c_X3_init (tL X) (tE X) (b + 446)) (List.mem_of_getElem? (i := 137) (by decide +kernel)) bw_138 bw_6 bw_139 rfl (by decide) ⟨by decide, by decide⟩ (Nat.le_of_ble_eq_true rfl) (Nat.le_of_ble_eq_true rfl) (by simp only [List.length_append, esMach_len, esHist_len, esPad_len, List.length_cons, List.length_nil] <;> omega) rfl (Nat.le_of_ble_eq_true rfl) dX5_init_57 ?_
  show GB X b (((((((([.inr (5, [.ref (b + 1), .ref (b + 50), .ref (b + 99), .ref (b + 444), .ref (b + 445), .null])] : List va_E) ++ esMach (tE X) (b + 1)) ++ esMach (tE X) (b + 50)) ++ esHist (tE X) (b + 99)) ++ [.inl (eC (tE X) 5, 2, .inr (.inr (.inr (.inr (fun _ => none)))))]) ++ [.inl (eC (tE X) 1, 2, .inl (fun _ => 0))]) ++ esPad (tE X) (b + 446))) 448 2604 [(0, .ref b)] [.ref (b + 446), .ref b] 60
  refine gb_putF (T := TX5) (N := 6) C hi 0  rfl rfl inX5 tyX5 tyX5_ok nmX5 5 (by decide) bw_164 rfl rfl rfl rfl (by show 5 < 6; decide) (Nat.add_zero b).symm dX5_init_60 (es' := ((((((([.inr (5, [.ref (b + 1), .ref (b + 50), .ref (b + 99), .ref (b + 444), .ref (b + 445), .ref (b + 446)])] : List va_E) ++ esMach (tE X) (b + 1)) ++ esMach (tE X) (b + 50)) ++ esHist (tE X) (b + 99)) ++ [.inl (eC (tE X) 5, 2, .inr (.inr (.inr (.inr (fun _ => none)))))]) ++ [.inl (eC (tE X) 1, 2, .inl (fun _ => 0))]) ++ esPad (tE X) (b + 446))) rfl ?_
  refine gb_iconst (v := (0 : Int32)) C dX5_init_63 (by decide) ?_
  refine gb_istore_n (lv' := [(1, .int 0), (0, .ref b)]) C dX5_init_64 (by decide) rfl ?_
  exact gb_es ((sw_assoc _ _ _ _).trans (by rw [rowR_0] <;> rfl)) rfl rfl (hS1 2 0 rfl)
