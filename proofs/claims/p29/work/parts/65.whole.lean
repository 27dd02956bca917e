/-! The law's loop; the law from its entry. -/
/-- what the law rests on: the script, its place -/
def LX (X : Tx) (b L : Nat) (xs : Nat → Int32) : Prop := Cl X cL_law "SweetWrapsLaw" ret 10 378 5 ∧ va_X b L xs (tS X) (tS X).heap ∧ b < (tS X).heap.size ∧ ¬ eA (tE X) b ∧ L ≤ 260
abbrev lvL (E : Ev) (b k : Nat) : List (Nat × Value) := [(2, .int (nI k)), (1, .ref (ad E 11 10 0)), (0, .ref b)]
section LL
variable {X : Tx} {b L : Nat} {xs : Nat → Int32} {σ : Sg} {r : Nat → Int32}
set_option maxHeartbeats 4000000 in
theorem law_step (hL : LX X b L xs) {k : Nat} (hk : k < 50) (h : ST σ r []) (hN : NV r) (kk : ∀ τ r', ST τ r' [] → NV r' → GL X τ (lvL (tE X) b (k + 1)) [] 10) : GL X σ (lvL (tE X) b k) [] 16 := by
  obtain ⟨C, hX, hbl, hbA, hL2⟩ := id hL
  have C : Cl X cL_law "SweetWrapsLaw" ret 10 378 5 := C
  refine gl_aload_n C dL_law_16 2 rfl ?_
  refine gl_iload_n C dL_law_17 0 rfl ?_
  refine gl_cell C hX hbl hbA hL2 hk ⟨by decide, by decide⟩ dL_law_18 (fun v => ?_)
  refine gl_istore_n (lv' := [(3, .int v), (2, .int (nI k)), (1, .ref (ad (tE X) 11 10 0)), (0, .ref b)]) C dL_law_21 (by decide) rfl ?_
  refine gl_iload_n C dL_law_22 0 rfl ?_
  refine gl_iconst (v := (3 : Int32)) C dL_law_23 (by decide) ?_
  refine gl_ishr C dL_law_24 ?_
  refine gl_bipush (v := (6 : Int32)) C dL_law_25 (by decide) ?_
  refine gl_scalli (As := [.int (v >>> ((3 : Int32) &&& 31)), .int 6]) (rest := []) C (c_L_low (Q := fun z τ => σ = τ ∧ ∃ j, j < 6 ∧ z = nI j) _ _ (q_low 6 (by decide) (by decide) rfl (fun j hj => ⟨rfl, j, hj, rfl⟩))) bw_181 bw_182 bw_0 bw_183 hyS_L_low ⟨by decide, by decide⟩ rfl (Nat.le_of_ble_eq_true rfl) dL_law_27 (fun z1 τ1 hz => ?_)
  obtain ⟨e1, a, ha, e2⟩ := hz
  subst e1
  subst e2
  refine gl_istore (lv' := [(4, .int (nI a)), (3, .int v), (2, .int (nI k)), (1, .ref (ad (tE X) 11 10 0)), (0, .ref b)]) C dL_law_30 (by decide) rfl ?_
  refine gl_aload_n C dL_law_32 3 rfl ?_
  refine gl_iload_n C dL_law_33 1 rfl ?_
  refine gl_scalli (As := [.ref (ad (tE X) 11 10 0), .int v]) (rest := []) C (c_L_does (Q := fun w τ => ∃ r', ¬ w < 0 ∧ ST τ r' [] ∧ NV r') _ _ (q_does h hN (fun w τ r' hw h1 h2 => ⟨r', hw, h1, h2⟩))) bw_185 bw_186 bw_0 bw_187 hyS_L_does ⟨by decide, by decide⟩ rfl (Nat.le_of_ble_eq_true rfl) dL_law_34 (fun w σ2 hw => ?_)
  obtain ⟨r2, hw0, h2, hN2⟩ := hw
  refine gl_if_lt (tgt := 119) C dL_law_37 (by decide) (fun c => absurd c hw0) (fun _ => ?_)
  clear h hN
  refine gl_aload_n C dL_law_40 3 rfl ?_
  refine gl_scalli (As := [.ref (ad (tE X) 11 10 0)]) (rest := []) C (c_L_areTinsSo (Q := fun w τ => w = 1 ∧ σ2 = τ) _ _ (q_tins h2.1 hN2 ⟨rfl, rfl⟩)) bw_407 bw_408 bw_0 bw_409 hyS_L_areTinsSo ⟨by decide, by decide⟩ rfl (Nat.le_of_ble_eq_true rfl) dL_law_41 (fun w40 τ40 hz => ?_)
  obtain ⟨e40, f40⟩ := hz
  subst f40
  subst e40
  refine gl_if_eq (tgt := 119) C dL_law_44 (by decide) (fun c => absurd c (by decide)) (fun _ => ?_)
  refine gl_aload_n C dL_law_47 3 rfl ?_
  refine gl_scalli (As := [.ref (ad (tE X) 11 10 0)]) (rest := []) C (c_L_areLanesSo (Q := fun w τ => w = 1 ∧ σ2 = τ) _ _ (q_lanes h2.1 hN2 ⟨rfl, rfl⟩)) bw_446 bw_447 bw_0 bw_448 hyS_L_areLanesSo ⟨by decide, by decide⟩ rfl (Nat.le_of_ble_eq_true rfl) dL_law_48 (fun w47 τ47 hz => ?_)
  obtain ⟨e47, f47⟩ := hz
  subst f47
  subst e47
  refine gl_if_eq (tgt := 119) C dL_law_51 (by decide) (fun c => absurd c (by decide)) (fun _ => ?_)
  -- the tales or none, and on
  have c121 : ∀ τ : Sg, ST τ r2 [] → GL X τ [(4, .int (nI a)), (3, .int v), (2, .int (nI k)), (1, .ref (ad (tE X) 11 10 0)), (0, .ref b)] [] 121 := by
    intro τ hτ
    refine gl_iinc (v := nI (k + 1)) (lv' := [(2, .int (nI (k + 1))), (4, .int (nI a)), (3, .int v), (1, .ref (ad (tE X) 11 10 0)), (0, .ref b)]) C dL_law_121 2 rfl (nI_1 k) (by decide) rfl ?_
    refine gl_goto (tgt := 10) C dL_law_124 (by decide) ?_
    refine gl_sub (lv' := lvL (tE X) b (k + 1)) [0, 3, 4] rfl ?_
    exact kk τ r2 hτ hN2
  have c68 : GL X σ2 [(4, .int (nI a)), (3, .int v), (2, .int (nI k)), (1, .ref (ad (tE X) 11 10 0)), (0, .ref b)] [] 68 := by
    refine gl_iload_n C dL_law_68 2 rfl ?_
    refine gl_bipush (v := (6 : Int32)) C dL_law_69 (by decide) ?_
    refine gl_irem C dL_law_71 (by decide) ?_
    refine gl_iconst (v := (5 : Int32)) C dL_law_72 (by decide) ?_
    refine gl_icmp_ne (tgt := 121) C dL_law_73 (by decide) (fun _ => c121 _ h2) (fun _ => ?_)
    refine gl_aload_n C dL_law_76 3 rfl ?_
    refine gl_iload_n C dL_law_77 1 rfl ?_
    refine gl_iconst (v := (5 : Int32)) C dL_law_78 (by decide) ?_
    refine gl_ishr C dL_law_79 ?_
    refine gl_iconst (v := (4 : Int32)) C dL_law_80 (by decide) ?_
    refine gl_scalli (As := [.int (v >>> ((5 : Int32) &&& 31)), .int 4]) (rest := [.ref (ad (tE X) 11 10 0)]) C (c_L_low (Q := fun z τ => σ2 = τ ∧ ∃ j, j < 4 ∧ z = nI j) _ _ (q_low 4 (by decide) (by decide) rfl (fun j hj => ⟨rfl, j, hj, rfl⟩))) bw_181 bw_182 bw_0 bw_183 hyS_L_low ⟨by decide, by decide⟩ rfl (Nat.le_of_ble_eq_true rfl) dL_law_81 (fun zl τl hz => ?_)
    obtain ⟨el, la, hla, el2⟩ := hz
    subst el
    subst el2
    refine gl_iconst (v := (1 : Int32)) C dL_law_84 (by decide) ?_
    refine gl_iload_n C dL_law_85 1 rfl ?_
    refine gl_bipush (v := (7 : Int32)) C dL_law_86 (by decide) ?_
    refine gl_ishr C dL_law_88 ?_
    refine gl_bipush (v := (9 : Int32)) C dL_law_89 (by decide) ?_
    refine gl_scalli (As := [.int (v >>> ((7 : Int32) &&& 31)), .int 9]) (rest := [.int (1 : Int32), .int (nI la), .ref (ad (tE X) 11 10 0)]) C (c_L_low (Q := fun z τ => σ2 = τ ∧ ∃ j, j < 9 ∧ z = nI j) _ _ (q_low 9 (by decide) (by decide) rfl (fun j hj => ⟨rfl, j, hj, rfl⟩))) bw_181 bw_182 bw_0 bw_183 hyS_L_low ⟨by decide, by decide⟩ rfl (Nat.le_of_ble_eq_true rfl) dL_law_91 (fun zt τt hz => ?_)
    obtain ⟨et, ti, hti, et2⟩ := hz
    subst et
    subst et2
    refine gl_iadd C dL_law_94 ?_
    refine gl_iload C dL_law_95 0 rfl ?_
    refine gl_iload C dL_law_97 0 rfl ?_
    refine gl_iconst (v := (1 : Int32)) C dL_law_99 (by decide) ?_
    refine gl_iadd C dL_law_100 ?_
    refine gl_iload_n C dL_law_101 1 rfl ?_
    refine gl_bipush (v := (6 : Int32)) C dL_law_102 (by decide) ?_
    refine gl_ishr C dL_law_104 ?_
    refine gl_iconst (v := (5 : Int32)) C dL_law_105 (by decide) ?_
    refine gl_scalli (As := [.int (v >>> ((6 : Int32) &&& 31)), .int 5]) (rest := [.int (nI a + (1 : Int32)), .int (nI a), .int ((1 : Int32) + nI ti), .int (nI la), .ref (ad (tE X) 11 10 0)]) C (c_L_low (Q := fun z τ => σ2 = τ ∧ ∃ j, j < 5 ∧ z = nI j) _ _ (q_low 5 (by decide) (by decide) rfl (fun j hj => ⟨rfl, j, hj, rfl⟩))) bw_181 bw_182 bw_0 bw_183 hyS_L_low ⟨by decide, by decide⟩ rfl (Nat.le_of_ble_eq_true rfl) dL_law_106 (fun zc τc hz => ?_)
    obtain ⟨ec, bb, hbb, ec2⟩ := hz
    subst ec
    subst ec2
    refine gl_iadd C dL_law_109 ?_
    refine gl_bipush (v := (6 : Int32)) C dL_law_110 (by decide) ?_
    refine gl_irem C dL_law_112 (by decide) ?_
    have eo : (((nI a + (1 : Int32)) + nI bb) - ((nI a + (1 : Int32)) + nI bb) / (6 : Int32) * (6 : Int32)) = nI ((a + 1 + bb) % 6) := by
      rw [nI_1, nI_add]
      exact pk_rem (d := 6) (by omega) (by decide) (by decide)
    refine gl_scalli (As := [.ref (ad (tE X) 11 10 0), .int (nI la), .int ((1 : Int32) + nI ti), .int (nI a), .int (((nI a + (1 : Int32)) + nI bb) - ((nI a + (1 : Int32)) + nI bb) / (6 : Int32) * (6 : Int32))]) (rest := []) C (c_L_areTalesSo (Q := fun w τ => w = 1 ∧ ST τ r2 []) _ _ (q_tales (n := 1 + ti) (f := a) (o := (a + 1 + bb) % 6) h2 hN2 hla ha (by omega) (by omega) (by omega) (by omega) rfl (nI_1p ti) rfl eo (fun τ hτ => ⟨rfl, hτ⟩))) bw_502 bw_503 bw_0 bw_504 hyS_L_areTalesSo ⟨by decide, by decide⟩ rfl (Nat.le_of_ble_eq_true rfl) dL_law_113 (fun w τ9 hz => ?_)
    obtain ⟨e9, h9⟩ := hz
    subst e9
    refine gl_if_ne (tgt := 121) C dL_law_116 (by decide) (fun _ => c121 _ h9) (fun c => absurd c (by decide))
  refine gl_iload_n C dL_law_54 2 rfl ?_
  refine gl_iconst (v := (2 : Int32)) C dL_law_55 (by decide) ?_
  refine gl_irem C dL_law_56 (by decide) ?_
  refine gl_iconst (v := (1 : Int32)) C dL_law_57 (by decide) ?_
  refine gl_icmp_ne (tgt := 68) C dL_law_58 (by decide) (fun _ => c68) (fun _ => ?_)
  refine gl_aload_n C dL_law_61 3 rfl ?_
  refine gl_scalli (As := [.ref (ad (tE X) 11 10 0)]) (rest := []) C (c_L_areRanksSo (Q := fun w τ => w = 1 ∧ σ2 = τ) _ _ (q_ranks h2.1 ⟨rfl, rfl⟩)) bw_471 bw_472 bw_0 bw_473 hyS_L_areRanksSo ⟨by decide, by decide⟩ rfl (Nat.le_of_ble_eq_true rfl) dL_law_62 (fun w τ8 hz => ?_)
  obtain ⟨e8, f8⟩ := hz
  subst f8
  subst e8
  exact gl_if_eq (tgt := 119) C dL_law_65 (by decide) (fun c => absurd c (by decide)) (fun _ => c68)
theorem gl_end (C : Cl X cL_law "SweetWrapsLaw" ret 10 378 5) (hZ : tZ X = lw_Z (tB X) #[Value.ref b] (tS X)) (hA : tA X = #[Value.ref b]) (hR : tR X = room_1) (hN : ∀ q, eA (tE X) q → (tS X).heap.size ≤ q) {lv : List (Nat × Value)} {pc : Nat} (hd : decode cL_law pc = .ok (.ireturn, 1)) : GL X σ lv [.int 1] pc := by
  intro H locs ls hW hS hl
  refine va_forget (fun q hq => hN _ (hS.2.2 q hq)) ?_
  rw [hZ, hA, hR]
  exact lw_ret C.1 C.2.1 C.2.2.1 C.2.2.2.2.2.1 hd
theorem law_loop (hL : LX X b L xs) (hZ : tZ X = lw_Z (tB X) #[Value.ref b] (tS X)) (hA : tA X = #[Value.ref b]) (hR : tR X = room_1) (hN : ∀ q, eA (tE X) q → (tS X).heap.size ≤ q) : ∀ (n k : Nat) (σ : Sg) (r : Nat → Int32), k + n = 50 → ST σ r [] → NV r → GL X σ (lvL (tE X) b k) [] 10 := by
  obtain ⟨C, hX, hbl, hbA, hL2⟩ := id hL
  have C : Cl X cL_law "SweetWrapsLaw" ret 10 378 5 := C
  intro n
  induction n with
  | zero =>
    intro k σ r hk h hV
    refine gl_iload_n C dL_law_10 0 rfl ?_
    refine gl_bipush (v := (50 : Int32)) C dL_law_11 (by decide) ?_
    refine gl_icmp_ge (tgt := 127) C dL_law_13 (by decide) (fun _ => ?_) (fun c => ?_)
    · refine gl_iconst (v := (1 : Int32)) C dL_law_127 (by decide) ?_
      exact gl_end C hZ hA hR hN dL_law_128
    · exact absurd (show nI 50 ≤ nI k from nI_le (by omega) (by omega)) c
  | succ n ih =>
    intro k σ r hk h hV
    refine gl_iload_n C dL_law_10 0 rfl ?_
    refine gl_bipush (v := (50 : Int32)) C dL_law_11 (by decide) ?_
    refine gl_icmp_ge (tgt := 127) C dL_law_13 (by decide) (fun c => ?_) (fun _ => ?_)
    · exact absurd c (show ¬ nI 50 ≤ nI k from nI_ge (by omega) (by decide))
    · exact law_step hL (by omega) h hV (fun τ r' hτ hV' => ih (k + 1) τ r' (by omega) hτ hV')
end LL
theorem gb_world {X : Tx} {D : va_G} {C : Nat → ClassId} {T K V : Nat → Nat} (hE : tE X = E0 D (tS X).heap.size C T K V) {cells slots : Nat} (hc : cells ≤ 691230) (hs : slots ≤ 7028559) {lv : List (Nat × Value)} {pc : Nat} (kk : GL X sg0 lv [] pc) : GB X (tS X).heap.size (esSW (tE X) (tS X).heap.size) cells slots lv [] pc := by
  intro H locs ls hB hS hl
  refine va_forget (fun q hq => hS.2.2 q hq) ?_
  refine W.widen hc hs ?_
  refine kk H [] ls ?_ ⟨hS.1, fun q h1 _ => hS.2.1 q h1 (Nat.not_le.mpr h1), fun _ h => by cases h⟩ hl
  rw [hE] at hB ⊢
  exact first_world hB.2
set_option maxHeartbeats 4000000 in
set_option maxRecDepth 100000 in
theorem whole_start {p : Program} {e : Env} {s : State} {m : MethodId} {below : List Frame} {meth : Method} {c : Code} (l : Launch) (hflags : l.flags = flags0) {b L : Nat} {xs : Nat → Int32} (hL : L ≤ 260) (C0 : lw_At p s m meth c b L xs) : W p l e room_1 s m #[Value.ref b] below meth c s.heap [] 0 0 (lw_Z below #[Value.ref b] s) (entryFrame m ([Value.ref b] : List Value).toArray 5) := by
  obtain ⟨hx, hb, hr, hml, hown, hts, hX, hbl, hlocks, hgv⟩ := id C0
  obtain ⟨D, C, T, hEV, hEC⟩ := st_env hts hgv
  have hBIG : ∀ w ∈ BIG, w.before #[Value.ref b] s = true := fun w h => hts w (big_good w h).1
  rw [lg_entry_eq]
  have key : ∀ X : Tx, X = (p, l, e, room_1, s, m, #[Value.ref b], below, meth, c, lw_Z below #[Value.ref b] s, E0 D s.heap.size C T T T, 5) → GB X s.heap.size [] 0 0 [(0, .ref b)] [] 0 := by
    intro X hXX
    have C1 : Cy X cL_law "SweetWrapsLaw" 10 378 5 691230 7028559 := by subst hXX; exact ⟨hx, hb, hml, hown, hBIG, hEC, rfl, rfl⟩
    have hLX : LX X b L xs := by subst hXX; exact ⟨⟨hx, hb, hr, hml, hown, hlocks, hBIG, hEV, rfl, rfl, trivial⟩, hX, hbl, fun q => absurd (E0_eA q) (Nat.not_le.mpr hbl), hL⟩
    have hE : tE X = E0 D (tS X).heap.size C T T T := by subst hXX; rfl
    have hS0 : (tS X).heap.size = s.heap.size := by subst hXX; rfl
    have hNn : ∀ q, eA (tE X) q → (tS X).heap.size ≤ q := by subst hXX; exact fun q h => E0_eA h
    have hLoop : GL X sg0 (lvL (tE X) b 0) [] 10 := law_loop hLX (by subst hXX; rfl) (by subst hXX; rfl) (by subst hXX; rfl) hNn 50 0 sg0 st0 (by omega) ST_0 NV_0
    have ha1 : ad (tE X) 11 10 0 = s.heap.size := by subst hXX; rfl
    clear hXX
    rw [← hS0] at ha1 ⊢
    clear hS0
    generalize hM : (tS X).heap.size = M at ha1 ⊢
    refine gb_new (ci := 5) (D := RX5) (T := TX5) (N := 6) (fs := [.null, .null, .null, .null, .null, .null]) C1 rfl inX5 tyX5 tyX5_ok bw_9 bw_10 bw_1 (fun j hj => by rcases (show j = 0 ∨ j = 1 ∨ j = 2 ∨ j = 3 ∨ j = 4 ∨ j = 5 by omega) with rfl | rfl | rfl | rfl | rfl | rfl <;> rfl) (Nat.le_of_ble_eq_true rfl) (Nat.le_of_ble_eq_true rfl) (o := M) rfl dL_law_0 ?_
    refine gb_dup C1 dL_law_3 rfl ?_
    refine gb_init (es0 := []) C1 (c_X5_init (tL X) (tE X) M) bw_11 bw_12 bw_1 bw_13 rfl (by decide) ⟨by decide, by decide⟩ (Nat.le_of_ble_eq_true rfl) (Nat.le_of_ble_eq_true rfl) rfl rfl (Nat.le_of_ble_eq_true rfl) dL_law_4 ?_
    refine gb_astore_n (lv' := [(1, .ref M), (0, .ref b)]) C1 dL_law_7 (by decide) rfl ?_
    refine gb_iconst (v := (0 : Int32)) C1 dL_law_8 (by decide) ?_
    refine gb_istore_n (lv' := [(2, .int 0), (1, .ref M), (0, .ref b)]) C1 dL_law_9 (by decide) rfl ?_
    have h2 : GL X sg0 [(2, .int (nI 0)), (1, .ref (ad (tE X) 11 10 0)), (0, .ref b)] [] 10 := hLoop
    rw [ha1] at h2
    rw [List.nil_append]
    subst hM
    exact gb_world hE (Nat.le_of_ble_eq_true rfl) (Nat.le_of_ble_eq_true rfl) h2
  have hB0 : Blk (E0 D s.heap.size C T T T) s.heap.size [] s.heap := ⟨rfl, fun j e h => by simp at h⟩
  exact key _ rfl s.heap [] _ hB0 va_S.rf (lv_entry [Value.ref b] (Nat.le_of_ble_eq_true rfl))
