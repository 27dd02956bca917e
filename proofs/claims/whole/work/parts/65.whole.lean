/-! The law's loop; the law from its entry. -/
theorem law_in {L i : Nat} (hL : L ≤ 2048) (hi : i ≤ 2048) (h : ¬ nI L - nI 4 < nI i) : i + 4 ≤ L := by
  by_cases h4 : 4 ≤ L
  · rw [pk_sub h4] at h
    have h1 : ¬ L - 4 < i := fun q => h ((nI_ltI (by omega) (by omega)).mpr q)
    omega
  · refine absurd (Int32.lt_of_lt_of_le ?_ (nI_pos' (n := i) (by omega))) h
    rcases (show L = 0 ∨ L = 1 ∨ L = 2 ∨ L = 3 by omega) with rfl | rfl | rfl | rfl <;> decide
section LL
variable {X : Tx} {b L i : Nat} {xs : Nat → Int32} {σ : Sg}
set_option maxHeartbeats 4000000 in
theorem law_step (hL : LX X b L xs) (hi : i + 4 ≤ L) (h : Rel σ) (kk : ∀ τ, Rel τ → GL X τ (lvL (tE X) b i) [] 870) : GL X σ (lvL (tE X) b i) [] 26 := by
  obtain ⟨C, hX, hbl, hbA, hL2⟩ := id hL
  have C : Cl X cL_law "SweetWrapsLaw" ret 13 508 4 := C
  refine gl_aload_n C dL_law_26 3 rfl ?_
  refine gl_iload_n C dL_law_27 0 rfl ?_
  refine gl_sld C hX hbl hbA (j := i) rfl (by omega) (by omega) dL_law_28 ?_
  refine gl_bipush (v := nI 31) C dL_law_29 (by decide) ?_
  refine gl_iand C dL_law_31 ?_
  generalize xs i &&& nI 31 = x
  by_cases c0 : x = (0 : Int32)
  · exact gl_table (tgt := 152) (off := 120) C dL_law_32 (0 : Int32) c0 (by decide) (by decide) rfl (by decide) (lc_0 hL hi h kk)
  by_cases c1 : x = (1 : Int32)
  · exact gl_table (tgt := 185) (off := 153) C dL_law_32 (1 : Int32) c1 (by decide) (by decide) rfl (by decide) (lc_1 hL hi h kk)
  by_cases c2 : x = (2 : Int32)
  · exact gl_table (tgt := 228) (off := 196) C dL_law_32 (2 : Int32) c2 (by decide) (by decide) rfl (by decide) (lc_2 hL hi h kk)
  by_cases c3 : x = (3 : Int32)
  · exact gl_table (tgt := 261) (off := 229) C dL_law_32 (3 : Int32) c3 (by decide) (by decide) rfl (by decide) (lc_3 hL hi h kk)
  by_cases c4 : x = (4 : Int32)
  · exact gl_table (tgt := 274) (off := 242) C dL_law_32 (4 : Int32) c4 (by decide) (by decide) rfl (by decide) (lc_4 hL hi h kk)
  by_cases c5 : x = (5 : Int32)
  · exact gl_table (tgt := 297) (off := 265) C dL_law_32 (5 : Int32) c5 (by decide) (by decide) rfl (by decide) (lc_5 hL hi h kk)
  by_cases c6 : x = (6 : Int32)
  · exact gl_table (tgt := 330) (off := 298) C dL_law_32 (6 : Int32) c6 (by decide) (by decide) rfl (by decide) (lc_6 hL hi h kk)
  by_cases c7 : x = (7 : Int32)
  · exact gl_table (tgt := 353) (off := 321) C dL_law_32 (7 : Int32) c7 (by decide) (by decide) rfl (by decide) (lc_7 hL hi h kk)
  by_cases c8 : x = (8 : Int32)
  · exact gl_table (tgt := 386) (off := 354) C dL_law_32 (8 : Int32) c8 (by decide) (by decide) rfl (by decide) (lc_8 hL hi h kk)
  by_cases c9 : x = (9 : Int32)
  · exact gl_table (tgt := 429) (off := 397) C dL_law_32 (9 : Int32) c9 (by decide) (by decide) rfl (by decide) (lc_9 hL hi h kk)
  by_cases c10 : x = (10 : Int32)
  · exact gl_table (tgt := 462) (off := 430) C dL_law_32 (10 : Int32) c10 (by decide) (by decide) rfl (by decide) (lc_10 hL hi h kk)
  by_cases c11 : x = (11 : Int32)
  · exact gl_table (tgt := 495) (off := 463) C dL_law_32 (11 : Int32) c11 (by decide) (by decide) rfl (by decide) (lc_11 hL hi h kk)
  by_cases c12 : x = (12 : Int32)
  · exact gl_table (tgt := 528) (off := 496) C dL_law_32 (12 : Int32) c12 (by decide) (by decide) rfl (by decide) (lc_12 hL hi h kk)
  by_cases c13 : x = (13 : Int32)
  · exact gl_table (tgt := 551) (off := 519) C dL_law_32 (13 : Int32) c13 (by decide) (by decide) rfl (by decide) (lc_13 hL hi h kk)
  by_cases c14 : x = (14 : Int32)
  · exact gl_table (tgt := 574) (off := 542) C dL_law_32 (14 : Int32) c14 (by decide) (by decide) rfl (by decide) (lc_14 hL hi h kk)
  by_cases c15 : x = (15 : Int32)
  · exact gl_table (tgt := 597) (off := 565) C dL_law_32 (15 : Int32) c15 (by decide) (by decide) rfl (by decide) (lc_15 hL hi h kk)
  by_cases c16 : x = (16 : Int32)
  · exact gl_table (tgt := 630) (off := 598) C dL_law_32 (16 : Int32) c16 (by decide) (by decide) rfl (by decide) (lc_16 hL hi h kk)
  by_cases c17 : x = (17 : Int32)
  · exact gl_table (tgt := 663) (off := 631) C dL_law_32 (17 : Int32) c17 (by decide) (by decide) rfl (by decide) (lc_17 hL hi h kk)
  by_cases c18 : x = (18 : Int32)
  · exact gl_table (tgt := 706) (off := 674) C dL_law_32 (18 : Int32) c18 (by decide) (by decide) rfl (by decide) (lc_18 hL hi h kk)
  by_cases c19 : x = (19 : Int32)
  · exact gl_table (tgt := 719) (off := 687) C dL_law_32 (19 : Int32) c19 (by decide) (by decide) rfl (by decide) (lc_19 hL hi h kk)
  by_cases c20 : x = (20 : Int32)
  · exact gl_table (tgt := 772) (off := 740) C dL_law_32 (20 : Int32) c20 (by decide) (by decide) rfl (by decide) (lc_20 hL hi h kk)
  by_cases c21 : x = (21 : Int32)
  · exact gl_table (tgt := 785) (off := 753) C dL_law_32 (21 : Int32) c21 (by decide) (by decide) rfl (by decide) (lc_21 hL hi h kk)
  by_cases c22 : x = (22 : Int32)
  · exact gl_table (tgt := 798) (off := 766) C dL_law_32 (22 : Int32) c22 (by decide) (by decide) rfl (by decide) (lc_22 hL hi h kk)
  by_cases c23 : x = (23 : Int32)
  · exact gl_table (tgt := 811) (off := 779) C dL_law_32 (23 : Int32) c23 (by decide) (by decide) rfl (by decide) (lc_23 hL hi h kk)
  by_cases c24 : x = (24 : Int32)
  · exact gl_table (tgt := 824) (off := 792) C dL_law_32 (24 : Int32) c24 (by decide) (by decide) rfl (by decide) (lc_24 hL hi h kk)
  by_cases c25 : x = (25 : Int32)
  · exact gl_table (tgt := 847) (off := 815) C dL_law_32 (25 : Int32) c25 (by decide) (by decide) rfl (by decide) (lc_25 hL hi h kk)
  exact gl_tableD (tgt := 870) C dL_law_32 (by decide) [((120 : Int), (0 : Nat)), ((153 : Int), (1 : Nat)), ((196 : Int), (2 : Nat)), ((229 : Int), (3 : Nat)), ((242 : Int), (4 : Nat)), ((265 : Int), (5 : Nat)), ((298 : Int), (6 : Nat)), ((321 : Int), (7 : Nat)), ((354 : Int), (8 : Nat)), ((397 : Int), (9 : Nat)), ((430 : Int), (10 : Nat)), ((463 : Int), (11 : Nat)), ((496 : Int), (12 : Nat)), ((519 : Int), (13 : Nat)), ((542 : Int), (14 : Nat)), ((565 : Int), (15 : Nat)), ((598 : Int), (16 : Nat)), ((631 : Int), (17 : Nat)), ((674 : Int), (18 : Nat)), ((687 : Int), (19 : Nat)), ((740 : Int), (20 : Nat)), ((753 : Int), (21 : Nat)), ((766 : Int), (22 : Nat)), ((779 : Int), (23 : Nat)), ((792 : Int), (24 : Nat)), ((815 : Int), (25 : Nat))] rfl (List.forall_mem_cons.mpr ⟨Or.inr ⟨(0 : Int32), c0, by decide⟩, List.forall_mem_cons.mpr ⟨Or.inr ⟨(1 : Int32), c1, by decide⟩, List.forall_mem_cons.mpr ⟨Or.inr ⟨(2 : Int32), c2, by decide⟩, List.forall_mem_cons.mpr ⟨Or.inr ⟨(3 : Int32), c3, by decide⟩, List.forall_mem_cons.mpr ⟨Or.inr ⟨(4 : Int32), c4, by decide⟩, List.forall_mem_cons.mpr ⟨Or.inr ⟨(5 : Int32), c5, by decide⟩, List.forall_mem_cons.mpr ⟨Or.inr ⟨(6 : Int32), c6, by decide⟩, List.forall_mem_cons.mpr ⟨Or.inr ⟨(7 : Int32), c7, by decide⟩, List.forall_mem_cons.mpr ⟨Or.inr ⟨(8 : Int32), c8, by decide⟩, List.forall_mem_cons.mpr ⟨Or.inr ⟨(9 : Int32), c9, by decide⟩, List.forall_mem_cons.mpr ⟨Or.inr ⟨(10 : Int32), c10, by decide⟩, List.forall_mem_cons.mpr ⟨Or.inr ⟨(11 : Int32), c11, by decide⟩, List.forall_mem_cons.mpr ⟨Or.inr ⟨(12 : Int32), c12, by decide⟩, List.forall_mem_cons.mpr ⟨Or.inr ⟨(13 : Int32), c13, by decide⟩, List.forall_mem_cons.mpr ⟨Or.inr ⟨(14 : Int32), c14, by decide⟩, List.forall_mem_cons.mpr ⟨Or.inr ⟨(15 : Int32), c15, by decide⟩, List.forall_mem_cons.mpr ⟨Or.inr ⟨(16 : Int32), c16, by decide⟩, List.forall_mem_cons.mpr ⟨Or.inr ⟨(17 : Int32), c17, by decide⟩, List.forall_mem_cons.mpr ⟨Or.inr ⟨(18 : Int32), c18, by decide⟩, List.forall_mem_cons.mpr ⟨Or.inr ⟨(19 : Int32), c19, by decide⟩, List.forall_mem_cons.mpr ⟨Or.inr ⟨(20 : Int32), c20, by decide⟩, List.forall_mem_cons.mpr ⟨Or.inr ⟨(21 : Int32), c21, by decide⟩, List.forall_mem_cons.mpr ⟨Or.inr ⟨(22 : Int32), c22, by decide⟩, List.forall_mem_cons.mpr ⟨Or.inr ⟨(23 : Int32), c23, by decide⟩, List.forall_mem_cons.mpr ⟨Or.inr ⟨(24 : Int32), c24, by decide⟩, List.forall_mem_cons.mpr ⟨Or.inr ⟨(25 : Int32), c25, by decide⟩, fun _ h => absurd h List.not_mem_nil⟩⟩⟩⟩⟩⟩⟩⟩⟩⟩⟩⟩⟩⟩⟩⟩⟩⟩⟩⟩⟩⟩⟩⟩⟩⟩) (by decide) (kk σ h)
theorem gl_end (C : Cl X cL_law RL ret 13 508 4) (hZ : tZ X = lw_Z (tB X) #[Value.ref b] (tS X)) (hA : tA X = #[Value.ref b]) (hR : tR X = room_1) (hN : ∀ q, eA (tE X) q → (tS X).heap.size ≤ q) {lv : List (Nat × Value)} {pc : Nat} (hd : decode cL_law pc = .ok (.ireturn, 1)) : GL X σ lv [.int 1] pc := by
  intro H locs ls hW hS hl
  refine va_forget (fun q hq => hN _ (hS.2.2 q hq)) ?_
  rw [hZ, hA, hR]
  exact lw_ret C.1 C.2.1 C.2.2.1 C.2.2.2.2.2.1 hd
theorem law_loop (hL : LX X b L xs) (hZ : tZ X = lw_Z (tB X) #[Value.ref b] (tS X)) (hA : tA X = #[Value.ref b]) (hR : tR X = room_1) (hN : ∀ q, eA (tE X) q → (tS X).heap.size ≤ q) : ∀ (n i : Nat) (σ : Sg), i ≤ L → L < i + n → Rel σ → GL X σ (lvL (tE X) b i) [] 18 := by
  obtain ⟨C, hX, hbl, hbA, hL2⟩ := id hL
  have C : Cl X cL_law "SweetWrapsLaw" ret 13 508 4 := C
  intro n
  induction n with
  | zero => intro i σ h1 h2 _; omega
  | succ n ih =>
    intro i σ h1 h2 h
    refine gl_iload_n C dL_law_18 0 rfl ?_
    refine gl_aload_n C dL_law_19 3 rfl ?_
    refine gl_slen C hX hbl hbA dL_law_20 ?_
    refine gl_iconst (v := nI 4) C dL_law_21 (by decide) ?_
    refine gl_isub C dL_law_22 ?_
    refine gl_icmp_gt (tgt := 876) C dL_law_23 (by decide) (fun _ => ?_) (fun c => ?_)
    · refine gl_iconst (v := (1 : Int32)) C dL_law_876 (by decide) ?_
      exact gl_end C hZ hA hR hN dL_law_877
    · have hi : i + 4 ≤ L := law_in hL2 (by omega) c
      refine law_step hL hi h (fun τ hτ => ?_)
      refine gl_iinc (v := nI (i + 4)) (lv' := lvL (tE X) b (i + 4)) C dL_law_870 0 rfl (nI_add i 4) (by decide) rfl ?_
      refine gl_goto (tgt := 18) C dL_law_873 (by decide) ?_
      exact ih (i + 4) τ hi (by omega) hτ
end LL
theorem gb_world {X : Tx} {D : va_G} {C : Nat → ClassId} {T K V : Nat → Nat} (hE : tE X = E0 D (tS X).heap.size C T K V) {cells slots : Nat} (hc : cells ≤ 600000) (hs : slots ≤ 7302250) {lv : List (Nat × Value)} {pc : Nat} (kk : GL X sg0 lv [] pc) : GB X (tS X).heap.size (esSW (tE X) (tS X).heap.size ++ esModel (tE X) ((tS X).heap.size + 547)) cells slots lv [] pc := by
  intro H locs ls hB hS hl
  refine va_forget (fun q hq => hS.2.2 q hq) ?_
  refine W.widen hc hs ?_
  refine kk H [] ls ?_ ⟨hS.1, fun q h1 _ => hS.2.1 q h1 (Nat.not_le.mpr h1), fun _ h => by cases h⟩ hl
  rw [hE] at hB ⊢
  exact first_world hB.2
set_option maxHeartbeats 4000000 in
set_option maxRecDepth 100000 in
theorem whole_start {p : Program} {e : Env} {s : State} {m : MethodId} {below : List Frame} {meth : Method} {c : Code} (l : Launch) (hflags : l.flags = flags0) {b L : Nat} {xs : Nat → Int32} (hL : L ≤ 2048) (C0 : lw_At p s m meth c b L xs) : W p l e room_1 s m #[Value.ref b] below meth c s.heap [] 0 0 (lw_Z below #[Value.ref b] s) (entryFrame m ([Value.ref b] : List Value).toArray 4) := by
  obtain ⟨hx, hb, hr, hml, hown, hts, hX, hbl, hlocks, hgv⟩ := id C0
  obtain ⟨D, C, T, K, V, hEV, hEC⟩ := st_env hts hgv
  have hBIG : ∀ w ∈ BIG, w.before #[Value.ref b] s = true := fun w h => hts w (big_good w h).1
  rw [lg_entry_eq]
  obtain ⟨N, hN⟩ : ∃ N, N = s.heap.size := ⟨_, rfl⟩
  have key : ∀ X : Tx, X = (p, l, e, room_1, s, m, #[Value.ref b], below, meth, c, lw_Z below #[Value.ref b] s, E0 D s.heap.size C T K V, 4) → GB X s.heap.size [] 0 0 [(0, .ref b)] [] 0 := by
    intro X hXX
    have C1 : Cy X cL_law "SweetWrapsLaw" 13 508 4 600000 7302250 := by subst hXX; exact ⟨hx, hb, hml, hown, hBIG, hEC, rfl, rfl⟩
    have hLX : LX X b L xs := by subst hXX; exact ⟨⟨hx, hb, hr, hml, hown, hlocks, hBIG, hEV, rfl, rfl, trivial⟩, hX, hbl, fun q => absurd (E0_eA q) (Nat.not_le.mpr hbl), hL⟩
    have hE : tE X = E0 D (tS X).heap.size C T K V := by subst hXX; rfl
    have hS0 : (tS X).heap.size = s.heap.size := by subst hXX; rfl
    have hNn : ∀ q, eA (tE X) q → (tS X).heap.size ≤ q := by subst hXX; exact fun q h => E0_eA h
    have hLoop : GL X sg0 (lvL (tE X) b 0) [] 18 := law_loop hLX (by subst hXX; rfl) (by subst hXX; rfl) (by subst hXX; rfl) hNn (L + 1) 0 sg0 (Nat.zero_le _) (by omega) Rel_0
    have ha1 : ad (tE X) 11 10 0 = s.heap.size := by subst hXX; rfl
    have ha2 : ad (tE X) 12 18 0 = s.heap.size + 547 := by subst hXX; rfl
    clear hXX
    rw [← hS0] at ha1 ha2 ⊢
    clear hS0
    generalize hM : (tS X).heap.size = M at ha1 ha2 ⊢
    refine gb_new (ci := 5) (D := RX5) (T := TX5) (N := 6) (fs := [.null, .null, .null, .null, .null, .null]) C1 rfl inX5 tyX5 tyX5_ok bw_14 bw_15 bw_1 (fun j hj => by rcases (show j = 0 ∨ j = 1 ∨ j = 2 ∨ j = 3 ∨ j = 4 ∨ j = 5 by omega) with rfl | rfl | rfl | rfl | rfl | rfl <;> rfl) (Nat.le_of_ble_eq_true rfl) (Nat.le_of_ble_eq_true rfl) (o := M) rfl dL_law_0 ?_
    refine gb_dup C1 dL_law_3 rfl ?_
    refine gb_init (es0 := []) C1 (c_X5_init (tL X) (tE X) M) bw_16 bw_17 bw_1 bw_18 rfl (by decide) ⟨by decide, by decide⟩ (Nat.le_of_ble_eq_true rfl) (Nat.le_of_ble_eq_true rfl) rfl rfl (Nat.le_of_ble_eq_true rfl) dL_law_4 ?_
    refine gb_astore_n (lv' := [(1, .ref M), (0, .ref b)]) C1 dL_law_7 (by decide) rfl ?_
    refine gb_new (ci := 6) (D := RX6) (T := TX6) (N := 11) (fs := [.null, .null, .null, .int 0, .null, .null, .null, .int 0, .null, .int 0, .int 0]) C1 rfl inX6 tyX6 tyX6_ok bw_667 bw_668 bw_7 (fun j hj => by rcases (show j = 0 ∨ j = 1 ∨ j = 2 ∨ j = 3 ∨ j = 4 ∨ j = 5 ∨ j = 6 ∨ j = 7 ∨ j = 8 ∨ j = 9 ∨ j = 10 by omega) with rfl | rfl | rfl | rfl | rfl | rfl | rfl | rfl | rfl | rfl | rfl <;> rfl) (Nat.le_of_ble_eq_true rfl) (Nat.le_of_ble_eq_true rfl) (o := M + 547) (by rw [List.nil_append, esSW_len]) dL_law_8 ?_
    refine gb_dup C1 dL_law_11 rfl ?_
    refine gb_init (es0 := [] ++ esSW (tE X) M) C1 (c_X6_init (tL X) (tE X) (M + 547)) bw_669 bw_670 bw_7 bw_671 rfl (by decide) ⟨by decide, by decide⟩ (Nat.le_of_ble_eq_true rfl) (Nat.le_of_ble_eq_true rfl) (by rw [List.nil_append, esSW_len]) rfl (Nat.le_of_ble_eq_true rfl) dL_law_12 ?_
    refine gb_astore_n (lv' := [(2, .ref (M + 547)), (1, .ref M), (0, .ref b)]) C1 dL_law_15 (by decide) rfl ?_
    refine gb_iconst (v := (0 : Int32)) C1 dL_law_16 (by decide) ?_
    refine gb_istore_n (lv' := [(3, .int 0), (2, .ref (M + 547)), (1, .ref M), (0, .ref b)]) C1 dL_law_17 (by decide) rfl ?_
    have h2 : GL X sg0 [(3, .int (nI 0)), (2, .ref (ad (tE X) 12 18 0)), (1, .ref (ad (tE X) 11 10 0)), (0, .ref b)] [] 18 := hLoop
    rw [ha1, ha2] at h2
    rw [List.nil_append]
    subst hM
    exact gb_world hE (Nat.le_of_ble_eq_true rfl) (Nat.le_of_ble_eq_true rfl) h2
  have hB0 : Blk (E0 D s.heap.size C T K V) s.heap.size [] s.heap := ⟨rfl, fun j e h => by simp at h⟩
  exact key _ rfl s.heap [] _ hB0 va_S.rf (lv_entry [Value.ref b] (Nat.le_of_ble_eq_true rfl))
