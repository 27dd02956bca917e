/-! Characters put on the pad. -/
def yN (n : Nat) : Int64 := Int64.ofNat n
theorem y_tb (n : Nat) : (yN n).toBitVec = BitVec.ofNat 64 n := rfl
theorem y_inj {a b : Int64} (h : a.toBitVec = b.toBitVec) : a = b := Int64.toBitVec_inj.mp h
theorem y_of (x : Int64) : ∃ n, n < 2 ^ 64 ∧ x = yN n := ⟨x.toBitVec.toNat, x.toBitVec.isLt, y_inj (by rw [y_tb]; simp)⟩
theorem y_cu : ∀ k, k < 64 → (Int64.toUInt64 (Int32.toInt64 (nI k)) &&& Int64.toUInt64 63) = UInt64.ofNat k := by decide +kernel
theorem y_shr {n k : Nat} (hn : n < 2 ^ 64) (hk : k < 64) : ((yN n).toUInt64 >>> (Int64.toUInt64 (Int32.toInt64 (nI k)) &&& Int64.toUInt64 63)).toInt64 = yN (n / 2 ^ k) := by
  rw [y_cu k hk]
  apply y_inj
  apply BitVec.eq_of_toNat_eq
  show ((yN n).toUInt64 >>> UInt64.ofNat k).toNat = (BitVec.ofNat 64 _).toNat
  have h1 : (UInt64.ofNat k).toNat = k := by
    show (BitVec.ofNat 64 k).toNat = k
    rw [BitVec.toNat_ofNat, Nat.mod_eq_of_lt (by omega)]
  have h2 : (yN n).toUInt64.toNat = n := by
    show (BitVec.ofNat 64 n).toNat = n
    rw [BitVec.toNat_ofNat, Nat.mod_eq_of_lt hn]
  rw [UInt64.toNat_shiftRight, h1, h2, Nat.mod_eq_of_lt hk, Nat.shiftRight_eq_div_pow, BitVec.toNat_ofNat, Nat.mod_eq_of_lt (Nat.lt_of_le_of_lt (Nat.div_le_self _ _) hn)]
theorem y_255 {n : Nat} (hn : n < 2 ^ 64) : yN n &&& 255 = yN (n % 256) := by
  apply y_inj
  show (yN n &&& yN 255).toBitVec = _
  rw [Int64.toBitVec_and, y_tb, y_tb, y_tb]
  apply BitVec.eq_of_toNat_eq
  rw [BitVec.toNat_and, BitVec.toNat_ofNat, BitVec.toNat_ofNat, BitVec.toNat_ofNat, Nat.mod_eq_of_lt hn, Nat.mod_eq_of_lt (show 255 < 2 ^ 64 by decide), show (255 : Nat) = 2 ^ 8 - 1 from rfl, Nat.and_two_pow_sub_one_eq_mod, Nat.mod_eq_of_lt (show n % 2 ^ 8 < 2 ^ 64 by omega)]
theorem y_i32 : ∀ m, m < 256 → (yN m).toInt32 = nI m := by decide +kernel
theorem y_chr : ∀ m, m < 256 → (Int32.toUInt32 (nI m) % 65536).toInt32 = nI m := by decide +kernel
theorem y_cmp {n : Nat} (hn : n < 2 ^ 64) : lg_cmp (yN n) 0 = 0 ↔ n = 0 := by
  constructor
  · intro h
    unfold lg_cmp at h
    by_cases c : yN n > 0
    · rw [if_pos c] at h; exact absurd h (by decide)
    · rw [if_neg c] at h
      by_cases d : yN n = 0
      · have e := congrArg (fun z => z.toBitVec.toNat) d
        have e2 : (BitVec.ofNat 64 n).toNat = 0 := e
        rw [BitVec.toNat_ofNat, Nat.mod_eq_of_lt hn] at e2
        exact e2
      · rw [if_neg d] at h; exact absurd h (by decide)
  · intro h
    subst h
    decide +kernel
def byU (U k : Nat) : Nat := U / 256 ^ k % 256
def okU (U k : Nat) : Bool := decide (33 ≤ byU U k) && decide (byU U k ≤ 126)
def frU (U : Nat) : Nat := fstN (fun k => !okU U k) 8
def chU (U : Nat) : Nat := if frU U = 8 ∨ U / 256 ^ frU U = 0 then frU U else 0
theorem by_lt (U k : Nat) : byU U k < 256 := Nat.mod_lt _ (by decide)
theorem u_lt {U : Nat} (hU : U < 2 ^ 64) (k : Nat) : U / 256 ^ k < 2 ^ 64 := Nat.lt_of_le_of_lt (Nat.div_le_self _ _) hU
theorem u_step (U k : Nat) : U / 256 ^ k / 2 ^ 8 = U / 256 ^ (k + 1) := by
  rw [Nat.div_div_eq_div_mul, show (2 : Nat) ^ 8 = 256 from rfl, ← Nat.pow_succ]
theorem u_pow (k : Nat) : (2 : Nat) ^ (8 * k) = 256 ^ k := by
  rw [Nat.pow_mul]
theorem u_code {U k : Nat} (hU : U < 2 ^ 64) : Int64.toInt32 (yN (U / 256 ^ k) &&& 255) = nI (byU U k) := by
  rw [y_255 (u_lt hU k), y_i32 _ (Nat.mod_lt _ (by decide))]
  rfl
theorem fr_facts (U : Nat) : frU U ≤ 8 ∧ (∀ k, k < frU U → 33 ≤ byU U k ∧ byU U k ≤ 126) ∧ (frU U < 8 → ¬ (33 ≤ byU U (frU U) ∧ byU U (frU U) ≤ 126)) := by
  have ok : ∀ k, (!okU U k) = false → 33 ≤ byU U k ∧ byU U k ≤ 126 := by
    intro k h
    unfold okU at h
    rw [Bool.not_eq_false', Bool.and_eq_true, decide_eq_true_eq, decide_eq_true_eq] at h
    exact h
  rcases fstN_cases (fun k => !okU U k) 8 with ⟨e, h⟩ | ⟨e, h1, h2⟩
  · have e8 : frU U = 8 := e
    rw [e8]
    exact ⟨Nat.le_refl 8, fun k hk => ok k (h k hk), fun z => absurd z (by decide)⟩
  · refine ⟨Nat.le_of_lt e, fun k hk => ok k (h2 k hk), fun _ z => ?_⟩
    have h1' : (!okU U (frU U)) = true := h1
    unfold okU at h1'
    rw [decide_eq_true z.1, decide_eq_true z.2] at h1'
    exact absurd h1' (by decide)
theorem by_0 {U k : Nat} (h : U / 256 ^ k = 0) : byU U k = 0 := by
  unfold byU
  rw [h]
def dn (a : Nat) : Int32 := nI a - 1
theorem dn_pos {a : Nat} (h : 1 ≤ a) : dn a = nI (a - 1) := nI_m1 h
theorem dn_step {a : Nat} (h : 1 ≤ a) : dn a + (-1) = dn (a - 1) := by
  rw [dn_pos h]
  by_cases e : a = 1
  · subst e; decide
  · rw [dn_pos (by omega), show a - 1 = (a - 1 - 1) + 1 by omega, ← nI_1, Int32.add_assoc, show (1 : Int32) + (-1) = 0 by decide, i_add0]
    rfl
section PU
variable {σ : Sg} {Q : Int32 → Sg → Prop} {P : Int32 → Int32 → Sg → Prop}
theorem ot_by {U k : Nat} : otB (nI (byU U k)) 33 126 = false ↔ 33 ≤ byU U k ∧ byU U k ≤ 126 := by
  have hb := by_lt U k
  constructor
  · intro h
    obtain ⟨s, h1, h2, h3⟩ := bt_nI (a := 33) (b := 126) (by decide) (by decide) h
    have e := (nI_eq (by omega) (by omega)).mp h3
    omega
  · intro h
    show (decide (nI (byU U k) < nI 33) || decide (nI 126 < nI (byU U k))) = false
    rw [decide_eq_false (nI_nlt (by omega) (by omega)), decide_eq_false (nI_nlt (by omega) (by omega))]
    rfl
theorem s_X3_charactersIn {U : Nat} (hU : U < 2 ^ 64) (hq : Q (nI (chU U)) σ) : wp_X3_charactersIn (yN U) σ Q := by
  obtain ⟨f1, f2, f3⟩ := fr_facts U
  unfold wp_X3_charactersIn wp_X3_charactersIn_L5
  refine lpN_rel (frU U) (fun k a => a = (yN (U / 256 ^ k), nI k, σ)) ?_ ?_ 0 _ (Nat.zero_le _) (by rw [Nat.pow_zero, Nat.div_one]; rfl)
  · rintro K k a hk rfl hK
    dsimp only
    unfold st_X3_charactersIn_L5
    have hb := f2 k hk
    refine ⟨fun c => ?_, fun _ => ⟨fun c => absurd c (show ¬ nI 8 ≤ nI k from nI_ge (by omega) (by decide)), fun _ => ?_⟩⟩
    · have := by_0 ((y_cmp (u_lt hU k)).mp c)
      omega
    · rw [u_code hU]
      refine s_X5_bt (fun _ => ⟨fun _ => ?_, fun d => absurd d (by decide)⟩) (fun g => absurd ((ot_by.mpr hb).symm.trans g) (by decide))
      rintro u6 rfl z7 rfl
      rw [show (8 : Int32) = nI 8 from rfl, y_shr (u_lt hU k) (by decide), u_step, nI_1]
      exact hK _ rfl
  · rintro K a rfl
    dsimp only
    unfold st_X3_charactersIn_L5
    unfold chU at hq
    refine ⟨fun c => ?_, fun c => ⟨fun d => ?_, fun d => ?_⟩⟩
    · rw [if_pos (Or.inr ((y_cmp (u_lt hU _)).mp c))] at hq
      exact hq
    · have e8 : frU U = 8 := by
        have := (nI_leI (a := 8) (b := frU U) (by decide) (by omega)).mp d
        omega
      rw [if_pos (Or.inl e8)] at hq
      exact hq
    · have e8 : frU U < 8 := by
        by_cases z : frU U < 8
        · exact z
        · exact absurd (show nI 8 ≤ nI (frU U) from nI_le (by omega) (by omega)) d
      rw [u_code hU]
      refine s_X5_bt (fun g => absurd (ot_by.mp g) (f3 e8)) (fun _ => ⟨fun d => absurd rfl d, fun _ => ?_⟩)
      rw [if_neg (by
        intro z
        rcases z with z | z
        · omega
        · exact c ((y_cmp (u_lt hU _)).mpr z))] at hq
      exact hq
end PU
