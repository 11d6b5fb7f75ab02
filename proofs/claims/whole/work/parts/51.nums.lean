/-! numbers: ints and longs that hold sets -/
theorem dn_ext {x y : Int32} (h : x.toBitVec.toNat = y.toBitVec.toNat) : x = y := Int32.toBitVec_inj.mp (BitVec.eq_of_toNat_eq h)
theorem dn_or {a b : Nat} (ha : a < 2 ^ 31) (hb : b < 2 ^ 31) : nI a ||| nI b = nI (a ||| b) := by
  apply dn_ext
  rw [Int32.toBitVec_or, BitVec.toNat_or, pk_tn (by omega), pk_tn (by omega), pk_tn (Nat.or_lt_two_pow (by omega) (by omega))]
theorem dn_and {a b : Nat} (ha : a < 2 ^ 31) (hb : b < 2 ^ 31) : nI a &&& nI b = nI (a &&& b) := by
  apply dn_ext
  rw [Int32.toBitVec_and, BitVec.toNat_and, pk_tn (by omega), pk_tn (by omega), pk_tn (Nat.and_lt_two_pow _ (by omega))]
theorem dn_xor {a b : Nat} (ha : a < 2 ^ 31) (hb : b < 2 ^ 31) : nI a ^^^ nI b = nI (a ^^^ b) := by
  apply dn_ext
  rw [Int32.toBitVec_xor, BitVec.toNat_xor, pk_tn (by omega), pk_tn (by omega), pk_tn (Nat.xor_lt_two_pow (by omega) (by omega))]
theorem dn_ndlt {a b n : Nat} (ha : a < 2 ^ n) : w_nd a b < 2 ^ n := w_bound (fun i hi => w_lt ha (w_in_nd.mp hi).1)
theorem dn_orlt {a b n : Nat} (ha : a < 2 ^ n) (hb : b < 2 ^ n) : a ||| b < 2 ^ n := Nat.or_lt_two_pow ha hb
theorem dn_nd {a b : Nat} (ha : a < 2 ^ 31) (hb : b < 2 ^ 31) : nI a &&& (nI b ^^^ (-1)) = nI (w_nd a b) := by
  apply dn_ext
  have hm : ((-1 : Int32)).toBitVec.toNat = 2 ^ 32 - 1 := by decide
  rw [Int32.toBitVec_and, BitVec.toNat_and, Int32.toBitVec_xor, BitVec.toNat_xor, pk_tn (by omega), pk_tn (by omega), hm, pk_tn (Nat.lt_trans (dn_ndlt ha) (by decide))]
  apply Nat.eq_of_testBit_eq
  intro i
  rw [Nat.testBit_and, Nat.testBit_xor, Nat.testBit_two_pow_sub_one, w_nd_t]
  by_cases hi : i < 32
  · rw [decide_eq_true hi]
    cases a.testBit i <;> cases b.testBit i <;> rfl
  · have : a.testBit i = false := Nat.testBit_lt_two_pow (Nat.lt_of_lt_of_le ha (Nat.pow_le_pow_right (by decide) (by omega)))
    rw [this]
    rfl
theorem dn_sh : ∀ i, i < 31 → ((nI i &&& 31).toBitVec.smod 32).toNat = i ∧ (1 : Int32) <<< (nI i &&& 31) = nI (2 ^ i) ∧ (nI 1) <<< (nI i &&& 31) = nI (2 ^ i) := by decide +kernel
theorem dn_bit {s i : Nat} (hs : s < 2 ^ 31) (hi : i < 31) : (nI s >>> (nI i &&& 31)) &&& 1 = if w_in s i then 1 else 0 := by
  rw [pk_shrN hs _ i (dn_sh i hi).1, pk_andN (Nat.lt_of_le_of_lt (Nat.div_le_self _ _) (by omega)) 1 (by decide)]
  unfold w_in
  rw [Nat.testBit_eq_decide_div_mod_eq, Nat.pow_one]
  by_cases h : s / 2 ^ i % 2 = 1
  · rw [if_pos (by simp [h]), h]
    rfl
  · rw [if_neg (by simp [h]), show s / 2 ^ i % 2 = 0 by omega]
    rfl
theorem dn_b1 {s i : Nat} (hs : s < 2 ^ 31) (hi : i < 31) : ((nI s >>> (nI i &&& 31)) &&& 1 = 1) = w_in s i := by
  rw [dn_bit hs hi]
  apply propext
  constructor
  · intro h
    by_cases q : w_in s i
    · exact q
    · rw [if_neg q] at h
      exact absurd h (by decide)
  · intro h
    rw [if_pos h]
theorem dn_b0 {s i : Nat} (hs : s < 2 ^ 31) (hi : i < 31) : ((nI s >>> (nI i &&& 31)) &&& 1 = 0) = ¬ w_in s i := by
  rw [dn_bit hs hi]
  apply propext
  constructor
  · intro h q
    rw [if_pos q] at h
    exact absurd h (by decide)
  · intro h
    rw [if_neg h]
theorem dn_has {s i : Nat} (hs : s < 2 ^ 31) (hi : i < 31) : f_CR_contains (nI s) (nI i) = some (if w_in s i then 1 else 0) := by
  unfold f_CR_contains
  by_cases h : w_in s i
  · rw [if_neg (fun q => ((dn_b0 hs hi).mp q) h), if_pos h]
  · rw [if_pos ((dn_b0 hs hi).mpr h), if_neg h]
theorem dn_pos {i : Nat} (hi : i < 31) : (1 : Int32) <<< (nI i &&& 31) = nI (2 ^ i) := (dn_sh i hi).2.1
theorem dn_2lt {i n : Nat} (hi : i < n) : 2 ^ i < 2 ^ n := Nat.pow_lt_pow_right (by decide) hi
theorem dn_z {n : Nat} (h : n < 2 ^ 31) : (nI n = 0) = (n = 0) := propext (nI_eq (b := 0) h (by decide))
/-- how many bits -/
def dn_cnt (s : Nat) : Nat := ((List.range 12).filter (fun i => s.testBit i)).length
theorem dn_all {P : Nat → Prop} (h : ∀ a, a < 64 → ∀ b, b < 64 → P (64 * a + b)) : ∀ s, s < 4096 → P s := by
  intro s hs
  have := h (s / 64) (by omega) (s % 64) (by omega)
  rwa [Nat.div_add_mod] at this
theorem dn_bc : ∀ s, s < 4096 → f_JI_bitCount (nI s) = some (nI (dn_cnt s)) := dn_all (by decide +kernel)
theorem dn_lb : ∀ s, s < 4096 → s ≠ 0 → nI s &&& (nI s - 1) = nI (s &&& (s - 1)) ∧ s &&& (s - 1) < s ∧ dn_cnt (s &&& (s - 1)) + 1 = dn_cnt s := dn_all (by decide +kernel)
theorem dn_cnt_le {s : Nat} : dn_cnt s ≤ 12 := by
  unfold dn_cnt
  exact Nat.le_trans (List.length_filter_le _ _) (by simp)
theorem dn_bitsL : ∀ (k s n c : Nat), s ≤ k → s < 4096 → dn_cnt s < n → f_Mo_bits_L1 n (nI c) (nI s) = some (nI (c + dn_cnt s)) := by
  intro k
  induction k with
  | zero =>
    intro s n c h1 h2 h3
    obtain ⟨n, rfl⟩ : ∃ m, n = m + 1 := ⟨n - 1, by omega⟩
    have : s = 0 := by omega
    subst this
    unfold f_Mo_bits_L1
    rw [if_pos (show nI 0 = 0 from rfl)]
    rfl
  | succ k ih =>
    intro s n c h1 h2 h3
    obtain ⟨n, rfl⟩ : ∃ m, n = m + 1 := ⟨n - 1, by omega⟩
    unfold f_Mo_bits_L1
    by_cases h0 : s = 0
    · subst h0
      rw [if_pos (show nI 0 = 0 from rfl)]
      rfl
    · have hb := dn_lb s h2 h0
      rw [if_neg (fun q => h0 ((dn_z (by omega)).mp q))]
      show f_Mo_bits_L1 n (nI c + 1) (nI s &&& (nI s - 1)) = _
      rw [hb.1, nI_1, ih _ n (c + 1) (by omega) (by omega) (by omega)]
      congr 2
      omega
theorem dn_bits {s : Nat} (h : s < 4096) : f_Mo_bits (nI s) = some (nI (dn_cnt s)) := by
  have := dn_bitsL s s q_fu 0 (Nat.le_refl _) h (Nat.lt_of_le_of_lt dn_cnt_le (by decide))
  rw [Nat.zero_add] at this
  exact this
def dn_low (s : Nat) : Nat := ((List.range 12).find? (fun i => s.testBit i)).getD 0
theorem dn_tz : ∀ s, s < 4096 → s ≠ 0 → f_JI_numberOfTrailingZeros (nI s) = some (nI (dn_low s)) := dn_all (by decide +kernel)
theorem dn_low_ok {s : Nat} (h0 : s ≠ 0) (h : s < 4096) : w_in s (dn_low s) ∧ ∀ j, w_in s j → dn_low s ≤ j := by
  unfold dn_low
  cases hf : (List.range 12).find? (fun i => s.testBit i) with
  | none =>
    refine absurd ?_ h0
    rw [w_zero]
    intro i hi
    have hi12 : i < 12 := w_lt (n := 12) h hi
    have := List.find?_eq_none.mp hf i (List.mem_range.mpr hi12)
    exact this hi
  | some k =>
    refine ⟨List.find?_some hf, fun j hj => ?_⟩
    have hj12 : j < 12 := w_lt (n := 12) h hj
    refine Nat.le_of_not_lt (fun hlt => ?_)
    have hlt' : j < k := hlt
    have h2 := List.find?_range_eq_some.mp hf
    have := h2.2.2 j hlt'
    unfold w_in at hj
    rw [hj] at this
    cases this
/-! arguments -/
theorem dn_in {x : Int32} {a b : Nat} (ha : a < 2 ^ 31) (hb : b < 2 ^ 31) : (f_Mo_in x (nI a) (nI b) = some 0 ∧ ∀ k, a ≤ k → k ≤ b → x ≠ nI k) ∨ ∃ k, a ≤ k ∧ k ≤ b ∧ x = nI k ∧ f_Mo_in x (nI a) (nI b) = some 1 := by
  unfold f_Mo_in
  by_cases h1 : x < nI a
  · refine Or.inl ⟨if_pos h1, fun k hk hkb e => ?_⟩
    rw [e] at h1
    have := (nI_ltI (by omega) ha).mp h1
    omega
  · rw [if_neg h1]
    have h0 : ¬ x < 0 := fun q => h1 (by
      rw [Int32.lt_iff_toInt_lt] at q ⊢
      rw [nI_toInt ha]
      have : (0 : Int32).toInt = 0 := rfl
      omega)
    obtain ⟨k, hk, rfl⟩ := nI_of h0
    have hka : a ≤ k := Nat.le_of_not_lt (fun q => h1 ((nI_ltI hk ha).mpr q))
    by_cases h2 : nI b < nI k
    · refine Or.inl ⟨if_pos h2, fun j hj hjb e => ?_⟩
      have := (nI_ltI hb hk).mp h2
      have := (nI_eq hk (by omega)).mp e
      omega
    · exact Or.inr ⟨k, hka, Nat.le_of_not_lt (fun q => h2 ((nI_ltI hb hk).mpr q)), rfl, if_neg h2⟩
theorem dn_within (x a b : Int32) : f_CR_within x a b = f_Mo_in x a b := rfl
theorem dn_inE {k a b : Nat} (hk : k < 2 ^ 31) (ha : a < 2 ^ 31) (hb : b < 2 ^ 31) : f_Mo_in (nI k) (nI a) (nI b) = some (if a ≤ k ∧ k ≤ b then 1 else 0) := by
  unfold f_Mo_in
  by_cases h1 : k < a
  · rw [if_pos ((nI_ltI hk ha).mpr h1), if_neg (by omega)]
  · rw [if_neg (fun q => h1 ((nI_ltI hk ha).mp q))]
    by_cases h2 : b < k
    · rw [if_pos ((nI_ltI hb hk).mpr h2), if_neg (by omega)]
    · rw [if_neg (fun q => h2 ((nI_ltI hb hk).mp q)), if_pos (by omega)]
/-! longs -/
theorem dn_ltn {n : Nat} (h : n < 2 ^ 64) : (lN n).toBitVec.toNat = n := by
  show (BitVec.ofNat 64 n).toNat = n
  rw [BitVec.toNat_ofNat, Nat.mod_eq_of_lt h]
theorem dn_lext {x y : Int64} (h : x.toBitVec.toNat = y.toBitVec.toNat) : x = y := Int64.toBitVec_inj.mp (BitVec.eq_of_toNat_eq h)
theorem dn_lor {a b : Nat} (ha : a < 2 ^ 48) (hb : b < 2 ^ 48) : lN a ||| lN b = lN (a ||| b) := by
  apply dn_lext
  rw [Int64.toBitVec_or, BitVec.toNat_or, dn_ltn (by omega), dn_ltn (by omega), dn_ltn (Nat.or_lt_two_pow (by omega) (by omega))]
theorem dn_land {a b : Nat} (ha : a < 2 ^ 48) (hb : b < 2 ^ 48) : lN a &&& lN b = lN (a &&& b) := by
  apply dn_lext
  rw [Int64.toBitVec_and, BitVec.toNat_and, dn_ltn (by omega), dn_ltn (by omega), dn_ltn (Nat.and_lt_two_pow _ (by omega))]
theorem dn_lz {a : Nat} (ha : a < 2 ^ 48) : (lg_cmp (lN a) 0 = 0) = (a = 0) := by
  apply propext
  unfold lg_cmp
  have e0 : (0 : Int64) = lN 0 := rfl
  rw [e0]
  by_cases h : a = 0
  · subst h
    decide
  · rw [if_pos (show lN a > lN 0 from (pk_lLT (by decide) (by omega)).mpr (by omega))]
    constructor
    · intro q
      exact absurd q (by decide)
    · intro q
      exact absurd q h
theorem dn_lpow : ∀ k, k ≤ 48 → (1 : Int64) <<< ((nI k).toInt64 &&& 63) = lN (2 ^ k) := by decide +kernel
/-- a long that holds a set of the slots 0 to 47 -/
def dn_lg (x : Int64) (S : Nat → Prop) : Prop := ∃ a : Nat, a < 2 ^ 48 ∧ x = lN a ∧ ∀ i, i < 48 → (w_in a i ↔ S i)
theorem dn_lg0 : dn_lg 0 (fun _ => False) := ⟨0, by decide, rfl, fun i _ => ⟨fun h => absurd h w_in_0, fun h => h.elim⟩⟩
theorem dn_lgor {x y : Int64} {S T : Nat → Prop} (hx : dn_lg x S) (hy : dn_lg y T) : dn_lg (x ||| y) (fun i => S i ∨ T i) := by
  obtain ⟨a, ha, rfl, h1⟩ := hx
  obtain ⟨b, hb, rfl, h2⟩ := hy
  exact ⟨a ||| b, Nat.or_lt_two_pow ha hb, dn_lor ha hb, fun i hi => by rw [w_in_or, h1 i hi, h2 i hi]⟩
theorem dn_lgand {x y : Int64} {S T : Nat → Prop} (hx : dn_lg x S) (hy : dn_lg y T) : (lg_cmp (x &&& y) 0 = 0) = ∀ i, i < 48 → ¬ (S i ∧ T i) := by
  obtain ⟨a, ha, rfl, h1⟩ := hx
  obtain ⟨b, hb, rfl, h2⟩ := hy
  rw [dn_land ha hb, dn_lz (Nat.and_lt_two_pow _ hb)]
  apply propext
  rw [w_zero]
  constructor
  · intro h i hi q
    exact h i (w_in_and.mpr ⟨(h1 i hi).mpr q.1, (h2 i hi).mpr q.2⟩)
  · intro h i hi
    have := w_in_and.mp hi
    have hi48 : i < 48 := w_lt ha this.1
    exact h i hi48 ⟨(h1 i hi48).mp this.1, (h2 i hi48).mp this.2⟩
theorem dn_lgz {x : Int64} {S : Nat → Prop} (hx : dn_lg x S) : (lg_cmp x 0 = 0) = ∀ i, i < 48 → ¬ S i := by
  obtain ⟨a, ha, rfl, h1⟩ := hx
  rw [dn_lz ha]
  apply propext
  rw [w_zero]
  constructor
  · intro h i hi q
    exact h i ((h1 i hi).mpr q)
  · intro h i hi
    exact h i (w_lt ha hi) ((h1 i (w_lt ha hi)).mp hi)
theorem dn_lgcongr {x : Int64} {S T : Nat → Prop} (hx : dn_lg x S) (h : ∀ i, i < 48 → (S i ↔ T i)) : dn_lg x T := by
  obtain ⟨a, ha, rfl, h1⟩ := hx
  exact ⟨a, ha, rfl, fun i hi => (h1 i hi).trans (h i hi)⟩
theorem dn_mask {a b : Nat} (hab : a ≤ b) (hb : b ≤ 48) (i : Nat) : w_in (2 ^ b - 2 ^ a) i ↔ a ≤ i ∧ i < b := by
  have e : 2 ^ b - 2 ^ a = 2 ^ a * (2 ^ (b - a) - 1) := by
    rw [Nat.mul_sub, ← Nat.pow_add, Nat.mul_one, Nat.add_sub_cancel' hab]
  unfold w_in
  rw [e, Nat.testBit_two_pow_mul, Nat.testBit_two_pow_sub_one]
  simp only [Bool.and_eq_true, decide_eq_true_eq, ge_iff_le]
  omega
theorem dn_slots {x y : Int32} {a b : Int} (hx : x.toInt = a) (hy : y.toInt = b) (hb : -1000 ≤ b) : ∃ z, f_TT_bits x y = some z ∧ dn_lg z (fun i => a ≤ (i : Int) ∧ (i : Int) < b) := by
  have e0 : (0 : Int32).toInt = 0 := rfl
  have e48 : (48 : Int32).toInt = 48 := rfl
  obtain ⟨u, hu, huE⟩ : ∃ u : Nat, (u : Int) = max 0 (min a 100) ∧ (if (0 : Int32) ≤ x then ((some (x))) else ((some (0))) : Option (Int32)) = some (if a ≤ 100 then nI u else x) := by
    refine ⟨(max 0 (min a 100)).toNat, by omega, ?_⟩
    by_cases h : (0 : Int32) ≤ x
    · rw [if_pos h]
      rw [Int32.le_iff_toInt_le, e0, hx] at h
      by_cases h2 : a ≤ 100
      · rw [if_pos h2]
        congr 1
        apply Int32.toInt_inj.mp
        rw [hx, nI_toInt (by omega)]
        omega
      · rw [if_neg h2]
    · rw [if_neg h]
      rw [Int32.le_iff_toInt_le, e0, hx] at h
      rw [if_pos (by omega)]
      congr 1
      apply Int32.toInt_inj.mp
      rw [nI_toInt (by omega), e0]
      omega
  obtain ⟨v, hv, hvE⟩ : ∃ v : Int, v = min b 48 ∧ ∃ yy : Int32, (if y ≤ 48 then ((some (y))) else ((some (48))) : Option (Int32)) = some yy ∧ yy.toInt = v := by
    refine ⟨min b 48, rfl, ?_⟩
    by_cases h : y ≤ 48
    · rw [if_pos h]
      rw [Int32.le_iff_toInt_le, e48, hy] at h
      exact ⟨y, rfl, by rw [hy]; omega⟩
    · rw [if_neg h]
      rw [Int32.le_iff_toInt_le, e48, hy] at h
      exact ⟨48, rfl, by rw [e48]; omega⟩
  obtain ⟨yy, hyE, hyv⟩ := hvE
  unfold f_TT_bits
  rw [huE, hyE]
  show ∃ z, (if yy ≤ (if a ≤ 100 then nI u else x) then (some (0 : Int64)) else (some ((((1 : Int64) <<< (yy.toInt64 &&& 63)) - ((1 : Int64) <<< ((if a ≤ 100 then nI u else x).toInt64 &&& 63)))))) = some z ∧ _
  by_cases h100 : a ≤ 100
  · rw [if_pos h100]
    by_cases h : yy ≤ nI u
    · rw [if_pos h]
      rw [Int32.le_iff_toInt_le, hyv, nI_toInt (by omega)] at h
      refine ⟨0, rfl, dn_lgcongr dn_lg0 (fun i hi => ⟨fun q => q.elim, fun q => ?_⟩)⟩
      omega
    · rw [if_neg h]
      rw [Int32.le_iff_toInt_le, hyv, nI_toInt (by omega)] at h
      obtain ⟨w, hw⟩ : ∃ w : Nat, (w : Int) = v := ⟨v.toNat, by omega⟩
      have hyw : yy = nI w := Int32.toInt_inj.mp (by rw [hyv, nI_toInt (by omega), hw])
      rw [hyw, dn_lpow w (by omega), dn_lpow u (by omega), lN_sub (Nat.pow_le_pow_right (by decide) (by omega))]
      refine ⟨_, rfl, 2 ^ w - 2 ^ u, Nat.lt_of_lt_of_le (Nat.sub_lt (Nat.two_pow_pos w) (Nat.two_pow_pos u)) (Nat.pow_le_pow_right (by decide) (by omega)), rfl, fun i hi => ?_⟩
      · rw [dn_mask (by omega) (by omega)]
        omega
  · rw [if_neg h100]
    have h : yy ≤ x := by
      rw [Int32.le_iff_toInt_le, hyv, hx]
      omega
    rw [if_pos h]
    refine ⟨0, rfl, dn_lgcongr dn_lg0 (fun i hi => ⟨fun q => q.elim, fun q => ?_⟩)⟩
    omega
