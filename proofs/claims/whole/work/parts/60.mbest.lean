/-! the reference: admissible sets, and the best one -/
theorem w_lex_total {s t : Nat} (h : s ≠ t) : w_lex s t ∨ w_lex t s := by
  have : ∃ k, ¬ (w_in s k ↔ w_in t k) := Classical.byContradiction (fun q => h (w_ext (fun i => Classical.byContradiction (fun r => q ⟨i, r⟩))))
  obtain ⟨k, h1, h2⟩ := pk_least (fun k => ¬ (w_in s k ↔ w_in t k)) this
  have h3 : ∀ j, j < k → (w_in s j ↔ w_in t j) := fun j hj => Classical.byContradiction (fun r => h2 j hj r)
  by_cases hs : w_in s k
  · by_cases ht : w_in t k
    · exact absurd ⟨fun _ => ht, fun _ => hs⟩ h1
    · exact Or.inl ⟨k, hs, ht, h3⟩
  · by_cases ht : w_in t k
    · exact Or.inr ⟨k, ht, hs, fun j hj => (h3 j hj).symm⟩
    · exact absurd ⟨fun q => absurd q hs, fun q => absurd q ht⟩ h1
theorem w_lex_trans {s t u : Nat} (h1 : w_lex s t) (h2 : w_lex t u) : w_lex s u := by
  obtain ⟨k, a1, a2, a3⟩ := h1
  obtain ⟨m, b1, b2, b3⟩ := h2
  rcases Nat.lt_trichotomy k m with h | h | h
  · exact ⟨k, a1, fun q => a2 ((b3 k h).mpr q), fun j hj => (a3 j hj).trans (b3 j (by omega))⟩
  · subst h
    exact absurd b1 a2
  · exact ⟨m, (a3 m h).mpr b1, b2, fun j hj => (a3 j (by omega)).trans (b3 j hj)⟩
theorem w_lex_low {s t : Nat} (h : s ≠ t) (hs : s < 4096) (ht : t < 4096) : w_lex s t ↔ w_in s (dn_low (s ^^^ t)) := by
  have hx : ∀ i, w_in (s ^^^ t) i ↔ ¬ (w_in s i ↔ w_in t i) := by
    intro i
    unfold w_in
    rw [Nat.testBit_xor]
    cases s.testBit i <;> cases t.testBit i <;> simp
  have hne : s ^^^ t ≠ 0 := fun q => h (w_ext (fun i => Classical.byContradiction (fun r => (w_zero.mp q) i ((hx i).mpr r))))
  have hlt : s ^^^ t < 4096 := Nat.xor_lt_two_pow (n := 12) hs ht
  obtain ⟨l1, l2⟩ := dn_low_ok hne hlt
  constructor
  · rintro ⟨k, a1, a2, a3⟩
    have hk : dn_low (s ^^^ t) ≤ k := l2 k ((hx k).mpr (fun q => a2 (q.mp a1)))
    rcases Nat.lt_or_ge (dn_low (s ^^^ t)) k with q | q
    · exact absurd (a3 _ q) ((hx _).mp l1)
    · rw [show dn_low (s ^^^ t) = k by omega]
      exact a1
  · intro hin
    refine ⟨dn_low (s ^^^ t), hin, fun q => (hx _).mp l1 ⟨fun _ => q, fun _ => hin⟩, fun j hj => Classical.byContradiction (fun r => ?_)⟩
    have := l2 j ((hx j).mpr r)
    omega
theorem dn_neg : ∀ d, d < 4096 → d ≠ 0 → nI d &&& -nI d = nI (2 ^ dn_low d) ∧ dn_low d < 12 := dn_all (by decide +kernel)
theorem d_half (a b : Nat) : (a &&& b) / 2 = a / 2 &&& b / 2 := by
  apply Nat.eq_of_testBit_eq
  intro i
  rw [Nat.testBit_div_two, Nat.testBit_and, Nat.testBit_and, Nat.testBit_div_two, Nat.testBit_div_two]
theorem w_sub_and {a b : Nat} : w_sub a b ↔ a &&& b = a := by
  constructor
  · intro h
    apply w_ext
    intro i
    rw [w_in_and]
    exact ⟨fun q => q.1, fun q => ⟨q, h i q⟩⟩
  · intro h i hi
    rw [← h] at hi
    exact (w_in_and.mp hi).2
theorem w_sub_half {a b : Nat} (h : w_sub a b) : w_sub (a / 2) (b / 2) := by
  rw [w_sub_and] at h ⊢
  rw [← d_half, h]
/-- the next smaller part of a set of edits -/
theorem d_pm : ∀ (c U t : Nat), c ≠ 0 → w_sub c U → w_sub t U → t < c → t ≤ (c - 1) &&& U := by
  intro c
  induction c using Nat.strongRecOn with
  | _ c ih =>
    intro U t hc hcU htU htc
    have hm : ∀ x y : Nat, (x &&& y) % 2 = (x % 2) * (y % 2) := by
      intro x y
      have e := @Nat.and_mod_two_eq_one x y
      have hx := Nat.mod_two_eq_zero_or_one x
      have hy := Nat.mod_two_eq_zero_or_one y
      have hz := Nat.mod_two_eq_zero_or_one (x &&& y)
      rcases hx with hx | hx <;> rcases hy with hy | hy <;> rw [hx, hy] <;> rcases hz with hz | hz <;> rw [hz] <;> simp_all
    have hcb := w_sub_and.mp hcU
    have htb := w_sub_and.mp htU
    have e1 := d_half (c - 1) U
    have e2 := hm (c - 1) U
    have e3 := hm t U
    rw [htb] at e3
    generalize hr : (c - 1) &&& U = r at e1 e2 ⊢
    rcases Nat.mod_two_eq_zero_or_one c with h2 | h2
    · have hc2 : c / 2 ≠ 0 := by omega
      have hh : (c - 1) / 2 = c / 2 - 1 := by omega
      rw [hh] at e1
      have ih1 := ih (c / 2) (by omega) (U / 2) (t / 2) hc2 (w_sub_half hcU) (w_sub_half htU) (by omega)
      rw [← e1] at ih1
      have h3 : (c - 1) % 2 = 1 := by omega
      rw [h3, Nat.one_mul] at e2
      have ht2 := Nat.mod_two_eq_zero_or_one t
      have : t % 2 ≤ r % 2 := by
        rw [e2, e3]
        exact Nat.le_trans (Nat.mul_le_mul_right _ (show t % 2 ≤ 1 by omega)) (by omega)
      omega
    · have hh : (c - 1) / 2 = c / 2 := by omega
      have hcc := w_sub_and.mp (w_sub_half hcU)
      rw [hh, hcc] at e1
      omega
section DB
variable {M : q_I} {n no : Nat} {Ru : Nat → Nat → Nat} {Of Os : Nat → Int32} {base : List (Nat → Nat)} {E : Nat → Nat → Nat}
theorem d_a1 {x : Int32} (h : x = 0 ∨ x = 1) : x &&& 1 = x := by rcases h with rfl | rfl <;> rfl
theorem d_ofbL (hv : d_mw (M 1) n Ru no Of Os base E) (hb : base.length ≤ 12) (a : Int32) : ∀ (d k fu : Nat) (x : Int32), k + d = base.length → d < fu → (x = 0 ∨ x = 1) → ∃ v, f_Mo_isOfBase_L1 M a fu x (nI k) = some v ∧ (v = 0 ∨ v = 1) ∧ (v = 1 ↔ x = 1 ∨ ∃ j m, k ≤ j ∧ base[j]? = some m ∧ nI (m 0) = a) := by
  intro d
  induction d with
  | zero =>
    intro k fu x hk hf hx
    obtain ⟨fu, rfl, -⟩ := d_fuel hf
    refine ⟨x, ?_, hx, Or.inl, fun q => q.elim (fun q => q) (fun q => ?_)⟩
    · unfold f_Mo_isOfBase_L1
      rw [d_x2, hv.2.1, if_pos (nI_le (by omega) (by omega)), d_a1 hx]
    · obtain ⟨j, m, h1, h2, -⟩ := q
      have := d_get_lt h2
      omega
  | succ d ih =>
    intro k fu x hk hf hx
    obtain ⟨fu, rfl, hf⟩ := d_fuel hf
    have hkl : k < base.length := by omega
    have hkm := List.getElem?_eq_getElem hkl
    generalize base[k] = m at hkm
    have hr := hv.2.2.2.2.2.2.1 k m hkm 0 (by omega)
    unfold f_Mo_isOfBase_L1
    rw [d_x2, hv.2.1, if_neg (nI_ge hkl (by omega))]
    have step : ∀ y : Int32, (y = 0 ∨ y = 1) → (y = 1 ↔ x = 1 ∨ nI (m 0) = a) → ∃ v, f_Mo_isOfBase_L1 M a fu y (nI (k + 1)) = some v ∧ (v = 0 ∨ v = 1) ∧ (v = 1 ↔ x = 1 ∨ ∃ j m, k ≤ j ∧ base[j]? = some m ∧ nI (m 0) = a) := by
      intro y hy hyx
      obtain ⟨v, e, g1, g2⟩ := ih (k + 1) fu y (by omega) (by omega) hy
      refine ⟨v, e, g1, g2.trans ?_⟩
      rw [hyx]
      constructor
      · rintro ((q | q) | ⟨j, m', q1, q2, q3⟩)
        · exact Or.inl q
        · exact Or.inr ⟨k, m, Nat.le_refl _, hkm, q⟩
        · exact Or.inr ⟨j, m', by omega, q2, q3⟩
      · rintro (q | ⟨j, m', q1, q2, q3⟩)
        · exact Or.inl (Or.inl q)
        · by_cases hjk : j = k
          · subst hjk
            rw [hkm] at q2
            cases q2
            exact Or.inl (Or.inr q3)
          · exact Or.inr ⟨j, m', by omega, q2, q3⟩
    rcases hx with rfl | rfl
    · rw [if_pos rfl, d_m7, d_k40, d_ix (by omega) (by omega)]
      have hr' : M 1 (40 + 7 * k) = nI (m 0) := hr
      rw [hr']
      by_cases he : nI (m 0) = a
      · rw [if_pos he, nI_1]
        exact step 1 (Or.inr rfl) ⟨fun _ => Or.inr he, fun _ => rfl⟩
      · rw [if_neg he, nI_1]
        exact step 0 (Or.inl rfl) ⟨fun q => absurd q (by decide), fun q => q.elim (fun q => absurd q (by decide)) (fun q => absurd q he)⟩
    · rw [if_neg (show ¬ (1 : Int32) = 0 by decide), nI_1]
      exact step 1 (Or.inr rfl) ⟨fun _ => Or.inl rfl, fun _ => rfl⟩
def d_fnd (base : List (Nat → Nat)) (E : Nat → Nat → Nat) (i s : Nat) : Prop := (∃ m, m ∈ base ∧ m 0 = E i 4) ∨ ∃ k, k ≤ i ∧ w_in s k ∧ E k 3 = 0 ∧ E k 0 = E i 4
theorem d_fndL {i s : Nat} (hv : d_mw (M 1) n Ru no Of Os base E) (hwf : d_wf base E n) (hi : i < n) (hs : s < 2 ^ 31) : ∀ (d k fu : Nat) (x : Int32), k + d = i + 1 → d < fu → (x = 0 ∨ x = 1) → ∃ v, f_Mo_isFounded_L1 M (nI i) (nI s) fu x (nI k) = some v ∧ (v = 0 ∨ v = 1) ∧ (v = 1 ↔ x = 1 ∨ ∃ j, k ≤ j ∧ j ≤ i ∧ w_in s j ∧ E j 3 = 0 ∧ E j 0 = E i 4) := by
  have hn12 : n ≤ 12 := hwf.2.2.2.2.2.2.2.2
  intro d
  induction d with
  | zero =>
    intro k fu x hk hf hx
    obtain ⟨fu, rfl, -⟩ := d_fuel hf
    refine ⟨x, ?_, hx, Or.inl, fun q => q.elim (fun q => q) (fun q => by obtain ⟨j, h1, h2, -⟩ := q; omega)⟩
    unfold f_Mo_isFounded_L1
    rw [if_pos (nI_lt (by omega) (by omega)), d_a1 hx]
  | succ d ih =>
    intro k fu x hk hf hx
    obtain ⟨fu, rfl, hf⟩ := d_fuel hf
    have hkn : k < n := by omega
    have vk := (hv.2.2.2.2.2.2.2.1 k hkn).1
    have vi := (hv.2.2.2.2.2.2.2.1 i hi).1
    have ek := hwf.2.2.2.1 k hkn
    have ei := hwf.2.2.2.1 i hi
    unfold d_eok at ek ei
    unfold f_Mo_isFounded_L1
    rw [if_neg (nI_nlt (by omega) (by omega))]
    have step : ∀ y : Int32, (y = 0 ∨ y = 1) → (y = 1 ↔ x = 1 ∨ (w_in s k ∧ E k 3 = 0 ∧ E k 0 = E i 4)) → ∃ v, f_Mo_isFounded_L1 M (nI i) (nI s) fu y (nI (k + 1)) = some v ∧ (v = 0 ∨ v = 1) ∧ (v = 1 ↔ x = 1 ∨ ∃ j, k ≤ j ∧ j ≤ i ∧ w_in s j ∧ E j 3 = 0 ∧ E j 0 = E i 4) := by
      intro y hy hyx
      obtain ⟨v, e, g1, g2⟩ := ih (k + 1) fu y (by omega) (by omega) hy
      refine ⟨v, e, g1, g2.trans ?_⟩
      rw [hyx]
      constructor
      · rintro ((q | q) | ⟨j, q1, q2, q3⟩)
        · exact Or.inl q
        · exact Or.inr ⟨k, Nat.le_refl _, by omega, q⟩
        · exact Or.inr ⟨j, by omega, q2, q3⟩
      · rintro (q | ⟨j, q1, q2, q3⟩)
        · exact Or.inl (Or.inl q)
        · by_cases hjk : j = k
          · subst hjk
            exact Or.inl (Or.inr q3)
          · exact Or.inr ⟨j, by omega, q2, q3⟩
    rcases hx with rfl | rfl
    · have no : ¬ (w_in s k ∧ E k 3 = 0 ∧ E k 0 = E i 4) → ((0 : Int32) = 1 ↔ (0 : Int32) = 1 ∨ (w_in s k ∧ E k 3 = 0 ∧ E k 0 = E i 4)) := fun h => ⟨fun q => absurd q (by decide), fun q => q.elim (fun q => q) (fun q => absurd q h)⟩
      rw [if_pos rfl]
      by_cases hw : w_in s k
      · rw [if_pos ((dn_b1 hs (by omega)).mpr hw), d_me3, d_b1, d_ix (by omega) (by omega), vk 3 (by omega)]
        by_cases h3 : E k 3 = 0
        · rw [if_pos (by rw [h3]; rfl), d_me0, d_b1, d_ix (by omega) (by omega), d_me4, d_b1, d_ix (by omega) (by omega), vk 0 (by omega), vi 4 (by omega)]
          by_cases h4 : E k 0 = E i 4
          · rw [if_pos (by rw [h4]), nI_1]
            exact step 1 (Or.inr rfl) ⟨fun _ => Or.inr ⟨hw, h3, h4⟩, fun _ => rfl⟩
          · rw [if_neg (fun q => h4 ((nI_eq (by omega) (by omega)).mp q)), nI_1]
            exact step 0 (Or.inl rfl) (no (fun q => h4 q.2.2))
        · rw [if_neg (d_n0 (by omega) h3), nI_1]
          exact step 0 (Or.inl rfl) (no (fun q => h3 q.2.1))
      · rw [if_neg (fun q => hw ((dn_b1 hs (by omega)).mp q)), nI_1]
        exact step 0 (Or.inl rfl) (no (fun q => hw q.1))
    · rw [if_neg (show ¬ (1 : Int32) = 0 by decide), nI_1]
      exact step 1 (Or.inr rfl) ⟨fun _ => Or.inl rfl, fun _ => rfl⟩
theorem d_founded {i s : Nat} (hv : d_mw (M 1) n Ru no Of Os base E) (hwf : d_wf base E n) (hi : i < n) (hs : s < 2 ^ 31) : ∃ v, f_Mo_isFounded M (nI i) (nI s) = some v ∧ (v = 0 ∨ v = 1) ∧ (v = 1 ↔ d_fnd base E i s) := by
  have hn12 : n ≤ 12 := hwf.2.2.2.2.2.2.2.2
  have vi := (hv.2.2.2.2.2.2.2.1 i hi).1
  have ei := hwf.2.2.2.1 i hi
  unfold d_eok at ei
  obtain ⟨v, e1, g1, g2⟩ := d_ofbL hv hwf.2.2.1 (nI (E i 4)) base.length 0 q_fu 0 (by omega) (d_q (by have := hwf.2.2.1; omega)) (Or.inl rfl)
  obtain ⟨v', e2, g3, g4⟩ := d_fndL hv hwf hi hs (i + 1) 0 q_fu v (by omega) (d_q (by omega)) g1
  rw [nI_0] at e1 e2
  refine ⟨v', ?_, g3, g4.trans ?_⟩
  · unfold f_Mo_isFounded
    rw [d_me4, d_b1, d_ix (by omega) (by omega), vi 4 (by omega)]
    have e1' : f_Mo_isOfBase M (nI (E i 4)) = some v := e1
    rw [e1', d_b1]
    exact e2
  · rw [g2]
    unfold d_fnd
    constructor
    · rintro ((q | ⟨j, m, -, q2, q3⟩) | ⟨j, -, q⟩)
      · exact absurd q (by decide)
      · have hmem := List.mem_of_getElem? q2
        have hm := hwf.2.1 m hmem
        unfold d_mt at hm
        exact Or.inl ⟨m, hmem, (nI_eq (by omega) (by omega)).mp q3⟩
      · exact Or.inr ⟨j, q⟩
    · rintro (⟨m, q1, q2⟩ | ⟨j, q⟩)
      · obtain ⟨j, hj⟩ := List.getElem?_of_mem q1
        exact Or.inl (Or.inr ⟨j, m, Nat.zero_le _, hj, by rw [q2]⟩)
      · exact Or.inr ⟨j, Nat.zero_le _, q⟩
theorem d_fnd_iff {i s : Nat} (hwf : d_wf base E n) (hi : i < n) (his : w_in s i) : d_fnd base E i s ↔ ∀ k, d_nn E k i → w_in s k := by
  have ei := hwf.2.2.2.1 i hi
  unfold d_eok at ei
  constructor
  · intro h k hk
    obtain ⟨c1, c2, c3, c4, c5⟩ := d_wf_create hwf hi hk
    rcases h with ⟨m, h1, h2⟩ | ⟨k', h1, h2, h3, h4⟩
    · exact absurd h2 (c3 m h1)
    · by_cases hki : k' = i
      · subst hki
        exact absurd h3 c2
      · have ek := hwf.2.2.2.1 k' (by omega)
        unfold d_eok at ek
        have := (ek.2.2.2.2.2.2.2.2.1 h3).1
        rw [← c5 k' ⟨by omega, h3, by omega⟩]
        exact h2
  · intro h
    by_cases h3 : E i 3 = 0
    · exact Or.inr ⟨i, Nat.le_refl _, his, h3, (ei.2.2.2.2.2.2.2.2.1 h3).1.symm⟩
    · rcases hwf.2.2.2.2.2.2.1 i hi h3 with q | ⟨k, q1, q2, q3, -⟩
      · exact Or.inl q
      · have ek := hwf.2.2.2.1 k (by omega)
        unfold d_eok at ek
        have := (ek.2.2.2.2.2.2.2.2.1 q2).1
        exact Or.inr ⟨k, by omega, h k ⟨q1, q2, by omega⟩, q2, q3⟩
theorem d_isPer {i : Nat} (hv : d_mw (M 1) n Ru no Of Os base E) (hwf : d_wf base E n) (hi : i < n) : ∃ v, f_Mo_isOfPerson M (nI i) = some v ∧ (v = 0 ∨ v = 1) ∧ (v = 1 ↔ E i 3 = 4 ∨ E i 3 = 5) := by
  have hn12 : n ≤ 12 := hwf.2.2.2.2.2.2.2.2
  have vi := (hv.2.2.2.2.2.2.2.1 i hi).1
  have ei := hwf.2.2.2.1 i hi
  unfold d_eok at ei
  unfold f_Mo_isOfPerson
  rw [d_me3, d_b1, d_ix (by omega) (by omega), vi 3 (by omega)]
  by_cases h4 : E i 3 = 4
  · rw [if_pos (by rw [h4]; rfl)]
    exact ⟨1, rfl, Or.inr rfl, fun _ => Or.inl h4, fun _ => rfl⟩
  · rw [if_neg (d_n4 (by omega) h4), d_b1, d_ix (by omega) (by omega), vi 3 (by omega)]
    by_cases h5 : E i 3 = 5
    · rw [if_pos (by rw [h5]; rfl)]
      exact ⟨1, rfl, Or.inr rfl, fun _ => Or.inr h5, fun _ => rfl⟩
    · rw [if_neg (d_n5 (by omega) h5)]
      exact ⟨0, rfl, Or.inl rfl, fun q => absurd q (by decide), fun q => q.elim (fun q => absurd q h4) (fun q => absurd q h5)⟩
theorem d_mcl {i j : Nat} (hv : d_mw (M 1) n Ru no Of Os base E) (hwf : d_wf base E n) (hi : i < n) (hj : j < n) : ∃ v, f_Mo_clashes M (nI i) (nI j) = some v ∧ (v = 0 ∨ v = 1) ∧ (v = 1 ↔ d_cl E i j) := by
  have hn12 : n ≤ 12 := hwf.2.2.2.2.2.2.2.2
  have vi := (hv.2.2.2.2.2.2.2.1 i hi).1
  have vj := (hv.2.2.2.2.2.2.2.1 j hj).1
  have ei := hwf.2.2.2.1 i hi
  have ej := hwf.2.2.2.1 j hj
  have fj : E j 6 < 2 ^ 12 := Nat.lt_trans (hwf.2.2.2.2.2.2.2.1 j hj) (dn_2lt (by omega))
  unfold d_eok at ei ej
  have no : ∀ (P : Prop), ¬ P → ((0 : Int32) = 1 ↔ P) := fun P h => ⟨fun q => absurd q (by decide), fun q => absurd q h⟩
  unfold f_Mo_clashes d_cl
  rw [d_me4, d_b1, d_ix (by omega) (by omega), d_me4, d_b1, d_ix (by omega) (by omega), vi 4 (by omega), vj 4 (by omega)]
  by_cases h4 : E i 4 = E j 4
  · rw [if_pos (by rw [h4]), d_me3, d_b1, d_ix (by omega) (by omega), d_l, d_me3, d_b1, d_ix (by omega) (by omega), d_l, vi 3 (by omega), vj 3 (by omega)]
    by_cases h6 : E i 3 = 6
    · rw [if_pos (by rw [h6]; rfl)]
      exact ⟨1, rfl, Or.inr rfl, fun _ => ⟨h4, Or.inl h6⟩, fun _ => rfl⟩
    · rw [if_neg (d_n6 (by omega) h6), d_me6, d_b1, d_ix (by omega) (by omega), vj 6 (by omega)]
      by_cases hf : w_in (E j 6) i
      · rw [if_pos ((dn_b1 (by omega) (by omega)).mpr hf)]
        exact ⟨0, rfl, Or.inl rfl, no _ (fun q => q.2.elim h6 (fun q => q.1 hf))⟩
      · rw [if_neg (fun q => hf ((dn_b1 (by omega) (by omega)).mp q))]
        obtain ⟨x3, e3, g3, g3'⟩ : ∃ x3, (if nI (E i 3) = nI (E j 3) then (if nI (E i 3) = 1 then ((some (1))) else (if nI (E i 3) = 2 then ((some (1))) else (if nI (E i 3) = 3 then ((some (1))) else ((some (0)))))) else ((some (0))) : Option (Int32)) = some x3 ∧ (x3 = 0 ∨ x3 = 1) ∧ (x3 = 1 ↔ E i 3 = E j 3 ∧ (E i 3 = 1 ∨ E i 3 = 2 ∨ E i 3 = 3)) := by
          by_cases q0 : E i 3 = E j 3
          · rw [if_pos (by rw [q0])]
            by_cases q1 : E i 3 = 1
            · rw [if_pos (by rw [q1]; rfl)]
              exact ⟨1, rfl, Or.inr rfl, fun _ => ⟨q0, Or.inl q1⟩, fun _ => rfl⟩
            · rw [if_neg (d_n1 (by omega) q1)]
              by_cases q2 : E i 3 = 2
              · rw [if_pos (by rw [q2]; rfl)]
                exact ⟨1, rfl, Or.inr rfl, fun _ => ⟨q0, Or.inr (Or.inl q2)⟩, fun _ => rfl⟩
              · rw [if_neg (d_n2 (by omega) q2)]
                by_cases q3 : E i 3 = 3
                · rw [if_pos (by rw [q3]; rfl)]
                  exact ⟨1, rfl, Or.inr rfl, fun _ => ⟨q0, Or.inr (Or.inr q3)⟩, fun _ => rfl⟩
                · rw [if_neg (d_n3 (by omega) q3)]
                  exact ⟨0, rfl, Or.inl rfl, no _ (fun q => by omega)⟩
          · rw [if_neg (fun q => q0 ((nI_eq (by omega) (by omega)).mp q))]
            exact ⟨0, rfl, Or.inl rfl, no _ (fun q => q0 q.1)⟩
        rw [e3, d_b1]
        obtain ⟨v6, e6, g6, g6'⟩ := d_isPer hv hwf hi
        obtain ⟨v7, e7, g7, g7'⟩ := d_isPer hv hwf hj
        rw [e6, d_b1]
        obtain ⟨x4, e4, g4, g4'⟩ : ∃ x4, (if v6 = 0 then ((some (0))) else (q_b1 (f_Mo_isOfPerson M (nI j)) (fun v7 => if v7 = 0 then ((some (0))) else (q_b1 (f_Mo_edit (nI i) 5) (fun v8 => q_ix v8 280 (fun j6 => q_b1 (f_Mo_edit (nI j) 5) (fun v9 => q_ix v9 280 (fun j7 => if (M 1 j6) = (M 1 j7) then ((some (1))) else ((some (0)))))))))) : Option (Int32)) = some x4 ∧ (x4 = 0 ∨ x4 = 1) ∧ (x4 = 1 ↔ (E i 3 = 4 ∨ E i 3 = 5) ∧ (E j 3 = 4 ∨ E j 3 = 5) ∧ E i 5 = E j 5) := by
          rcases g6 with rfl | rfl
          · rw [if_pos rfl]
            exact ⟨0, rfl, Or.inl rfl, no _ (fun q => absurd (g6'.mpr q.1) (by decide))⟩
          · rw [if_neg (show ¬ (1 : Int32) = 0 by decide), e7, d_b1]
            rcases g7 with rfl | rfl
            · rw [if_pos rfl]
              exact ⟨0, rfl, Or.inl rfl, no _ (fun q => absurd (g7'.mpr q.2.1) (by decide))⟩
            · rw [if_neg (show ¬ (1 : Int32) = 0 by decide), d_me5, d_b1, d_ix (by omega) (by omega), d_me5, d_b1, d_ix (by omega) (by omega), vi 5 (by omega), vj 5 (by omega)]
              by_cases q5 : E i 5 = E j 5
              · rw [if_pos (by rw [q5])]
                exact ⟨1, rfl, Or.inr rfl, fun _ => ⟨g6'.mp rfl, g7'.mp rfl, q5⟩, fun _ => rfl⟩
              · rw [if_neg (fun q => q5 ((nI_eq (by omega) (by omega)).mp q))]
                exact ⟨0, rfl, Or.inl rfl, no _ (fun q => q5 q.2.2)⟩
        rw [e4, d_b1]
        by_cases k6 : E j 3 = 6
        · rw [if_pos (by rw [k6]; rfl)]
          exact ⟨1, rfl, Or.inr rfl, fun _ => ⟨h4, Or.inr ⟨hf, Or.inl k6⟩⟩, fun _ => rfl⟩
        · rw [if_neg (d_n6 (by omega) k6)]
          rcases g3 with rfl | rfl
          · rw [if_pos rfl]
            rcases g4 with rfl | rfl
            · rw [if_pos rfl]
              refine ⟨0, rfl, Or.inl rfl, no _ (fun q => ?_)⟩
              rcases q.2 with q | ⟨-, q | q | q⟩
              · exact h6 q
              · exact k6 q
              · exact absurd (g3'.mpr q) (by decide)
              · exact absurd (g4'.mpr q) (by decide)
            · rw [if_neg (show ¬ (1 : Int32) = 0 by decide)]
              exact ⟨1, rfl, Or.inr rfl, fun _ => ⟨h4, Or.inr ⟨hf, Or.inr (Or.inr (g4'.mp rfl))⟩⟩, fun _ => rfl⟩
          · rw [if_neg (show ¬ (1 : Int32) = 0 by decide)]
            exact ⟨1, rfl, Or.inr rfl, fun _ => ⟨h4, Or.inr ⟨hf, Or.inr (Or.inl (g3'.mp rfl))⟩⟩, fun _ => rfl⟩
  · rw [if_neg (fun q => h4 ((nI_eq (by omega) (by omega)).mp q))]
    exact ⟨0, rfl, Or.inl rfl, no _ (fun q => h4 q.1)⟩
theorem d_admL2 {j s : Nat} (hv : d_mw (M 1) n Ru no Of Os base E) (hwf : d_wf base E n) (hj : j < n) (hs : s < 2 ^ 31) (K : Int32 → Option (Int32 × q_I × q_J)) : ∀ (d i fu : Nat) (x : Int32), i + d = j → d < fu → (x = 0 ∨ x = 1) → ∃ v, f_Mo_isAdmissible_L2 M (nI s) (nI j) K fu x (nI i) = K v ∧ (v = 0 ∨ v = 1) ∧ (v = 1 ↔ x = 1 ∧ ∀ k, i ≤ k → k < j → w_in s k → ¬ d_cl E k j) := by
  have hn12 : n ≤ 12 := hwf.2.2.2.2.2.2.2.2
  intro d
  induction d with
  | zero =>
    intro i fu x hi hf hx
    obtain ⟨fu, rfl, -⟩ := d_fuel hf
    have : i = j := by omega
    subst this
    refine ⟨x, ?_, hx, fun q => ⟨q, fun k h1 h2 => by omega⟩, fun q => q.1⟩
    unfold f_Mo_isAdmissible_L2
    rw [if_pos (Int32.le_refl _)]
  | succ d ih =>
    intro i fu x hi hf hx
    obtain ⟨fu, rfl, hf⟩ := d_fuel hf
    unfold f_Mo_isAdmissible_L2
    rw [if_neg (nI_ge (show i < j by omega) (by omega))]
    rcases hx with rfl | rfl
    · rw [if_pos rfl]
      exact ⟨0, rfl, Or.inl rfl, fun q => absurd q (by decide), fun q => absurd q.1 (by decide)⟩
    · rw [if_neg (show ¬ (1 : Int32) = 0 by decide)]
      have step : ∀ y : Int32, (y = 0 ∨ y = 1) → (y = 1 ↔ (w_in s i → ¬ d_cl E i j)) → ∃ v, f_Mo_isAdmissible_L2 M (nI s) (nI j) K fu y (nI (i + 1)) = K v ∧ (v = 0 ∨ v = 1) ∧ (v = 1 ↔ (1 : Int32) = 1 ∧ ∀ k, i ≤ k → k < j → w_in s k → ¬ d_cl E k j) := by
        intro y hy hyx
        obtain ⟨v, e, g1, g2⟩ := ih (i + 1) fu y (by omega) (by omega) hy
        refine ⟨v, e, g1, g2.trans ?_⟩
        rw [hyx]
        constructor
        · rintro ⟨q1, q2⟩
          refine ⟨rfl, fun k h1 h2 => ?_⟩
          by_cases hki : k = i
          · subst hki; exact q1
          · exact q2 k (by omega) h2
        · rintro ⟨-, q⟩
          exact ⟨q i (Nat.le_refl _) (by omega), fun k h1 => q k (by omega)⟩
      by_cases hw : w_in s i
      · rw [if_neg (fun q => ((dn_b0 hs (by omega)).mp q) hw)]
        obtain ⟨v, e, g1, g2⟩ := d_mcl hv hwf (show i < n by omega) hj
        rw [e, d_b1, nI_1]
        rcases g1 with rfl | rfl
        · rw [if_pos rfl]
          exact step 1 (Or.inr rfl) ⟨fun _ _ q => absurd (g2.mpr q) (by decide), fun _ => rfl⟩
        · rw [if_neg (show ¬ (1 : Int32) = 0 by decide)]
          exact step 0 (Or.inl rfl) ⟨fun q => absurd q (by decide), fun q => absurd (g2.mp rfl) (q hw)⟩
      · rw [if_pos ((dn_b0 hs (by omega)).mpr hw), nI_1]
        exact step 1 (Or.inr rfl) ⟨fun _ q => absurd q hw, fun _ => rfl⟩
theorem d_admL1 {s : Nat} (hv : d_mw (M 1) n Ru no Of Os base E) (hwf : d_wf base E n) (hs : s < 2 ^ 31) (K : Int32 → Option (Int32 × q_I × q_J)) : ∀ (d j fu : Nat) (x : Int32), j + d = n → d < fu → (x = 0 ∨ x = 1) → ∃ v, f_Mo_isAdmissible_L1 M (nI s) K fu x (nI j) = K v ∧ (v = 0 ∨ v = 1) ∧ (v = 1 ↔ x = 1 ∧ ∀ k, j ≤ k → k < n → w_in s k → d_fnd base E k s ∧ ∀ i, i < k → w_in s i → ¬ d_cl E i k) := by
  have hn12 : n ≤ 12 := hwf.2.2.2.2.2.2.2.2
  intro d
  induction d with
  | zero =>
    intro j fu x hj hf hx
    obtain ⟨fu, rfl, -⟩ := d_fuel hf
    refine ⟨x, ?_, hx, fun q => ⟨q, fun k h1 h2 => by omega⟩, fun q => q.1⟩
    unfold f_Mo_isAdmissible_L1
    rw [d_x0, hv.1, if_pos (nI_le (by omega) (by omega))]
  | succ d ih =>
    intro j fu x hj hf hx
    obtain ⟨fu, rfl, hf⟩ := d_fuel hf
    have hjn : j < n := by omega
    unfold f_Mo_isAdmissible_L1
    rw [d_x0, hv.1, if_neg (nI_ge hjn (by omega))]
    rcases hx with rfl | rfl
    · rw [if_pos rfl]
      exact ⟨0, rfl, Or.inl rfl, fun q => absurd q (by decide), fun q => absurd q.1 (by decide)⟩
    · rw [if_neg (show ¬ (1 : Int32) = 0 by decide)]
      have step : ∀ y : Int32, (y = 0 ∨ y = 1) → (y = 1 ↔ (w_in s j → d_fnd base E j s ∧ ∀ i, i < j → w_in s i → ¬ d_cl E i j)) → ∃ v, f_Mo_isAdmissible_L1 M (nI s) K fu y (nI (j + 1)) = K v ∧ (v = 0 ∨ v = 1) ∧ (v = 1 ↔ (1 : Int32) = 1 ∧ ∀ k, j ≤ k → k < n → w_in s k → d_fnd base E k s ∧ ∀ i, i < k → w_in s i → ¬ d_cl E i k) := by
        intro y hy hyx
        obtain ⟨v, e, g1, g2⟩ := ih (j + 1) fu y (by omega) (by omega) hy
        refine ⟨v, e, g1, g2.trans ?_⟩
        rw [hyx]
        constructor
        · rintro ⟨q1, q2⟩
          refine ⟨rfl, fun k h1 h2 => ?_⟩
          by_cases hkj : k = j
          · subst hkj; exact q1
          · exact q2 k (by omega) h2
        · rintro ⟨-, q⟩
          exact ⟨q j (Nat.le_refl _) hjn, fun k h1 => q k (by omega)⟩
      by_cases hw : w_in s j
      · rw [if_pos ((dn_b1 hs (by omega)).mpr hw)]
        obtain ⟨v1, e1, g1, g2⟩ := d_founded hv hwf hjn hs
        rw [e1, d_b1]
        obtain ⟨v2, e2, g3, g4⟩ := d_admL2 hv hwf hjn hs (fun (x5 : Int32) => (f_Mo_isAdmissible_L1 M (nI s) K fu x5 (nI j + 1))) j 0 q_fu v1 (by omega) (d_q (by omega)) g1
        rw [nI_0] at e2
        rw [e2, nI_1]
        refine step v2 g3 (g4.trans ?_)
        rw [g2]
        exact ⟨fun q _ => ⟨q.1, fun i hi => q.2 i (by omega) hi⟩, fun q => ⟨(q hw).1, fun i _ hi => (q hw).2 i hi⟩⟩
      · rw [if_neg (fun q => hw ((dn_b1 hs (by omega)).mp q)), nI_1]
        exact step 1 (Or.inr rfl) ⟨fun _ q => absurd q hw, fun _ => rfl⟩
theorem d_adm0 {s : Nat} (hwf : d_wf base E n) (hs : s < 2 ^ n) : (∀ k, k < n → w_in s k → d_fnd base E k s ∧ ∀ i, i < k → w_in s i → ¬ d_cl E i k) ↔ w_adm (d_K E) (d_N E) (fun _ => True) s := by
  constructor
  · intro h
    refine ⟨fun i j hi hj => d_dec_f.mpr (fun q => ?_), fun i k hi hk => (d_fnd_iff hwf (w_lt hs hi) hi).mp (h i (w_lt hs hi) hi).1 k (d_dec_t.mp hk), trivial⟩
    rcases q with ⟨q1, q2⟩ | ⟨q1, q2⟩
    · exact (h j (w_lt hs hj) hj).2 i q1 hi q2
    · exact (h i (w_lt hs hi) hi).2 j q1 hj q2
  · intro h k hk hks
    refine ⟨(d_fnd_iff hwf hk hks).mpr (fun k' hk' => h.2.1 k k' hks (d_dec_t.mpr hk')), fun i hi his q => ?_⟩
    exact d_dec_f.mp (h.1 i k his hks) (Or.inl ⟨hi, q⟩)
theorem d_madm {J : q_J} {s : Nat} (hv : d_mw (M 1) n Ru no Of Os base E) (hwf : d_wf base E n) (hs : s < 2 ^ n) : ∃ v M' J', f_Mo_isAdmissible M J (nI s) = some (v, M', J') ∧ (v = 0 ∨ v = 1) ∧ (v = 1 ↔ d_adm Ru no Of Os base E s) ∧ d_mf M M' := by
  have hn12 : n ≤ 12 := hwf.2.2.2.2.2.2.2.2
  have h12 : (2 : Nat) ^ n ≤ 2 ^ 12 := Nat.pow_le_pow_right (by decide) hn12
  obtain ⟨v, e, g1, g2⟩ := d_admL1 hv hwf (show s < 2 ^ 31 by omega) (fun (x6 : Int32) => if x6 = 0 then (some ((x6 &&& 1), M, J)) else (q_b1 (f_Mo_forms M (nI s)) (fun I1 => q_b2 (f_Mo_isValid I1 J) (fun v3 J1 => some ((v3 &&& 1), I1, J1))))) n 0 q_fu 1 (by omega) (d_q (by omega)) (Or.inr rfl)
  rw [nI_0] at e
  have e' : f_Mo_isAdmissible M J (nI s) = _ := e
  have key : v = 1 ↔ w_adm (d_K E) (d_N E) (fun _ => True) s := g2.trans (Iff.trans ⟨fun q k hk => q.2 k (by omega) hk, fun q => ⟨rfl, fun k _ hk => q k hk⟩⟩ (d_adm0 hwf hs))
  rw [e']
  rcases g1 with rfl | rfl
  · rw [if_pos rfl]
    exact ⟨0, M, J, rfl, Or.inl rfl, ⟨fun q => absurd q (by decide), fun q => absurd (key.mpr ⟨q.1, q.2.1, trivial⟩) (by decide)⟩, d_mf_rf⟩
  · have hadm := key.mp rfl
    obtain ⟨M1, e1, g3, g4⟩ := d_mforms hwf hs hv hadm
    have hok := d_fm_ok hwf hs 12
    obtain ⟨v3, J1, e3, g5, g6⟩ := d_isValid (J := J) g3 hok.2.1 (by rw [g4.1 1 (by decide) (by decide)]; exact hv)
    rw [if_neg (show ¬ (1 : Int32) = 0 by decide), e1, d_b1, e3, d_b2, d_a1 g5]
    exact ⟨v3, M1, J1, rfl, g5, g6.trans ⟨fun q => ⟨hadm.1, hadm.2.1, q⟩, fun q => q.2.2⟩, g4⟩
theorem d_wt_stop {E : Nat → Nat → Nat} {n s : Nat} (hs : s < 2 ^ n) : ∀ k, d_wt E s (n + k) = d_wt E s n := by
  intro k
  induction k with
  | zero => rfl
  | succ k ih =>
    show d_wt E s (n + k) + (if s.testBit (n + k) then _ else 0) = _
    rw [if_neg (fun h => by have := w_lt hs h; omega), ih, Nat.add_zero]
theorem d_mwtL {s : Nat} (hv : d_mw (M 1) n Ru no Of Os base E) (hn12 : n ≤ 12) (hs : s < 2 ^ 31) : ∀ (d k fu : Nat), k + d = n → d < fu → f_Mo_weight_L1 M (nI s) fu (nI (d_wt E s k)) (nI k) = some (nI (d_wt E s n)) := by
  intro d
  induction d with
  | zero =>
    intro k fu hk hf
    obtain ⟨fu, rfl, -⟩ := d_fuel hf
    have : k = n := by omega
    subst this
    unfold f_Mo_weight_L1
    rw [d_x0, hv.1, if_pos (Int32.le_refl _)]
  | succ d ih =>
    intro k fu hk hf
    obtain ⟨fu, rfl, hf⟩ := d_fuel hf
    have hkn : k < n := by omega
    have hi := ih (k + 1) fu (by omega) (by omega)
    have ew : d_wt E s (k + 1) = d_wt E s k + if s.testBit k then E k 2 else 0 := rfl
    unfold f_Mo_weight_L1
    rw [d_x0, hv.1, if_neg (nI_ge hkn (by omega))]
    by_cases hw : w_in s k
    · rw [if_pos ((dn_b1 hs (by omega)).mpr hw), d_me2, d_b1, d_ix (by omega) (by omega), (hv.2.2.2.2.2.2.2.1 k hkn).1 2 (by omega), d_l, nI_add, nI_1]
      rw [ew, if_pos hw] at hi
      exact hi
    · rw [if_neg (fun q => hw ((dn_b1 hs (by omega)).mp q)), d_l, Int32.add_zero, nI_1]
      rw [ew, if_neg hw, Nat.add_zero] at hi
      exact hi
theorem d_mwt {s : Nat} (hv : d_mw (M 1) n Ru no Of Os base E) (hn12 : n ≤ 12) (hs : s < 2 ^ n) : f_Mo_weight M (nI s) = some (nI (d_w E s)) := by
  have h12 : (2 : Nat) ^ n ≤ 2 ^ 12 := Nat.pow_le_pow_right (by decide) hn12
  have := d_mwtL hv hn12 (show s < 2 ^ 31 by omega) n 0 q_fu (by omega) (d_q (by omega))
  have e := d_wt_stop (E := E) hs (12 - n)
  rw [show n + (12 - n) = 12 by omega] at e
  show f_Mo_weight_L1 M (nI s) q_fu 0 0 = _
  unfold d_w
  rw [e]
  exact this
theorem d_museL {kn : Nat} (hv : d_mw (M 1) n Ru no Of Os base E) (hwf : d_wf base E n) (hk : kn < 2 ^ n) : ∀ (d k fu acc : Nat), k + d = n → d < fu → acc < 4096 → ∃ c, f_Mo_usable_L1 M (nI kn) fu (nI acc) (nI k) = some (nI c) ∧ c < 4096 ∧ ∀ j, w_in c j ↔ w_in acc j ∨ (k ≤ j ∧ j < 12 ∧ (w_in kn j ∧ d_fnd base E j kn)) := by
  have hn12 : n ≤ 12 := hwf.2.2.2.2.2.2.2.2
  have h12 : (2 : Nat) ^ n ≤ 2 ^ 12 := Nat.pow_le_pow_right (by decide) hn12
  intro d
  induction d with
  | zero =>
    intro k fu acc hkn hf ha
    obtain ⟨fu, rfl, -⟩ := d_fuel hf
    have : k = n := by omega
    subst this
    refine ⟨acc, ?_, ha, fun j => ⟨Or.inl, fun q => q.elim (fun q => q) (fun q => ?_)⟩⟩
    · unfold f_Mo_usable_L1
      rw [d_x0, hv.1, if_pos (Int32.le_refl _)]
    · have := w_lt hk q.2.2.1
      omega
  | succ d ih =>
    intro k fu acc hkn hf ha
    obtain ⟨fu, rfl, hf⟩ := d_fuel hf
    have hkn' : k < n := by omega
    have o0 : nI acc ||| 0 = nI acc := by
      have := dn_or (a := acc) (b := 0) (by omega) (by omega)
      rw [Nat.or_zero] at this
      exact this
    unfold f_Mo_usable_L1
    rw [d_x0, hv.1, if_neg (nI_ge hkn' (by omega))]
    by_cases hw : w_in kn k
    · rw [if_pos ((dn_b1 (by omega) (by omega)).mpr hw)]
      obtain ⟨v, e, g1, g2⟩ := d_founded hv hwf hkn' (show kn < 2 ^ 31 by omega)
      rw [e, d_b1]
      rcases g1 with rfl | rfl
      · rw [if_pos rfl, d_l, o0, nI_1]
        obtain ⟨c, e, h1, h2⟩ := ih (k + 1) fu acc (by omega) (by omega) ha
        exact ⟨c, e, h1, d_accn (Q := fun j => w_in kn j ∧ d_fnd base E j kn) (fun q => absurd (g2.mpr q.2) (by decide)) h2⟩
      · rw [if_neg (show ¬ (1 : Int32) = 0 by decide), d_l, dn_pos (by omega), dn_or (by omega) (dn_2lt (by omega)), nI_1]
        obtain ⟨c, e, h1, h2⟩ := ih (k + 1) fu (acc ||| 2 ^ k) (by omega) (by omega) (d_or12 ha (by omega))
        exact ⟨c, e, h1, d_acc (Q := fun j => w_in kn j ∧ d_fnd base E j kn) (by omega) ⟨hw, g2.mp rfl⟩ h2⟩
    · rw [if_neg (fun q => hw ((dn_b1 (by omega) (by omega)).mp q)), d_l, o0, nI_1]
      obtain ⟨c, e, h1, h2⟩ := ih (k + 1) fu acc (by omega) (by omega) ha
      exact ⟨c, e, h1, d_accn (Q := fun j => w_in kn j ∧ d_fnd base E j kn) (fun q => hw q.1) h2⟩
theorem d_muse {r kn : Nat} (hv : d_mw (M 1) n Ru no Of Os base E) (hwf : d_wf base E n) (hr : r < 3) (hk : kn < 2 ^ n) (hkr : M 1 (4 + r) = nI kn) : ∃ U, f_Mo_usable M (nI r) = some (nI U) ∧ U < 2 ^ n ∧ d_us E kn U := by
  have hn12 : n ≤ 12 := hwf.2.2.2.2.2.2.2.2
  obtain ⟨U, e, h1, h2⟩ := d_museL hv hwf hk n 0 q_fu 0 (by omega) (d_q (by omega)) (by omega)
  have key : d_us E kn U := by
    intro j
    rw [h2 j]
    constructor
    · rintro (q | ⟨-, -, q1, q2⟩)
      · exact absurd q w_in_0
      · exact ⟨q1, (d_fnd_iff hwf (w_lt hk q1) q1).mp q2⟩
    · rintro ⟨q1, q2⟩
      have := w_lt hk q1
      exact Or.inr ⟨by omega, by omega, q1, (d_fnd_iff hwf (w_lt hk q1) q1).mpr q2⟩
  refine ⟨U, ?_, w_bound (fun i hi => w_lt hk ((key i).mp hi).1), key⟩
  unfold f_Mo_usable
  rw [d_k4, d_ix (by omega) (by omega), hkr, d_l]
  exact e
/-- the best of the sets above a certain one -/
def d_top (req U : Nat) (E : Nat → Nat → Nat) (adm : Nat → Prop) (cur : Nat) (b : Option Nat) : Prop := match b with
  | none => ∀ t, adm t → w_sub req t → w_sub t U → ¬ cur < t
  | some s => adm s ∧ w_sub req s ∧ w_sub s U ∧ cur < s ∧ ∀ t, adm t → w_sub req t → w_sub t U → cur < t → d_w E t < d_w E s ∨ (d_w E t = d_w E s ∧ (s = t ∨ w_lex s t))
def d_from (req U : Nat) (E : Nat → Nat → Nat) (adm : Nat → Prop) (cur : Nat) (b : Option Nat) : Prop := match b with
  | none => ∀ t, adm t → w_sub req t → w_sub t U → ¬ cur ≤ t
  | some s => adm s ∧ w_sub req s ∧ w_sub s U ∧ cur ≤ s ∧ ∀ t, adm t → w_sub req t → w_sub t U → cur ≤ t → d_w E t < d_w E s ∨ (d_w E t = d_w E s ∧ (s = t ∨ w_lex s t))
def d_bo (b : Option Nat) : Int32 := match b with
  | none => -1
  | some s => nI s
def d_bw (E : Nat → Nat → Nat) (b : Option Nat) : Int32 := match b with
  | none => 0
  | some s => nI (d_w E s)
theorem d_bestL {U req : Nat} (hwf : d_wf base E n) (hU : U < 2 ^ n) (hr : req < 2 ^ n) : ∀ (cur fu : Nat) (b : Option Nat) (M : q_I) (J : q_J), cur + 1 < fu → w_sub cur U → d_mw (M 1) n Ru no Of Os base E → d_top req U E (d_adm Ru no Of Os base E) cur b →
    ∃ M' J' b', f_Mo_bestWith_L1 (nI req) (nI U) fu (d_bo b) (d_bw E b) (nI cur) 1 M J = some (d_bo b', M', J') ∧ d_mf M M' ∧ w_best req U (d_w E) (d_adm Ru no Of Os base E) b' := by
  have hn12 : n ≤ 12 := hwf.2.2.2.2.2.2.2.2
  have h12 : (2 : Nat) ^ n ≤ 2 ^ 12 := Nat.pow_le_pow_right (by decide) hn12
  intro cur
  induction cur using Nat.strongRecOn with
  | _ cur ih =>
    intro fu b M J hf hcU hv htop
    obtain ⟨fu, rfl, hf⟩ := d_fuel (d := cur + 1) hf
    have hcn : cur < 2 ^ n := w_sub_lt hcU hU
    have hwc := d_w_le hwf hcn
    have done : ∀ (b1 : Option Nat) (M1 : q_I) (J1 : q_J), d_mf M M1 → d_from req U E (d_adm Ru no Of Os base E) cur b1 →
        ∃ M' J' b', (if nI cur = 0 then (q_l ((nI cur - 1) &&& nI U : Int32) (fun x7 => (f_Mo_bestWith_L1 (nI req) (nI U) fu (d_bo b1) (d_bw E b1) x7 0 M1 J1))) else (q_l ((nI cur - 1) &&& nI U : Int32) (fun x8 => (f_Mo_bestWith_L1 (nI req) (nI U) fu (d_bo b1) (d_bw E b1) x8 1 M1 J1)))) = some (d_bo b', M', J') ∧ d_mf M M' ∧ w_best req U (d_w E) (d_adm Ru no Of Os base E) b' := by
      intro b1 M1 J1 hm1 h1
      by_cases h0 : cur = 0
      · subst h0
        rw [if_pos (show nI 0 = 0 from rfl), d_l]
        obtain ⟨fu, rfl, -⟩ := d_fuel (d := 0) (n := fu) (by omega)
        refine ⟨M1, J1, b1, ?_, hm1, ?_⟩
        · unfold f_Mo_bestWith_L1
          rw [if_pos rfl]
        · cases b1 with
          | none => exact fun t a1 a2 a3 => h1 t a1 a2 a3 (Nat.zero_le _)
          | some s => exact ⟨h1.1, h1.2.1, h1.2.2.1, fun t a1 a2 a3 => h1.2.2.2.2 t a1 a2 a3 (Nat.zero_le _)⟩
      · rw [if_neg (d_n0 (by omega) h0), d_l, show (1 : Int32) = nI 1 from rfl, pk_sub (by omega), dn_and (by omega) (by omega)]
        have hsub : w_sub ((cur - 1) &&& U) U := fun i hi => (w_in_and.mp hi).2
        have hle : (cur - 1) &&& U ≤ cur - 1 := Nat.and_le_left
        obtain ⟨M', J', b', e, g1, g2⟩ := ih ((cur - 1) &&& U) (by omega) fu b1 M1 J1 (by omega) hsub (by rw [hm1.1 1 (by decide) (by decide)]; exact hv) (by
          cases b1 with
          | none =>
            intro t a1 a2 a3 a4
            exact h1 t a1 a2 a3 (Nat.le_of_not_lt (fun q => by have := d_pm cur U t h0 hcU a3 q; omega))
          | some s =>
            refine ⟨h1.1, h1.2.1, h1.2.2.1, by have := h1.2.2.2.1; omega, fun t a1 a2 a3 a4 => h1.2.2.2.2 t a1 a2 a3 (Nat.le_of_not_lt (fun q => by have := d_pm cur U t h0 hcU a3 q; omega))⟩)
        exact ⟨M', J', b', e, d_mf_tr hm1 g1, g2⟩
    have keep : (¬ (d_adm Ru no Of Os base E cur ∧ w_sub req cur) ∨ ∃ s, b = some s ∧ (d_w E cur < d_w E s ∨ (d_w E cur = d_w E s ∧ (s = cur ∨ w_lex s cur)))) → d_from req U E (d_adm Ru no Of Os base E) cur b := by
      intro h
      cases b with
      | none =>
        intro t a1 a2 a3 a4
        rcases h with h | ⟨s, hs, -⟩
        · by_cases htc : t = cur
          · subst htc; exact h ⟨a1, a2⟩
          · exact htop t a1 a2 a3 (by omega)
        · cases hs
      | some s =>
        refine ⟨htop.1, htop.2.1, htop.2.2.1, by have := htop.2.2.2.1; omega, fun t a1 a2 a3 a4 => ?_⟩
        by_cases htc : t = cur
        · subst htc
          rcases h with h | ⟨s', hs, h⟩
          · exact absurd ⟨a1, a2⟩ h
          · cases hs; exact h
        · exact htop.2.2.2.2 t a1 a2 a3 (by omega)
    unfold f_Mo_bestWith_L1
    rw [if_neg (show ¬ (1 : Int32) = 0 by decide), dn_and (by omega) (by omega)]
    have hlt : cur &&& req < 2 ^ n := Nat.and_lt_two_pow _ hr
    by_cases hq : w_sub req cur
    · have e1 : cur &&& req = req := by rw [Nat.and_comm]; exact w_sub_and.mp hq
      rw [e1, if_pos rfl, d_mwt hv hn12 hcn, d_b1, d_l]
      obtain ⟨x10, e10, hx, hx'⟩ : ∃ x10, (if d_bo b < 0 then ((some (1))) else (if d_bw E b < nI (d_w E cur) then ((some (1))) else (if nI (d_w E cur) = d_bw E b then (if ((nI cur &&& (nI cur ^^^ d_bo b)) &&& (-(nI cur ^^^ d_bo b))) = 0 then ((some (0))) else ((some (1)))) else ((some (0))))) : Option (Int32)) = some x10 ∧ (x10 = 0 ∨ x10 = 1) ∧ (x10 = 1 ↔ ∀ s, b = some s → d_w E s < d_w E cur ∨ (d_w E cur = d_w E s ∧ w_lex cur s)) := by
        cases b with
        | none => exact ⟨1, if_pos (by decide), Or.inr rfl, fun _ s h => (by cases h), fun _ => rfl⟩
        | some s =>
          have hsn : s < 2 ^ n := w_sub_lt htop.2.2.1 hU
          have hws := d_w_le hwf hsn
          have hsc := htop.2.2.2.1
          show ∃ x10, (if nI s < 0 then ((some (1))) else (if nI (d_w E s) < nI (d_w E cur) then ((some (1))) else (if nI (d_w E cur) = nI (d_w E s) then (if ((nI cur &&& (nI cur ^^^ nI s)) &&& (-(nI cur ^^^ nI s))) = 0 then ((some (0))) else ((some (1)))) else ((some (0))))) : Option (Int32)) = some x10 ∧ _
          rw [if_neg (nI_pos (by omega))]
          by_cases c1 : d_w E s < d_w E cur
          · rw [if_pos (nI_lt c1 (by omega))]
            exact ⟨1, rfl, Or.inr rfl, fun _ s' h => (by cases h; exact Or.inl c1), fun _ => rfl⟩
          · rw [if_neg (nI_nlt (by omega) (by omega))]
            by_cases c2 : d_w E cur = d_w E s
            · have hd : cur ^^^ s < 4096 := Nat.xor_lt_two_pow (n := 12) (by omega) (by omega)
              have hd0 : cur ^^^ s ≠ 0 := fun q => by
                have : cur = s := by
                  apply w_ext
                  intro i
                  have := (w_zero.mp q) i
                  unfold w_in at this ⊢
                  rw [Nat.testBit_xor] at this
                  cases h1 : cur.testBit i <;> cases h2 : s.testBit i <;> simp_all
                omega
              have hng := dn_neg _ hd hd0
              have hll := w_lex_low (show cur ≠ s by omega) (show cur < 4096 by omega) (show s < 4096 by omega)
              rw [if_pos (by rw [c2]), dn_xor (by omega) (by omega), Int32.and_assoc, hng.1, dn_and (by omega) (Nat.lt_trans (dn_2lt hng.2) (by decide))]
              by_cases c3 : w_in cur (dn_low (cur ^^^ s))
              · have : cur &&& 2 ^ dn_low (cur ^^^ s) ≠ 0 := fun q => (w_zero.mp q) _ (w_in_and.mpr ⟨c3, w_in_2.mpr rfl⟩)
                have hb : cur &&& 2 ^ dn_low (cur ^^^ s) < 2 ^ 12 := Nat.and_lt_two_pow _ (dn_2lt hng.2)
                rw [if_neg (d_n0 (by omega) this)]
                exact ⟨1, rfl, Or.inr rfl, fun _ s' h => (by cases h; exact Or.inr ⟨c2, hll.mpr c3⟩), fun _ => rfl⟩
              · have : cur &&& 2 ^ dn_low (cur ^^^ s) = 0 := w_zero.mpr (fun i hi => by
                  have h1 := w_in_and.mp hi
                  rw [w_in_2.mp h1.2] at h1
                  exact c3 h1.1)
                rw [this, if_pos (show nI 0 = 0 from rfl)]
                refine ⟨0, rfl, Or.inl rfl, fun q => absurd q (by decide), fun q => ?_⟩
                rcases q s rfl with h | ⟨-, h⟩
                · exact absurd h c1
                · exact absurd (hll.mp h) c3
            · rw [if_neg (fun q => c2 ((nI_eq (by omega) (by omega)).mp q))]
              refine ⟨0, rfl, Or.inl rfl, fun q => absurd q (by decide), fun q => ?_⟩
              rcases q s rfl with h | ⟨h, -⟩
              · exact absurd h c1
              · exact absurd h c2
      rw [e10, d_b1]
      rcases hx with rfl | rfl
      · rw [if_pos rfl, d_b4]
        refine done b M J d_mf_rf (keep (Or.inr ?_))
        have hne : ¬ ∀ s, b = some s → d_w E s < d_w E cur ∨ (d_w E cur = d_w E s ∧ w_lex cur s) := fun q => absurd (hx'.mpr q) (by decide)
        cases b with
        | none => exact absurd (fun s h => by cases h) hne
        | some s =>
          refine ⟨s, rfl, ?_⟩
          have hsc := htop.2.2.2.1
          have h1 : ¬ (d_w E s < d_w E cur ∨ (d_w E cur = d_w E s ∧ w_lex cur s)) := fun q => hne (fun s' h => by cases h; exact q)
          by_cases c1 : d_w E cur < d_w E s
          · exact Or.inl c1
          · have c2 : d_w E cur = d_w E s := by
              have : ¬ d_w E s < d_w E cur := fun q => h1 (Or.inl q)
              omega
            refine Or.inr ⟨c2, Or.inr ?_⟩
            rcases w_lex_total (show s ≠ cur by omega) with q | q
            · exact q
            · exact absurd (Or.inr ⟨c2, q⟩) h1
      · rw [if_neg (show ¬ (1 : Int32) = 0 by decide)]
        obtain ⟨v3, M1, J1, e3, g1, g2, g3⟩ := d_madm (J := J) hv hwf hcn
        rw [e3, d_b3]
        rcases g1 with rfl | rfl
        · rw [if_pos rfl, d_b4]
          exact done b M1 J1 g3 (keep (Or.inl (fun q => absurd (g2.mpr q.1) (by decide))))
        · rw [if_neg (show ¬ (1 : Int32) = 0 by decide), d_b4]
          have hbet := hx'.mp rfl
          refine done (some cur) M1 J1 g3 ⟨g2.mp rfl, hq, hcU, Nat.le_refl _, fun t a1 a2 a3 a4 => ?_⟩
          by_cases htc : t = cur
          · subst htc; exact Or.inr ⟨rfl, Or.inl rfl⟩
          · cases b with
            | none => exact absurd (show cur < t by omega) (htop t a1 a2 a3)
            | some s =>
              have h1 := htop.2.2.2.2 t a1 a2 a3 (by omega)
              rcases hbet s rfl with h2 | ⟨h2, h3⟩
              · rcases h1 with h1 | ⟨h1, -⟩
                · exact Or.inl (by omega)
                · exact Or.inl (by omega)
              · rcases h1 with h1 | ⟨h1, h4⟩
                · exact Or.inl (by omega)
                · refine Or.inr ⟨by omega, Or.inr ?_⟩
                  rcases h4 with h4 | h4
                  · rw [← h4]; exact h3
                  · exact w_lex_trans h3 h4
    · have e1 : ¬ cur &&& req = req := fun q => hq (w_sub_and.mpr (by rw [Nat.and_comm]; exact q))
      rw [if_neg (fun q => e1 ((nI_eq (by omega) (by omega)).mp q)), d_b4]
      exact done b M J d_mf_rf (keep (Or.inl (fun q => hq q.2)))
theorem d_mbest {J : q_J} {r kn req : Nat} (hv : d_mw (M 1) n Ru no Of Os base E) (hwf : d_wf base E n) (hr : r < 3) (hk : kn < 2 ^ n) (hkr : M 1 (4 + r) = nI kn) (hq : req < 2 ^ n) : ∃ M' J' b, f_Mo_bestWith M J (nI r) (nI req) = some (d_bo b, M', J') ∧ d_mf M M' ∧ d_acc1 Ru no Of Os base E kn req b := by
  have hn12 : n ≤ 12 := hwf.2.2.2.2.2.2.2.2
  have h12 : (2 : Nat) ^ n ≤ 2 ^ 12 := Nat.pow_le_pow_right (by decide) hn12
  obtain ⟨U, e1, hU, hus⟩ := d_muse hv hwf hr hk hkr
  obtain ⟨M', J', b, e2, g1, g2⟩ := d_bestL hwf hU hq U q_fu none M J (d_q (by omega)) (fun _ h => h) hv (fun t a1 a2 a3 a4 => by
    have : t ≤ U := by
      have := w_sub_and.mp a3
      rw [← this]
      exact Nat.and_le_right
    omega)
  refine ⟨M', J', b, ?_, g1, U, hus, g2⟩
  unfold f_Mo_bestWith
  rw [e1, d_b1]
  exact e2
end DB
