/-! a new base -/
theorem d_x4 {ρ : Type} {K : Nat → Option ρ} : q_ix (4 : Int32) 280 K = K 4 := d_ix (j := 4) (by decide) (by decide)
theorem d_x5 {ρ : Type} {K : Nat → Option ρ} : q_ix (5 : Int32) 280 K = K 5 := d_ix (j := 5) (by decide) (by decide)
theorem d_x6 {ρ : Type} {K : Nat → Option ρ} : q_ix (6 : Int32) 280 K = K 6 := d_ix (j := 6) (by decide) (by decide)
theorem d_y0 {ρ : Type} {K : Nat → Option ρ} : q_ix (0 : Int32) 3 K = K 0 := d_ix (j := 0) (by decide) (by decide)
theorem d_fm_num {base : List (Nat → Nat)} {E : Nat → Nat → Nat} {s : Nat} : ∀ k m, m ∈ d_fm base E s k → (∃ b, b ∈ base ∧ m 0 = b 0) ∨ ∃ i, i < k ∧ w_in s i ∧ E i 3 = 0 ∧ m 0 = E i 0 := by
  intro k
  induction k with
  | zero => exact fun m hm => Or.inl ⟨m, hm, rfl⟩
  | succ k ih =>
    intro m hm
    unfold d_fm at hm
    have up : ∀ m', m' ∈ d_fm base E s k → m 0 = m' 0 → (∃ b, b ∈ base ∧ m 0 = b 0) ∨ ∃ i, i < k + 1 ∧ w_in s i ∧ E i 3 = 0 ∧ m 0 = E i 0 := fun m' h1 h2 => by
      rcases ih m' h1 with ⟨b, q1, q2⟩ | ⟨i, q1, q2, q4, q3⟩
      · exact Or.inl ⟨b, q1, h2.trans q2⟩
      · exact Or.inr ⟨i, by omega, q2, q4, h2.trans q3⟩
    by_cases hk : w_in s k
    · rw [if_pos hk] at hm
      unfold d_app at hm
      by_cases h3 : E k 3 = 0
      · rw [if_pos h3] at hm
        rcases List.mem_append.mp hm with q | q
        · exact up m q rfl
        · have := List.mem_singleton.mp q
          subst this
          exact Or.inr ⟨k, by omega, hk, h3, rfl⟩
      · rw [if_neg h3] at hm
        by_cases h6 : E k 3 = 6
        · rw [if_pos h6] at hm
          exact up m (List.mem_filter.mp hm).1 rfl
        · rw [if_neg h6] at hm
          obtain ⟨m', q1, q2⟩ := List.mem_map.mp hm
          refine up m' q1 ?_
          subst q2
          by_cases h4 : m' 0 = E k 4
          · rw [if_pos h4, (d_chg0 (E k) m').1]
          · rw [if_neg h4]
    · rw [if_neg hk] at hm
      exact up m hm rfl
theorem d_acc00 {Ru : Nat → Nat → Nat} {no : Nat} {Of Os : Nat → Int32} {base : List (Nat → Nat)} {E : Nat → Nat → Nat} (h : d_valid Ru no Of Os base) : d_acc1 Ru no Of Os base E 0 0 (some 0) := by
  refine ⟨0, fun j => ⟨fun q => absurd q w_in_0, fun q => absurd q.1 w_in_0⟩, d_adm00 h, fun i q => absurd q w_in_0, fun i q => absurd q w_in_0, fun t h1 h2 h3 => ?_⟩
  have hs : t = 0 := w_zero.mpr (fun i q => w_in_0 (h3 i q))
  rw [hs]
  exact Or.inr ⟨rfl, Or.inl rfl⟩
theorem d_cmpC {q1 : Int32} {I : q_I} {P : q_P} {kn : Nat → Nat} {X : Nat} (hk : ∀ r, r < 3 → I 25 r = nI (kn r)) (hX : X < 2 ^ 31) (hkx : ∀ r, r < 3 → kn r < 2 ^ 31) (K : Option (Int32 × q_I × q_P)) : f_CR_compact_L1 I P (nI X) K q_fu 0 = (if kn 0 = X ∧ kn 1 = X ∧ kn 2 = X then K else some (-3, I, P)) := by
  obtain ⟨f1, e1, h1⟩ := d_fuel (n := q_fu) (d := 10) (d_q (by decide))
  obtain ⟨f2, rfl, h2⟩ := d_fuel (n := f1) (d := 9) (by omega)
  obtain ⟨f3, rfl, h3⟩ := d_fuel (n := f2) (d := 8) (by omega)
  obtain ⟨f4, rfl, h4⟩ := d_fuel (n := f3) (d := 7) (by omega)
  have hk0 := hkx 0 (by decide)
  have hk1 := hkx 1 (by decide)
  have hk2 := hkx 2 (by decide)
  rw [e1]
  show f_CR_compact_L1 I P (nI X) K (f4 + 1 + 1 + 1 + 1) (nI 0) = _
  unfold f_CR_compact_L1
  rw [if_neg (show ¬ (3 : Int32) ≤ nI 0 by decide), d_ix (by decide) (by decide), hk 0 (by decide)]
  by_cases q0 : kn 0 = X
  · rw [if_pos (congrArg nI q0), nI_1]
    unfold f_CR_compact_L1
    rw [if_neg (show ¬ (3 : Int32) ≤ nI (0 + 1) by decide), d_ix (by decide) (by decide), hk (0 + 1) (by decide)]
    by_cases q1 : kn (0 + 1) = X
    · rw [if_pos (congrArg nI q1), nI_1]
      unfold f_CR_compact_L1
      rw [if_neg (show ¬ (3 : Int32) ≤ nI (0 + 1 + 1) by decide), d_ix (by decide) (by decide), hk (0 + 1 + 1) (by decide)]
      by_cases q2 : kn (0 + 1 + 1) = X
      · rw [if_pos (congrArg nI q2), nI_1]
        unfold f_CR_compact_L1
        rw [if_pos (show (3 : Int32) ≤ nI (0 + 1 + 1 + 1) by decide), if_pos ⟨q0, q1, q2⟩]
      · rw [if_neg (fun z => q2 ((nI_eq (hkx _ (by decide)) hX).mp z)), if_neg (fun z => q2 z.2.2)]
    · rw [if_neg (fun z => q1 ((nI_eq (hkx _ (by decide)) hX).mp z)), if_neg (fun z => q1 z.2.1)]
  · rw [if_neg (fun z => q0 ((nI_eq hk0 hX).mp z)), if_neg (fun z => q0 z.1)]
theorem d_stfL : ∀ (d r fu : Nat) (I : q_I), r + d = 3 → d < fu → (∀ q, q < r → I 25 q = 0 ∧ I 26 q = 0) → ∃ I', f_Wo_startFrom_L1 1 fu (nI r) I = some I' ∧ (∀ o, o ≠ 25 → o ≠ 26 → I' o = I o) ∧ ∀ q, q < 3 → I' 25 q = 0 ∧ I' 26 q = 0 := by
  intro d
  induction d with
  | zero =>
    intro r fu I hr hf h
    obtain ⟨fu, rfl, -⟩ := d_fuel hf
    have : r = 3 := by omega
    subst this
    unfold f_Wo_startFrom_L1
    rw [if_pos (by decide)]
    exact ⟨I, rfl, fun _ _ _ => rfl, h⟩
  | succ d ih =>
    intro r fu I hr hf h
    obtain ⟨fu, rfl, hf⟩ := d_fuel hf
    unfold f_Wo_startFrom_L1
    rw [if_neg (d_g3 (by omega)), d_ix (by omega) (by decide), d_l, d_ix (by omega) (by decide), d_l, nI_1]
    obtain ⟨I', e, g1, g2⟩ := ih (r + 1) fu (q_ui (q_ui I (1 + 24) r 0) (1 + 25) r 0) (by omega) (by omega) (fun q hq => by
      show q_ui (q_ui I 25 r 0) 26 r 0 25 q = 0 ∧ q_ui (q_ui I 25 r 0) 26 r 0 26 q = 0
      rw [d_ui_o (by decide)]
      by_cases hqr : q = r
      · subst hqr
        rw [d_ui_s, d_ui_s]
        exact ⟨rfl, rfl⟩
      · rw [d_ui_n hqr, d_ui_n hqr, d_ui_o (by decide)]
        exact h q (by omega))
    exact ⟨I', e, fun o q1 q2 => by rw [g1 o q1 q2, d_ui_o q2, d_ui_o q1], g2⟩
theorem d_cmL1 {len : Nat} (hl : len ≤ 12) (K : q_I → Option (Int32 × q_I × q_J)) : ∀ (d x fu : Nat) (M : q_I), x + d = 7 * len → d < fu → M 0 7 = nI len → ∃ M', f_Mo_compact_L1 K fu (nI x) M = K M' ∧ (∀ o, o ≠ 1 → M' o = M o) ∧ (∀ y, x ≤ y → y < 7 * len → M' 1 (40 + y) = M 6 y) ∧ ∀ y, (y < 40 + x ∨ 40 + 7 * len ≤ y) → M' 1 y = M 1 y := by
  intro d
  induction d with
  | zero =>
    intro x fu M hx hf hm
    obtain ⟨fu, rfl, -⟩ := d_fuel hf
    refine ⟨M, ?_, fun _ _ => rfl, fun y h1 h2 => by omega, fun _ _ => rfl⟩
    unfold f_Mo_compact_L1
    rw [hm, d_m7, if_pos (nI_le (by omega) (by omega))]
  | succ d ih =>
    intro x fu M hx hf hm
    obtain ⟨fu, rfl, hf⟩ := d_fuel hf
    unfold f_Mo_compact_L1
    rw [hm, d_m7, if_neg (nI_ge (by omega) (by omega)), d_ix (by omega) (by omega), d_k40, d_ix (by omega) (by omega), d_l, nI_1]
    obtain ⟨M', g1, g2, g3, g4⟩ := ih (x + 1) fu (q_ui M 1 (40 + x) (M 6 x)) (by omega) (by omega) (by rw [d_ui_o (by decide)]; exact hm)
    refine ⟨M', g1, fun o ho => by rw [g2 o ho, d_ui_o ho], fun y h1 h2 => ?_, fun y hy => ?_⟩
    · by_cases hyx : y = x
      · subst hyx
        rw [g4 _ (by omega), d_ui_s]
      · rw [g3 y (by omega) h2, d_ui_o (by decide)]
    · rw [g4 y (by omega), d_ui_n (by omega)]
theorem d_cmL2 (K : q_I → Option (Int32 × q_I × q_J)) : ∀ (d r fu : Nat) (M : q_I), r + d = 3 → d < fu → (∀ q, q < r → M 1 (4 + q) = 0) → ∃ M', f_Mo_compact_L2 K fu (nI r) M = K M' ∧ (∀ o, o ≠ 1 → M' o = M o) ∧ (∀ q, q < 3 → M' 1 (4 + q) = 0) ∧ ∀ y, (y < 4 ∨ 7 ≤ y) → M' 1 y = M 1 y := by
  intro d
  induction d with
  | zero =>
    intro r fu M hr hf h
    obtain ⟨fu, rfl, -⟩ := d_fuel hf
    have : r = 3 := by omega
    subst this
    unfold f_Mo_compact_L2
    rw [if_pos (by decide)]
    exact ⟨M, rfl, fun _ _ => rfl, h, fun _ _ => rfl⟩
  | succ d ih =>
    intro r fu M hr hf h
    obtain ⟨fu, rfl, hf⟩ := d_fuel hf
    unfold f_Mo_compact_L2
    rw [if_neg (d_g3 (by omega)), d_k4, d_ix (by omega) (by decide), d_l, nI_1]
    obtain ⟨M', e, g1, g2, g3⟩ := ih (r + 1) fu (q_ui M 1 (4 + r) 0) (by omega) (by omega) (fun q hq => by
      by_cases hqr : q = r
      · subst hqr
        exact d_ui_s
      · rw [d_ui_n (by omega)]
        exact h q (by omega))
    exact ⟨M', e, fun o q1 => by rw [g1 o q1, d_ui_o q1], g2, fun y hy => by rw [g3 y hy, d_ui_n (by omega)]⟩
section DC
variable {t n : Nat} {I : q_I} {P : q_P} {M : q_I} {Ru : Nat → Nat → Nat} {no : Nat} {Of Os : Nat → Int32} {base : List (Nat → Nat)} {E : Nat → Nat → Nat} {kn : Nat → Nat} {nx : Nat} {ac : Nat → Nat}
theorem d_formC {r : Nat} (ha : d_ab t n Ru no Of Os base E kn nx ac) (hc : d_cl1 I P 1 n Ru no Of Os base E kn nx ac) (hi : d_inj P 55 24) (hi2 : d_inj P 84 24) (hr : r < 3) : ∃ I' P', f_Wo_form I P 1 (nI (ac r)) 83 24 = some (I', P') ∧ d_cal I' P' 83 24 (d_fm base E (ac r) 12) ∧ d_cs I I' P P' ∧ d_fr 83 24 I I' ∧ ∀ a, a ≠ 84 → P' a = P a := by
  obtain ⟨⟨C, N, h1⟩, h2, h3, h4⟩ := hc
  obtain ⟨I1, P1, e, g1, g2, g3⟩ := d_form (c := 83) ha.1 (ha.2.2.2.2.2.1 r hr).2.1 (by omega) cM83 h1.2.2.1 hi2 (fun j hj => (h1.2.2.2.2 j (w_lt (ha.2.2.2.2.2.1 r hr).2.1 hj)).1)
  refine ⟨I1, P1, e, g1, ⟨fun o ho => g2 o (by unfold d_rel at ho; omega), fun a q1 q2 => g3 a q2, ?_, g1.2.2.1⟩, g2, g3⟩
  unfold d_inj
  rw [g3 55 (by decide)]
  exact hi
end DC
theorem y2_compact {t : Nat} {I : q_I} {J : q_J} {P : q_P} {M : q_I} (h : d_Z t I P M) : ∃ v I' P' M' J', f_CR_compact I P = some (v, I', P') ∧ f_Mo_compact M J = some (v, M', J') ∧ d_Z (t + 1) I' P' M' := by
  have h0 := h
  obtain ⟨⟨n, Ru, no, Of, Os, base, E, kn, nx, ac, ha, hc, hm⟩, h2, h3, h4, h5, h6⟩ := h
  have hn12 : n ≤ 12 := ha.1.2.2.2.2.2.2.2.2
  have h12 : (2 : Nat) ^ n ≤ 2 ^ 12 := Nat.pow_le_pow_right (by decide) hn12
  have h2n : 1 ≤ (2 : Nat) ^ n := Nat.one_le_two_pow
  have hz := d_Zt h0 (show t ≤ t + 1 by omega)
  have hc' := hc
  obtain ⟨⟨C, N, hcw⟩, hc2, hc3, hc4⟩ := hc
  have h24 : ∀ q, q < 3 → I 25 q = nI (kn q) := fun q hq => (hc4 q hq).1
  have h25 : ∀ q, q < 3 → I 26 q = nI (ac q) := fun q hq => (hc4 q hq).2
  have hkx : ∀ q, q < 3 → kn q < 2 ^ 31 := fun q hq => by
    have := (ha.2.2.2.2.2.1 q hq).1
    omega
  have e1 : (1 : Int32) <<< (nI n &&& 31) - 1 = nI (2 ^ n - 1) := by
    rw [dn_pos (by omega), show (1 : Int32) = nI 1 from rfl, pk_sub h2n]
  unfold f_CR_compact f_Mo_compact
  rw [hc2, e1, d_l, d_cmpC (q1 := 0) h24 (by omega) hkx, d_x0, hm.1.1, e1, d_l, d_x4]
  have hm4 : M 1 4 = nI (kn 0) := hm.2.2 0 (by decide)
  have hm5 : M 1 5 = nI (kn 1) := hm.2.2 1 (by decide)
  have hm6 : M 1 6 = nI (kn 2) := hm.2.2 2 (by decide)
  rw [hm4]
  refine (Classical.em (kn 0 = 2 ^ n - 1)).elim (fun q0 => ?_) (fun q0 => ?_)
  rotate_left
  · rw [if_neg (fun z => q0 z.1), if_neg (fun z => q0 ((nI_eq (hkx 0 (by decide)) (by omega)).mp z))]
    exact ⟨_, _, _, _, _, rfl, rfl, hz⟩
  rw [if_pos (show nI (kn 0) = nI (2 ^ n - 1) from congrArg nI q0), d_x5, hm5]
  refine (Classical.em (kn 1 = 2 ^ n - 1)).elim (fun q1 => ?_) (fun q1 => ?_)
  rotate_left
  · rw [if_neg (fun z => q1 z.2.1), if_neg (fun z => q1 ((nI_eq (hkx 1 (by decide)) (by omega)).mp z))]
    exact ⟨_, _, _, _, _, rfl, rfl, hz⟩
  rw [if_pos (show nI (kn 1) = nI (2 ^ n - 1) from congrArg nI q1), d_x6, hm6]
  refine (Classical.em (kn 2 = 2 ^ n - 1)).elim (fun q2 => ?_) (fun q2 => ?_)
  rotate_left
  · rw [if_neg (fun z => q2 z.2.2), if_neg (fun z => q2 ((nI_eq (hkx 2 (by decide)) (by omega)).mp z))]
    exact ⟨_, _, _, _, _, rfl, rfl, hz⟩
  rw [if_pos (show nI (kn 2) = nI (2 ^ n - 1) from congrArg nI q2), if_pos (show kn 0 = 2 ^ n - 1 ∧ kn 1 = 2 ^ n - 1 ∧ kn 2 = 2 ^ n - 1 from ⟨q0, q1, q2⟩), d_y0, h25 0 (by decide)]
  obtain ⟨I1, P1, e2, g1, g2, g3, g3'⟩ := d_formC ha hc' h3 h4 (r := 0) (by decide)
  obtain ⟨M1, J1, e3, g4, g5⟩ := d_showR (J := J) ha hm (r := 0) (by decide)
  have e3' : f_Mo_shows M J 0 = some (M1, J1) := e3
  have hf := d_acfm ha (r := 0) (by decide)
  have hnum : ∀ m, m ∈ d_fm base E (ac 0) 12 → m 0 < nx := fun m hm => by
    rcases d_fm_num 12 m hm with ⟨b, z1, z2⟩ | ⟨i, z1, z2, -, z3⟩
    · rw [z2]; exact ha.2.2.1 b z1
    · rw [z3]; exact ha.2.2.2.1 i (w_lt (ha.2.2.2.2.2.1 0 (by decide)).2.1 z2)
  generalize d_fm base E (ac 0) 12 = L at g1 g4 hf hnum
  have hL := hf.2.2.2
  rw [e2, d_b2, e3', d_b2, g1.1, g4.1]
  refine (Classical.em (L.length ≤ 12)).elim (fun hl => ?_) (fun hl => ?_)
  rotate_left
  · rw [if_neg (show ¬ nI L.length ≤ 12 from fun z => hl ((nI_leI (b := 12) (by omega) (by decide)).mp z)), if_neg (show ¬ nI L.length ≤ 12 from fun z => hl ((nI_leI (b := 12) (by omega) (by decide)).mp z))]
    exact ⟨_, _, _, _, _, rfl, rfl, d_Z_fr h0 (by omega) g2 (d_ms_mf g5)⟩
  rw [if_pos (show nI L.length ≤ 12 from nI_le (b := 12) hl (by decide)), if_pos (show nI L.length ≤ 12 from nI_le (b := 12) hl (by decide)), d_x2, d_l]
  have hi10 : d_inj P1 (10 + 1) 12 := by
    unfold d_inj
    rw [g3' (10 + 1) (by decide)]
    exact hcw.2.2.1.2.2.1
  obtain ⟨I2, e4, g6, g7⟩ := d_copy (c := 10) (n := 12) (c2 := 83) (n2 := 24) (by decide) (by decide) g1 hl hi10 (by decide)
  obtain ⟨I3, e5, g8, g9⟩ := d_stfL 3 0 q_fu (q_ui I2 1 3 0) (by omega) (d_q (by omega)) (fun q hq => by omega)
  have e45 : f_Wo_startFrom I1 P1 1 83 24 = some I3 := by
    unfold f_Wo_startFrom
    have e4' : f_Cal_copyFrom I1 P1 (1 + 9) 12 83 24 = some I2 := e4
    rw [e4', d_b1, d_l]
    exact e5
  have hI : ∀ o, o ≠ 1 → o < 10 ∨ 24 ≤ o → o ≠ 25 → o ≠ 26 → (o < 83 ∨ 109 ≤ o) → I3 o = I o := fun o z1 z2 z3 z4 z5 => by rw [g8 o z3 z4, d_ui_o z1, g7 o (by omega), g3 o (by omega)]
  have hI1 : ∀ f, f ≠ 3 → I3 1 f = I 1 f := fun f hf => by rw [g8 1 (by decide) (by decide), d_ui_n hf, g7 1 (by decide), g3 1 (by decide)]
  have e83 : I3 83 1 = nI L.length := by rw [g8 83 (by decide) (by decide), d_ui_o (by decide), g7 83 (by decide), g1.1]
  rw [e45, d_b1, e83]
  have g4a := g4.1
  have hM1 : (q_ui M1 1 2 (nI L.length)) 0 7 = nI L.length := by rw [d_ui_o (by decide)]; exact g4.1
  have ho : ∀ K : q_I → Option (Int32 × q_I × q_J), ∃ M', f_Mo_compact_L1 K q_fu 0 (q_ui M1 1 2 (nI L.length)) = K M' ∧ (∀ o, o ≠ 1 → M' o = (q_ui M1 1 2 (nI L.length)) o) ∧ (∀ y, 0 ≤ y → y < 7 * L.length → M' 1 (40 + y) = (q_ui M1 1 2 (nI L.length)) 6 y) ∧ ∀ y, (y < 40 + 0 ∨ 40 + 7 * L.length ≤ y) → M' 1 y = (q_ui M1 1 2 (nI L.length)) 1 y := fun K => d_cmL1 hl K (7 * L.length) 0 q_fu (q_ui M1 1 2 (nI L.length)) (by omega) (d_q (by omega)) hM1
  obtain ⟨M2, e6, k1, k2, k3⟩ := ho (fun (I5 : q_I) => q_ix 0 280 (fun j8 => q_l (q_ui I5 1 j8 0) (fun I6 => f_Mo_compact_L2 (fun (I9 : q_I) => some ((I9 0 7), I9, J1)) q_fu 0 I6)))
  obtain ⟨M3, e7, k4, k5, k6⟩ := d_cmL2 (fun (I9 : q_I) => some ((I9 0 7), I9, J1)) 3 0 q_fu (q_ui M2 1 0 0) (by omega) (d_q (by omega)) (fun q hq => by omega)
  have e7' : f_Mo_compact_L2 (fun (I9 : q_I) => some ((I9 0 7), I9, J1)) q_fu 0 (q_ui M2 1 0 0) = some ((M3 0 7), M3, J1) := e7
  rw [e6, d_x0, d_l, e7', k4 0 (by decide), d_ui_o (by decide), k1 0 (by decide), hM1]
  have hv : ∀ y, y ≠ 0 → y ≠ 2 → (y < 4 ∨ 7 ≤ y) → (y < 40 ∨ 40 + 7 * L.length ≤ y) → M3 1 y = M 1 y := fun y z1 z2 z3 z4 => by rw [k6 y z3, d_ui_n z1, k3 y (by omega), d_ui_n z2, g5.1 1 (by decide) (by decide)]
  obtain ⟨⟨v1, v2, v3, v4, v5, v6, v7, v8, v9⟩, v10, v11⟩ := hm
  refine ⟨_, _, _, _, _, rfl, rfl, d_Z_up h0 (by omega) ⟨0, Ru, no, Of, Os, L, E, fun _ => 0, nx, fun _ => 0, ⟨⟨hf.1, hf.2.1, hl, fun i hi => by omega, fun i hi => by omega, fun i j h1 h2 => by omega, fun i hi => by omega, fun i hi => by omega, by decide⟩, hf.2.2.1, hnum, fun i hi => by omega, by have := ha.2.2.2.2.1; omega, fun r hr => ⟨Nat.one_pos, Nat.one_pos, d_acc00 hf.2.2.1⟩, ha.2.2.2.2.2.2⟩, ⟨⟨C, N, d_ru_fr hcw.1 (fun o z1 z2 => hI o (by omega) (by omega) (by omega) (by omega) (by omega)), d_or_fr hcw.2.1 (fun o z1 z2 => hI o (by omega) (by omega) (by omega) (by omega) (by omega)), d_cal_eq g6 (fun o z1 z2 => by rw [g8 o (by omega) (by omega), d_ui_o (by omega)]) rfl, fun j hj => ?_, fun j hj => by omega⟩, ?_, ?_, fun r hr => ?_⟩, ⟨?_, ?_, ⟨?_, v3.2⟩, fun x hx => ?_, fun x hx => ?_, fun o ho => ?_, fun k m hk f hf => ?_, fun i hi => by omega, v9⟩, ?_, fun r hr => ?_⟩ ⟨fun o z => hI o (by omega) (by omega) (by omega) (by omega) (by omega), fun a z => g3' a (by omega), ?_, g1.2.2.1⟩ ?_⟩
  · rw [hI _ (by omega) (by omega) (by omega) (by omega) (by omega)]
    exact hcw.2.2.2.1 j hj
  · rw [g8 1 (by decide) (by decide)]
    exact d_ui_s
  · rw [hI1 4 (by decide)]
    exact hc3
  · exact g9 r hr
  · rw [k6 0 (by decide)]
    exact d_ui_s
  · rw [k6 2 (by decide), d_ui_n (by decide), k3 2 (by omega)]
    exact d_ui_s
  · rw [hv 3 (by decide) (by decide) (by decide) (by omega)]; exact v3.1
  · rw [hv _ (by omega) (by omega) (by omega) (by omega), hv _ (by omega) (by omega) (by omega) (by omega), hv _ (by omega) (by omega) (by omega) (by omega)]; exact v4 x hx
  · rw [hv _ (by omega) (by omega) (by omega) (by omega), hv _ (by omega) (by omega) (by omega) (by omega)]; exact v5 x hx
  · have := v3.2
    rw [hv _ (by omega) (by omega) (by omega) (by omega), hv _ (by omega) (by omega) (by omega) (by omega)]; exact v6 o ho
  · have := d_get_lt hk
    rw [k6 _ (by omega), d_ui_n (by omega), k2 _ (by omega) (by omega), d_ui_o (by decide)]
    exact g4.2.2 k m hk f hf
  · rw [hv 1 (by decide) (by decide) (by decide) (by omega)]; exact v10
  · exact k5 r hr
  · unfold d_inj
    rw [g3' 55 (by decide)]
    exact h3
  · refine ⟨fun o z1 z2 => ?_, ?_, ?_⟩
    · rw [k4 o (by omega), d_ui_o (by omega), k1 o (by omega), d_ui_o (by omega), g5.1 o (by omega) (by omega)]
    · rw [k4 0 (by omega), d_ui_o (by omega), k1 0 (by omega), d_ui_o (by omega), g5.2 4 (by omega)]
    · rw [k4 0 (by omega), d_ui_o (by omega), k1 0 (by omega), d_ui_o (by omega), g5.2 6 (by omega)]
