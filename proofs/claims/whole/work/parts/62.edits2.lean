/-! what edits say of themselves -/
section DE
variable {t n : Nat} {I : q_I} {P : q_P} {M : q_I} {Ru : Nat → Nat → Nat} {no : Nat} {Of Os : Nat → Int32} {base : List (Nat → Nat)} {E : Nat → Nat → Nat} {kn : Nat → Nat} {nx : Nat} {ac : Nat → Nat}
theorem d_mfeL (hv : d_mw (M 1) n Ru no Of Os base E) (hn : n ≤ 12) (x : Int32) : ∀ (d k fu : Nat), k + d = n → d < fu → f_Mo_findEdit_L1 M x fu (nI k) = (match d_fe E x d k with
    | none => some (-1)
    | some i => some (nI i)) := by
  intro d
  induction d with
  | zero =>
    intro k fu hk hf
    obtain ⟨fu, rfl, -⟩ := d_fuel hf
    unfold f_Mo_findEdit_L1
    rw [d_x0, hv.1, if_pos (nI_le (by omega) (by omega))]
    rfl
  | succ d ih =>
    intro k fu hk hf
    obtain ⟨fu, rfl, hf⟩ := d_fuel hf
    unfold f_Mo_findEdit_L1
    rw [d_x0, hv.1, if_neg (nI_ge (show k < n by omega) (by omega)), d_me0, d_b1, d_ix (by omega) (by omega), (hv.2.2.2.2.2.2.2.1 k (by omega)).1 0 (by omega)]
    unfold d_fe
    by_cases he : nI (E k 0) = x
    · rw [if_pos he, if_pos he]
    · rw [if_neg he, if_neg he, nI_1]
      exact ih (k + 1) fu (by omega) (by omega)
theorem d_mfe (hv : d_mw (M 1) n Ru no Of Os base E) (hn : n ≤ 12) (x : Int32) : f_Mo_findEdit M x = (match d_fe E x n 0 with
    | none => some (-1)
    | some i => some (nI i)) := d_mfeL hv hn x n 0 q_fu (by omega) (d_q (by omega))
/-- both look an edit up alike -/
theorem d_fe2 (hc : d_cl1 I P 1 n Ru no Of Os base E kn nx ac) (hm : d_ml1 (M 1) n Ru no Of Os base E kn nx) (hn : n ≤ 12) (x : Int32) : (f_Wo_indexOf I 1 x = some (-4) ∧ f_Mo_findEdit M x = some (-1)) ∨ ∃ i, i < n ∧ nI (E i 0) = x ∧ f_Wo_indexOf I 1 x = some (nI i) ∧ f_Mo_findEdit M x = some (nI i) := by
  obtain ⟨⟨C, N, h1⟩, h2, h3, h4⟩ := hc
  have e1 := d_idx (w := 1) (E := E) h2 hn (fun j hj => (h1.2.2.2.2 j hj).1) x
  have e2 := d_mfe hm.1 hn x
  cases hq : d_fe E x n 0 with
  | none =>
    rw [hq] at e1 e2
    exact Or.inl ⟨e1, e2⟩
  | some i =>
    rw [hq] at e1 e2
    have := d_fe_some hq
    exact Or.inr ⟨i, by omega, this.2.2, e1, e2⟩
end DE
theorem y2_edits {t : Nat} {I : q_I} {P : q_P} {M : q_I} (h : d_Z t I P M) : ∃ v, f_CR_edits I = some v ∧ f_Mo_edits M = some v ∧ d_Z (t + 1) I P M := by
  have h0 := h
  obtain ⟨⟨n, Ru, no, Of, Os, base, E, kn, nx, ac, ha, hc, hm⟩, h2, h3, h4, h5, h6⟩ := h
  unfold f_CR_edits f_Mo_edits
  rw [d_x0, hc.2.1, hm.1.1]
  exact ⟨_, rfl, rfl, d_Zt h0 (by omega)⟩
theorem y2_editAt {t : Nat} {I : q_I} {P : q_P} {M : q_I} (h : d_Z t I P M) (a1 : Int32) : ∃ v, f_CR_editAt I a1 = some v ∧ f_Mo_editAt M a1 = some v ∧ d_Z (t + 1) I P M := by
  have h0 := h
  obtain ⟨⟨n, Ru, no, Of, Os, base, E, kn, nx, ac, ha, hc, hm⟩, h2, h3, h4, h5, h6⟩ := h
  have hn12 : n ≤ 12 := ha.1.2.2.2.2.2.2.2.2
  have hz := d_Zt h0 (show t ≤ t + 1 by omega)
  obtain ⟨⟨C, N, hcw⟩, hc2, hc3, hc4⟩ := hc
  have vm := hm.1.2.2.2.2.2.2.2.1
  unfold f_CR_editAt f_Mo_editAt
  rw [d_x0, hc2, hm.1.1]
  by_cases hin : ∃ k, k < n ∧ a1 = nI k
  · obtain ⟨k, hk, rfl⟩ := hin
    rw [if_neg (nI_ge hk (by omega)), d_eat hc2 hn12 (by omega) (by omega), d_b1, d_b1, show (0 : Int32) = nI 0 from rfl, show (1 : Int32) = nI 1 from rfl, pk_sub (by omega), dn_inE (by omega) (by omega) (by omega), if_pos (by omega), d_b1, if_neg (show ¬ (1 : Int32) = nI 0 by decide), show nI 0 = (0 : Int32) from rfl, d_me0, d_b1, d_ix (by omega) (by omega), (vm k hk).1 0 (by omega)]
    simp only [Option.elim_some]
    unfold q_ck
    rw [if_pos (cE27 k (by omega)), (hcw.2.2.2.2 k hk).1.1 0 (by omega)]
    exact ⟨_, rfl, rfl, hz⟩
  · have hno : ∀ k, k < n → a1 ≠ nI k := fun k hk e => hin ⟨k, hk, e⟩
    have e2 : f_Mo_in a1 0 (nI n - 1) = some 0 := by
      by_cases hn0 : n = 0
      · subst hn0
        unfold f_Mo_in
        by_cases q : a1 < 0
        · rw [if_pos q]
        · rw [if_neg q, if_pos]
          rw [Int32.lt_iff_toInt_lt] at q ⊢
          have e0 : (0 : Int32).toInt = 0 := rfl
          have e1 : (nI 0 - 1).toInt = -1 := rfl
          omega
      · rw [show (1 : Int32) = nI 1 from rfl, pk_sub (by omega)]
        rcases dn_in (x := a1) (a := 0) (b := n - 1) (by omega) (by omega) with ⟨q, -⟩ | ⟨k, q1, q2, q3, -⟩
        · exact q
        · exact absurd q3 (hno k (by omega))
    rw [e2, d_b1, if_pos rfl]
    by_cases h9 : nI n ≤ a1
    · rw [if_pos h9, d_b1]
      exact ⟨_, rfl, rfl, hz⟩
    · rw [if_neg h9, d_eatn hc2 hn12 (fun k h1 h2 e => by
        subst e
        by_cases hkn : k < n
        · exact hno k hkn rfl
        · exact h9 (nI_le (by omega) (by omega))), d_b1, d_b1]
      exact ⟨_, rfl, rfl, hz⟩
theorem d_eat4 {I : q_I} {w n : Nat} (hsz : I w 3 = nI n) (hn : n ≤ 12) : f_Wo_editAtIndex I w (-4) = some none := d_eatn hsz hn (fun k h1 h2 e => by
  have := nI_pos (n := k) (by omega)
  rw [← e] at this
  exact this (by decide))
theorem y2_kindOf {t : Nat} {I : q_I} {P : q_P} {M : q_I} (h : d_Z t I P M) (a1 : Int32) : ∃ v, f_CR_kindOf I a1 = some v ∧ f_Mo_kindOf M a1 = some v ∧ d_Z (t + 1) I P M := by
  have h0 := h
  obtain ⟨⟨n, Ru, no, Of, Os, base, E, kn, nx, ac, ha, hc, hm⟩, h2, h3, h4, h5, h6⟩ := h
  have hn12 : n ≤ 12 := ha.1.2.2.2.2.2.2.2.2
  have hz := d_Zt h0 (show t ≤ t + 1 by omega)
  have vm := hm.1.2.2.2.2.2.2.2.1
  unfold f_CR_kindOf f_Mo_kindOf f_Mo_ofEdit
  rcases d_fe2 hc hm hn12 a1 with ⟨e1, e2⟩ | ⟨i, hi, -, e1, e2⟩
  · rw [e1, e2, d_b1, d_b1, if_neg (show ¬ (0 : Int32) ≤ -1 by decide), d_eat4 hc.2.1 hn12, d_b1, d_b1]
    exact ⟨_, rfl, rfl, hz⟩
  · obtain ⟨⟨C, N, hcw⟩, hc2, hc3, hc4⟩ := hc
    rw [e1, e2, d_b1, d_b1, if_pos (nI_pos' (by omega)), d_eat hc2 hn12 (by omega) (by omega), d_b1, d_me3, d_b1, d_ix (by omega) (by omega), (vm i hi).1 3 (by omega), d_b1]
    simp only [Option.elim_some]
    unfold q_ck
    rw [if_pos (cE27 i (by omega)), (hcw.2.2.2.2 i hi).1.1 3 (by omega)]
    exact ⟨_, rfl, rfl, hz⟩
theorem y2_meetingOf {t : Nat} {I : q_I} {P : q_P} {M : q_I} (h : d_Z t I P M) (a1 : Int32) : ∃ v, f_CR_meetingOf I a1 = some v ∧ f_Mo_meetingOf M a1 = some v ∧ d_Z (t + 1) I P M := by
  have h0 := h
  obtain ⟨⟨n, Ru, no, Of, Os, base, E, kn, nx, ac, ha, hc, hm⟩, h2, h3, h4, h5, h6⟩ := h
  have hn12 : n ≤ 12 := ha.1.2.2.2.2.2.2.2.2
  have hz := d_Zt h0 (show t ≤ t + 1 by omega)
  have vm := hm.1.2.2.2.2.2.2.2.1
  unfold f_CR_meetingOf f_Mo_meetingOf f_Mo_ofEdit
  rcases d_fe2 hc hm hn12 a1 with ⟨e1, e2⟩ | ⟨i, hi, -, e1, e2⟩
  · rw [e1, e2, d_b1, d_b1, if_neg (show ¬ (0 : Int32) ≤ -1 by decide), d_eat4 hc.2.1 hn12, d_b1, d_b1]
    exact ⟨_, rfl, rfl, hz⟩
  · obtain ⟨⟨C, N, hcw⟩, hc2, hc3, hc4⟩ := hc
    rw [e1, e2, d_b1, d_b1, if_pos (nI_pos' (by omega)), d_eat hc2 hn12 (by omega) (by omega), d_b1, d_me4, d_b1, d_ix (by omega) (by omega), (vm i hi).1 4 (by omega), d_b1]
    simp only [Option.elim_some]
    unfold q_ck
    rw [if_pos (cE27 i (by omega)), (hcw.2.2.2.2 i hi).1.1 4 (by omega)]
    exact ⟨_, rfl, rfl, hz⟩
theorem y2_authorOf {t : Nat} {I : q_I} {P : q_P} {M : q_I} (h : d_Z t I P M) (a1 : Int32) : ∃ v, f_CR_authorOf I a1 = some v ∧ f_Mo_authorOf M a1 = some v ∧ d_Z (t + 1) I P M := by
  have h0 := h
  obtain ⟨⟨n, Ru, no, Of, Os, base, E, kn, nx, ac, ha, hc, hm⟩, h2, h3, h4, h5, h6⟩ := h
  have hn12 : n ≤ 12 := ha.1.2.2.2.2.2.2.2.2
  have hz := d_Zt h0 (show t ≤ t + 1 by omega)
  have vm := hm.1.2.2.2.2.2.2.2.1
  unfold f_CR_authorOf f_Mo_authorOf f_Mo_ofEdit
  rcases d_fe2 hc hm hn12 a1 with ⟨e1, e2⟩ | ⟨i, hi, -, e1, e2⟩
  · rw [e1, e2, d_b1, d_b1, if_neg (show ¬ (0 : Int32) ≤ -1 by decide), d_eat4 hc.2.1 hn12, d_b1, d_b1]
    exact ⟨_, rfl, rfl, hz⟩
  · obtain ⟨⟨C, N, hcw⟩, hc2, hc3, hc4⟩ := hc
    rw [e1, e2, d_b1, d_b1, if_pos (nI_pos' (by omega)), d_eat hc2 hn12 (by omega) (by omega), d_b1, d_me1, d_b1, d_ix (by omega) (by omega), (vm i hi).1 1 (by omega), d_b1]
    simp only [Option.elim_some]
    unfold q_ck
    rw [if_pos (cE27 i (by omega)), (hcw.2.2.2.2 i hi).1.1 1 (by omega)]
    exact ⟨_, rfl, rfl, hz⟩
theorem y2_weightOf {t : Nat} {I : q_I} {P : q_P} {M : q_I} (h : d_Z t I P M) (a1 : Int32) : ∃ v, f_CR_weightOf I a1 = some v ∧ f_Mo_weightOf M a1 = some v ∧ d_Z (t + 1) I P M := by
  have h0 := h
  obtain ⟨⟨n, Ru, no, Of, Os, base, E, kn, nx, ac, ha, hc, hm⟩, h2, h3, h4, h5, h6⟩ := h
  have hn12 : n ≤ 12 := ha.1.2.2.2.2.2.2.2.2
  have hz := d_Zt h0 (show t ≤ t + 1 by omega)
  have vm := hm.1.2.2.2.2.2.2.2.1
  unfold f_CR_weightOf f_Mo_weightOf f_Mo_ofEdit
  rcases d_fe2 hc hm hn12 a1 with ⟨e1, e2⟩ | ⟨i, hi, -, e1, e2⟩
  · rw [e1, e2, d_b1, d_b1, if_neg (show ¬ (0 : Int32) ≤ -1 by decide), d_eat4 hc.2.1 hn12, d_b1, d_b1]
    exact ⟨_, rfl, rfl, hz⟩
  · obtain ⟨⟨C, N, hcw⟩, hc2, hc3, hc4⟩ := hc
    rw [e1, e2, d_b1, d_b1, if_pos (nI_pos' (by omega)), d_eat hc2 hn12 (by omega) (by omega), d_b1, d_me2, d_b1, d_ix (by omega) (by omega), (vm i hi).1 2 (by omega), d_b1]
    simp only [Option.elim_some]
    unfold q_ck
    rw [if_pos (cE27 i (by omega)), (hcw.2.2.2.2 i hi).1.1 2 (by omega)]
    exact ⟨_, rfl, rfl, hz⟩
theorem y2_clash {t : Nat} {I : q_I} {P : q_P} {M : q_I} (h : d_Z t I P M) (a1 a2 : Int32) : ∃ v, f_CR_clash I a1 a2 = some v ∧ f_Mo_clash M a1 a2 = some v ∧ d_Z (t + 1) I P M := by
  have h0 := h
  obtain ⟨⟨n, Ru, no, Of, Os, base, E, kn, nx, ac, ha, hc, hm⟩, h2, h3, h4, h5, h6⟩ := h
  have hn12 : n ≤ 12 := ha.1.2.2.2.2.2.2.2.2
  have hz := d_Zt h0 (show t ≤ t + 1 by omega)
  unfold f_CR_clash f_Mo_clash
  rcases d_fe2 hc hm hn12 a1 with ⟨e1, e2⟩ | ⟨i, hi, -, e1, e2⟩
  · rcases d_fe2 hc hm hn12 a2 with ⟨e3, e4⟩ | ⟨j, hj, -, e3, e4⟩
    · rw [e1, e2, d_b1, d_b1, e3, e4, d_b1, d_b1, if_pos (by decide), if_pos (by decide)]
      exact ⟨_, rfl, rfl, hz⟩
    · rw [e1, e2, d_b1, d_b1, e3, e4, d_b1, d_b1, if_pos (by decide), if_pos (by decide)]
      exact ⟨_, rfl, rfl, hz⟩
  · rcases d_fe2 hc hm hn12 a2 with ⟨e3, e4⟩ | ⟨j, hj, -, e3, e4⟩
    · rw [e1, e2, d_b1, d_b1, e3, e4, d_b1, d_b1, if_neg (nI_pos (by omega)), if_neg (nI_pos (by omega)), if_pos (by decide), if_pos (by decide)]
      exact ⟨_, rfl, rfl, hz⟩
    · rw [e1, e2, d_b1, d_b1, e3, e4, d_b1, d_b1, if_neg (nI_pos (by omega)), if_neg (nI_pos (by omega)), if_neg (nI_pos (by omega)), if_neg (nI_pos (by omega))]
      by_cases hij : i = j
      · subst hij
        rw [if_pos rfl, if_pos rfl]
        exact ⟨_, rfl, rfl, hz⟩
      · have hne : ¬ nI i = nI j := fun q => hij ((nI_eq (by omega) (by omega)).mp q)
        obtain ⟨⟨C, N, hcw⟩, hc2, hc3, hc4⟩ := hc
        obtain ⟨c, e5, g1, g2⟩ := d_clash hcw.2.2.2 hn12 hi
        rw [if_neg hne, if_neg hne, e5, d_b1, dn_has (by omega) (by omega), d_b1]
        rcases Nat.lt_or_ge i j with q | q
        · obtain ⟨v, e6, g3, g4⟩ := d_mcl hm.1 ha.1 hi hj
          rw [if_neg (nI_ge q (by omega)), e6, d_b1]
          have key : w_in c j ↔ v = 1 := (g2 j hj).trans (Iff.trans ⟨fun z => z.elim (fun z => z.2) (fun z => by omega), fun z => Or.inl ⟨q, z⟩⟩ g4.symm)
          rcases g3 with rfl | rfl
          · rw [if_neg (fun z => absurd (key.mp z) (by decide)), if_pos rfl]
            exact ⟨_, rfl, rfl, hz⟩
          · rw [if_pos (key.mpr rfl), if_neg (by decide)]
            exact ⟨_, rfl, rfl, hz⟩
        · obtain ⟨v, e6, g3, g4⟩ := d_mcl hm.1 ha.1 hj hi
          rw [if_pos (nI_le q (by omega)), e6, d_b1]
          have key : w_in c j ↔ v = 1 := (g2 j hj).trans (Iff.trans ⟨fun z => z.elim (fun z => by omega) (fun z => z.2), fun z => Or.inr ⟨by omega, z⟩⟩ g4.symm)
          rcases g3 with rfl | rfl
          · rw [if_neg (fun z => absurd (key.mp z) (by decide)), if_pos rfl]
            exact ⟨_, rfl, rfl, hz⟩
          · rw [if_pos (key.mpr rfl), if_neg (by decide)]
            exact ⟨_, rfl, rfl, hz⟩
/-- what an edit is for a replica -/
def d_stv (kn U ac i : Nat) : Int32 := if w_in kn i then (if w_in U i then (if w_in ac i then 3 else 2) else 1) else 0
section DT
variable {t n : Nat} {I : q_I} {P : q_P} {M : q_I} {Ru : Nat → Nat → Nat} {no : Nat} {Of Os : Nat → Int32} {base : List (Nat → Nat)} {E : Nat → Nat → Nat} {kn : Nat → Nat} {nx : Nat} {ac : Nat → Nat}
theorem d_standC (ha : d_ab t n Ru no Of Os base E kn nx ac) (hc : d_cl1 I P 1 n Ru no Of Os base E kn nx ac) {r i : Nat} (hr : r < 3) (hi : i < n) : ∃ U, U < 2 ^ n ∧ d_us E (kn r) U ∧ f_CR_standing I (nI r) (nI i) = some (d_stv (kn r) U (ac r) i) := by
  have hn12 : n ≤ 12 := ha.1.2.2.2.2.2.2.2.2
  have h12 : (2 : Nat) ^ n ≤ 2 ^ 12 := Nat.pow_le_pow_right (by decide) hn12
  obtain ⟨⟨C, N, hcw⟩, hc2, hc3, hc4⟩ := hc
  have hk := ha.2.2.2.2.2.1 r hr
  obtain ⟨U, e, g1, g2⟩ := d_use hcw.2.2.2 hn12 hk.1
  refine ⟨U, g1, g2, ?_⟩
  have h24 : I 25 r = nI (kn r) := (hc4 r hr).1
  have h25 : I 26 r = nI (ac r) := (hc4 r hr).2
  unfold f_CR_standing d_stv
  rw [d_ix hr (by decide), d_l, h24, dn_has (by omega) (by omega), d_b1]
  by_cases q1 : w_in (kn r) i
  · rw [if_pos q1, if_pos q1, if_neg (by decide), e, d_b1, dn_has (by omega) (by omega), d_b1]
    by_cases q2 : w_in U i
    · rw [if_pos q2, if_pos q2, if_neg (by decide), d_ix hr (by decide), h25, dn_has (by omega) (by omega), d_b1]
      by_cases q3 : w_in (ac r) i
      · rw [if_pos q3, if_pos q3, if_neg (by decide)]
      · rw [if_neg q3, if_neg q3, if_pos rfl]
    · rw [if_neg q2, if_neg q2, if_pos rfl]
  · rw [if_neg q1, if_neg q1, if_pos rfl]
theorem d_stBy (hm : d_ml1 (M 1) n Ru no Of Os base E kn nx) {r i a u : Nat} (hr : r < 3) (hi : i < 31) (hk : kn r < 2 ^ 31) (ha : a < 2 ^ 31) (hu : u < 2 ^ 31) : f_Mo_stateBy M (nI r) (nI i) (nI a) (nI u) = some (d_stv (kn r) u a i) := by
  unfold f_Mo_stateBy d_stv
  rw [d_k4, d_ix (by omega) (by omega), hm.2.2 r hr]
  by_cases q1 : w_in (kn r) i
  · rw [if_neg (fun q => ((dn_b0 hk hi).mp q) q1), if_pos q1]
    by_cases q2 : w_in u i
    · rw [if_neg (fun q => ((dn_b0 hu hi).mp q) q2), if_pos q2]
      by_cases q3 : w_in a i
      · rw [if_neg (fun q => ((dn_b0 ha hi).mp q) q3), if_pos q3]
      · rw [if_pos ((dn_b0 ha hi).mpr q3), if_neg q3]
    · rw [if_pos ((dn_b0 hu hi).mpr q2), if_neg q2]
  · rw [if_pos ((dn_b0 hk hi).mpr q1), if_neg q1]
theorem d_stOf {J : q_J} (ha : d_ab t n Ru no Of Os base E kn nx ac) (hm : d_ml1 (M 1) n Ru no Of Os base E kn nx) {r i : Nat} (hr : r < 3) (hi : i < n) : ∃ U M' J', U < 2 ^ n ∧ d_us E (kn r) U ∧ f_Mo_stateOf M J (nI r) (nI i) = some (d_stv (kn r) U (ac r) i, M', J') ∧ d_mf M M' := by
  have hn12 : n ≤ 12 := ha.1.2.2.2.2.2.2.2.2
  have h12 : (2 : Nat) ^ n ≤ 2 ^ 12 := Nat.pow_le_pow_right (by decide) hn12
  have hk := ha.2.2.2.2.2.1 r hr
  obtain ⟨M1, J1, e1, g1⟩ := d_accR (J := J) ha hm hr
  have hm1 := d_mwf hm g1
  obtain ⟨U, e2, g2, g3⟩ := d_muse hm1.1 ha.1 hr hk.1 (hm1.2.2 r hr)
  refine ⟨U, M1, J1, g2, g3, ?_, g1⟩
  unfold f_Mo_stateOf
  rw [e1, d_b3, e2, d_b1, d_stBy hm1 hr (by omega) (by omega) (by omega) (by omega), d_b1]
end DT
theorem y2_state {t : Nat} {I : q_I} {P : q_P} {M : q_I} {J : q_J} (h : d_Z t I P M) (a1 a2 : Int32) : ∃ v M' J', f_CR_state I a1 a2 = some v ∧ f_Mo_state M J a1 a2 = some (v, M', J') ∧ d_Z (t + 1) I P M' := by
  have h0 := h
  obtain ⟨⟨n, Ru, no, Of, Os, base, E, kn, nx, ac, ha, hc, hm⟩, h2, h3, h4, h5, h6⟩ := h
  have hn12 : n ≤ 12 := ha.1.2.2.2.2.2.2.2.2
  have hz := d_Zt h0 (show t ≤ t + 1 by omega)
  unfold f_CR_state f_Mo_state
  rw [d_repC]
  rcases d_fe2 hc hm hn12 a2 with ⟨e1, e2⟩ | ⟨i, hi, -, e1, e2⟩
  · rw [e1, e2, d_b1, d_b1]
    rcases d_rep a1 with ⟨e, -⟩ | ⟨r, hr, rfl, e⟩
    · rw [e, d_b1, d_b1, if_pos rfl, if_pos rfl]
      exact ⟨_, _, _, rfl, rfl, hz⟩
    · rw [e, d_b1, d_b1, if_neg (by decide), if_neg (by decide), if_neg (by decide), if_pos (by decide)]
      exact ⟨_, _, _, rfl, rfl, hz⟩
  · rw [e1, e2, d_b1, d_b1]
    rcases d_rep a1 with ⟨e, -⟩ | ⟨r, hr, rfl, e⟩
    · rw [e, d_b1, d_b1, if_pos rfl, if_pos rfl]
      exact ⟨_, _, _, rfl, rfl, hz⟩
    · obtain ⟨U, g1, g2, e3⟩ := d_standC ha hc hr hi
      obtain ⟨U', M1, J1, g3, g4, e4, g5⟩ := d_stOf (J := J) ha hm hr hi
      have := d_us_u g2 g4
      subst this
      rw [e, d_b1, d_b1, if_neg (show ¬ (1 : Int32) = 0 by decide), if_pos (nI_pos' (by omega)), if_neg (show ¬ (1 : Int32) = 0 by decide), if_neg (nI_pos (by omega)), e3, d_b1, e4, d_b3]
      exact ⟨_, _, _, rfl, rfl, d_Z_fr h0 (by omega) (d_cs_rf h0) (d_ms_mf g5)⟩
theorem y2_acceptedWeight {t : Nat} {I : q_I} {P : q_P} {M : q_I} {J : q_J} (h : d_Z t I P M) (a1 : Int32) : ∃ v M' J', f_CR_acceptedWeight I a1 = some v ∧ f_Mo_acceptedWeight M J a1 = some (v, M', J') ∧ d_Z (t + 1) I P M' := by
  have h0 := h
  obtain ⟨⟨n, Ru, no, Of, Os, base, E, kn, nx, ac, ha, hc, hm⟩, h2, h3, h4, h5, h6⟩ := h
  have hn12 : n ≤ 12 := ha.1.2.2.2.2.2.2.2.2
  unfold f_CR_acceptedWeight f_Mo_acceptedWeight
  rw [d_repC]
  rcases d_rep a1 with ⟨e, -⟩ | ⟨r, hr, rfl, e⟩
  · rw [e, d_b1, d_b1, if_pos rfl, if_pos rfl]
    exact ⟨_, _, _, rfl, rfl, d_Zt h0 (by omega)⟩
  · have hk := ha.2.2.2.2.2.1 r hr
    obtain ⟨M1, J1, e1, g1⟩ := d_accR (J := J) ha hm hr
    have hm1 := d_mwf hm g1
    obtain ⟨⟨C, N, hcw⟩, hc2, hc3, hc4⟩ := hc
    have h25 : I 26 r = nI (ac r) := (hc4 r hr).2
    rw [e, d_b1, d_b1, if_neg (by decide), if_neg (by decide), d_ix hr (by decide), h25, d_wei hcw.2.2.2 hn12 (d_wf_w ha.1) hk.2.1, d_b1, e1, d_b3, d_mwt hm1.1 hn12 hk.2.1, d_b1]
    exact ⟨_, _, _, rfl, rfl, d_Z_fr h0 (by omega) (d_cs_rf h0) (d_ms_mf g1)⟩
theorem y2_rejectedWeight {t : Nat} {I : q_I} {P : q_P} {M : q_I} {J : q_J} (h : d_Z t I P M) (a1 : Int32) : ∃ v M' J', f_CR_rejectedWeight I a1 = some v ∧ f_Mo_rejectedWeight M J a1 = some (v, M', J') ∧ d_Z (t + 1) I P M' := by
  have h0 := h
  obtain ⟨⟨n, Ru, no, Of, Os, base, E, kn, nx, ac, ha, hc, hm⟩, h2, h3, h4, h5, h6⟩ := h
  have hn12 : n ≤ 12 := ha.1.2.2.2.2.2.2.2.2
  have h12 : (2 : Nat) ^ n ≤ 2 ^ 12 := Nat.pow_le_pow_right (by decide) hn12
  unfold f_CR_rejectedWeight f_Mo_rejectedWeight
  rw [d_repC]
  rcases d_rep a1 with ⟨e, -⟩ | ⟨r, hr, rfl, e⟩
  · rw [e, d_b1, d_b1, if_pos rfl, if_pos rfl]
    exact ⟨_, _, _, rfl, rfl, d_Zt h0 (by omega)⟩
  · have hk := ha.2.2.2.2.2.1 r hr
    obtain ⟨U', e2, g2, g3⟩ := d_muse hm.1 ha.1 hr hk.1 (hm.2.2 r hr)
    obtain ⟨M1, J1, e1, g1⟩ := d_accR (J := J) ha hm hr
    have hm1 := d_mwf hm g1
    obtain ⟨⟨C, N, hcw⟩, hc2, hc3, hc4⟩ := hc
    obtain ⟨U, e3, g4, g5⟩ := d_use hcw.2.2.2 hn12 hk.1
    have := d_us_u g3 g5
    subst this
    have h24 : I 25 r = nI (kn r) := (hc4 r hr).1
    have h25 : I 26 r = nI (ac r) := (hc4 r hr).2
    have hlt : w_nd U' (ac r) < 2 ^ n := dn_ndlt g2
    rw [e, d_b1, d_b1, if_neg (by decide), if_neg (by decide), d_ix hr (by decide), h24, e3, d_b1, d_ix hr (by decide), h25, dn_nd (by omega) (by omega), d_wei hcw.2.2.2 hn12 (d_wf_w ha.1) hlt, d_b1, e2, d_b1, e1, d_b3, dn_nd (by omega) (by omega), d_mwt hm1.1 hn12 hlt, d_b1]
    exact ⟨_, _, _, rfl, rfl, d_Z_fr h0 (by omega) (d_cs_rf h0) (d_ms_mf g1)⟩
theorem d_two (a b : Int32) : (f_CR_areTwoReplicas a b = some 0 ∧ (f_Mo_isReplica a = some 0 ∨ (f_Mo_isReplica a = some 1 ∧ f_Mo_isReplica b = some 0) ∨ (f_Mo_isReplica a = some 1 ∧ f_Mo_isReplica b = some 1 ∧ a = b))) ∨ ∃ r q, r < 3 ∧ q < 3 ∧ r ≠ q ∧ a = nI r ∧ b = nI q ∧ f_CR_areTwoReplicas a b = some 1 ∧ f_Mo_isReplica a = some 1 ∧ f_Mo_isReplica b = some 1 ∧ ¬ a = b := by
  unfold f_CR_areTwoReplicas
  rw [d_repC, d_repC]
  rcases d_rep a with ⟨e, -⟩ | ⟨r, hr, rfl, e⟩
  · rw [e, d_b1, if_pos rfl]
    exact Or.inl ⟨rfl, Or.inl rfl⟩
  · rw [e, d_b1, if_neg (by decide)]
    rcases d_rep b with ⟨e2, -⟩ | ⟨q, hq, rfl, e2⟩
    · rw [e2, d_b1, if_pos rfl]
      exact Or.inl ⟨rfl, Or.inr (Or.inl ⟨rfl, rfl⟩)⟩
    · rw [e2, d_b1, if_neg (by decide)]
      by_cases hrq : r = q
      · subst hrq
        rw [if_pos rfl]
        exact Or.inl ⟨rfl, Or.inr (Or.inr ⟨rfl, rfl, rfl⟩)⟩
      · have hne : ¬ nI r = nI q := fun z => hrq ((nI_eq (by omega) (by omega)).mp z)
        rw [if_neg hne]
        exact Or.inr ⟨r, q, hr, hq, hrq, rfl, rfl, rfl, rfl, rfl, hne⟩
theorem y2_agree {t : Nat} {I : q_I} {P : q_P} {M : q_I} (h : d_Z t I P M) (a1 a2 : Int32) : ∃ v, f_CR_agree I a1 a2 = some v ∧ f_Mo_agree M a1 a2 = some v ∧ d_Z (t + 1) I P M := by
  have h0 := h
  obtain ⟨⟨n, Ru, no, Of, Os, base, E, kn, nx, ac, ha, hc, hm⟩, h2, h3, h4, h5, h6⟩ := h
  have hz := d_Zt h0 (show t ≤ t + 1 by omega)
  unfold f_CR_agree f_Mo_agree
  rcases d_two a1 a2 with ⟨e, e1 | ⟨e1, e2⟩ | ⟨e1, e2, rfl⟩⟩ | ⟨r, q, hr, hq, hrq, rfl, rfl, e, e1, e2, hne⟩
  · rw [e, e1, d_b1, d_b1, if_pos rfl, if_pos rfl]
    exact ⟨_, rfl, rfl, hz⟩
  · rw [e, e1, e2, d_b1, d_b1, d_b1, if_pos rfl, if_neg (by decide), if_pos rfl]
    exact ⟨_, rfl, rfl, hz⟩
  · rw [e, e1, d_b1, d_b1, d_b1, if_pos rfl, if_neg (by decide), if_neg (by decide), if_pos rfl]
    exact ⟨_, rfl, rfl, hz⟩
  · have h24 : I 25 r = nI (kn r) := (hc.2.2.2 r hr).1
    have h25 : I 25 q = nI (kn q) := (hc.2.2.2 q hq).1
    rw [e, e1, e2, d_b1, d_b1, d_b1, if_neg (by decide), if_neg (by decide), if_neg (by decide), if_neg hne, d_ix hr (by decide), d_ix hq (by decide), h24, h25, d_k4, d_ix (by omega) (by omega), d_k4, d_ix (by omega) (by omega), hm.2.2 r hr, hm.2.2 q hq]
    by_cases hk : nI (kn r) = nI (kn q)
    · rw [if_pos hk]
      exact ⟨_, rfl, rfl, hz⟩
    · rw [if_neg hk]
      exact ⟨_, rfl, rfl, hz⟩
