section DG
variable {t n : Nat} {I : q_I} {P : q_P} {M : q_I} {Ru : Nat → Nat → Nat} {no : Nat} {Of Os : Nat → Int32} {base : List (Nat → Nat)} {E : Nat → Nat → Nat} {kn : Nat → Nat} {nx : Nat} {ac : Nat → Nat}
theorem d_findR {J : q_J} {r : Nat} (ha : d_ab t n Ru no Of Os base E kn nx ac) (hc : d_cl1 I P 1 n Ru no Of Os base E kn nx ac) (hm : d_ml1 (M 1) n Ru no Of Os base E kn nx) (h3 : d_inj P 55 24) (h4 : d_inj P 84 24) (hr : r < 3) (a2 : Int32) :
    ∃ I1 P1 M1 J1, d_cs I I1 P P1 ∧ d_mf M M1 ∧ ((f_CR_find I P (nI r) a2 = some (none, I1, P1) ∧ f_Mo_isThere M J (nI r) a2 = some (0, M1, J1)) ∨ ∃ k m, f_CR_find I P (nI r) a2 = some (some (83 + 2 + P1 84 k), I1, P1) ∧ f_Mo_isThere M J (nI r) a2 = some (1, M1, J1) ∧ d_find (d_fm base E (ac r) 12) a2 = some k ∧ (d_fm base E (ac r) 12)[k]? = some m ∧ m ∈ d_fm base E (ac r) 12 ∧ d_mt m ∧ nI (m 0) = a2 ∧ d_cal I1 P1 83 24 (d_fm base E (ac r) 12) ∧ d_mc M1 (d_fm base E (ac r) 12) ∧ cM (83 + 2 + P1 84 k) = true) := by
  obtain ⟨I1, P1, e1, g1, g2, -⟩ := d_showC ha hc h3 h4 hr
  obtain ⟨M1, J1, e2, g3, g4⟩ := d_showR (J := J) ha hm hr
  have hf := d_acfm ha hr
  have er : f_Mo_isReplica (nI r) = some 1 := by
    rcases d_rep (nI r) with ⟨-, z⟩ | ⟨q, -, -, z⟩
    · exact absurd rfl (z r hr)
    · exact z
  refine ⟨I1, P1, M1, J1, g2, g4, ?_⟩
  unfold f_CR_find f_Mo_isThere
  rw [d_repC, er, d_b1, d_b1, if_neg (show ¬ (1 : Int32) = 0 by decide), if_neg (show ¬ (1 : Int32) = 0 by decide), e1, d_b2, e2, d_b2, d_findC g1 (by omega), d_b1, d_mfind g3]
  cases hq : d_find (d_fm base E (ac r) 12) a2 with
  | none =>
    refine Or.inl ⟨rfl, ?_⟩
    show q_b1 (some (-1)) _ = _
    rw [d_b1, if_pos (show (-1 : Int32) < 0 by decide)]
  | some k =>
    obtain ⟨m, hk, hm0⟩ := d_find_some hq
    have hkl := d_get_lt hk
    refine Or.inr ⟨k, m, rfl, ?_, rfl, hk, List.mem_of_getElem? hk, hf.2.1 m (List.mem_of_getElem? hk), hm0, g1, g3, cM83 _ (g1.2.2.1.1 k (by omega))⟩
    show q_b1 (some (nI k)) _ = _
    rw [d_b1, if_neg (nI_pos (by omega))]
end DG
theorem d_cl1_cs {I I' : q_I} {P P' : q_P} {n : Nat} {Ru : Nat → Nat → Nat} {no : Nat} {Of Os : Nat → Int32} {base : List (Nat → Nat)} {E : Nat → Nat → Nat} {kn : Nat → Nat} {nx : Nat} {ac : Nat → Nat} (h : d_cl1 I P 1 n Ru no Of Os base E kn nx ac) (hn : n ≤ 12) (hc : d_cs I I' P P') : d_cl1 I' P' 1 n Ru no Of Os base E kn nx ac :=
  d_cl1_fr h hn (fun o q1 q2 => hc.1 o (Or.inl ⟨q1, by omega⟩)) (hc.2.1 _ (by decide) (by decide))
theorem d_change {t : Nat} {I : q_I} {J J2 : q_J} {P : q_P} {M : q_I} (h : d_Z t I P M) (ht : t ≤ 100000) {k lo hi : Nat} (hk : k ≤ 6) (hk0 : k ≠ 0) (hhi : hi ≤ 95) (h2 : k = 2 → hi ≤ 3) (h3 : k = 3 → lo = 1 ∧ hi ≤ 8) (h3' : k ≠ 3 → lo = 0) (h45 : k = 4 ∨ k = 5 → hi ≤ 5) (a1 a2 a3 a4 : Int32) :
    ∃ v I' J' P' M' J2', q_b1 (f_Mo_in a3 (nI lo) (nI hi)) (fun v1 => if v1 = 0 then (some ((-1 : Int32), I, J, P)) else (q_b3 (f_CR_isChangeable I P a1 a2 a4) (fun v2 I1 P1 => if v2 = 0 then (some ((-1), I1, J, P1)) else (q_b4 (f_CR_make I1 J P1 a1 (nI k) a2 a3 a4) (fun v3 I2 J1 P2 => some (v3, I2, J1, P2)))))) = some (v, I', J', P') ∧ f_Mo_changes M J2 a1 (nI k) a2 a3 (nI hi) a4 = some (v, M', J2') ∧ d_Z (t + 1) I' P' M' := by
  have h0 := h
  obtain ⟨⟨n, Ru, no, Of, Os, base, E, kn, nx, ac, ha, hc, hm⟩, hkp, i55, i84, h5, h6⟩ := h
  have hn12 : n ≤ 12 := ha.1.2.2.2.2.2.2.2.2
  have hz := d_Zt h0 (show t ≤ t + 1 by omega)
  have c10 : ¬ (1 : Int32) = 0 := by decide
  have hx1 : (if nI k = 3 then (some (1)) else (some (0)) : Option Int32) = some (nI lo) := by
    by_cases q : k = 3
    · subst q
      rw [if_pos (show nI 3 = 3 from rfl), (h3 rfl).1]
      rfl
    · rw [if_neg (d_n3 (by omega) q), h3' q]
      rfl
  unfold f_Mo_changes
  rw [hx1, d_b1]
  have hin := d_inL a3 lo hi (nI lo) (nI hi) rfl rfl (by
    by_cases q : k = 3
    · have := (h3 q).1; omega
    · have := h3' q; omega) (by omega)
  unfold f_CR_isChangeable
  rcases d_rep a1 with ⟨e1, -⟩ | ⟨r, hr, rfl, e1⟩
  · have eC : f_CR_find I P a1 a2 = some (none, I, P) := by
      unfold f_CR_find
      rw [d_repC, e1, d_b1, if_pos rfl]
    have eM : f_Mo_isThere M J2 a1 a2 = some (0, M, J2) := by
      unfold f_Mo_isThere
      rw [e1, d_b1, if_pos rfl]
    rw [eM, d_b3, if_pos rfl]
    rcases hin with ⟨e2, -⟩ | ⟨val, -, -, rfl, e2⟩
    · rw [e2, d_b1, if_pos rfl]
      exact ⟨_, _, _, _, _, _, rfl, rfl, hz⟩
    · rw [e2, d_b1, if_neg c10, eC, d_b3]
      simp only [Option.elim_none]
      rw [d_b3, if_pos rfl]
      exact ⟨_, _, _, _, _, _, rfl, rfl, hz⟩
  · obtain ⟨I1, P1, M1, J1, g1, g2, ⟨eC, eM⟩ | ⟨j, m, eC, eM, -, -, hmem, hmt, rfl, -, -, hcm⟩⟩ := d_findR (J := J2) ha hc hm i55 i84 hr a2
    · rw [eM, d_b3, if_pos rfl]
      rcases hin with ⟨e2, -⟩ | ⟨val, -, -, rfl, e2⟩
      · rw [e2, d_b1, if_pos rfl]
        exact ⟨_, _, _, _, _, _, rfl, rfl, d_Z_fr h0 (by omega) (d_cs_rf h0) (d_ms_mf g2)⟩
      · rw [e2, d_b1, if_neg c10, eC, d_b3]
        simp only [Option.elim_none]
        rw [d_b3, if_pos rfl]
        exact ⟨_, _, _, _, _, _, rfl, rfl, d_Z_fr h0 (by omega) g1 (d_ms_mf g2)⟩
    · rw [eM, d_b3, if_neg c10]
      rcases hin with ⟨e2, -⟩ | ⟨val, hv1, hv2, rfl, e2⟩
      · rw [e2, d_b1, d_b1, if_pos rfl, if_pos rfl]
        exact ⟨_, _, _, _, _, _, rfl, rfl, d_Z_fr h0 (by omega) (d_cs_rf h0) (d_ms_mf g2)⟩
      rw [e2, d_b1, d_b1, if_neg c10, if_neg c10, eC, d_b3]
      simp only [Option.elim_some]
      unfold q_ck
      rw [if_pos hcm, d_weiE]
      rcases d_inL a4 1 9 1 9 rfl rfl (by decide) (by decide) with ⟨e6, -⟩ | ⟨w, hw1, hw, rfl, e6⟩
      · rw [e6, d_b1, d_b1, if_pos rfl, if_pos rfl, d_b3, if_pos rfl]
        exact ⟨_, _, _, _, _, _, rfl, rfl, d_Z_fr h0 (by omega) g1 (d_ms_mf g2)⟩
      rw [e6, d_b1, d_b1, if_neg c10, if_neg c10, d_b3, if_neg c10]
      have hm1 := d_mwf hm g2
      have hc1 := d_cl1_cs hc hn12 g1
      have h01 : d_Z t I1 P1 M1 := d_Z_fr h0 (Nat.le_refl _) g1 (d_ms_mf g2)
      rw [d_x0, hm1.1.1]
      by_cases hn : n = 12
      · subst hn
        rw [if_pos (show nI 12 = 12 from rfl), d_make12 hc1.2.1, d_b4]
        exact ⟨_, _, _, _, _, _, rfl, rfl, d_Zt h01 (by omega)⟩
      have hnx := ha.2.2.2.2.1
      have hm0 := hmt.2.2.2.2.2.2
      rw [if_neg (d_n12 (by omega) hn)]
      obtain ⟨v, I', J', P', M', J2', x1, x2, x3⟩ := d_makeZ (J := J) (J2 := J1) (a3 := nI (m 0)) (e := d_ne nx r w k (m 0) val (kn r) 0 0 0 0 0 0) h01 ha hc1 hm1 (by omega) hr ⟨rfl, rfl, rfl, ⟨hk, ⟨hw1, hw⟩, by show nx ≤ 100000; omega, hm0, by show val ≤ 95; omega, fun z => by have := h2 z; show val ≤ 3; omega, fun z => by have := h3 z; show 1 ≤ val ∧ val ≤ 8; omega, fun z => by have := h45 z; show val ≤ 5; omega, fun z => absurd z hk0, hr⟩, fun _ => ⟨m, hmem, rfl⟩⟩ (fun z => absurd z hk0) (fun z => absurd z hk0) (fun _ => rfl)
      have x1' : f_CR_make I1 J P1 (nI r) (nI k) (nI (m 0)) (nI val) (nI w) = some (v, I', J', P') := x1
      have x2' : f_Mo_makes M1 J1 (nI r) (nI k) (nI (m 0)) (nI val) (nI w) = some (v, M', J2') := x2
      rw [x1', x2', d_b4, d_b3]
      exact ⟨_, _, _, _, _, _, rfl, rfl, x3⟩
theorem y2_move {t : Nat} {I : q_I} {J J2 : q_J} {P : q_P} {M : q_I} (h : d_Z t I P M) (ht : t ≤ 100000) (a1 a2 a3 a4 : Int32) : ∃ v I' J' P' M' J2', f_CR_move I J P a1 a2 a3 a4 = some (v, I', J', P') ∧ f_Mo_move M J2 a1 a2 a3 a4 = some (v, M', J2') ∧ d_Z (t + 1) I' P' M' := by
  obtain ⟨v, I', J', P', M', J2', x1, x2, x3⟩ := d_change (J := J) (J2 := J2) h ht (k := 1) (lo := 0) (hi := 95) (by decide) (by decide) (by decide) (by decide) (by decide) (by decide) (by decide) a1 a2 a3 a4
  have x2' : f_Mo_changes M J2 a1 1 a2 a3 95 a4 = some (v, M', J2') := x2
  unfold f_CR_move f_Mo_move
  rw [d_startE, x2', d_b3]
  exact ⟨v, I', J', P', M', J2', x1, rfl, x3⟩
theorem y2_changeRoom {t : Nat} {I : q_I} {J J2 : q_J} {P : q_P} {M : q_I} (h : d_Z t I P M) (ht : t ≤ 100000) (a1 a2 a3 a4 : Int32) : ∃ v I' J' P' M' J2', f_CR_changeRoom I J P a1 a2 a3 a4 = some (v, I', J', P') ∧ f_Mo_changeRoom M J2 a1 a2 a3 a4 = some (v, M', J2') ∧ d_Z (t + 1) I' P' M' := by
  obtain ⟨v, I', J', P', M', J2', x1, x2, x3⟩ := d_change (J := J) (J2 := J2) h ht (k := 2) (lo := 0) (hi := 3) (by decide) (by decide) (by decide) (by decide) (by decide) (by decide) (by decide) a1 a2 a3 a4
  have x2' : f_Mo_changes M J2 a1 2 a2 a3 3 a4 = some (v, M', J2') := x2
  unfold f_CR_changeRoom f_Mo_changeRoom
  rw [dn_within, x2', d_b3]
  exact ⟨v, I', J', P', M', J2', x1, rfl, x3⟩
theorem y2_resize {t : Nat} {I : q_I} {J J2 : q_J} {P : q_P} {M : q_I} (h : d_Z t I P M) (ht : t ≤ 100000) (a1 a2 a3 a4 : Int32) : ∃ v I' J' P' M' J2', f_CR_resize I J P a1 a2 a3 a4 = some (v, I', J', P') ∧ f_Mo_resize M J2 a1 a2 a3 a4 = some (v, M', J2') ∧ d_Z (t + 1) I' P' M' := by
  obtain ⟨v, I', J', P', M', J2', x1, x2, x3⟩ := d_change (J := J) (J2 := J2) h ht (k := 3) (lo := 1) (hi := 8) (by decide) (by decide) (by decide) (by decide) (by decide) (by decide) (by decide) a1 a2 a3 a4
  have x2' : f_Mo_changes M J2 a1 3 a2 a3 8 a4 = some (v, M', J2') := x2
  unfold f_CR_resize f_Mo_resize
  rw [d_durE, x2', d_b3]
  exact ⟨v, I', J', P', M', J2', x1, rfl, x3⟩
theorem y2_join {t : Nat} {I : q_I} {J J2 : q_J} {P : q_P} {M : q_I} (h : d_Z t I P M) (ht : t ≤ 100000) (a1 a2 a3 a4 : Int32) : ∃ v I' J' P' M' J2', f_CR_join I J P a1 a2 a3 a4 = some (v, I', J', P') ∧ f_Mo_join M J2 a1 a2 a3 a4 = some (v, M', J2') ∧ d_Z (t + 1) I' P' M' := by
  obtain ⟨v, I', J', P', M', J2', x1, x2, x3⟩ := d_change (J := J) (J2 := J2) h ht (k := 4) (lo := 0) (hi := 5) (by decide) (by decide) (by decide) (by decide) (by decide) (by decide) (by decide) a1 a2 a3 a4
  have x2' : f_Mo_changes M J2 a1 4 a2 a3 5 a4 = some (v, M', J2') := x2
  unfold f_CR_join f_Mo_join
  rw [dn_within, x2', d_b3]
  exact ⟨v, I', J', P', M', J2', x1, rfl, x3⟩
theorem y2_leave {t : Nat} {I : q_I} {J J2 : q_J} {P : q_P} {M : q_I} (h : d_Z t I P M) (ht : t ≤ 100000) (a1 a2 a3 a4 : Int32) : ∃ v I' J' P' M' J2', f_CR_leave I J P a1 a2 a3 a4 = some (v, I', J', P') ∧ f_Mo_leave M J2 a1 a2 a3 a4 = some (v, M', J2') ∧ d_Z (t + 1) I' P' M' := by
  obtain ⟨v, I', J', P', M', J2', x1, x2, x3⟩ := d_change (J := J) (J2 := J2) h ht (k := 5) (lo := 0) (hi := 5) (by decide) (by decide) (by decide) (by decide) (by decide) (by decide) (by decide) a1 a2 a3 a4
  have x2' : f_Mo_changes M J2 a1 5 a2 a3 5 a4 = some (v, M', J2') := x2
  unfold f_CR_leave f_Mo_leave
  rw [dn_within, x2', d_b3]
  exact ⟨v, I', J', P', M', J2', x1, rfl, x3⟩
theorem y2_cancel {t : Nat} {I : q_I} {J J2 : q_J} {P : q_P} {M : q_I} (h : d_Z t I P M) (ht : t ≤ 100000) (a1 a2 a3 : Int32) : ∃ v I' J' P' M' J2', f_CR_cancel I J P a1 a2 a3 = some (v, I', J', P') ∧ f_Mo_cancel M J2 a1 a2 a3 = some (v, M', J2') ∧ d_Z (t + 1) I' P' M' := by
  obtain ⟨v, I', J', P', M', J2', x1, x2, x3⟩ := d_change (J := J) (J2 := J2) h ht (k := 6) (lo := 0) (hi := 0) (by decide) (by decide) (by decide) (by decide) (by decide) (by decide) (by decide) a1 a2 0 a3
  have x2' : f_Mo_changes M J2 a1 6 a2 0 0 a3 = some (v, M', J2') := x2
  have e0 : f_Mo_in 0 (nI 0) (nI 0) = some 1 := by decide +kernel
  rw [e0, d_b1, if_neg (by decide)] at x1
  unfold f_CR_cancel f_Mo_cancel
  rw [x2', d_b3]
  exact ⟨v, I', J', P', M', J2', x1, rfl, x3⟩
