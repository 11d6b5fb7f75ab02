theorem d_kpL {x : Nat} (hx : x < 2) (K : q_I → Option (Int32 × q_I)) (M0 : q_I) : ∀ (d k fu : Nat) (M1 : q_I), k + d = 280 → d < fu → (∀ o, o ≠ 2 → M1 o = M0 o) → (∀ j, j < k → M1 2 (280 * x + j) = M0 1 j) → (∀ j, j < 280 * x ∨ 280 * x + 280 ≤ j → M1 2 j = M0 2 j) → ∃ M', f_Mo_keep_L1 (nI x) K fu (nI k) M1 = K M' ∧ (∀ o, o ≠ 2 → M' o = M0 o) ∧ (∀ j, j < 280 → M' 2 (280 * x + j) = M0 1 j) ∧ ∀ j, j < 280 * x ∨ 280 * x + 280 ≤ j → M' 2 j = M0 2 j := by
  intro d
  induction d with
  | zero =>
    intro k fu M1 hk hf h1 h2 h3
    obtain ⟨fu, rfl, -⟩ := d_fuel hf
    have : k = 280 := by omega
    subst this
    unfold f_Mo_keep_L1
    rw [if_pos (by decide)]
    exact ⟨M1, rfl, h1, h2, h3⟩
  | succ d ih =>
    intro k fu M1 hk hf h1 h2 h3
    obtain ⟨fu, rfl, hf⟩ := d_fuel hf
    unfold f_Mo_keep_L1
    rw [if_neg (show ¬ (280 : Int32) ≤ nI k from nI_ge (b := 280) (by omega) (by decide)), d_ix (by omega) (by decide), show (280 : Int32) * nI x = nI (280 * x) from pk_mul 280 x, nI_add, d_ix (by omega) (by decide), d_l, nI_1]
    refine ih (k + 1) fu _ (by omega) (by omega) (fun o ho => by rw [d_ui_o ho]; exact h1 o ho) (fun j hj => ?_) (fun j hj => by rw [d_ui_n (by omega)]; exact h3 j hj)
    by_cases hjk : j = k
    · subst hjk
      rw [d_ui_s, h1 1 (by decide)]
    · rw [d_ui_n (by omega)]
      exact h2 j (by omega)
theorem d_rsL {x : Nat} (hx : x < 2) (K : q_I → Option (Int32 × q_I)) (M0 : q_I) : ∀ (d k fu : Nat) (M1 : q_I), k + d = 280 → d < fu → (∀ o, o ≠ 1 → M1 o = M0 o) → (∀ j, j < k → M1 1 j = M0 2 (280 * x + j)) → ∃ M', f_Mo_restore_L1 (nI x) K fu (nI k) M1 = K M' ∧ (∀ o, o ≠ 1 → M' o = M0 o) ∧ ∀ j, j < 280 → M' 1 j = M0 2 (280 * x + j) := by
  intro d
  induction d with
  | zero =>
    intro k fu M1 hk hf h1 h2
    obtain ⟨fu, rfl, -⟩ := d_fuel hf
    have : k = 280 := by omega
    subst this
    unfold f_Mo_restore_L1
    rw [if_pos (by decide)]
    exact ⟨M1, rfl, h1, h2⟩
  | succ d ih =>
    intro k fu M1 hk hf h1 h2
    obtain ⟨fu, rfl, hf⟩ := d_fuel hf
    unfold f_Mo_restore_L1
    rw [if_neg (show ¬ (280 : Int32) ≤ nI k from nI_ge (b := 280) (by omega) (by decide)), show (280 : Int32) * nI x = nI (280 * x) from pk_mul 280 x, nI_add, d_ix (by omega) (by decide), d_ix (by omega) (by decide), d_l, nI_1]
    refine ih (k + 1) fu _ (by omega) (by omega) (fun o ho => by rw [d_ui_o ho]; exact h1 o ho) (fun j hj => ?_)
    by_cases hjk : j = k
    · subst hjk
      rw [d_ui_s, h1 2 (by decide)]
    · rw [d_ui_n (by omega)]
      exact h2 j (by omega)
theorem d_nar1 : vp_nar .boolean 1 = 1 := by decide
theorem y2_keep {t : Nat} {I : q_I} {P : q_P} {M : q_I} (h : d_Z t I P M) (a1 : Int32) : ∃ v I' M', f_CR_keep I P a1 = some (v, I') ∧ f_Mo_keep M a1 = some (v, M') ∧ d_Z (t + 1) I' P M' := by
  have h0 := h
  have hz := d_Zt h0 (show t ≤ t + 1 by omega)
  obtain ⟨⟨n, Ru, no, Of, Os, base, E, kn, nx, ac, ha, hc, hm⟩, h2, h3, h4, h5, h6⟩ := h
  have hn12 : n ≤ 12 := ha.1.2.2.2.2.2.2.2.2
  have hbl := ha.1.2.2.1
  unfold f_CR_keep f_Mo_keep
  rw [dn_within]
  rcases d_inL a1 0 1 0 1 rfl rfl (by decide) (by decide) with ⟨e, -⟩ | ⟨x, -, hx, rfl, e⟩
  · rw [e, d_b1, d_b1, if_pos rfl, if_pos rfl]
    exact ⟨_, _, _, rfl, rfl, hz⟩
  · obtain ⟨k1, k2, k3, k4⟩ := h2 x (by omega)
    obtain ⟨I1, e1, g1, g2⟩ := d_wcopy (a := 119 + 50 * x) (b := 1) (by omega) hn12 hbl hc k3 k2
    obtain ⟨M1, e2, g3, g4, g5⟩ := d_kpL (x := x) (by omega) (fun (I3 : q_I) => q_ix (nI x) 2 (fun j3 => q_l (q_ui I3 3 j3 (vp_nar .boolean 1)) (fun I4 => q_ix 0 280 (fun j4 => some ((I4 1 j4), I4))))) M 280 0 q_fu M (by omega) (d_q (by decide)) (fun _ _ => rfl) (fun j hj => by omega) (fun _ _ => rfl)
    have e2' : f_Mo_keep_L1 (nI x) (fun (I3 : q_I) => q_ix (nI x) 2 (fun j3 => q_l (q_ui I3 3 j3 (vp_nar .boolean 1)) (fun I4 => q_ix 0 280 (fun j4 => some ((I4 1 j4), I4))))) q_fu 0 M = some ((q_ui M1 3 x 1) 1 0, q_ui M1 3 x 1) := by
      refine Eq.trans e2 ?_
      rw [d_ix (by omega) (by decide), d_l, d_x0, d_nar1]
    have hb : ∀ o, o < 119 → q_ui I1 52 x 1 o = if o = 52 then q_ui I1 52 x 1 52 else I o := fun o ho => by
      by_cases q : o = 52
      · rw [if_pos q, q]
      · rw [if_neg q, d_ui_o q, g2 o (by omega)]
    have hb1 : ∀ o, o < 119 → o ≠ 52 → q_ui I1 52 x 1 o = I o := fun o ho q => by rw [hb o ho, if_neg q]
    rw [e, d_b1, d_b1, if_neg (show ¬ (1 : Int32) = 0 by decide), if_neg (show ¬ (1 : Int32) = 0 by decide), d_ix (by omega) (by decide), e1, d_b1, d_ix (by omega) (by decide), d_l, e2', d_nar1, hb1 1 (by decide) (by decide), d_ui_o (by decide), g3 1 (by decide), hc.2.1, hm.1.1]
    refine ⟨_, _, _, rfl, rfl, ?_, fun y hy => ?_, h3, h4, d_tx_fr h5 ⟨hb1 _ (by decide) (by decide), hb1 _ (by decide) (by decide)⟩ ⟨by rw [d_ui_o (by decide), g3 0 (by decide)], by rw [d_ui_o (by decide), g3 4 (by decide)]⟩, d_pg_fr h6 ⟨hb1 _ (by decide) (by decide), hb1 _ (by decide) (by decide)⟩ ⟨by rw [d_ui_o (by decide), g3 0 (by decide)], by rw [d_ui_o (by decide), g3 5 (by decide)]⟩⟩
    · exact d_pw_fr h0.1 (by omega) (fun o q1 q2 => hb1 o (by omega) (by omega)) rfl (by rw [d_ui_o (by decide), g3 1 (by decide)])
    · have hI52 : ∀ z, q_ui I1 52 x 1 52 z = if z = x then 1 else I 52 z := fun z => by
        by_cases q : z = x
        · rw [if_pos q, q, d_ui_s]
        · rw [if_neg q, d_ui_n q, g2 52 (by omega)]
      have hM3 : ∀ z, q_ui M1 3 x 1 3 z = if z = x then 1 else M 3 z := fun z => by
        by_cases q : z = x
        · rw [if_pos q, q, d_ui_s]
        · rw [if_neg q, d_ui_n q, g3 3 (by decide)]
      obtain ⟨y1, y2, y3, y4⟩ := h2 y hy
      by_cases hyx : y = x
      · subst hyx
        refine ⟨by rw [hI52, hM3, if_pos rfl, if_pos rfl], ?_, y3, fun _ => ⟨n, Ru, no, Of, Os, base, E, kn, nx, ac, d_ab_t ha (by omega), d_cl1_fr g1 hn12 (fun o q1 q2 => d_ui_o (by omega)) rfl, d_ml_lt hm hn12 hbl (fun k hk => ?_)⟩⟩
        · obtain ⟨⟨C, N, hcw⟩, -⟩ := g1
          exact d_stl_fr (d_stl_of hcw) (fun o q1 q2 => d_ui_o (by omega))
        · skip
          rw [d_ui_o (by decide), g4 k hk]
      · refine ⟨by rw [hI52, hM3, if_neg hyx, if_neg hyx]; exact y1, d_stl_fr y2 (fun o q1 q2 => by rw [d_ui_o (by omega), g2 o (by omega)]), y3, fun q => ?_⟩
        rw [hI52, if_neg hyx] at q
        obtain ⟨n', Ru', no', Of', Os', base', E', kn', nx', ac', ha', hc', hm'⟩ := y4 q
        have hn' : n' ≤ 12 := ha'.1.2.2.2.2.2.2.2.2
        refine ⟨n', Ru', no', Of', Os', base', E', kn', nx', ac', d_ab_t ha' (by omega), d_cl1_fr hc' hn' (fun o q1 q2 => by rw [d_ui_o (by omega), g2 o (by omega)]) rfl, d_ml_lt hm' hn' ha'.1.2.2.1 (fun k hk => ?_)⟩
        rw [d_ui_o (by decide), g5 _ (by omega)]
theorem y2_restore {t : Nat} {I : q_I} {P : q_P} {M : q_I} (h : d_Z t I P M) (a1 : Int32) : ∃ v I' M', f_CR_restore I P a1 = some (v, I') ∧ f_Mo_restore M a1 = some (v, M') ∧ d_Z (t + 1) I' P M' := by
  have h0 := h
  have hz := d_Zt h0 (show t ≤ t + 1 by omega)
  obtain ⟨⟨n, Ru, no, Of, Os, base, E, kn, nx, ac, ha, hc, hm⟩, h2, h3, h4, h5, h6⟩ := h
  unfold f_CR_restore f_Mo_restore
  rw [dn_within]
  rcases d_inL a1 0 1 0 1 rfl rfl (by decide) (by decide) with ⟨e, -⟩ | ⟨x, -, hx, rfl, e⟩
  · rw [e, d_b1, d_b1, if_pos rfl, if_pos rfl]
    exact ⟨_, _, _, rfl, rfl, hz⟩
  · obtain ⟨k1, k2, k3, k4⟩ := h2 x (by omega)
    rw [e, d_b1, d_b1, if_neg (show ¬ (1 : Int32) = 0 by decide), if_neg (show ¬ (1 : Int32) = 0 by decide), d_ix (by omega) (by decide), d_ix (by omega) (by decide), d_ix (by omega) (by decide), ← k1]
    by_cases hk : I 52 x = 0
    · rw [if_pos hk, if_pos hk]
      exact ⟨_, _, _, rfl, rfl, hz⟩
    · obtain ⟨n', Ru', no', Of', Os', base', E', kn', nx', ac', ha', hc', hm'⟩ := k4 hk
      have hn' : n' ≤ 12 := ha'.1.2.2.2.2.2.2.2.2
      have hbl' := ha'.1.2.2.1
      obtain ⟨⟨C, N, hcw⟩, -⟩ := hc
      obtain ⟨I1, e1, g1, g2⟩ := d_wcopy (a := 1) (b := 119 + 50 * x) (by omega) hn' hbl' hc' hcw.2.2.1.2.2.1 (d_stl_of hcw)
      obtain ⟨M1, e2, g3, g4⟩ := d_rsL (x := x) (by omega) (fun (I3 : q_I) => q_ix 0 280 (fun j4 => some ((I3 1 j4), I3))) M 280 0 q_fu M (by omega) (d_q (by decide)) (fun _ _ => rfl) (fun j hj => by omega)
      have e2' : f_Mo_restore_L1 (nI x) (fun (I3 : q_I) => q_ix 0 280 (fun j4 => some ((I3 1 j4), I3))) q_fu 0 M = some (M1 1 0, M1) := by
        refine Eq.trans e2 ?_
        rw [d_x0]
      have hm1 : d_ml1 (M1 1) n' Ru' no' Of' Os' base' E' kn' nx' := d_ml_lt hm' hn' hbl' (fun k hk => g4 k hk)
      rw [if_neg hk, if_neg hk, e1, d_b1, e2', g1.2.1, hm1.1.1]
      refine ⟨_, _, _, rfl, rfl, d_Z_up h0 (by omega) ⟨n', Ru', no', Of', Os', base', E', kn', nx', ac', d_ab_t ha' (by omega), g1, hm1⟩ ⟨fun o q => g2 o (by omega), fun _ _ => rfl, h3, h4⟩ ⟨fun o q1 q2 => g3 o (by omega), by rw [g3 0 (by decide)], by rw [g3 0 (by decide)]⟩⟩
theorem y2_printed {t : Nat} {I : q_I} {P : q_P} {M : q_I} (h : d_Z t I P M) (a1 : Int32) : ∃ v, f_CR_printed I a1 = some v ∧ f_Mo_printed M a1 = some v ∧ d_Z (t + 1) I P M := by
  have hz := d_Zt h (show t ≤ t + 1 by omega)
  obtain ⟨h1, h2, h3, h4, h5, ⟨len, hlen, t1, t2, t3⟩⟩ := h
  unfold f_CR_printed f_Mo_printed f_SB_length
  by_cases h0 : (0 : Int32) ≤ a1
  · obtain ⟨j, hj, rfl⟩ := nI_of (show ¬ a1 < 0 from Int32.not_lt.mpr h0)
    rw [if_pos h0, if_pos h0, d_b1, t1, t2]
    by_cases hl : len ≤ j
    · rw [if_pos (nI_le hl hj), if_pos (nI_le hl hj)]
      exact ⟨_, rfl, rfl, hz⟩
    · obtain ⟨c, c1, c2, c3, c4⟩ := t3 j (by omega)
      unfold f_SB_charAt
      rw [if_neg (nI_ge (by omega) (by omega)), if_neg (nI_ge (by omega) (by omega)), t1, if_pos ⟨h0, nI_lt (by omega) (by omega)⟩, nI_clamp hj, d_ix (by omega) (by decide), c4, show I (117 + 1) j = nI c from c3, (d_ch c (by omega)).2.1, d_b1]
      exact ⟨_, rfl, rfl, hz⟩
  · rw [if_neg h0, if_neg h0]
    exact ⟨_, rfl, rfl, hz⟩
