theorem d_k01 {α : Type} {k : Nat} (hk : k = 0 ∨ k = 1) {X Y : α} : (if nI k = 0 then X else if nI k = 1 then X else Y) = X := by
  rcases hk with rfl | rfl
  · exact if_pos rfl
  · rw [if_neg (by decide), if_pos (show nI 1 = 1 from rfl)]
theorem d_k01n {α : Type} {k : Nat} (hk : ¬ (k = 0 ∨ k = 1)) (h6 : k ≤ 6) {X Y : α} : (if nI k = 0 then X else if nI k = 1 then X else Y) = Y := by
  rw [if_neg (d_n0 (by omega) (fun q => hk (Or.inl q))), if_neg (d_n1 (by omega) (fun q => hk (Or.inr q)))]
theorem y2_alternative {t : Nat} {I : q_I} {J J2 : q_J} {P : q_P} {M : q_I} (h : d_Z t I P M) (a1 a2 : Int32) : ∃ v I' J' P' M' J2', f_CR_alternative I J P a1 a2 = some (v, I', J', P') ∧ f_Mo_alternative M J2 a1 a2 = some (v, M', J2') ∧ d_Z (t + 1) I' P' M' := by
  have h0 := h
  obtain ⟨⟨n, Ru, no, Of, Os, base, E, kn, nx, ac, ha, hc, hm⟩, h2, h3, h4, h5, h6⟩ := h
  have hn12 : n ≤ 12 := ha.1.2.2.2.2.2.2.2.2
  have h12 : (2 : Nat) ^ n ≤ 2 ^ 12 := Nat.pow_le_pow_right (by decide) hn12
  have hz := d_Zt h0 (show t ≤ t + 1 by omega)
  have c10 : ¬ (1 : Int32) = 0 := by decide
  unfold f_CR_alternative f_Mo_alternative
  rw [d_repC]
  rcases d_fe2 hc hm hn12 a2 with ⟨e1, e2⟩ | ⟨i, hi, -, e1, e2⟩
  · rw [e1, e2, d_b1, d_b1, d_eat4 hc.2.1 hn12, d_b1]
    rcases d_rep a1 with ⟨e, -⟩ | ⟨r, hr, rfl, e⟩
    · rw [e, d_b1, d_b1, if_pos rfl, if_pos rfl]
      exact ⟨_, _, _, _, _, _, rfl, rfl, hz⟩
    · rw [e, d_b1, d_b1, if_neg c10, if_neg c10, if_neg (show ¬ (0 : Int32) ≤ -1 by decide)]
      exact ⟨_, _, _, _, _, _, rfl, rfl, hz⟩
  · rw [e1, e2, d_b1, d_b1, d_eat hc.2.1 hn12 (by omega) (by omega), d_b1]
    rcases d_rep a1 with ⟨e, -⟩ | ⟨r, hr, rfl, e⟩
    · rw [e, d_b1, d_b1, if_pos rfl, if_pos rfl]
      exact ⟨_, _, _, _, _, _, rfl, rfl, hz⟩
    · obtain ⟨U, g1, g2, e3⟩ := d_standC ha hc hr hi
      obtain ⟨U', M1, J1, g3, g4, e4, g5⟩ := d_stOf (J := J2) ha hm hr hi
      have := d_us_u g2 g4
      subst this
      have hc' := hc
      obtain ⟨⟨C, N, hcw⟩, hc2, hc3, hc4⟩ := hc
      have h25 : I 26 r = nI (ac r) := (hc4 r hr).2
      have eb3 : I (1 + 26 + 2 * i) 3 = nI (E i 3) := (hcw.2.2.2.2 i hi).1.1 3 (by decide)
      have em3 : M 1 (124 + 13 * i + 3) = nI (E i 3) := (hm.1.2.2.2.2.2.2.2.1 i hi).1 3 (by decide)
      have ok := ha.1.2.2.2.1 i hi
      rw [e, d_b1, d_b1, if_neg c10, if_neg c10, if_pos (nI_pos' (show i < 2 ^ 31 by omega)), d_me3, d_b1, d_ix (by omega) (by omega), d_l, em3]
      simp only [Option.elim_some]
      unfold q_ck
      rw [if_pos (cE27 i (by omega)), e3, d_b1, e4, d_b3]
      by_cases h2s : d_stv (kn r) U (ac r) i = 2
      · rw [if_pos h2s, if_pos h2s, d_jj, d_jj, eb3]
        by_cases hk : E i 3 = 0 ∨ E i 3 = 1
        · rw [d_k01 hk, d_k01 hk]
          have h2i := dn_2lt hi
          have hac := (ha.2.2.2.2.2.1 r hr).2.1
          have hS := dn_orlt hac h2i
          obtain ⟨s0, hs0, es, eo, em, ec2⟩ : ∃ s0, s0 ≤ 95 ∧ f_Ed_start I (1 + 26 + 2 * i) = some (nI s0) ∧ I (d_oc E i) (d_fc E i) = nI s0 ∧ M 1 (d_c2 E i) = nI s0 ∧ (if nI (E i 3) = 1 then (q_b1 (f_Mo_edit (nI i) 5) (fun v9 => (some (v9)))) else (q_b1 (f_Mo_edit (nI i) 7) (fun v8 => (some (v8)))) : Option Int32) = some (nI (d_c2 E i)) := by
            rcases hk with h3 | h3
            · refine ⟨E i 7, ((ok.2.2.2.2.2.2.2.2.1 h3).2).1, ?_, ?_, ?_, ?_⟩
              · unfold f_Ed_start
                rw [eb3, if_pos (show nI (E i 3) = 0 by rw [h3]; rfl)]
                exact congrArg some ((hcw.2.2.2.2 i hi).1.2 h3 1 (by decide))
              · rw [show d_oc E i = 1 + 26 + 2 * i + 1 from (if_pos h3).trans (by omega), show d_fc E i = 1 from if_pos h3]
                exact (hcw.2.2.2.2 i hi).1.2 h3 1 (by decide)
              · rw [show d_c2 E i = 124 + 13 * i + 7 from if_pos h3]
                exact (hm.1.2.2.2.2.2.2.2.1 i hi).2 h3 7 (by decide) (by decide)
              · rw [if_neg (show ¬ nI (E i 3) = 1 by rw [h3]; decide), show f_Mo_edit (nI i) 7 = some (nI (124 + 13 * i + 7)) from d_me i 7, d_b1, show d_c2 E i = 124 + 13 * i + 7 from if_pos h3]
            · have h30 : E i 3 ≠ 0 := by omega
              refine ⟨E i 5, ok.2.2.2.2.1, ?_, ?_, ?_, ?_⟩
              · unfold f_Ed_start
                rw [eb3, if_neg (show ¬ nI (E i 3) = 0 by rw [h3]; decide)]
                exact congrArg some ((hcw.2.2.2.2 i hi).1.1 5 (by decide))
              · rw [show d_oc E i = 1 + 26 + 2 * i from (if_neg h30).trans (by omega), show d_fc E i = 5 from if_neg h30]
                exact (hcw.2.2.2.2 i hi).1.1 5 (by decide)
              · rw [show d_c2 E i = 124 + 13 * i + 5 from if_neg h30]
                exact (hm.1.2.2.2.2.2.2.2.1 i hi).1 5 (by decide)
              · rw [if_pos (show nI (E i 3) = 1 by rw [h3]; rfl), d_me5, d_b1, show d_c2 E i = 124 + 13 * i + 5 from if_neg h30]
          have hc2l : d_c2 E i < 280 := by
            unfold d_c2
            by_cases h : E i 3 = 0
            · rw [if_pos h]; omega
            · rw [if_neg h]; omega
          obtain ⟨M2, J3, e5, g6⟩ := d_accR (J := J1) ha (d_mwf hm g5) hr
          have hmf := d_mf_tr g5 g6
          have emM2 : M2 1 (d_c2 E i) = nI s0 := by rw [hmf.1 1 (by decide) (by decide)]; exact em
          obtain ⟨v, I', J', P', M', J2', x1, x2, x3, x4⟩ := d_altL hs0 ha.1 hcw hi hm.1 hk hS (fun (x14 : Int32) (I9 : q_I) (J8 : q_J) => q_ix (nI (d_c2 E i)) 280 (fun j4 => q_l (q_ui I9 1 j4 (nI s0)) (fun I10 => some (x14, I10, J8)))) 96 0 q_fu q_fu I J P M2 J3 (by omega) (d_q (by decide)) (d_q (by decide)) ⟨fun _ _ _ => rfl, fun _ _ => rfl, fun _ _ _ => rfl, h3, h4⟩ ⟨fun o q1 q2 q3 => hmf.1 o q1 q2, hmf.2, fun x _ => by rw [hmf.1 1 (by decide) (by decide)]⟩
          have x1' : f_CR_nearestStart I J P (1 + 26 + 2 * i) (nI (ac r ||| 2 ^ i)) (nI s0) = some (v, I', J', P') := x1
          have x2' : f_Mo_alternative_L1 (nI (d_c2 E i)) (nI (ac r ||| 2 ^ i)) (nI s0) (fun (x14 : Int32) (I9 : q_I) (J8 : q_J) => q_ix (nI (d_c2 E i)) 280 (fun j4 => q_l (q_ui I9 1 j4 (nI s0)) (fun I10 => some (x14, I10, J8)))) q_fu (-4) 0 M2 J3 = some (v, q_ui M' 1 (d_c2 E i) (nI s0), J2') := by
            refine Eq.trans x2 ?_
            rw [d_ix hc2l (by decide), d_l]
          rw [es, d_b1, d_ix hr (by decide), h25, dn_pos (by omega), dn_or (by omega) (by omega), x1', d_b4, d_setS eb3 (by omega) hk x3, d_b1, ec2, d_b1, e5, d_b3, dn_or (by omega) (by omega), d_l, d_ix hc2l (by decide), emM2, d_l, x2']
          refine ⟨_, _, _, _, _, _, rfl, rfl, d_Z_fr h0 (by omega) ⟨fun o ho => ?_, x3.2.2.1, x3.2.2.2.1, x3.2.2.2.2⟩ ⟨fun o q1 q2 => ?_, ?_, ?_⟩⟩
          · by_cases hoc : o = d_oc E i
            · rw [hoc]
              funext f
              by_cases hf : f = d_fc E i
              · rw [hf, d_ui_s, eo]
              · rw [d_ui_n hf, x3.2.1 f hf]
            · rw [d_ui_o hoc, x3.1 o ho hoc]
          · by_cases ho1 : o = 1
            · rw [ho1]
              funext x
              by_cases hx : x = d_c2 E i
              · rw [hx, d_ui_s, em]
              · rw [d_ui_n hx, x4.2.2 x hx]
            · rw [d_ui_o ho1, x4.1 o (by omega) (by omega) ho1]
          · rw [d_ui_o (by decide), x4.2.1 4 (by decide)]
          · rw [d_ui_o (by decide), x4.2.1 6 (by decide)]
        · rw [d_k01n hk ok.1, d_k01n hk ok.1]
          exact ⟨_, _, _, _, _, _, rfl, rfl, d_Z_fr h0 (by omega) (d_cs_rf h0) (d_ms_mf g5)⟩
      · rw [if_neg h2s, if_neg h2s]
        exact ⟨_, _, _, _, _, _, rfl, rfl, d_Z_fr h0 (by omega) (d_cs_rf h0) (d_ms_mf g5)⟩
