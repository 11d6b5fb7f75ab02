/-! printing -/
theorem d_dg : ∀ v, v < 100 → 48 + nI v / 10 = nI (48 + v / 10) ∧ 48 + (nI v - nI v / 10 * 10) = nI (48 + v % 10) ∧ (v < 10 → 48 + nI v = nI (48 + v % 10)) := by decide +kernel
def d_pr2 (I0 M0 I M : q_I) (len : Nat) : Prop := d_bu I M 117 6 5 len ∧ (∀ o, o ≠ 117 → o ≠ 118 → I o = I0 o) ∧ (∀ o, o ≠ 5 → o ≠ 0 → M o = M0 o) ∧ ∀ f, f ≠ 6 → M 0 f = M0 0 f
section DP
variable {I0 M0 I M : q_I} {len : Nat}
theorem d_psig {c : Nat} (h : d_pr2 I0 M0 I M len) (hl : len < 60) (h1 : 32 ≤ c) (h2 : c ≤ 126) : ∃ M', f_Mo_sign M (nI c) = some M' ∧ d_pr2 I0 M0 (q_sp1 I 117 (nI c)) M' (len + 1) := by
  obtain ⟨g1, g2, g3, g4⟩ := h
  refine ⟨q_ui (q_ui M 5 len (nI c)) 0 6 (nI (len + 1)), ?_, d_push g1 (by omega) h1 h2 (by decide), fun o q1 q2 => ?_, fun o q1 q2 => ?_, fun f hf => ?_⟩
  · unfold f_Mo_sign
    rw [g1.2.1, d_ix hl (by decide), d_l, d_ui_o (by decide), g1.2.1, nI_1, d_l]
  · rw [d_sp1_o q1 q2]
    exact g2 o q1 q2
  · rw [d_ui_o q2, d_ui_o q1]
    exact g3 o q1 q2
  · rw [d_ui_n hf, d_ui_o (by decide)]
    exact g4 f hf
theorem d_pC {c : Nat} (h : d_pr2 I0 M0 I M len) (hl : len < 60) (h1 : 32 ≤ c) (h2 : c ≤ 126) : ∃ I' M', f_SB_appC I 117 (nI c) = some I' ∧ f_Mo_sign M (nI c) = some M' ∧ d_pr2 I0 M0 I' M' (len + 1) := by
  obtain ⟨M', e, g⟩ := d_psig h hl h1 h2
  exact ⟨_, M', d_appC h.1 (by omega) h2, e, g⟩
theorem d_pS {c : Nat} (h : d_pr2 I0 M0 I M len) (hl : len < 59) (h1 : 32 ≤ c) (h2 : c ≤ 126) : ∃ I' M', f_SB_appS I 117 32 (nI c) = some I' ∧ f_Mo_option M (nI c) = some M' ∧ d_pr2 I0 M0 I' M' (len + 2) := by
  obtain ⟨M1, e1, g1⟩ := d_psig (c := 32) h (by omega) (by decide) (by decide)
  obtain ⟨M2, e2, g2⟩ := d_psig (c := c) g1 (by omega) h1 h2
  have e1' : f_Mo_sign M 32 = some M1 := e1
  refine ⟨q_sp1 (q_sp1 I 117 (nI 32)) 117 (nI c), M2, ?_, ?_, g2⟩
  · unfold f_SB_appS
    rw [h.1.1, if_pos ⟨nI_pos' (by omega), show nI len ≤ 80 from nI_le (b := 80) (by omega) (by decide)⟩]
    rfl
  · unfold f_Mo_option
    rw [e1', d_b1, e2, d_b1]
theorem d_pI {v : Nat} (h : d_pr2 I0 M0 I M len) (hl : len < 59) (hv : v < 100) : ∃ I' M' len', f_SB_appI I 117 (nI v) = some I' ∧ f_Mo_decimal M (nI v) = some M' ∧ d_pr2 I0 M0 I' M' len' ∧ len' ≤ len + 2 := by
  obtain ⟨q1, q2, q3⟩ := d_dg v hv
  have hd : v / 10 ≤ 9 := by omega
  have hcond : (0 ≤ nI v ∧ nI v ≤ 99) ∧ 0 ≤ nI len ∧ nI len ≤ 80 := ⟨⟨nI_pos' (by omega), show nI v ≤ 99 from nI_le (b := 99) (by omega) (by decide)⟩, nI_pos' (by omega), show nI len ≤ 80 from nI_le (b := 80) (by omega) (by decide)⟩
  unfold f_SB_appI f_Mo_decimal
  rw [h.1.1, if_pos hcond, q2, q1]
  by_cases h9 : v < 10
  · obtain ⟨M1, e1, g1⟩ := d_psig (c := 48 + v % 10) h (by omega) (by omega) (by omega)
    rw [if_pos (show nI v < 10 from nI_lt (b := 10) h9 (by decide)), if_pos (show nI v ≤ 9 from nI_le (b := 9) (by omega) (by decide)), d_b1, e1, d_b1, q3 h9]
    exact ⟨_, M1, len + 1, rfl, rfl, g1, by omega⟩
  · obtain ⟨M1, e1, g1⟩ := d_psig (c := 48 + v / 10) h (by omega) (by omega) (by omega)
    obtain ⟨M2, e2, g2⟩ := d_psig (c := 48 + v % 10) g1 (by omega) (by omega) (by omega)
    rw [if_neg (show ¬ nI v < 10 from nI_nlt (b := 10) (by omega) (by omega)), if_neg (show ¬ nI v ≤ 9 from nI_ge (a := 9) (by omega) (by omega)), e1, d_b1, d_b1, e2, d_b1]
    exact ⟨_, M2, len + 2, rfl, rfl, g2, by omega⟩
theorem d_prL {b k ps : Nat} (hb : b ≠ 117 ∧ b ≠ 118) (hk : k < 25) (hps : ps < 64) (hI : I0 b 4 = nI ps) (hM : M0 6 (7 * k + 4) = nI ps) (K : q_I → Option (Int32 × q_I × q_P)) (K2 : q_I → Option (Int32 × q_I × q_J)) : ∀ (d x fu fu2 : Nat) (I M : q_I) (len : Nat), x + d = 6 → d < fu → d < fu2 → d_pr2 I0 M0 I M len → len + 2 * d < 58 → ∃ I' M' len', f_CR_print_L1 b K fu (nI x) I = K I' ∧ f_Mo_print_L1 (nI k) K2 fu2 (nI x) M = K2 M' ∧ d_pr2 I0 M0 I' M' len' ∧ len' ≤ len + 2 * d := by
  intro d
  induction d with
  | zero =>
    intro x fu fu2 I M len hx hf hf2 h hl
    obtain ⟨fu, rfl, -⟩ := d_fuel hf
    obtain ⟨fu2, rfl, -⟩ := d_fuel hf2
    have : x = 6 := by omega
    subst this
    unfold f_CR_print_L1 f_Mo_print_L1
    rw [if_pos (by decide), if_pos (by decide)]
    exact ⟨I, M, len, rfl, rfl, h, by omega⟩
  | succ d ih =>
    intro x fu fu2 I M len hx hf hf2 h hl
    obtain ⟨fu, rfl, hf⟩ := d_fuel hf
    obtain ⟨fu2, rfl, hf2⟩ := d_fuel hf2
    unfold f_CR_print_L1 f_Mo_print_L1
    rw [if_neg (d_g6 (by omega)), if_neg (d_g6 (by omega)), h.2.1 b hb.1 hb.2, hI, dn_has (by omega) (by omega), d_b1, d_mm4, d_b1, d_ix (by omega) (by decide), h.2.2.1 6 (by decide) (by decide), hM, nI_1]
    by_cases hin : w_in ps x
    · obtain ⟨I1, M1, l1, e1, e2, g1, g2⟩ := d_pI (v := x) h (by omega) (by omega)
      rw [if_pos hin, if_neg (show ¬ (1 : Int32) = 0 by decide), if_pos ((dn_b1 (by omega) (by omega)).mpr hin), e1, d_b1, e2, d_b1]
      obtain ⟨I', M', len', q1, q2, q3, q4⟩ := ih (x + 1) fu fu2 I1 M1 l1 (by omega) (by omega) (by omega) g1 (by omega)
      exact ⟨I', M', len', q1, q2, q3, by omega⟩
    · rw [if_neg hin, if_pos rfl, if_neg (fun q => hin ((dn_b1 (by omega) (by omega)).mp q))]
      obtain ⟨I', M', len', q1, q2, q3, q4⟩ := ih (x + 1) fu fu2 I M len (by omega) (by omega) (by omega) h (by omega)
      exact ⟨I', M', len', q1, q2, q3, by omega⟩
end DP
theorem d_Z_pg {t t' : Nat} {I I1 I' : q_I} {P P1 : q_P} {M M1 M' : q_I} {len : Nat} (h : d_Z t I P M) (ht : t ≤ t') (hc : d_cs I I1 P P1) (hm : d_mf M M1) (hp : d_pr2 I1 M1 I' M' len) (hl : len ≤ 60) : d_Z t' I' P1 M' := by
  obtain ⟨h1, h2, h3, h4, h5, h7⟩ := h
  have hI : ∀ o, d_rel o → o ≠ 117 → o ≠ 118 → I' o = I o := fun o q1 q2 q3 => by rw [hp.2.1 o q2 q3, hc.1 o q1]
  have hM : ∀ o, 1 ≤ o → o ≤ 4 → M' o = M o := fun o q1 q2 => by rw [hp.2.2.1 o (by omega) (by omega), hm.1 o (by omega) (by omega)]
  refine ⟨d_pw_fr h1 ht (fun o q1 q2 => hI o (Or.inl ⟨q1, by omega⟩) (by omega) (by omega)) (hc.2.1 _ (by decide) (by decide)) (hM 1 (by decide) (by decide)), d_kp_fr h2 ht (fun o q => hI o ?_ (by omega) (by omega)) (fun a q => hc.2.1 a (by omega) (by omega)) ⟨hM 2 (by decide) (by decide), hM 3 (by decide) (by decide)⟩, hc.2.2.1, hc.2.2.2, d_tx_fr h5 ⟨hI _ ?_ (by decide) (by decide), hI _ ?_ (by decide) (by decide)⟩ ⟨by rw [hp.2.2.2 4 (by decide), hm.2 4 (by decide)], hM 4 (by decide) (by decide)⟩, ⟨len, hl, hp.1⟩⟩
  all_goals (unfold d_rel; omega)
theorem d_exk {t : Nat} {I M : q_I} {P P1 : q_P} {J1 : q_J} {A A' : Option (Int32 × q_I × q_P)} {B B' : Option (Int32 × q_I × q_J)} (x1 : A = A') (x2 : B = B') (h : ∃ v I' M', A' = some (v, I', P1) ∧ B' = some (v, M', J1) ∧ d_Z t I' P1 M') : ∃ v I' P' M' J', A = some (v, I', P') ∧ B = some (v, M', J') ∧ d_Z t I' P' M' := by
  obtain ⟨v, I', M', h1, h2, h3⟩ := h
  exact ⟨v, I', P1, M', J1, x1.trans h1, x2.trans h2, h3⟩
theorem y2_print {t : Nat} {I : q_I} {P : q_P} {M : q_I} {J : q_J} (h : d_Z t I P M) (a1 a2 : Int32) : ∃ v I' P' M' J', f_CR_print I P a1 a2 = some (v, I', P') ∧ f_Mo_print M J a1 a2 = some (v, M', J') ∧ d_Z (t + 1) I' P' M' := by
  unfold f_CR_print f_Mo_print
  rcases d_findZ (J := J) h a1 a2 with ⟨I1, P1, M1, J1, e1, e2, g1, g2, -⟩ | ⟨I1, P1, M1, J1, L, k, m, e1, e2, g1, -, g2, g3, g4, g5, g6, g7, g8, g9, -⟩
  · rw [e1, d_b3, e2, d_b3, if_pos rfl]
    exact ⟨_, _, _, _, _, rfl, rfl, d_Z_fr h (by omega) g1 g2⟩
  · have hkl := d_get_lt g4
    have hL := g7.2.1
    have hk25 : k < 25 := by omega
    have hP := g6.2.2.1.1 k (by have := g6.2.1; omega)
    have hP' : P1 84 k < 24 := hP
    unfold d_mt at g5
    obtain ⟨b, hb⟩ : ∃ b, b = 83 + 2 + P1 84 k := ⟨_, rfl⟩
    have hb2 : b ≠ 117 ∧ b ≠ 118 := by omega
    have r2 := g7.2.2 k m g4
    rw [← hb] at g8 g9 e1
    have e3 : f_Mo_find M1 a2 = some (nI k) := by rw [d_mfind g7, g3]
    have i0 : d_pr2 I1 M1 (q_ui (if 0 < I1 117 0 then q_ui I1 117 1 1 else I1) 117 0 0) (q_ui M1 0 6 0) 0 := by
      refine ⟨⟨d_ui_s, d_ui_s, fun j hj => by omega⟩, fun o q1 q2 => ?_, fun o q1 q2 => d_ui_o q2, fun f hf => d_ui_n hf⟩
      rw [d_ui_o q1]
      by_cases q : (0 : Int32) < I1 117 0
      · rw [if_pos q, d_ui_o q1]
      · rw [if_neg q]
    have e4 : f_SB_setLength I1 117 0 = some (q_ui (if 0 < I1 117 0 then q_ui I1 117 1 1 else I1) 117 0 0) := by
      unfold f_SB_setLength
      rw [if_pos rfl]
    obtain ⟨I2, M2, l2, c1, d1, i1, n1⟩ := d_pI (v := m 1) i0 (by omega) (by omega)
    obtain ⟨I3, M3, c2, d2, i2⟩ := d_pC (c := 43) i1 (by omega) (by decide) (by decide)
    obtain ⟨I4, M4, l4, c3, d3, i3, n3⟩ := d_pI (v := m 2) i2 (by omega) (by omega)
    obtain ⟨I5, M5, c4, d4, i4⟩ := d_pS (c := 114) i3 (by omega) (by decide) (by decide)
    obtain ⟨I6, M6, l6, c5, d5, i5, n5⟩ := d_pI (v := m 3) i4 (by omega) (by omega)
    obtain ⟨I7, M7, c6, d6, i6⟩ := d_pS (c := 112) i5 (by omega) (by decide) (by decide)
    have c2' : f_SB_appC I2 117 43 = some I3 := c2
    have d2' : f_Mo_sign M2 43 = some M3 := d2
    have c4' : f_SB_appS I4 117 32 114 = some I5 := c4
    have d4' : f_Mo_option M4 114 = some M5 := d4
    have c6' : f_SB_appS I6 117 32 112 = some I7 := c6
    have d6' : f_Mo_option M6 112 = some M7 := d6
    rw [e1, d_b3, e2, d_b3, if_neg (show ¬ (1 : Int32) = 0 by decide), e3, d_b1]
    simp only [Option.elim_some]
    unfold q_ck
    rw [if_pos g9, e4, d_b1, i0.2.1 b hb2.1 hb2.2, g8 1 (by decide), c1, d_b1, c2', d_b1, i2.2.1 b hb2.1 hb2.2, g8 2 (by decide), c3, d_b1, c4', d_b1, i4.2.1 b hb2.1 hb2.2, g8 3 (by decide), c5, d_b1, c6', d_b1]
    rw [d_l, d_mm1, d_b1, d_ix (by omega) (by decide), i0.2.2.1 6 (by decide) (by decide), r2 1 (by decide), d1, d_b1, d2', d_b1, d_mm2, d_b1, d_ix (by omega) (by decide), i2.2.2.1 6 (by decide) (by decide), r2 2 (by decide), d3, d_b1, d4', d_b1, d_mm3, d_b1, d_ix (by omega) (by decide), i4.2.2.1 6 (by decide) (by decide), r2 3 (by decide), d5, d_b1, d6', d_b1]
    refine Exists.elim (d_prL hb2 hk25 (show m 4 < 64 by omega) (g8 4 (by decide)) (r2 4 (by decide)) (fun (I11 : q_I) => if (I11 b 6) ≤ 1 then (q_b1 (f_SB_length I11 117) (fun v2 => some (v2, I11, P1))) else (q_b1 (f_SB_appS I11 117 32 101) (fun I12 => q_b1 (f_SB_appI I12 117 (I12 b 5)) (fun I13 => q_b1 (f_SB_appC I13 117 120) (fun I14 => q_b1 (f_SB_appI I14 117 (I14 b 6)) (fun I15 => q_b1 (f_SB_length I15 117) (fun v3 => some (v3, I15, P1)))))))) (fun (I11 : q_I) => q_b1 (f_Mo_meeting (nI k) 6) (fun v7 => q_ix v7 175 (fun j5 => q_b1 (if (I11 6 j5) ≤ 1 then ((some (I11))) else (q_b1 (f_Mo_option I11 101) (fun I13 => q_b1 (f_Mo_meeting (nI k) 5) (fun v8 => q_ix v8 175 (fun j6 => q_b1 (f_Mo_decimal I13 (I13 6 j6)) (fun I14 => q_b1 (f_Mo_sign I14 120) (fun I15 => q_b1 (f_Mo_meeting (nI k) 6) (fun v9 => q_ix v9 175 (fun j7 => q_b1 (f_Mo_decimal I15 (I15 6 j7)) (fun I16 => (some (I16))))))))))) : Option (q_I)) (fun (I12 : q_I) => some ((I12 0 6), I12, J1))))) 6 0 7 q_fu I7 M7 _ (by omega) (by decide) (d_q (by decide)) i6 (by omega)) (fun I8 z => ?_)
    obtain ⟨M8, l8, x1, x2, i8, n8⟩ := z
    refine d_exk (I := I) (P := P) (M := M) (P1 := P1) (J1 := J1) x1 x2 ?_
    · rw [i8.2.1 b hb2.1 hb2.2, g8 6 (by decide), d_mm6, d_b1, d_ix (by omega) (by decide), i8.2.2.1 6 (by decide) (by decide), r2 6 (by decide)]
      by_cases h1 : m 6 ≤ 1
      · rw [if_pos (show nI (m 6) ≤ 1 from nI_le (b := 1) h1 (by decide)), if_pos (show nI (m 6) ≤ 1 from nI_le (b := 1) h1 (by decide))]
        unfold f_SB_length
        rw [d_b1, d_b1, i8.1.1, i8.1.2.1]
        exact ⟨_, I8, M8, rfl, rfl, d_Z_pg h (by omega) g1 g2 i8 (by omega)⟩
      · obtain ⟨I9, M9, c7, d7, i9⟩ := d_pS (c := 101) i8 (by omega) (by decide) (by decide)
        obtain ⟨I10, M10, l10, c8, d8, i10, n10⟩ := d_pI (v := m 5) i9 (by omega) (by omega)
        obtain ⟨I11, M11, c9, d9, i11⟩ := d_pC (c := 120) i10 (by omega) (by decide) (by decide)
        obtain ⟨I12, M12, l12, c10, d10, i12, n12⟩ := d_pI (v := m 6) i11 (by omega) (by omega)
        have c7' : f_SB_appS I8 117 32 101 = some I9 := c7
        have d7' : f_Mo_option M8 101 = some M9 := d7
        have c9' : f_SB_appC I10 117 120 = some I11 := c9
        have d9' : f_Mo_sign M10 120 = some M11 := d9
        rw [if_neg (show ¬ nI (m 6) ≤ 1 from nI_ge (a := 1) (by omega) (by omega)), if_neg (show ¬ nI (m 6) ≤ 1 from nI_ge (a := 1) (by omega) (by omega)), c7', d_b1, i9.2.1 b hb2.1 hb2.2, g8 5 (by decide), c8, d_b1, c9', d_b1, i11.2.1 b hb2.1 hb2.2, g8 6 (by decide), c10, d_b1]
        unfold f_SB_length
        rw [d_b1, i12.1.1, d7', d_b1, d_mm5, d_b1, d_ix (by omega) (by decide), i9.2.2.1 6 (by decide) (by decide), r2 5 (by decide), d8, d_b1, d9', d_b1, d_b1, d_ix (by omega) (by decide), i11.2.2.1 6 (by decide) (by decide), r2 6 (by decide), d10, d_b1, d_b1, i12.1.2.1]
        exact ⟨_, I12, M12, rfl, rfl, d_Z_pg h (by omega) g1 g2 i12 (by omega)⟩
