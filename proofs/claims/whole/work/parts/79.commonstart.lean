section DC
variable {n no dur ps : Nat} {I1 : q_I} {J1 : q_J} {P1 : q_P} {M1 : q_I} {Ru : Nat → Nat → Nat} {Of Os : Nat → Int32} {base : List (Nat → Nat)} {E : Nat → Nat → Nat} {L : List (Nat → Nat)}
theorem d_comC2 {x : Nat} (hru : d_ru I1 2 Ru) (h : d_tt J1 109 (d_R Ru L)) (hx : x ≤ 95) (hd : 1 ≤ dur ∧ dur ≤ 8) (hps : ps ≤ 63) (K : q_I → Option (Int32 × q_I × q_J × q_P)) : ∀ (d q fu : Nat) (I2 : q_I), q + d = 4 → d < fu → (∀ o, o ≠ 112 → I2 o = I1 o) →
    ∃ I', (∀ o, o ≠ 112 → I' o = I1 o) ∧ ((∃ p, q ≤ p ∧ p < 4 ∧ d_CT Ru L x dur p ps ∧ (∀ y, q ≤ y → y < p → ¬ d_CT Ru L x dur y ps) ∧ f_CR_commonStart_L2 (nI ps) (nI dur) J1 P1 (nI x) K fu (nI q) I2 = some (nI (10 * x + p), I', J1, P1)) ∨ ((∀ y, q ≤ y → y < 4 → ¬ d_CT Ru L x dur y ps) ∧ f_CR_commonStart_L2 (nI ps) (nI dur) J1 P1 (nI x) K fu (nI q) I2 = K I')) := by
  intro d
  induction d with
  | zero =>
    intro q fu I2 hq hf hI
    obtain ⟨fu, rfl, -⟩ := d_fuel hf
    have : q = 4 := by omega
    subst this
    refine ⟨I2, hI, Or.inr ⟨fun y h1 h2 => by omega, ?_⟩⟩
    unfold f_CR_commonStart_L2
    rw [if_pos (by decide)]
  | succ d ih =>
    intro q fu I2 hq hf hI
    obtain ⟨fu, rfl, hf⟩ := d_fuel hf
    obtain ⟨I4, e, g1, g2⟩ := d_comT (I2 := I2) (L := L) hru h hx hd (show q ≤ 3 by omega) hps hI
    unfold f_CR_commonStart_L2
    rw [if_neg (d_g4 (by omega)), e, d_b1, nI_add, nI_1]
    have next : ¬ d_CT Ru L x dur q ps → ∃ I', (∀ o, o ≠ 112 → I' o = I1 o) ∧ ((∃ p, q ≤ p ∧ p < 4 ∧ d_CT Ru L x dur p ps ∧ (∀ y, q ≤ y → y < p → ¬ d_CT Ru L x dur y ps) ∧ f_CR_commonStart_L2 (nI ps) (nI dur) J1 P1 (nI x) K fu (nI (q + 1)) I4 = some (nI (10 * x + p), I', J1, P1)) ∨ ((∀ y, q ≤ y → y < 4 → ¬ d_CT Ru L x dur y ps) ∧ f_CR_commonStart_L2 (nI ps) (nI dur) J1 P1 (nI x) K fu (nI (q + 1)) I4 = K I')) := fun hn => by
      have ext : ∀ b, (∀ y, q + 1 ≤ y → y < b → ¬ d_CT Ru L x dur y ps) → ∀ y, q ≤ y → y < b → ¬ d_CT Ru L x dur y ps := fun b z y h1 h2 => by
        by_cases hy : y = q
        · rw [hy]; exact hn
        · exact z y (by omega) h2
      obtain ⟨I', z1, ⟨p, q1, q2, q3, q4, q5⟩ | ⟨q1, q2⟩⟩ := ih (q + 1) fu I4 (by omega) (by omega) g1
      · exact ⟨I', z1, Or.inl ⟨p, by omega, q2, q3, ext p q4, q5⟩⟩
      · exact ⟨I', z1, Or.inr ⟨ext 4 q1, q2⟩⟩
    rcases g2 with ⟨q1, q2, v6, q3, q4⟩ | ⟨q1, q2 | ⟨q2, v6, q3, q4⟩⟩
    · rw [q2, d_b1, if_neg (by decide), q3, d_b1, q4, d_b1, if_neg (by decide), d_m10, nI_add]
      exact ⟨I4, g1, Or.inl ⟨q, Nat.le_refl _, by omega, q1, fun y h1 h2 => by omega, rfl⟩⟩
    · rw [q2, d_b1, if_pos rfl]
      exact next q1
    · rw [q2, d_b1, if_neg (by decide), q3, d_b1, q4, d_b1, if_pos rfl]
      exact next q1
theorem d_comM2 {x : Nat} (hm1 : d_mw (M1 1) n Ru no Of Os base E) (hL24 : L.length ≤ 24) (hmt : ∀ m, m ∈ L → d_mt m) (hLv : d_valid Ru no Of Os L) (hng : ∀ o, o < no → ¬ Of o < 0 ∧ ¬ Os o < 0) (hx : x ≤ 95) (hd : 1 ≤ dur ∧ dur ≤ 8) (hps : ps ≤ 63) (K : q_I → q_J → Option (Int32 × q_I × q_J)) : ∀ (d q fu : Nat) (M9 : q_I) (J : q_J), q + d = 4 → d < fu → d_cmM L dur ps M1 M9 →
    ∃ M' J', d_cmM L dur ps M1 M' ∧ ((∃ p, q ≤ p ∧ p < 4 ∧ d_CT Ru L x dur p ps ∧ (∀ y, q ≤ y → y < p → ¬ d_CT Ru L x dur y ps) ∧ f_Mo_commonStart_L2 (nI L.length) (nI x) K fu (nI q) M9 J = some (nI (10 * x + p), M', J')) ∨ ((∀ y, q ≤ y → y < 4 → ¬ d_CT Ru L x dur y ps) ∧ f_Mo_commonStart_L2 (nI L.length) (nI x) K fu (nI q) M9 J = K M' J')) := by
  intro d
  induction d with
  | zero =>
    intro q fu M9 J hq hf hc
    obtain ⟨fu, rfl, -⟩ := d_fuel hf
    have : q = 4 := by omega
    subst this
    refine ⟨M9, J, hc, Or.inr ⟨fun y h1 h2 => by omega, ?_⟩⟩
    unfold f_Mo_commonStart_L2
    rw [if_pos (by decide)]
  | succ d ih =>
    intro q fu M9 J hq hf hc
    obtain ⟨fu, rfl, hf⟩ := d_fuel hf
    obtain ⟨v, J', e, g1, g2, g3⟩ := d_comM (J := J) (q := q) hm1 hL24 hmt hLv hng hx hd (by omega) hps hc
    unfold f_Mo_commonStart_L2
    rw [if_neg (d_g4 (by omega)), d_mm1, d_b1, d_ix (by omega) (by omega), d_l, d_mm3, d_b1, d_ix (by omega) (by omega), d_l, e, d_b2, nI_1]
    generalize q_ui (q_ui M9 6 (7 * L.length + 1) (nI x)) 6 (7 * L.length + 3) (nI q) = M11 at g3
    rcases g1 with rfl | rfl
    · have hn : ¬ d_CT Ru L x dur q ps := fun z => absurd (g2.mpr z) (by decide)
      have ext : ∀ b, (∀ y, q + 1 ≤ y → y < b → ¬ d_CT Ru L x dur y ps) → ∀ y, q ≤ y → y < b → ¬ d_CT Ru L x dur y ps := fun b z y h1 h2 => by
        by_cases hy : y = q
        · rw [hy]; exact hn
        · exact z y (by omega) h2
      rw [if_pos rfl]
      obtain ⟨M', J'', z1, ⟨p, q1, q2, q3, q4, q5⟩ | ⟨q1, q2⟩⟩ := ih (q + 1) fu M11 J' (by omega) (by omega) g3
      · exact ⟨M', J'', z1, Or.inl ⟨p, by omega, q2, q3, ext p q4, q5⟩⟩
      · exact ⟨M', J'', z1, Or.inr ⟨ext 4 q1, q2⟩⟩
    · rw [if_neg (by decide), d_m10, nI_add]
      exact ⟨M11, J', g3, Or.inl ⟨q, Nat.le_refl _, by omega, g2.mp rfl, fun y h1 h2 => by omega, rfl⟩⟩
theorem d_CT_end {x q : Nat} (h : d_CT Ru L x dur q ps) : x + dur ≤ 96 := by
  have h1 : x + (1 - 1) * 0 + dur ≤ 96 := h.1.1.1
  omega
theorem d_comEnd (hm1 : d_mw (M1 1) n Ru no Of Os base E) (hL24 : L.length ≤ 24) (hmt : ∀ m, m ∈ L → d_mt m) (hLv : d_valid Ru no Of Os L) (hng : ∀ o, o < no → ¬ Of o < 0 ∧ ¬ Os o < 0) (hd : 1 ≤ dur ∧ dur ≤ 8) (hps : ps ≤ 63) : ∀ (d x fu : Nat) (M9 : q_I) (J : q_J), x + d = 96 → d < fu → 96 < x + dur → d_cmM L dur ps M1 M9 → ∃ M' J', d_cmM L dur ps M1 M' ∧ f_Mo_commonStart_L1 (nI L.length) fu (nI x) M9 J = some (-4, M', J') := by
  intro d
  induction d with
  | zero =>
    intro x fu M9 J hx hf hxd hc
    obtain ⟨fu, rfl, -⟩ := d_fuel hf
    unfold f_Mo_commonStart_L1
    rw [if_pos (d_l96 (by omega) (by omega))]
    exact ⟨M9, J, hc, rfl⟩
  | succ d ih =>
    intro x fu M9 J hx hf hxd hc
    obtain ⟨fu, rfl, hf⟩ := d_fuel hf
    unfold f_Mo_commonStart_L1
    rw [if_neg (d_g96 (by omega)), nI_1]
    obtain ⟨M', J', z1, ⟨p, q1, q2, q3, q4, q5⟩ | ⟨q1, q2⟩⟩ := d_comM2 hm1 hL24 hmt hLv hng (show x ≤ 95 by omega) hd hps (fun (I12 : q_I) (J5 : q_J) => (f_Mo_commonStart_L1 (nI L.length) fu (nI (x + 1)) I12 J5)) 4 0 q_fu M9 J (by omega) (d_q (by omega)) hc
    · have := d_CT_end q3
      omega
    · have q2' : f_Mo_commonStart_L2 (nI L.length) (nI x) (fun (I12 : q_I) (J5 : q_J) => (f_Mo_commonStart_L1 (nI L.length) fu (nI (x + 1)) I12 J5)) q_fu 0 M9 J = f_Mo_commonStart_L1 (nI L.length) fu (nI (x + 1)) M' J' := q2
      rw [q2']
      exact ih (x + 1) fu M' J' (by omega) (by omega) (by omega) z1
theorem d_comL (hru : d_ru I1 2 Ru) (h : d_tt J1 109 (d_R Ru L)) (hm1 : d_mw (M1 1) n Ru no Of Os base E) (hL24 : L.length ≤ 24) (hmt : ∀ m, m ∈ L → d_mt m) (hLv : d_valid Ru no Of Os L) (hng : ∀ o, o < no → ¬ Of o < 0 ∧ ¬ Os o < 0) (hd : 1 ≤ dur ∧ dur ≤ 8) (hps : ps ≤ 63) : ∀ (d x fu fu2 : Nat) (I2 : q_I) (M9 : q_I) (J : q_J), x + d = 96 → d < fu → d < fu2 → (∀ o, o ≠ 112 → I2 o = I1 o) → d_cmM L dur ps M1 M9 →
    ∃ v I' M' J', f_CR_commonStart_L1 (nI ps) (nI dur) J1 P1 fu (nI x) I2 = some (v, I', J1, P1) ∧ f_Mo_commonStart_L1 (nI L.length) fu2 (nI x) M9 J = some (v, M', J') ∧ (∀ o, o ≠ 112 → I' o = I1 o) ∧ d_cmM L dur ps M1 M' := by
  intro d
  induction d with
  | zero =>
    intro x fu fu2 I2 M9 J hx hf hf2 hI hc
    obtain ⟨fu, rfl, -⟩ := d_fuel hf
    obtain ⟨M', J', z1, z2⟩ := d_comEnd hm1 hL24 hmt hLv hng hd hps 0 x fu2 M9 J hx hf2 (by omega) hc
    unfold f_CR_commonStart_L1
    rw [nI_add, if_pos (show (96 : Int32) < nI (x + dur) from nI_lt (a := 96) (by omega) (by omega))]
    exact ⟨_, _, _, _, rfl, z2, hI, z1⟩
  | succ d ih =>
    intro x fu fu2 I2 M9 J hx hf hf2 hI hc
    obtain ⟨fu, rfl, hf⟩ := d_fuel hf
    by_cases h96 : 96 < x + dur
    · obtain ⟨M', J', z1, z2⟩ := d_comEnd hm1 hL24 hmt hLv hng hd hps (d + 1) x fu2 M9 J hx hf2 h96 hc
      unfold f_CR_commonStart_L1
      rw [nI_add, if_pos (show (96 : Int32) < nI (x + dur) from nI_lt (a := 96) (by omega) (by omega))]
      exact ⟨_, _, _, _, rfl, z2, hI, z1⟩
    · obtain ⟨fu2, rfl, hf2⟩ := d_fuel hf2
      unfold f_CR_commonStart_L1 f_Mo_commonStart_L1
      rw [nI_add, if_neg (show ¬ (96 : Int32) < nI (x + dur) from nI_nlt (a := 96) (by omega) (by decide)), if_neg (d_g96 (by omega)), nI_1]
      obtain ⟨I', y1, y2⟩ := d_comC2 (P1 := P1) (L := L) hru h (show x ≤ 95 by omega) hd hps (fun (I5 : q_I) => (f_CR_commonStart_L1 (nI ps) (nI dur) J1 P1 fu (nI (x + 1)) I5)) 4 0 q_fu I2 (by omega) (d_q (by omega)) hI
      obtain ⟨M', J', z1, z2⟩ := d_comM2 hm1 hL24 hmt hLv hng (show x ≤ 95 by omega) hd hps (fun (I12 : q_I) (J5 : q_J) => (f_Mo_commonStart_L1 (nI L.length) fu2 (nI (x + 1)) I12 J5)) 4 0 q_fu M9 J (by omega) (d_q (by omega)) hc
      rcases y2 with ⟨p, q1, q2, q3, q4, q5⟩ | ⟨q1, q2⟩
      · rcases z2 with ⟨p', q1', q2', q3', q4', q5'⟩ | ⟨q1', q2'⟩
        · have hpp : p = p' := by
            rcases Nat.lt_trichotomy p p' with z | z | z
            · exact absurd q3 (q4' p q1 z)
            · exact z
            · exact absurd q3' (q4 p' q1' z)
          subst hpp
          exact ⟨_, I', M', J', q5, q5', y1, z1⟩
        · exact absurd q3 (q1' p q1 q2)
      · rcases z2 with ⟨p', q1', q2', q3', q4', q5'⟩ | ⟨q1', q2'⟩
        · exact absurd q3' (q1 p' q1' q2')
        · have e1 : f_CR_commonStart_L2 (nI ps) (nI dur) J1 P1 (nI x) (fun (I5 : q_I) => (f_CR_commonStart_L1 (nI ps) (nI dur) J1 P1 fu (nI (x + 1)) I5)) q_fu 0 I2 = f_CR_commonStart_L1 (nI ps) (nI dur) J1 P1 fu (nI (x + 1)) I' := q2
          have e2 : f_Mo_commonStart_L2 (nI L.length) (nI x) (fun (I12 : q_I) (J5 : q_J) => (f_Mo_commonStart_L1 (nI L.length) fu2 (nI (x + 1)) I12 J5)) q_fu 0 M9 J = f_Mo_commonStart_L1 (nI L.length) fu2 (nI (x + 1)) M' J' := q2'
          rw [e1, e2]
          exact ih (x + 1) fu fu2 I' M' J' (by omega) (by omega) (by omega) y1 z1
end DC
theorem y2_commonStart {t : Nat} {I : q_I} {J J2 : q_J} {P : q_P} {M : q_I} (h : d_Z t I P M) (a1 a2 a3 a4 : Int32) : ∃ v I' J' P' M' J2', f_CR_commonStart I J P a1 a2 a3 a4 = some (v, I', J', P') ∧ f_Mo_commonStart M J2 a1 a2 a3 a4 = some (v, M', J2') ∧ d_Z (t + 1) I' P' M' := by
  have h0 := h
  obtain ⟨⟨n, Ru, no, Of, Os, base, E, kn, nx, ac, ha, hc, hm⟩, h2, h3, h4, h5, h6⟩ := h
  have hn12 : n ≤ 12 := ha.1.2.2.2.2.2.2.2.2
  have c10 : ¬ (1 : Int32) = 0 := by decide
  have hz := d_Zt h0 (show t ≤ t + 1 by omega)
  unfold f_CR_commonStart f_Mo_commonStart
  rw [d_repC, dn_within, d_durE, d_startE]
  rcases d_rep a1 with ⟨e, -⟩ | ⟨r, hr, rfl, e⟩
  · rw [e, d_b1, d_b1, if_pos rfl, if_pos rfl]
    exact ⟨_, _, _, _, _, _, rfl, rfl, hz⟩
  rw [e, d_b1, d_b1, if_neg c10, if_neg c10]
  rcases d_inL a2 1 63 1 63 rfl rfl (by decide) (by decide) with ⟨e2, -⟩ | ⟨ps, -, hps, rfl, e2⟩
  · rw [e2, d_b1, d_b1, if_pos rfl, if_pos rfl]
    exact ⟨_, _, _, _, _, _, rfl, rfl, hz⟩
  rw [e2, d_b1, d_b1, if_neg c10, if_neg c10]
  rcases d_inL a3 1 8 1 8 rfl rfl (by decide) (by decide) with ⟨e3, -⟩ | ⟨dur, hd1, hd, rfl, e3⟩
  · rw [e3, d_b1, d_b1, if_pos rfl, if_pos rfl]
    exact ⟨_, _, _, _, _, _, rfl, rfl, hz⟩
  rw [e3, d_b1, d_b1, if_neg c10, if_neg c10]
  rcases d_inL a4 0 95 0 95 rfl rfl (by decide) (by decide) with ⟨e4, -⟩ | ⟨x, -, hx, rfl, e4⟩
  · rw [e4, d_b1, d_b1, if_pos rfl, if_pos rfl]
    exact ⟨_, _, _, _, _, _, rfl, rfl, hz⟩
  rw [e4, d_b1, d_b1, if_neg c10, if_neg c10]
  obtain ⟨I1, J1, P1, e5, g1, g2, g3⟩ := d_fillT (J := J) ha hc h3 h4 hr
  obtain ⟨M1, J3, e6, g4, g5⟩ := d_showR (J := J2) ha hm hr
  have hf := d_acfm ha hr
  have hm1 := d_mwf hm g5
  have hc1 := d_cl1_cs hc hn12 g3
  obtain ⟨⟨C, N, hcw⟩, -⟩ := hc1
  generalize d_fm base E (ac r) 12 = L at g1 g2 g4 hf
  have hL := hf.2.2.2
  rw [e5, d_b3, e6, d_b2, g4.1, d_l, nI_1, d_l, d_mm0, d_b1, d_ix (by omega) (by omega), d_l, d_mm2, d_b1, d_ix (by omega) (by omega), d_l, d_mm4, d_b1, d_ix (by omega) (by omega), d_l, d_mm5, d_b1, d_ix (by omega) (by omega), d_l, d_mm6, d_b1, d_ix (by omega) (by omega), d_l]
  have hc7 : d_cmM L dur ps M1 (q_ui (q_ui (q_ui (q_ui (q_ui (q_ui M1 0 7 (nI (L.length + 1))) 6 (7 * L.length + 0) (-1)) 6 (7 * L.length + 2) (nI dur)) 6 (7 * L.length + 4) (nI ps)) 6 (7 * L.length + 5) 0) 6 (7 * L.length + 6) 1) := by
    refine ⟨fun o q1 q2 => ?_, fun f hf => ?_, ?_, fun k m hk f hf => ?_, ?_, ?_, ?_, ?_, ?_⟩
    · simp (disch := omega) only [d_ui_s, d_ui_n, d_ui_o]
    · simp (disch := omega) only [d_ui_s, d_ui_n, d_ui_o]
    · simp (disch := omega) only [d_ui_s, d_ui_n, d_ui_o]
    · have := d_get_lt hk
      simp (disch := omega) only [d_ui_s, d_ui_n, d_ui_o]
      exact g4.2.2 k m hk f hf
    · simp (disch := omega) only [d_ui_s, d_ui_n, d_ui_o]
    · simp (disch := omega) only [d_ui_s, d_ui_n, d_ui_o]
    · simp (disch := omega) only [d_ui_s, d_ui_n, d_ui_o]
    · simp (disch := omega) only [d_ui_s, d_ui_n, d_ui_o]
    · simp (disch := omega) only [d_ui_s, d_ui_n, d_ui_o]
  obtain ⟨v, I', M', J', x1, x2, x3, x4⟩ := d_comL (P1 := P1) hcw.1 g1 hm1.1 hL hf.2.1 hf.2.2.1 ha.2.2.2.2.2.2.2.2 ⟨hd1, hd⟩ hps (96 - x) x q_fu q_fu I1 _ J3 (by omega) (d_q (by omega)) (d_q (by omega)) (fun _ _ => rfl) hc7
  rw [x1, x2]
  refine ⟨_, _, _, _, _, _, rfl, rfl, d_Z_fr h0 (by omega) ⟨fun o ho => ?_, g3.2⟩ ⟨fun o q1 q2 => ?_, ?_, ?_⟩⟩
  · rw [x3 o (by unfold d_rel at ho; omega)]
    exact g3.1 o ho
  · rw [x4.1 o (by omega) (by omega), g5.1 o (by omega) (by omega)]
  · rw [x4.2.1 4 (by decide), g5.2 4 (by decide)]
  · rw [x4.2.1 6 (by decide), g5.2 6 (by decide)]
