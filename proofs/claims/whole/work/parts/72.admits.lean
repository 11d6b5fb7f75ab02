/-! whether a set may stand; what keeps an edit out; what it costs -/
section DA
variable {t n : Nat} {I : q_I} {P : q_P} {M : q_I} {Ru : Nat → Nat → Nat} {no : Nat} {Of Os : Nat → Int32} {base : List (Nat → Nat)} {E : Nat → Nat → Nat} {kn : Nat → Nat} {nx : Nat} {ac : Nat → Nat}
theorem d_admitsC {J : q_J} {C N : Nat → Nat} {s : Nat} (hcw : d_cw I P 1 n Ru no Of Os base E C N) (hwf : d_wf base E n) (hi : d_inj P 55 24) (hs : s < 2 ^ n) : ∃ v I' J' P', f_Mg_admits I J P 53 1 (nI s) = some (v, I', J', P') ∧ (v = 0 ∨ v = 1) ∧ (v = 1 ↔ d_adm Ru no Of Os base E s) ∧ (∀ o, o < 54 ∨ 80 ≤ o → I' o = I o) ∧ d_pr 55 P P' ∧ d_inj P' 55 24 := by
  have hn12 : n ≤ 12 := hwf.2.2.2.2.2.2.2.2
  have h12 : (2 : Nat) ^ n ≤ 2 ^ 12 := Nat.pow_le_pow_right (by decide) hn12
  obtain ⟨v1, e1, g1, g2⟩ := d_hcl hcw.2.2.2 hn12 hs
  obtain ⟨u, e2, g3, g4⟩ := d_use hcw.2.2.2 hn12 hs
  obtain ⟨v3, I1, J1, P1, e3, g5, g6, g7, g8, -, g9⟩ := d_fits (J := J) (mg := 53) (ch := s) (op := 0) hcw hwf hi cM54 (by omega) hs (Nat.two_pow_pos n)
  rw [d_kp_z] at g6
  have e3' : f_Mg_fits I J P 53 1 (nI s) 0 = some (v3, I1, J1, P1) := e3
  unfold f_Mg_admits
  rw [e1, d_b1, e2, e3']
  have hK : v1 = 0 ↔ ∀ i j, w_in s i → w_in s j → d_K E i j = false := by
    rw [g2]
    constructor
    · intro h i j hi hj
      unfold d_K
      rw [d_dec_f]
      rintro (⟨q1, q2⟩ | ⟨q1, q2⟩)
      · exact h i j hi hj q1 q2
      · exact h j i hj hi q1 q2
    · intro h i j hi hj hij q
      have := h i j hi hj
      unfold d_K at this
      rw [d_dec_f] at this
      exact this (Or.inl ⟨hij, q⟩)
  have hN : u = s ↔ ∀ i k, w_in s i → d_N E i k = true → w_in s k := by
    constructor
    · rintro rfl i k hi hk
      unfold d_N at hk
      exact ((g4 i).mp hi).2 k (d_dec_t.mp hk)
    · intro h
      apply w_ext
      intro i
      rw [g4 i]
      refine ⟨fun z => z.1, fun z => ⟨z, fun k hk => h i k z ?_⟩⟩
      unfold d_N
      exact d_dec_t.mpr hk
  rcases g1 with rfl | rfl
  · rw [if_pos rfl, d_b1]
    by_cases hus : u = s
    · rw [if_pos (congrArg nI hus), d_b4]
      have key : v3 = 1 ↔ d_adm Ru no Of Os base E s := g6.trans ⟨fun z => ⟨hK.mp rfl, hN.mp hus, z⟩, fun z => z.2.2⟩
      rcases g5 with rfl | rfl
      · rw [if_pos rfl]
        exact ⟨0, I1, J1, P1, rfl, Or.inl rfl, key, fun o ho => g7 o (by omega), g8, g9⟩
      · rw [if_neg (by decide)]
        exact ⟨1, I1, J1, P1, rfl, Or.inr rfl, key, fun o ho => g7 o (by omega), g8, g9⟩
    · rw [if_neg (fun z => hus ((nI_eq (by omega) (by omega)).mp z))]
      exact ⟨0, I, J, P, rfl, Or.inl rfl, ⟨fun z => absurd z (by decide), fun z => absurd (hN.mpr z.2.1) hus⟩, fun _ _ => rfl, fun _ _ => rfl, hi⟩
  · rw [if_neg (by decide)]
    exact ⟨0, I, J, P, rfl, Or.inl rfl, ⟨fun z => absurd z (by decide), fun z => absurd (hK.mpr z.1) (by decide)⟩, fun _ _ => rfl, fun _ _ => rfl, hi⟩
theorem d_cs_54 {I' : q_I} {P' : q_P} (h4 : d_inj P 84 24) (g1 : ∀ o, o < 53 ∨ 80 ≤ o → I' o = I o) (g2 : d_pr 55 P P') (g3 : d_inj P' 55 24) : d_cs I I' P P' := by
  refine ⟨fun o ho => g1 o (by unfold d_rel at ho; omega), fun a q1 q2 => g2 a q1, g3, ?_⟩
  unfold d_inj
  rw [g2 84 (by decide)]
  exact h4
theorem d_eAtC (hc : d_cl1 I P 1 n Ru no Of Os base E kn nx ac) (hn12 : n ≤ 12) {k : Nat} (hk : k < n) : f_CR_editAt I (nI k) = some (nI (E k 0)) := by
  obtain ⟨⟨C, N, hcw⟩, hc2, hc3, hc4⟩ := hc
  unfold f_CR_editAt
  rw [hc2, if_neg (nI_ge hk (by omega)), d_eat hc2 hn12 (by omega) (by omega), d_b1]
  show q_ck (cE (1 + 26 + 2 * k)) (some (I (1 + 26 + 2 * k) 0)) = _
  unfold q_ck
  rw [if_pos (cE27 k (by omega)), (hcw.2.2.2.2 k hk).1.1 0 (by omega)]
theorem w_nd_x {a k : Nat} (h : w_in a k) : a ^^^ 2 ^ k = w_nd a (2 ^ k) := by
  unfold w_nd
  congr 1
  apply w_ext
  intro i
  rw [w_in_and, w_in_2]
  exact ⟨fun z => by subst z; exact ⟨h, rfl⟩, fun z => z.2⟩
theorem d_obsL {i a : Nat} (ha : d_ab t n Ru no Of Os base E kn nx ac) (hc : d_cl1 I P 1 n Ru no Of Os base E kn nx ac) (hm : d_ml1 (M 1) n Ru no Of Os base E kn nx) (hi : i < n) (haa : a < 2 ^ n) :
    ∀ (d k fu fu2 : Nat) (I1 : q_I) (J1 : q_J) (P1 : q_P) (M1 : q_I) (J2 : q_J), k + d = n → d < fu → d < fu2 → d_cs I I1 P P1 → d_mf M M1 →
    ∃ v I' J' P' M' J2', f_CR_obstacle_L1 (nI i) (nI a) (fun (x3 : Int32) (I3 : q_I) (J3 : q_J) (P3 : q_P) => q_b1 (f_CR_editAt I3 x3) (fun v6 => some (v6, I3, J3, P3))) fu (nI k) I1 J1 P1 = some (v, I', J', P') ∧ f_Mo_obstacle_L1 (nI i) (nI a) (fun (x2 : Int32) (I5 : q_I) (J5 : q_J) => q_b1 (f_Mo_edit x2 0) (fun v6 => q_ix v6 280 (fun j2 => some ((I5 1 j2), I5, J5)))) fu2 (nI k) M1 J2 = some (v, M', J2') ∧ d_cs I I' P P' ∧ d_mf M M' := by
  have hn12 : n ≤ 12 := ha.1.2.2.2.2.2.2.2.2
  have h12 : (2 : Nat) ^ n ≤ 2 ^ 12 := Nat.pow_le_pow_right (by decide) hn12
  intro d
  induction d with
  | zero =>
    intro k fu fu2 I1 J1 P1 M1 J2 hk hf hf2 hcs hmf
    obtain ⟨fu, rfl, -⟩ := d_fuel hf
    obtain ⟨fu2, rfl, -⟩ := d_fuel hf2
    have hc1 := d_cl1_cs hc hn12 hcs
    have hm1 := d_mwf hm hmf
    unfold f_CR_obstacle_L1 f_Mo_obstacle_L1
    rw [d_x0, hc1.2.1, hm1.1.1, if_pos (nI_le (by omega) (by omega)), if_pos (nI_le (by omega) (by omega))]
    exact ⟨_, _, _, _, _, _, rfl, rfl, hcs, hmf⟩
  | succ d ih =>
    intro k fu fu2 I1 J1 P1 M1 J2 hk hf hf2 hcs hmf
    obtain ⟨fu, rfl, hf⟩ := d_fuel hf
    obtain ⟨fu2, rfl, hf2⟩ := d_fuel hf2
    have hc1 := d_cl1_cs hc hn12 hcs
    have hm1 := d_mwf hm hmf
    have hkn : k < n := by omega
    have h2k := dn_2lt hkn
    have h2i := dn_2lt hi
    unfold f_CR_obstacle_L1 f_Mo_obstacle_L1
    rw [d_x0, hc1.2.1, hm1.1.1, if_neg (nI_ge hkn (by omega)), if_neg (nI_ge hkn (by omega)), dn_has (by omega) (by omega), d_b1, nI_1]
    by_cases hin : w_in a k
    · rw [if_pos hin, if_neg (show ¬ (1 : Int32) = 0 by decide), if_pos ((dn_b1 (by omega) (by omega)).mpr hin), dn_pos (by omega), dn_pos (by omega), dn_nd (by omega) (by omega), dn_xor (by omega) (by omega), w_nd_x hin]
      have hx := dn_ndlt (b := 2 ^ k) haa
      have hx2 := dn_orlt hx h2i
      rw [dn_or (by omega) (by omega)]
      obtain ⟨⟨C, N, hcw⟩, hc2, -⟩ := hc1
      obtain ⟨v1, I2, J3, P2, e1, g1, g2, g3, g4, g5⟩ := d_admitsC (J := J1) hcw ha.1 hcs.2.2.1 hx2
      obtain ⟨v2, M2, J4, e2, g6, g7, g8⟩ := d_madm (J := J2) hm1.1 ha.1 hx2
      have hcs2 := d_cs_tr hcs (d_cs_54 hcs.2.2.2 (fun o ho => g3 o (by omega)) g4 g5)
      have hmf2 := d_mf_tr hmf g8
      rw [e1, d_b4, e2, d_b3]
      have hv : v1 = v2 := by
        have : v1 = 1 ↔ v2 = 1 := g2.trans g7.symm
        rcases g1 with rfl | rfl
        · rcases g6 with rfl | rfl
          · rfl
          · exact absurd (this.mpr rfl) (by decide)
        · exact (this.mp rfl).symm
      subst hv
      rcases g1 with rfl | rfl
      · rw [if_pos rfl, if_pos rfl]
        exact ih (k + 1) fu fu2 I2 J3 P2 M2 J4 (by omega) (by omega) (by omega) hcs2 hmf2
      · have hm2 := d_mwf hm hmf2
        rw [if_neg (show ¬ (1 : Int32) = 0 by decide), if_neg (show ¬ (1 : Int32) = 0 by decide), d_eAtC (d_cl1_cs hc hn12 hcs2) hn12 hkn, d_b1, d_me0, d_b1, d_ix (by omega) (by omega), (hm2.1.2.2.2.2.2.2.2.1 k hkn).1 0 (by omega)]
        exact ⟨_, _, _, _, _, _, rfl, rfl, hcs2, hmf2⟩
    · rw [if_neg hin, if_pos rfl, if_neg (fun z => hin ((dn_b1 (by omega) (by omega)).mp z))]
      exact ih (k + 1) fu fu2 I1 J1 P1 M1 J2 (by omega) (by omega) (by omega) hcs hmf
end DA
theorem d_stv_s {kn U ac i : Nat} : d_stv kn U ac i = 0 ∨ d_stv kn U ac i = 1 ∨ (d_stv kn U ac i = 2 ∧ w_in U i) ∨ (d_stv kn U ac i = 3 ∧ w_in U i) := by
  unfold d_stv
  by_cases h1 : w_in kn i
  · rw [if_pos h1]
    by_cases h2 : w_in U i
    · rw [if_pos h2]
      by_cases h3 : w_in ac i
      · rw [if_pos h3]
        exact Or.inr (Or.inr (Or.inr ⟨rfl, h2⟩))
      · rw [if_neg h3]
        exact Or.inr (Or.inr (Or.inl ⟨rfl, h2⟩))
    · rw [if_neg h2]
      exact Or.inr (Or.inl rfl)
  · rw [if_neg h1]
    exact Or.inl rfl
theorem y2_obstacle {t : Nat} {I : q_I} {J J2 : q_J} {P : q_P} {M : q_I} (h : d_Z t I P M) (a1 a2 : Int32) : ∃ v I' J' P' M' J2', f_CR_obstacle I J P a1 a2 = some (v, I', J', P') ∧ f_Mo_obstacle M J2 a1 a2 = some (v, M', J2') ∧ d_Z (t + 1) I' P' M' := by
  have h0 := h
  obtain ⟨⟨n, Ru, no, Of, Os, base, E, kn, nx, ac, ha, hc, hm⟩, h2, h3, h4, h5, h6⟩ := h
  have hn12 : n ≤ 12 := ha.1.2.2.2.2.2.2.2.2
  have hz := d_Zt h0 (show t ≤ t + 1 by omega)
  have c10 : ¬ (1 : Int32) = 0 := by decide
  unfold f_CR_obstacle f_Mo_obstacle
  rw [d_repC]
  rcases d_fe2 hc hm hn12 a2 with ⟨e1, e2⟩ | ⟨i, hi, -, e1, e2⟩
  · rw [e1, e2, d_b1, d_b1]
    rcases d_rep a1 with ⟨e, -⟩ | ⟨r, hr, rfl, e⟩
    · rw [e, d_b1, d_b1, if_pos rfl, if_pos rfl]
      exact ⟨_, _, _, _, _, _, rfl, rfl, hz⟩
    · rw [e, d_b1, d_b1, if_neg c10, if_neg c10, if_neg (show ¬ (0 : Int32) ≤ -4 by decide), if_neg (show ¬ (0 : Int32) ≤ -1 by decide)]
      exact ⟨_, _, _, _, _, _, rfl, rfl, hz⟩
  · rw [e1, e2, d_b1, d_b1]
    rcases d_rep a1 with ⟨e, -⟩ | ⟨r, hr, rfl, e⟩
    · rw [e, d_b1, d_b1, if_pos rfl, if_pos rfl]
      exact ⟨_, _, _, _, _, _, rfl, rfl, hz⟩
    · obtain ⟨U, g1, g2, e3⟩ := d_standC ha hc hr hi
      obtain ⟨U', M1, J1, g3, g4, e4, g5⟩ := d_stOf (J := J2) ha hm hr hi
      have := d_us_u g2 g4
      subst this
      have h25 : I 26 r = nI (ac r) := (hc.2.2.2 r hr).2
      rw [e, d_b1, d_b1, if_neg c10, if_neg c10, if_pos (nI_pos' (show i < 2 ^ 31 by omega)), if_pos (nI_pos' (show i < 2 ^ 31 by omega)), e3, d_b1, e4, d_b3]
      by_cases h2s : d_stv (kn r) U (ac r) i = 2
      · rw [if_pos h2s, if_pos h2s, d_ix hr (by decide), d_l, h25]
        obtain ⟨M2, J3, e5, g6⟩ := d_accR (J := J1) ha (d_mwf hm g5) hr
        rw [e5, d_b3]
        obtain ⟨v, I', J', P', M', J2', x1, x2, x3, x4⟩ := d_obsL ha hc hm hi (ha.2.2.2.2.2.1 r hr).2.1 n 0 q_fu q_fu I J P M2 J3 (by omega) (d_q (by omega)) (d_q (by omega)) (d_cs_rf h0) (d_mf_tr g5 g6)
        exact ⟨v, I', J', P', M', J2', x1, x2, d_Z_fr h0 (by omega) x3 (d_ms_mf x4)⟩
      · rw [if_neg h2s, if_neg h2s]
        exact ⟨_, _, _, _, _, _, rfl, rfl, d_Z_fr h0 (by omega) (d_cs_rf h0) (d_ms_mf g5)⟩
theorem y2_cost {t : Nat} {I : q_I} {J J2 : q_J} {P : q_P} {M : q_I} (h : d_Z t I P M) (a1 a2 : Int32) : ∃ v I' J' P' M' J2', f_CR_cost I J P a1 a2 = some (v, I', J', P') ∧ f_Mo_cost M J2 a1 a2 = some (v, M', J2') ∧ d_Z (t + 1) I' P' M' := by
  have h0 := h
  obtain ⟨⟨n, Ru, no, Of, Os, base, E, kn, nx, ac, ha, hc, hm⟩, h2, h3, h4, h5, h6⟩ := h
  have hn12 : n ≤ 12 := ha.1.2.2.2.2.2.2.2.2
  have h12 : (2 : Nat) ^ n ≤ 2 ^ 12 := Nat.pow_le_pow_right (by decide) hn12
  have hz := d_Zt h0 (show t ≤ t + 1 by omega)
  have c10 : ¬ (1 : Int32) = 0 := by decide
  unfold f_CR_cost f_Mo_cost
  rw [d_repC]
  rcases d_fe2 hc hm hn12 a2 with ⟨e1, e2⟩ | ⟨i, hi, -, e1, e2⟩
  · rw [e1, e2, d_b1, d_b1]
    rcases d_rep a1 with ⟨e, -⟩ | ⟨r, hr, rfl, e⟩
    · rw [e, d_b1, d_b1, if_pos rfl, if_pos rfl]
      exact ⟨_, _, _, _, _, _, rfl, rfl, hz⟩
    · rw [e, d_b1, d_b1, if_neg c10, if_neg c10, if_neg (show ¬ (0 : Int32) ≤ -4 by decide), if_neg (show ¬ (0 : Int32) ≤ -1 by decide)]
      exact ⟨_, _, _, _, _, _, rfl, rfl, hz⟩
  · rw [e1, e2, d_b1, d_b1]
    rcases d_rep a1 with ⟨e, -⟩ | ⟨r, hr, rfl, e⟩
    · rw [e, d_b1, d_b1, if_pos rfl, if_pos rfl]
      exact ⟨_, _, _, _, _, _, rfl, rfl, hz⟩
    · obtain ⟨U, g1, g2, e3⟩ := d_standC ha hc hr hi
      obtain ⟨U', M1, J1, g3, g4, e4, g5⟩ := d_stOf (J := J2) ha hm hr hi
      have := d_us_u g2 g4
      subst this
      have h24 : I 25 r = nI (kn r) := (hc.2.2.2 r hr).1
      have h25 : I 26 r = nI (ac r) := (hc.2.2.2 r hr).2
      rw [e, d_b1, d_b1, if_neg c10, if_neg c10, if_pos (nI_pos' (show i < 2 ^ 31 by omega)), if_pos (nI_pos' (show i < 2 ^ 31 by omega)), e3, d_b1, e4, d_b3]
      by_cases h2s : (2 : Int32) ≤ d_stv (kn r) U (ac r) i
      · have h2i := dn_2lt hi
        have hk := (ha.2.2.2.2.2.1 r hr).1
        have hac := (ha.2.2.2.2.2.1 r hr).2.1
        have hm1 := d_mwf hm g5
        obtain ⟨⟨C, N, hcw⟩, hc2, hc3, hc4⟩ := hc
        obtain ⟨v1, I1, J3, P1, b, x1, x2, x3, x4, x5, x6, x7⟩ := d_heav (I := I) (J := J) (P := P) (mg := 53) (kn := kn r) (req := 2 ^ i) hcw ha.1 cM54 (by omega) h3 hk h2i ha.2.1
        obtain ⟨M2, J4, b', y1, y2, y3⟩ := d_mbest (J := J1) (req := 2 ^ i) hm1.1 ha.1 hr hk (hm1.2.2 r hr) h2i
        have := d_acc_u x2 y3
        subst this
        have hcs := d_cs_54 (I := I) (P := P) h4 x4 x6 x7
        rw [if_pos h2s, if_pos h2s, d_ix hr (by decide), h24, dn_pos (by omega), x1, d_b4, y1, d_b3]
        cases b with
        | none =>
          have x3' : v1 = -4 := x3
          rw [x3', if_neg (show ¬ (0 : Int32) ≤ -4 by decide), if_neg (show ¬ (0 : Int32) ≤ d_bo none by decide)]
          exact ⟨_, _, _, _, _, _, rfl, rfl, d_Z_fr h0 (by omega) hcs (d_ms_mf (d_mf_tr g5 y2))⟩
        | some s =>
          obtain ⟨rfl, hs⟩ := x3
          have hm2 := d_mwf hm (d_mf_tr g5 y2)
          obtain ⟨M3, J5, e5, g6⟩ := d_accR (J := J4) ha hm2 hr
          have hm3 := d_mwf hm2 g6
          have hcw1 := d_cw_fr hcw hn12 (fun o q1 q2 => x4 o (by omega)) (x6 _ (by decide))
          rw [show d_bo (some s) = nI s from rfl, if_pos (nI_pos' (show s < 2 ^ 31 by omega)), if_pos (nI_pos' (show s < 2 ^ 31 by omega)), d_ix hr (by decide), x4 26 (by decide), h25, d_wei hcw1.2.2.2 hn12 (d_wf_w ha.1) hac, d_b1, d_wei hcw1.2.2.2 hn12 (d_wf_w ha.1) hs, d_b1, e5, d_b3, d_mwt hm3.1 hn12 hac, d_b1, d_mwt hm3.1 hn12 hs, d_b1]
          exact ⟨_, _, _, _, _, _, rfl, rfl, d_Z_fr h0 (by omega) hcs (d_ms_mf (d_mf_tr (d_mf_tr g5 y2) g6))⟩
      · rw [if_neg h2s, if_neg h2s]
        exact ⟨_, _, _, _, _, _, rfl, rfl, d_Z_fr h0 (by omega) (d_cs_rf h0) (d_ms_mf g5)⟩
