def d_Fr (Ru : Nat → Nat → Nat) (L : List (Nat → Nat)) (rm x dur : Nat) : Prop := ∀ i, i < 96 → d_rg x (x + dur) i → ¬ d_rg (Ru 1 rm) (Ru 2 rm) i ∧ ∀ m, m ∈ L → m 3 = rm → ¬ d_S m i
section DF
variable {M : q_I} {Ru : Nat → Nat → Nat} {L : List (Nat → Nat)}
theorem d_frC {J : q_J} {rm x dur : Nat} (hrm : rm ≤ 3) (hx : x + dur ≤ 1000) (h : d_tt J 109 (d_R Ru L)) : ∃ v, f_TT_isFree J 109 (nI (2 ^ rm)) (nI x) (nI (x + dur)) = some v ∧ (v = 0 ∨ v = 1) ∧ (v = 1 ↔ d_Fr Ru L rm x dur) := by
  have h2 := dn_2lt (i := rm) (n := 10) (by omega)
  obtain ⟨v, e, g1, g2⟩ := d_free (rows := 2 ^ rm) (f := x) (t := x + dur) (by omega) (by omega) (by omega) h
  refine ⟨v, e, g1, g2.trans ?_⟩
  unfold d_Fr d_R
  constructor
  · intro q i hi hrg
    have z := q rm (by omega) (w_in_2.mpr rfl) i hi
    refine ⟨fun q1 => z ⟨Or.inl (Or.inl ⟨by omega, q1⟩), hrg⟩, fun m hm h3 hS => z ⟨Or.inr ⟨m, hm, d_rows_in.mpr (Or.inl h3.symm), hS⟩, hrg⟩⟩
  · rintro q r hr hin i hi ⟨q1, q2⟩
    have := w_in_2.mp hin
    subst this
    obtain ⟨z1, z2⟩ := q i hi q2
    rcases q1 with q1 | ⟨m, q3, q4, q5⟩
    · rcases q1 with ⟨-, q1⟩ | ⟨q1, -⟩
      · exact z1 q1
      · omega
    · rcases d_rows_in.mp q4 with q6 | ⟨q6, -⟩
      · exact z2 m q3 q6.symm q5
      · omega
theorem d_frM {J : q_J} {rm x dur : Nat} (hrm : rm ≤ 3) (hx : x + dur ≤ 1000) (hm : d_mc M L) (hmt : ∀ m, m ∈ L → d_mt m) (hrv : d_rv Ru) (hv1 : ∀ x, x < 4 → M 1 (8 + x) = nI (Ru 0 x) ∧ M 1 (12 + x) = nI (Ru 1 x) ∧ M 1 (16 + x) = nI (Ru 2 x)) (hs : ∀ j a, L[j]? = some a → d_lh J j (fun s => d_S a s)) (K : Int32 → Option (Int32 × q_I × q_J)) :
    ∃ v, q_b1 (f_Mo_slots (nI x) (nI (x + dur)) 0) (fun w1 => q_b1 (if (lg_cmp w1 0) = 0 then ((some (1))) else (q_b1 (f_Mo_slots (nI x) (nI (x + dur)) 0) (fun w4 => q_ix (12 + nI rm) 280 (fun j4 => q_ix (16 + nI rm) 280 (fun j5 => q_b1 (f_Mo_slots (M 1 j4) (M 1 j5) 0) (fun w5 => if (lg_cmp (w4 &&& w5) 0) = 0 then ((some (1))) else ((some (0)))))))) : Option (Int32)) (fun (x3 : Int32) => q_b1 (if x3 = 0 then ((some (0))) else (q_b1 (f_Mo_slots (nI x) (nI (x + dur)) 48) (fun w2 => q_ix (12 + nI rm) 280 (fun j2 => q_ix (16 + nI rm) 280 (fun j3 => q_b1 (f_Mo_slots (M 1 j2) (M 1 j3) 48) (fun w3 => if (lg_cmp (w2 &&& w3) 0) = 0 then ((some (1))) else ((some (0)))))))) : Option (Int32)) (fun (x4 : Int32) => f_Mo_freeStart_L3 (nI rm) (nI dur) M J (nI x) K q_fu x4 0))) = K v ∧ (v = 0 ∨ v = 1) ∧ (v = 1 ↔ d_Fr Ru L rm x dur) := by
  have hvr := hv1 rm (by omega)
  have hRr := hrv.1 rm (by omega)
  obtain ⟨w1, e1, g1⟩ := d_ms0 (f := x) (t := x + dur) (by omega) (by omega)
  obtain ⟨w2, e2, g2⟩ := d_ms48 (f := x) (t := x + dur) (by omega) (by omega)
  obtain ⟨w3, e3, g3⟩ := d_ms0 (f := Ru 1 rm) (t := Ru 2 rm) (by omega) (by omega)
  obtain ⟨w4, e4, g4⟩ := d_ms48 (f := Ru 1 rm) (t := Ru 2 rm) (by omega) (by omega)
  have a0 : ∃ x3, (if (lg_cmp w1 0) = 0 then ((some (1))) else (q_b1 (some w1) (fun w4 => q_ix (12 + nI rm) 280 (fun j4 => q_ix (16 + nI rm) 280 (fun j5 => q_b1 (f_Mo_slots (M 1 j4) (M 1 j5) 0) (fun w5 => if (lg_cmp (w4 &&& w5) 0) = 0 then ((some (1))) else ((some (0)))))))) : Option (Int32)) = some x3 ∧ (x3 = 0 ∨ x3 = 1) ∧ (x3 = 1 ↔ ∀ i, i < 48 → ¬ (d_rg x (x + dur) i ∧ d_rg (Ru 1 rm) (Ru 2 rm) i)) := by
    by_cases h : lg_cmp w1 0 = 0
    · rw [if_pos h]
      rw [dn_lgz g1] at h
      exact ⟨1, rfl, Or.inr rfl, fun _ i hi q => h i hi q.1, fun _ => rfl⟩
    · rw [if_neg h, d_b1, d_k12, d_ix (by omega) (by omega), d_k16, d_ix (by omega) (by omega), hvr.2.1, hvr.2.2, e3, d_b1]
      by_cases h2 : lg_cmp (w1 &&& w3) 0 = 0
      · rw [if_pos h2]
        rw [dn_lgand g1 g3] at h2
        exact ⟨1, rfl, Or.inr rfl, fun _ => h2, fun _ => rfl⟩
      · rw [if_neg h2]
        rw [dn_lgand g1 g3] at h2
        exact ⟨0, rfl, Or.inl rfl, fun q => absurd q (by decide), fun q => absurd q h2⟩
  obtain ⟨x3, e5, g5, g6⟩ := a0
  have a1 : ∃ x4, (if x3 = 0 then ((some (0))) else (q_b1 (some w2) (fun w2 => q_ix (12 + nI rm) 280 (fun j2 => q_ix (16 + nI rm) 280 (fun j3 => q_b1 (f_Mo_slots (M 1 j2) (M 1 j3) 48) (fun w3 => if (lg_cmp (w2 &&& w3) 0) = 0 then ((some (1))) else ((some (0)))))))) : Option (Int32)) = some x4 ∧ (x4 = 0 ∨ x4 = 1) ∧ (x4 = 1 ↔ ∀ i, i < 96 → ¬ (d_rg x (x + dur) i ∧ d_rg (Ru 1 rm) (Ru 2 rm) i)) := by
    rcases g5 with rfl | rfl
    · rw [if_pos rfl]
      exact ⟨0, rfl, Or.inl rfl, fun q => absurd q (by decide), fun q => absurd (g6.mpr (fun i hi => q i (by omega))) (by decide)⟩
    · have h1 := g6.mp rfl
      rw [if_neg (by decide), d_b1, d_k12, d_ix (by omega) (by omega), d_k16, d_ix (by omega) (by omega), hvr.2.1, hvr.2.2, e4, d_b1]
      by_cases h2 : lg_cmp (w2 &&& w4) 0 = 0
      · rw [if_pos h2]
        rw [dn_lgand g2 g4] at h2
        refine ⟨1, rfl, Or.inr rfl, fun _ i hi => ?_, fun _ => rfl⟩
        by_cases hi48 : i < 48
        · exact h1 i hi48
        · have := h2 (i - 48) (by omega)
          rw [show i - 48 + 48 = i by omega] at this
          exact this
      · rw [if_neg h2]
        rw [dn_lgand g2 g4] at h2
        exact ⟨0, rfl, Or.inl rfl, fun q => absurd q (by decide), fun q => absurd (fun i hi => q (i + 48) (by omega)) h2⟩
  obtain ⟨x4, e6, g7, g8⟩ := a1
  obtain ⟨v, e7, g9, g10⟩ := d_frL3 (J := J) hrm hx hm hmt hs K L.length 0 q_fu x4 (by omega) (d_q (by have := hm.2.1; omega)) g7
  have e7' : f_Mo_freeStart_L3 (nI rm) (nI dur) M J (nI x) K q_fu x4 0 = K v := e7
  rw [e1, d_b1, e5, d_b1, e2, e6, d_b1, e7']
  refine ⟨v, rfl, g9, g10.trans ?_⟩
  rw [g8]
  unfold d_Fr
  constructor
  · rintro ⟨q1, q2⟩ i hi hrg
    refine ⟨fun z => q1 i hi ⟨hrg, z⟩, fun m hmm h3 hS => ?_⟩
    obtain ⟨j, hj, hjm⟩ := List.getElem_of_mem hmm
    exact q2 j m (Nat.zero_le _) (by rw [List.getElem?_eq_getElem hj, hjm]) h3 i hi ⟨hS, hrg⟩
  · intro q
    exact ⟨fun i hi z => (q i hi z.1).1 z.2, fun j m _ hj h3 i hi z => (q i hi z.2).2 m (List.mem_of_getElem? hj) h3 z.1⟩
theorem d_frL {I : q_I} {P : q_P} {J1 J4 : q_J} {rm dur : Nat} (hrm : rm ≤ 3) (hd : 1 ≤ dur ∧ dur ≤ 8) (h : d_tt J1 109 (d_R Ru L)) (hm : d_mc M L) (hmt : ∀ m, m ∈ L → d_mt m) (hrv : d_rv Ru) (hv1 : ∀ x, x < 4 → M 1 (8 + x) = nI (Ru 0 x) ∧ M 1 (12 + x) = nI (Ru 1 x) ∧ M 1 (16 + x) = nI (Ru 2 x)) (hs : ∀ j a, L[j]? = some a → d_lh J4 j (fun s => d_S a s)) : ∀ (d x fu fu2 : Nat), x + d = 96 → d < fu → d < fu2 → ∃ v, f_CR_freeStart_L1 (nI rm) (nI dur) I J1 P fu (nI x) = some (v, I, J1, P) ∧ f_Mo_freeStart_L2 (nI rm) (nI dur) M J4 fu2 (nI x) = some (v, M, J4) := by
  intro d
  induction d with
  | zero =>
    intro x fu fu2 hx hf hf2
    obtain ⟨fu, rfl, -⟩ := d_fuel hf
    obtain ⟨fu2, rfl, -⟩ := d_fuel hf2
    unfold f_CR_freeStart_L1 f_Mo_freeStart_L2
    rw [nI_add, if_pos (show (96 : Int32) < nI (x + dur) from nI_lt (a := 96) (by omega) (by omega)), if_pos (show (96 : Int32) < nI (x + dur) from nI_lt (a := 96) (by omega) (by omega))]
    exact ⟨_, rfl, rfl⟩
  | succ d ih =>
    intro x fu fu2 hx hf hf2
    obtain ⟨fu, rfl, hf⟩ := d_fuel hf
    obtain ⟨fu2, rfl, hf2⟩ := d_fuel hf2
    unfold f_CR_freeStart_L1 f_Mo_freeStart_L2
    rw [nI_add]
    by_cases h96 : 96 < x + dur
    · rw [if_pos (show (96 : Int32) < nI (x + dur) from nI_lt (a := 96) h96 (by omega)), if_pos (show (96 : Int32) < nI (x + dur) from nI_lt (a := 96) h96 (by omega))]
      exact ⟨_, rfl, rfl⟩
    · rw [if_neg (show ¬ (96 : Int32) < nI (x + dur) from nI_nlt (a := 96) (by omega) (by decide)), if_neg (show ¬ (96 : Int32) < nI (x + dur) from nI_nlt (a := 96) (by omega) (by decide)), dn_pos (by omega)]
      obtain ⟨v1, e1, g1, g2⟩ := d_frC (L := L) (Ru := Ru) (x := x) (dur := dur) hrm (by omega) h
      obtain ⟨v2, e2, g3, g4⟩ := d_frM (L := L) (Ru := Ru) (x := x) (dur := dur) hrm (by omega) hm hmt hrv hv1 hs (fun (x7 : Int32) => if x7 = 0 then ((f_Mo_freeStart_L2 (nI rm) (nI dur) M J4 fu2 (nI x + 1))) else (some (nI x, M, J4)))
      rw [e1, d_b1, e2]
      have hv : v1 = v2 := by
        have : v1 = 1 ↔ v2 = 1 := g2.trans g4.symm
        rcases g1 with rfl | rfl
        · rcases g3 with rfl | rfl
          · rfl
          · exact absurd (this.mpr rfl) (by decide)
        · exact (this.mp rfl).symm
      subst hv
      rcases g1 with rfl | rfl
      · rw [if_pos rfl, if_pos rfl, nI_1]
        exact ih (x + 1) fu fu2 (by omega) (by omega) (by omega)
      · rw [if_neg (show ¬ (1 : Int32) = 0 by decide), if_neg (show ¬ (1 : Int32) = 0 by decide)]
        exact ⟨_, rfl, rfl⟩
end DF
theorem y2_freeStart {t : Nat} {I : q_I} {J J2 : q_J} {P : q_P} {M : q_I} (h : d_Z t I P M) (a1 a2 a3 a4 : Int32) : ∃ v I' J' P' M' J2', f_CR_freeStart I J P a1 a2 a3 a4 = some (v, I', J', P') ∧ f_Mo_freeStart M J2 a1 a2 a3 a4 = some (v, M', J2') ∧ d_Z (t + 1) I' P' M' := by
  have h0 := h
  obtain ⟨⟨n, Ru, no, Of, Os, base, E, kn, nx, ac, ha, hc, hm⟩, h2, h3, h4, h5, h6⟩ := h
  have c10 : ¬ (1 : Int32) = 0 := by decide
  have hz := d_Zt h0 (show t ≤ t + 1 by omega)
  unfold f_CR_freeStart f_Mo_freeStart
  rw [d_repC, dn_within, d_durE, d_startE]
  rcases d_rep a1 with ⟨e, -⟩ | ⟨r, hr, rfl, e⟩
  · rw [e, d_b1, d_b1, if_pos rfl, if_pos rfl]
    exact ⟨_, _, _, _, _, _, rfl, rfl, hz⟩
  rw [e, d_b1, d_b1, if_neg c10, if_neg c10]
  rcases d_inL a2 0 3 0 3 rfl rfl (by decide) (by decide) with ⟨e2, -⟩ | ⟨rm, -, hrm, rfl, e2⟩
  · rw [e2, d_b1, d_b1, if_pos rfl, if_pos rfl]
    exact ⟨_, _, _, _, _, _, rfl, rfl, hz⟩
  rw [e2, d_b1, d_b1, if_neg c10, if_neg c10]
  rcases d_inL a3 1 8 1 8 rfl rfl (by decide) (by decide) with ⟨e3, -⟩ | ⟨dur, hd1, hd, rfl, e3⟩
  · rw [e3, d_b1, d_b1, if_pos rfl, if_pos rfl]
    exact ⟨_, _, _, _, _, _, rfl, rfl, hz⟩
  rw [e3, d_b1, d_b1, if_neg c10, if_neg c10]
  rcases d_inL a4 0 95 0 95 rfl rfl (by decide) (by decide) with ⟨e4, -⟩ | ⟨x, -, hx, rfl, e4⟩
  · rw [e4, d_b1, d_b1, if_pos rfl, if_pos rfl]
    exact ⟨_, _, _, _, _, _, rfl, rfl, hz⟩
  rw [e4, d_b1, d_b1, if_neg c10, if_neg c10]
  obtain ⟨I1, J1, P1, e5, g1, g2, g3⟩ := d_fillT (J := J) ha hc h3 h4 hr
  obtain ⟨M1, J3, e6, g4, g5⟩ := d_showR (J := J2) ha hm hr
  have hf := d_acfm ha hr
  have hm1 := d_mwf hm g5
  obtain ⟨J4, e7, g6⟩ := d_frL1 g4 hf.2.1 (fun (J4 : q_J) => f_Mo_freeStart_L2 (nI rm) (nI dur) M1 J4 q_fu (nI x)) (d_fm base E (ac r) 12).length 0 q_fu J3 (by omega) (d_q (by omega)) (fun j a hj => by omega)
  have e7' : f_Mo_freeStart_L1 M1 (fun (J4 : q_J) => f_Mo_freeStart_L2 (nI rm) (nI dur) M1 J4 q_fu (nI x)) q_fu 0 J3 = f_Mo_freeStart_L2 (nI rm) (nI dur) M1 J4 q_fu (nI x) := e7
  obtain ⟨v, x1, x2⟩ := d_frL (I := I1) (P := P1) hrm ⟨hd1, hd⟩ g1 g4 hf.2.1 ha.2.2.2.2.2.2.1 hm1.1.2.2.2.1 g6 (96 - x) x q_fu q_fu (by omega) (d_q (by omega)) (d_q (by omega))
  rw [e5, d_b3, e6, d_b2, e7', x1, x2]
  exact ⟨_, _, _, _, _, _, rfl, rfl, d_Z_fr h0 (by omega) g3 (d_ms_mf g5)⟩
