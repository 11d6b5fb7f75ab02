def d_T (Ru : Nat → Nat → Nat) (no : Nat) (Of Os : Nat → Int32) (base : List (Nat → Nat)) (E : Nat → Nat → Nat) (i S : Nat) (y : Int32) : Prop := ∃ z, z ≤ 95 ∧ y = nI z ∧ d_adm Ru no Of Os base (d_stE E i z) S
section DT
variable {t n i S : Nat} {I : q_I} {P : q_P} {M : q_I} {Ru : Nat → Nat → Nat} {no : Nat} {Of Os : Nat → Int32} {base : List (Nat → Nat)} {E : Nat → Nat → Nat} {C N : Nat → Nat}
theorem d_setS {I1 : q_I} {P1 : q_P} {y : Int32} (h3 : I (1 + 26 + 2 * i) 3 = nI (E i 3)) (hi : i < 12) (hk : E i 3 = 0 ∨ E i 3 = 1) (hc : d_ca (d_oc E i) (d_fc E i) I I1 P P1) : f_Ed_setStart I1 (1 + 26 + 2 * i) y = some (q_ui I1 (d_oc E i) (d_fc E i) y) := by
  have e3 : I1 (1 + 26 + 2 * i) 3 = nI (E i 3) := by
    by_cases ho : 1 + 26 + 2 * i = d_oc E i
    · have hf : d_fc E i ≠ 3 := by
        unfold d_fc
        by_cases h : E i 3 = 0
        · rw [if_pos h]; decide
        · rw [if_neg h]; decide
      rw [ho] at h3 ⊢
      rw [hc.2.1 3 (fun q => hf q.symm), h3]
    · rw [hc.1 _ (Or.inl ⟨by omega, by omega⟩) ho, h3]
  unfold f_Ed_setStart
  rw [e3]
  rcases hk with h | h
  · rw [if_pos (show nI (E i 3) = 0 by rw [h]; rfl), d_l, show d_oc E i = 1 + 26 + 2 * i + 1 from (if_pos h).trans (by omega), show d_fc E i = 1 from if_pos h]
  · rw [if_neg (show ¬ nI (E i 3) = 0 by rw [h]; decide), d_l, show d_oc E i = 1 + 26 + 2 * i from (if_neg (by omega)).trans (by omega), show d_fc E i = 5 from if_neg (by omega)]
theorem d_ca_set {I1 : q_I} {P1 : q_P} {oc fc : Nat} {y : Int32} (hc : d_ca oc fc I I1 P P1) : d_ca oc fc I (q_ui I1 oc fc y) P P1 :=
  ⟨fun o h1 h2 => by rw [d_ui_o h2]; exact hc.1 o h1 h2, fun f hf => by rw [d_ui_n hf]; exact hc.2.1 f hf, hc.2.2⟩
theorem d_tstC {J : q_J} {I1 : q_I} {P1 : q_P} (y : Int32) (hwf : d_wf base E n) (hcw : d_cw I P 1 n Ru no Of Os base E C N) (hi : i < n) (hk : E i 3 = 0 ∨ E i 3 = 1) (hc : d_ca (d_oc E i) (d_fc E i) I I1 P P1) (hS : S < 2 ^ n) : ∃ v I2 J2 P2, f_CR_admitsStart I1 J P1 (1 + 26 + 2 * i) (nI S) y = some (v, I2, J2, P2) ∧ (v = 0 ∨ v = 1) ∧ (v = 1 ↔ d_T Ru no Of Os base E i S y) ∧ d_ca (d_oc E i) (d_fc E i) I I2 P P2 := by
  have hn12 : n ≤ 12 := hwf.2.2.2.2.2.2.2.2
  unfold f_CR_admitsStart
  rw [d_startE]
  rcases d_inL y 0 95 0 95 rfl rfl (by decide) (by decide) with ⟨e, hno⟩ | ⟨z, -, hz, rfl, e⟩
  · rw [e, d_b1, if_pos rfl]
    refine ⟨0, I1, J, P1, rfl, Or.inl rfl, ⟨fun z => absurd z (by decide), fun ⟨z, z1, z2, _⟩ => absurd z2 (hno z (Nat.zero_le _) z1)⟩, hc⟩
  · have hle := d_oc_le (E := E) (i := i) (by omega)
    have hcw1 := d_stC hcw hn12 hi hk (d_ca_set (y := nI z) hc) d_ui_s
    obtain ⟨v, I2, J2, P2, x1, x2, x3, x4, x5, x6⟩ := d_admitsC (J := J) hcw1 (d_stE_wf hwf hk hz) hc.2.2.2.1 hS
    rw [e, d_b1, if_neg (by decide), d_setS ((hcw.2.2.2.2 i hi).1.1 3 (by decide)) (by omega) hk hc, d_b1, x1, d_b4, d_a1 x2]
    refine ⟨v, I2, J2, P2, rfl, x2, x3.trans ⟨fun q => ⟨z, hz, rfl, q⟩, fun ⟨z', z1, z2, z3⟩ => ?_⟩, fun o h1 h2 => ?_, fun f hf => ?_, fun a q1 q2 => ?_, x6, ?_⟩
    · have : z = z' := (nI_eq (by omega) (by omega)).mp z2
      rw [this]
      exact z3
    · rw [x4 o (by unfold d_rel at h1; omega), d_ui_o h2]
      exact hc.1 o h1 h2
    · rw [x4 _ (by omega), d_ui_n hf]
      exact hc.2.1 f hf
    · rw [x5 a q1]
      exact hc.2.2.1 a q1 q2
    · unfold d_inj
      rw [x5 84 (by decide)]
      exact hc.2.2.2.2
theorem d_mb_set {M1 : q_I} {c2 : Nat} {y : Int32} (hc : d_mb c2 M M1) : d_mb c2 M (q_ui M1 1 c2 y) :=
  ⟨fun o h1 h2 h3 => by rw [d_ui_o h3]; exact hc.1 o h1 h2 h3, fun f hf => by rw [d_ui_o (by decide)]; exact hc.2.1 f hf, fun x hx => by rw [d_ui_n hx]; exact hc.2.2 x hx⟩
theorem d_tstM {ρ : Type} {J : q_J} {M1 : q_I} (x8 y : Int32) (hwf : d_wf base E n) (hm : d_mw (M 1) n Ru no Of Os base E) (hk : E i 3 = 0 ∨ E i 3 = 1) (hc : d_mb (d_c2 E i) M M1) (hS : S < 2 ^ n) (K : Int32 → q_I → q_J → Option ρ) : ∃ v M2 J2, q_b1 (f_Mo_in y 0 95) (fun v6 => q_b3 (if v6 = 0 then ((some (x8, q_ui M1 1 (d_c2 E i) y, J))) else (q_b3 (f_Mo_isAdmissible (q_ui M1 1 (d_c2 E i) y) J (nI S)) (fun v7 I7 J6 => if v7 = 0 then ((some (x8, I7, J6))) else ((some (y, I7, J6))))) : Option (Int32 × q_I × q_J)) K) = K v M2 J2 ∧ (d_T Ru no Of Os base E i S y → v = y) ∧ (¬ d_T Ru no Of Os base E i S y → v = x8) ∧ d_mb (d_c2 E i) M M2 := by
  rcases d_inL y 0 95 0 95 rfl rfl (by decide) (by decide) with ⟨e, hno⟩ | ⟨z, -, hz, rfl, e⟩
  · rw [e, d_b1, if_pos rfl, d_b3]
    exact ⟨x8, _, J, rfl, fun ⟨z, z1, z2, _⟩ => absurd z2 (hno z (Nat.zero_le _) z1), fun _ => rfl, d_mb_set hc⟩
  · have hm1 := d_stM hm hwf.2.2.1 hk (d_mb_set (y := nI z) hc) d_ui_s
    obtain ⟨v, M2, J2, x1, x2, x3, x4⟩ := d_madm (J := J) hm1 (d_stE_wf hwf hk hz) hS
    have hmb : d_mb (d_c2 E i) M M2 := ⟨fun o h1 h2 h3 => by rw [x4.1 o h1 h2, d_ui_o h3]; exact hc.1 o h1 h2 h3, fun f hf => by rw [x4.2 f hf, d_ui_o (by decide)]; exact hc.2.1 f hf, fun x hx => by rw [x4.1 1 (by decide) (by decide), d_ui_n hx]; exact hc.2.2 x hx⟩
    have key : v = 1 ↔ d_T Ru no Of Os base E i S (nI z) := x3.trans ⟨fun q => ⟨z, hz, rfl, q⟩, fun ⟨z', z1, z2, z3⟩ => by
      have : z = z' := (nI_eq (by omega) (by omega)).mp z2
      rw [this]
      exact z3⟩
    rw [e, d_b1, if_neg (by decide), x1, d_b3]
    rcases x2 with rfl | rfl
    · rw [if_pos rfl, d_b3]
      exact ⟨x8, M2, J2, rfl, fun q => absurd (key.mpr q) (by decide), fun _ => rfl, hmb⟩
    · rw [if_neg (by decide), d_b3]
      exact ⟨nI z, M2, J2, rfl, fun _ => rfl, fun q => absurd (key.mp rfl) q, hmb⟩
theorem d_T_pos {y : Int32} (h : d_T Ru no Of Os base E i S y) : (0 : Int32) ≤ y := by
  obtain ⟨z, h1, rfl, -⟩ := h
  exact nI_pos' (by omega)
theorem d_lo {s x : Nat} (hs : s ≤ 95) (hx : x ≤ 95) : ¬ nI s + nI x < nI s - nI x := by
  rw [nI_add, Int32.lt_iff_toInt_lt, pk_sub_toInt (by omega) (by omega), nI_toInt (by omega)]
  omega
theorem d_hi {s x : Nat} : nI s - nI x + 2 * nI x = nI s + nI x := by
  rw [d_m2, show 2 * x = x + x by omega, ← nI_add, ← Int32.add_assoc, Int32.sub_add_cancel]
theorem d_alt2 {J : q_J} {M1 : q_I} {s x : Nat} (hs : s ≤ 95) (hx : x ≤ 95) (hwf : d_wf base E n) (hi : i < n) (hm : d_mw (M 1) n Ru no Of Os base E) (hk : E i 3 = 0 ∨ E i 3 = 1) (hc : d_mb (d_c2 E i) M M1) (hS : S < 2 ^ n) (K : Int32 → q_I → q_J → Option (Int32 × q_I × q_J)) :
    ∃ w M2 J2, f_Mo_alternative_L2 (nI (d_c2 E i)) (nI S) (nI s) (nI x) K q_fu (-4) (nI s - nI x) M1 J = K w M2 J2 ∧ d_mb (d_c2 E i) M M2 ∧ (d_T Ru no Of Os base E i S (nI s - nI x) → w = nI s - nI x) ∧ (¬ d_T Ru no Of Os base E i S (nI s - nI x) → d_T Ru no Of Os base E i S (nI s + nI x) → w = nI s + nI x) ∧ (¬ d_T Ru no Of Os base E i S (nI s - nI x) → ¬ d_T Ru no Of Os base E i S (nI s + nI x) → w = -4) := by
  have hn12 : n ≤ 12 := hwf.2.2.2.2.2.2.2.2
  have hc2 : d_c2 E i < 280 := by
    unfold d_c2
    by_cases h : E i 3 = 0
    · rw [if_pos h]; omega
    · rw [if_neg h]; omega
  obtain ⟨f1, q1, k1⟩ := d_fuel (n := q_fu) (d := 10) (d_q (by decide))
  obtain ⟨f2, rfl, k2⟩ := d_fuel (n := f1) (d := 9) (by omega)
  obtain ⟨f3, rfl, k3⟩ := d_fuel (n := f2) (d := 8) (by omega)
  rw [q1]
  unfold f_Mo_alternative_L2
  rw [if_neg (d_lo hs hx), if_neg (show ¬ (0 : Int32) ≤ -4 by decide), d_ix hc2 (by decide), d_l]
  obtain ⟨v, M2, J2, e1, g1, g2, g3⟩ := d_tstM (J := J) (-4) (nI s - nI x) hwf hm hk hc hS (fun (x10 : Int32) (I6 : q_I) (J5 : q_J) => if nI x = 0 then (q_l (nI s - nI x + 1 : Int32) (fun x12 => (f_Mo_alternative_L2 (nI (d_c2 E i)) (nI S) (nI s) (nI x) K (f3 + 1 + 1) x10 x12 I6 J5))) else (q_l (nI s - nI x + (2 * nI x) : Int32) (fun x11 => (f_Mo_alternative_L2 (nI (d_c2 E i)) (nI S) (nI s) (nI x) K (f3 + 1 + 1) x10 x11 I6 J5))))
  rw [e1]
  by_cases hx0 : x = 0
  · subst hx0
    have eT : nI s - nI 0 = nI s + nI 0 := by rw [pk_sub (by omega), nI_add]; rfl
    have elt : nI s + nI 0 < nI s - nI 0 + 1 := by
      rw [eT, nI_add, nI_1]
      exact nI_lt (by omega) (by omega)
    rw [if_pos (show nI 0 = 0 from rfl), d_l]
    unfold f_Mo_alternative_L2
    rw [if_pos elt]
    refine ⟨v, M2, J2, rfl, g3, g1, fun h1 h2 => ?_, fun h1 _ => g2 h1⟩
    rw [← eT] at h2
    exact absurd h2 h1
  · rw [if_neg (d_n0 (by omega) hx0), d_l, d_hi]
    by_cases hT : d_T Ru no Of Os base E i S (nI s - nI x)
    · have hv := g1 hT
      subst hv
      unfold f_Mo_alternative_L2
      rw [if_neg (show ¬ nI s + nI x < nI s + nI x by rw [nI_add]; exact nI_nlt (Nat.le_refl _) (by omega)), if_pos (d_T_pos hT)]
      exact ⟨_, M2, J2, rfl, g3, fun _ => rfl, fun h1 => absurd hT h1, fun h1 => absurd hT h1⟩
    · have hv := g2 hT
      subst hv
      unfold f_Mo_alternative_L2
      rw [if_neg (show ¬ nI s + nI x < nI s + nI x by rw [nI_add]; exact nI_nlt (Nat.le_refl _) (by omega)), if_neg (show ¬ (0 : Int32) ≤ -4 by decide), d_ix hc2 (by decide), d_l]
      obtain ⟨v2, M3, J3, e2, g4, g5, g6⟩ := d_tstM (J := J2) (-4) (nI s + nI x) hwf hm hk g3 hS (fun (x10 : Int32) (I6 : q_I) (J5 : q_J) => if nI x = 0 then (q_l (nI s + nI x + 1 : Int32) (fun x12 => (f_Mo_alternative_L2 (nI (d_c2 E i)) (nI S) (nI s) (nI x) K (f3 + 1) x10 x12 I6 J5))) else (q_l (nI s + nI x + (2 * nI x) : Int32) (fun x11 => (f_Mo_alternative_L2 (nI (d_c2 E i)) (nI S) (nI s) (nI x) K (f3 + 1) x10 x11 I6 J5))))
      rw [e2, if_neg (d_n0 (by omega) hx0), d_l]
      unfold f_Mo_alternative_L2
      rw [if_pos (show nI s + nI x < nI s + nI x + 2 * nI x by rw [d_m2, nI_add, nI_add]; exact nI_lt (by omega) (by omega))]
      exact ⟨v2, M3, J3, rfl, g6, fun h1 => absurd h1 hT, fun _ h2 => g4 h2, fun _ h2 => g5 h2⟩
theorem d_altL {s : Nat} (hs : s ≤ 95) (hwf : d_wf base E n) (hcw : d_cw I P 1 n Ru no Of Os base E C N) (hi : i < n) (hm : d_mw (M 1) n Ru no Of Os base E) (hk : E i 3 = 0 ∨ E i 3 = 1) (hS : S < 2 ^ n) (K : Int32 → q_I → q_J → Option (Int32 × q_I × q_J)) :
    ∀ (d x fu fu2 : Nat) (I1 : q_I) (J1 : q_J) (P1 : q_P) (M1 : q_I) (J2 : q_J), x + d = 96 → d < fu → d < fu2 → d_ca (d_oc E i) (d_fc E i) I I1 P P1 → d_mb (d_c2 E i) M M1 →
    ∃ v I' J' P' M' J2', f_CR_nearestStart_L1 (1 + 26 + 2 * i) (nI S) (nI s) fu (nI x) I1 J1 P1 = some (v, I', J', P') ∧ f_Mo_alternative_L1 (nI (d_c2 E i)) (nI S) (nI s) K fu2 (-4) (nI x) M1 J2 = K v M' J2' ∧ d_ca (d_oc E i) (d_fc E i) I I' P P' ∧ d_mb (d_c2 E i) M M' := by
  intro d
  induction d with
  | zero =>
    intro x fu fu2 I1 J1 P1 M1 J2 hx hf hf2 hca hmb
    obtain ⟨fu, rfl, -⟩ := d_fuel hf
    obtain ⟨fu2, rfl, -⟩ := d_fuel hf2
    have : x = 96 := by omega
    subst this
    unfold f_CR_nearestStart_L1 f_Mo_alternative_L1
    rw [if_pos (show (96 : Int32) ≤ nI 96 by decide), if_pos (show (96 : Int32) ≤ nI 96 by decide)]
    exact ⟨_, _, _, _, _, _, rfl, rfl, hca, hmb⟩
  | succ d ih =>
    intro x fu fu2 I1 J1 P1 M1 J2 hx hf hf2 hca hmb
    obtain ⟨fu, rfl, hf⟩ := d_fuel hf
    obtain ⟨fu2, rfl, hf2⟩ := d_fuel hf2
    obtain ⟨fu3, e3, -⟩ := d_fuel (n := fu2) (d := d) (by omega)
    unfold f_CR_nearestStart_L1 f_Mo_alternative_L1
    rw [if_neg (d_g96 (by omega)), if_neg (d_g96 (by omega)), if_neg (show ¬ (0 : Int32) ≤ -4 by decide), d_l, nI_1]
    obtain ⟨w, M2, J3, y1, y2, y3, y4, y5⟩ := d_alt2 (J := J2) (x := x) hs (by omega) hwf hi hm hk hmb hS (fun (x13 : Int32) (I8 : q_I) (J7 : q_J) => (f_Mo_alternative_L1 (nI (d_c2 E i)) (nI S) (nI s) K fu2 x13 (nI (x + 1)) I8 J7))
    obtain ⟨v1, I2, J4, P2, x1, x2, x3, x4⟩ := d_tstC (J := J1) (nI s - nI x) hwf hcw hi hk hca hS
    have fin : ∀ w, (0 : Int32) ≤ w → f_Mo_alternative_L1 (nI (d_c2 E i)) (nI S) (nI s) K fu2 w (nI (x + 1)) M2 J3 = K w M2 J3 := fun w hw => by
      rw [e3]
      unfold f_Mo_alternative_L1
      by_cases h : (96 : Int32) ≤ nI (x + 1)
      · rw [if_pos h]
      · rw [if_neg h, if_pos hw]
    rw [x1, d_b4, y1]
    rcases x2 with rfl | rfl
    · have hn1 : ¬ d_T Ru no Of Os base E i S (nI s - nI x) := fun q => absurd (x3.mpr q) (by decide)
      obtain ⟨v2, I3, J5, P3, x5, x6, x7, x8⟩ := d_tstC (J := J4) (nI s + nI x) hwf hcw hi hk x4 hS
      rw [if_pos rfl, x5, d_b4]
      rcases x6 with rfl | rfl
      · have hn2 : ¬ d_T Ru no Of Os base E i S (nI s + nI x) := fun q => absurd (x7.mpr q) (by decide)
        rw [if_pos rfl, y5 hn1 hn2]
        exact ih (x + 1) fu fu2 I3 J5 P3 M2 J3 (by omega) (by omega) (by omega) x8 y2
      · have hT := x7.mp rfl
        rw [if_neg (show ¬ (1 : Int32) = 0 by decide), y4 hn1 hT, fin _ (d_T_pos hT)]
        exact ⟨_, _, _, _, _, _, rfl, rfl, x8, y2⟩
    · have hT := x3.mp rfl
      rw [if_neg (show ¬ (1 : Int32) = 0 by decide), y3 hT, fin _ (d_T_pos hT)]
      exact ⟨_, _, _, _, _, _, rfl, rfl, x4, y2⟩
end DT
