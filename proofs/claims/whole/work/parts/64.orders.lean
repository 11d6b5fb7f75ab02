section DO
variable {t n : Nat} {I : q_I} {P : q_P} {M : q_I} {Ru : Nat → Nat → Nat} {no : Nat} {Of Os : Nat → Int32} {base : List (Nat → Nat)} {E : Nat → Nat → Nat} {kn : Nat → Nat} {nx : Nat} {ac : Nat → Nat}
theorem d_mallZ {I1 M' : q_I} {J : q_J} {no' : Nat} {Of' Os' : Nat → Int32} {C N : Nat → Nat} (h0 : d_Z t I P M) (ha : d_ab t n Ru no Of Os base E kn nx ac) (hc : d_cl1 I P 1 n Ru no Of Os base E kn nx ac) (hcw : d_cw I1 P 1 n Ru no' Of' Os' base E C N) (hI : ∀ o, o ≠ 2 → o ≠ 8 → o ≠ 9 → I1 o = I o) (hv : d_valid Ru no' Of' Os' base) (hno : no' ≤ 4 ∧ ∀ o, o < no' → ¬ Of' o < 0 ∧ ¬ Os' o < 0) (hm : d_ml1 (M' 1) n Ru no' Of' Os' base E kn nx) (hms : d_ms2 M M') :
    ∃ I' J' P', f_CR_mergeAll I1 J P = some (I', J', P') ∧ d_Z (t + 1) I' P' M' ∧ I' 2 = I1 2 := by
  have hn12 : n ≤ 12 := ha.1.2.2.2.2.2.2.2.2
  have hh := h0
  obtain ⟨-, h2, h3, h4, -⟩ := hh
  obtain ⟨-, hc2, hc3, hc4⟩ := hc
  obtain ⟨I', J', P', ac', e, g1, g2, g3, g4, g5⟩ := d_mallL (J := J) (kn := kn) ha.1 hv (fun r hr => (ha.2.2.2.2.2.1 r hr).1) 3 0 q_fu I1 P ac (by omega) (d_q (by omega)) hcw h3 (fun r hr => by
    rw [hI 25 (by decide) (by decide) (by decide)]
    exact (hc4 r hr).1) (fun q hq => by omega)
  have hII : ∀ o, o < 53 ∨ 80 ≤ o → o ≠ 2 → o ≠ 8 → o ≠ 9 → o ≠ 26 → I' o = I o := fun o q1 q2 q3 q4 q5 => (g2 o q1 q5).trans (hI o q2 q3 q4)
  refine ⟨I', J', P', e, d_Z_up h0 (by omega) ⟨n, Ru, no', Of', Os', base, E, kn, nx, ac', ⟨ha.1, hv, ha.2.2.1, ha.2.2.2.1, by have := ha.2.2.2.2.1; omega, fun r hr => ⟨(ha.2.2.2.2.2.1 r hr).1, (g1 r hr).2⟩, ha.2.2.2.2.2.2.1, hno⟩, ⟨⟨C, N, d_cw_fr2 hcw hn12 (fun o q1 q2 q3 q4 => g2 o (by omega) (by omega)) (g4 _ (by decide))⟩, ?_, ?_, fun r hr => ⟨?_, (g1 r hr).1⟩⟩, hm⟩ ⟨fun o q => hII o (by omega) (by omega) (by omega) (by omega) (by omega), fun a q => g4 a (by omega), g5, ?_⟩ hms, g2 2 (by decide) (by decide)⟩
  · rw [hII 1 (by decide) (by decide) (by decide) (by decide) (by decide)]
    exact hc2
  · rw [hII 1 (by decide) (by decide) (by decide) (by decide) (by decide)]
    exact hc3
  · rw [hII (1 + 24) (by decide) (by decide) (by decide) (by decide) (by decide)]
    exact (hc4 r hr).1
  · unfold d_inj
    rw [g4 84 (by decide)]
    exact h4
end DO
theorem y2_clearOrders {t : Nat} {I : q_I} {J : q_J} {P : q_P} {M : q_I} (h : d_Z t I P M) : ∃ v I' J' P' M', f_CR_clearOrders I J P = some (v, I', J', P') ∧ f_Mo_clearOrders M = some (v, M') ∧ d_Z (t + 1) I' P' M' := by
  have h0 := h
  obtain ⟨⟨n, Ru, no, Of, Os, base, E, kn, nx, ac, ha, hc, hm⟩, h2, h3, h4, h5, h6⟩ := h
  have hn12 : n ≤ 12 := ha.1.2.2.2.2.2.2.2.2
  unfold f_CR_clearOrders f_Mo_clearOrders
  rw [d_l, d_l, d_x3, d_l, d_x3, d_l]
  have hc' := hc
  obtain ⟨⟨C, N, hcw⟩, hc2, hc3, hc4⟩ := hc
  have e0 : I 2 7 = nI no := hcw.2.1.1
  refine Exists.elim (d_mallZ (I1 := q_ui I 2 7 0) (M' := q_ui M 1 3 0) (J := J) (no' := 0) (Of' := Of) (Os' := Os) h0 ha hc' (C := C) (N := N) ⟨⟨fun x hx => ?_, fun x hx => ?_, hcw.1.2.2⟩, ⟨?_, by decide, fun x hx => by omega⟩, d_cal_eq hcw.2.2.1 (fun o q1 q2 => ?_) rfl, d_eds_fr hcw.2.2.2 (by omega) (fun o q1 q2 => ?_)⟩ (fun o q1 q2 q3 => d_ui_o q1) ⟨ha.2.1.1, fun o ho => by omega⟩ ⟨by decide, fun o ho => absurd ho (Nat.not_lt_zero o)⟩ ⟨⟨?_, ?_, ⟨?_, by decide⟩, fun x hx => ?_, fun x hx => ?_, fun o ho => by omega, fun k m hk f hf => ?_, fun i hi => ?_, hm.1.2.2.2.2.2.2.2.2⟩, ?_, fun r hr => ?_⟩ d_ms2_1) (fun I' z0 => ?_)
  · simp (disch := omega) only [d_ui_s, d_ui_n, d_ui_o]
    exact hcw.1.1 x hx
  · simp (disch := omega) only [d_ui_s, d_ui_n, d_ui_o]
    exact hcw.1.2.1 x hx
  · exact d_ui_s
  · simp (disch := omega) only [d_ui_s, d_ui_n, d_ui_o]
  · simp (disch := omega) only [d_ui_s, d_ui_n, d_ui_o]
  · simp (disch := omega) only [d_ui_s, d_ui_n, d_ui_o]
    exact hm.1.1
  · simp (disch := omega) only [d_ui_s, d_ui_n, d_ui_o]
    exact hm.1.2.1
  · exact d_ui_s
  · simp (disch := omega) only [d_ui_s, d_ui_n, d_ui_o]
    exact hm.1.2.2.2.1 x hx
  · simp (disch := omega) only [d_ui_s, d_ui_n, d_ui_o]
    exact hm.1.2.2.2.2.1 x hx
  · simp (disch := omega) only [d_ui_s, d_ui_n, d_ui_o]
    exact hm.1.2.2.2.2.2.2.1 k m hk f hf
  · obtain ⟨q1, q2⟩ := hm.1.2.2.2.2.2.2.2.1 i hi
    exact ⟨fun f hf => by rw [d_ui_n (by omega)]; exact q1 f hf, fun h3 f h7 hf => by rw [d_ui_n (by omega)]; exact q2 h3 f h7 hf⟩
  · simp (disch := omega) only [d_ui_s, d_ui_n, d_ui_o]
    exact hm.2.1
  · simp (disch := omega) only [d_ui_s, d_ui_n, d_ui_o]
    exact hm.2.2 r hr
  · obtain ⟨J', P', e, g1, g2⟩ := z0
    rw [e, d_b3, e0, hm.1.2.2.1.1]
    exact ⟨_, _, _, _, _, rfl, rfl, g1⟩
/-- numbers that stand from the 3rd on are written anew, two of them in the place of an order -/
theorem d_ml_ord {v v' : Nat → Int32} {n : Nat} {Ru : Nat → Nat → Nat} {no : Nat} {Of Os : Nat → Int32} {base : List (Nat → Nat)} {E : Nat → Nat → Nat} {kn : Nat → Nat} {nx no' : Nat} {Of' Os' : Nat → Int32} (hm : d_ml1 v n Ru no Of Os base E kn nx) (hno : no < 4) (hv : ∀ x, x ≠ 3 → x ≠ 32 + 2 * no → x ≠ 33 + 2 * no → v' x = v x) (h3 : v' 3 = nI no' ∧ no' ≤ 4) (ho : ∀ o, o < no' → v' (32 + 2 * o) = Of' o ∧ v' (33 + 2 * o) = Os' o) : d_ml1 v' n Ru no' Of' Os' base E kn nx := by
  obtain ⟨⟨g1, g2, g3, g4, g5, g6, g7, g8, g9⟩, g10, g11⟩ := hm
  refine ⟨⟨?_, ?_, h3, fun x hx => ?_, fun x hx => ?_, ho, fun k m hk f hf => ?_, fun i hi => ?_, g9⟩, ?_, fun r hr => ?_⟩
  · rw [hv 0 (by omega) (by omega) (by omega)]; exact g1
  · rw [hv 2 (by omega) (by omega) (by omega)]; exact g2
  · rw [hv _ (by omega) (by omega) (by omega), hv _ (by omega) (by omega) (by omega), hv _ (by omega) (by omega) (by omega)]; exact g4 x hx
  · rw [hv _ (by omega) (by omega) (by omega), hv _ (by omega) (by omega) (by omega)]; exact g5 x hx
  · rw [hv _ (by omega) (by omega) (by omega)]; exact g7 k m hk f hf
  · obtain ⟨q1, q2⟩ := g8 i hi
    exact ⟨fun f hf => by rw [hv _ (by omega) (by omega) (by omega)]; exact q1 f hf, fun h3 f h7 hf => by rw [hv _ (by omega) (by omega) (by omega)]; exact q2 h3 f h7 hf⟩
  · rw [hv 1 (by omega) (by omega) (by omega)]; exact g10
  · rw [hv _ (by omega) (by omega) (by omega)]; exact g11 r hr
theorem y2_addOrder {t : Nat} {I : q_I} {J J2 : q_J} {P : q_P} {M : q_I} (h : d_Z t I P M) (a1 a2 : Int32) : ∃ v I' J' P' M' J2', f_CR_addOrder I J P a1 a2 = some (v, I', J', P') ∧ f_Mo_addOrder M J2 a1 a2 = some (v, M', J2') ∧ d_Z (t + 1) I' P' M' := by
  have h0 := h
  obtain ⟨⟨n, Ru, no, Of, Os, base, E, kn, nx, ac, ha, hc, hm⟩, h2, h3, h4, h5, h6⟩ := h
  have hn12 : n ≤ 12 := ha.1.2.2.2.2.2.2.2.2
  have hz := d_Zt h0 (show t ≤ t + 1 by omega)
  have hc' := hc
  obtain ⟨⟨C, N, hcw⟩, hc2, hc3, hc4⟩ := hc
  have e0 : I 2 7 = nI no := hcw.2.1.1
  have hno4 := ha.2.2.2.2.2.2.2.1
  unfold f_CR_addOrder f_Mo_addOrder
  by_cases q1 : a1 < 0
  · rw [if_pos q1, if_pos q1]
    exact ⟨_, _, _, _, _, _, rfl, rfl, hz⟩
  rw [if_neg q1, if_neg q1]
  by_cases q2 : a2 < 0
  · rw [if_pos q2, if_pos q2]
    exact ⟨_, _, _, _, _, _, rfl, rfl, hz⟩
  rw [if_neg q2, if_neg q2]
  by_cases q3 : a1 = a2
  · rw [if_pos q3, if_pos q3]
    exact ⟨_, _, _, _, _, _, rfl, rfl, hz⟩
  rw [if_neg q3, if_neg q3, e0, d_x3, hm.1.2.2.1.1]
  by_cases q4 : no = 4
  · subst q4
    rw [if_neg (show ¬ nI 4 < 4 by decide), if_pos (show nI 4 = 4 from rfl)]
    exact ⟨_, _, _, _, _, _, rfl, rfl, hz⟩
  have hno : no < 4 := by omega
  obtain ⟨v, e1, g1, g2⟩ := d_keepsC hcw.2.2.1 (by omega) ha.1.2.1 cM10 a1 a2
  have e1' : f_Cal_keepsOrder I P 10 12 a1 a2 = some v := e1
  rw [if_pos (show nI no < 4 from nI_lt (b := 4) hno (by decide)), if_neg (d_n4 (by omega) q4), e1', d_b1, d_x3, hm.1.2.2.1.1, d_m2, d_k32, d_ix (by omega) (by decide), d_l, d_x3, d_ui_n (by omega), hm.1.2.2.1.1, d_m2, d_k32, nI_1, d_ix (by omega) (by decide), d_l, d_x3, d_ui_n (by omega), d_ui_n (by omega), hm.1.2.2.1.1, d_x3, d_l, nI_1]
  have hv' : ∀ x, x ≠ 3 → x ≠ 32 + 2 * no → x ≠ 33 + 2 * no → q_ui (q_ui (q_ui M 1 (32 + 2 * no) a1) 1 (32 + 2 * no + 1) a2) 1 3 (nI (no + 1)) 1 x = M 1 x := fun x z1 z2 z3 => by rw [d_ui_n z1, d_ui_n (by omega), d_ui_n z2]
  have hm' : d_ml1 (q_ui (q_ui (q_ui M 1 (32 + 2 * no) a1) 1 (32 + 2 * no + 1) a2) 1 3 (nI (no + 1)) 1) n Ru (no + 1) (fun x => if x = no then a1 else Of x) (fun x => if x = no then a2 else Os x) base E kn nx := by
    refine d_ml_ord hm hno hv' ⟨d_ui_s, by omega⟩ (fun o ho => ?_)
    by_cases hon : o = no
    · subst hon
      rw [if_pos rfl, if_pos rfl, d_ui_n (by omega), d_ui_n (by omega), d_ui_s, d_ui_n (by omega)]
      refine ⟨rfl, ?_⟩
      rw [show 33 + 2 * o = 32 + 2 * o + 1 by omega, d_ui_s]
    · rw [if_neg hon, if_neg hon, hv' _ (by omega) (by omega) (by omega), hv' _ (by omega) (by omega) (by omega)]
      exact hm.1.2.2.2.2.2.1 o (by omega)
  have hms1 : d_ms2 M (q_ui (q_ui (q_ui M 1 (32 + 2 * no) a1) 1 (32 + 2 * no + 1) a2) 1 3 (nI (no + 1))) := d_ms2_tr (d_ms2_tr d_ms2_1 d_ms2_1) d_ms2_1
  generalize q_ui (q_ui (q_ui M 1 (32 + 2 * no) a1) 1 (32 + 2 * no + 1) a2) 1 3 (nI (no + 1)) = M3 at hv' hm' hms1 ⊢
  obtain ⟨v2, M4, J4, e2, g3, g4, g5⟩ := d_madm (J := J2) (s := 0) hm'.1 ha.1 (Nat.two_pow_pos n)
  have hm4 := d_mwf hm' g5
  have hms4 := d_ms2_tr hms1 (d_ms2_of (d_ms_mf g5))
  have hv4 : ∀ x, x ≠ 3 → x ≠ 32 + 2 * no → x ≠ 33 + 2 * no → M4 1 x = M 1 x := fun x z1 z2 z3 => by rw [g5.1 1 (by decide) (by decide)]; exact hv' x z1 z2 z3
  have e2' : f_Mo_isAdmissible M3 J2 0 = some (v2, M4, J4) := e2
  rw [e2', d_b3]
  have key : v2 = 1 ↔ v = 1 := by
    rw [g4, g2]
    constructor
    · intro z
      have z2 := z.2.2
      unfold d_val at z2
      rw [d_fm_0] at z2
      have z3 := z2.2 no (by omega)
      simp only [if_pos] at z3
      exact z3
    · intro z
      refine d_adm00 ⟨ha.2.1.1, fun o ho => ?_⟩
      by_cases hon : o = no
      · subst hon
        dsimp only
        rw [if_pos rfl, if_pos rfl]
        exact z
      · dsimp only
        rw [if_neg hon, if_neg hon]
        exact ha.2.1.2 o (by omega)
  rcases g1 with rfl | rfl
  · have : v2 = 0 := g3.elim id (fun z => absurd (key.mp z) (by decide))
    subst this
    rw [if_pos rfl, if_pos rfl, d_x3, hm4.1.2.2.1.1, d_x3, d_l, show (1 : Int32) = nI 1 from rfl, pk_sub (by omega), Nat.add_sub_cancel]
    refine ⟨_, _, _, _, _, _, rfl, rfl, d_Z_up h0 (by omega) ⟨n, Ru, no, Of, Os, base, E, kn, nx, ac, d_ab_t ha (by omega), hc', d_ml_ord hm hno (fun x z1 z2 z3 => by rw [d_ui_n z1]; exact hv4 x z1 z2 z3) ⟨d_ui_s, by omega⟩ (fun o ho => ?_)⟩ ⟨fun _ _ => rfl, fun _ _ => rfl, h3, h4⟩ (d_ms2_tr hms4 d_ms2_1)⟩
    rw [d_ui_n (by omega), d_ui_n (by omega), hv4 _ (by omega) (by omega) (by omega), hv4 _ (by omega) (by omega) (by omega)]
    exact hm.1.2.2.2.2.2.1 o ho
  · have := key.mpr rfl
    subst this
    have ev : d_valid Ru (no + 1) (fun x => if x = no then a1 else Of x) (fun x => if x = no then a2 else Os x) base := by
      have z := (g4.mp rfl).2.2
      unfold d_val at z
      rw [d_fm_0] at z
      exact z
    refine Exists.elim (d_mallZ (I1 := q_ui (q_ui (q_ui I 8 no a1) 9 no a2) 2 7 (nI (no + 1))) (M' := M4) (J := J) (no' := no + 1) (Of' := fun x => if x = no then a1 else Of x) (Os' := fun x => if x = no then a2 else Os x) h0 ha hc' (C := C) (N := N) ⟨⟨fun x hx => ?_, fun x hx => ?_, hcw.1.2.2⟩, ⟨?_, by omega, fun x hx => ?_⟩, d_cal_eq hcw.2.2.1 (fun o q1 q2 => ?_) rfl, d_eds_fr hcw.2.2.2 (by omega) (fun o q1 q2 => ?_)⟩ (fun o q1 q2 q3 => by rw [d_ui_o q1, d_ui_o q3, d_ui_o q2]) ev ⟨by omega, fun o ho => by
      by_cases hon : o = no
      · rw [if_pos hon, if_pos hon]
        exact ⟨q1, q2⟩
      · rw [if_neg hon, if_neg hon]
        exact ha.2.2.2.2.2.2.2.2 o (by omega)⟩ hm4 hms4) (fun I' z0 => ?_)
    · simp (disch := omega) only [d_ui_s, d_ui_n, d_ui_o]
      exact hcw.1.1 x hx
    · simp (disch := omega) only [d_ui_s, d_ui_n, d_ui_o]
      exact hcw.1.2.1 x hx
    · exact d_ui_s
    · show q_ui _ 2 7 _ 8 x = _ ∧ q_ui _ 2 7 _ 9 x = _
      by_cases hxn : x = no
      · subst hxn
        simp (disch := omega) only [d_ui_s, d_ui_n, d_ui_o]
        constructor <;> simp
      · simp (disch := omega) only [d_ui_s, d_ui_n, d_ui_o, if_neg hxn]
        exact hcw.2.1.2.2 x (by omega)
    · simp (disch := omega) only [d_ui_s, d_ui_n, d_ui_o]
    · simp (disch := omega) only [d_ui_s, d_ui_n, d_ui_o]
    · obtain ⟨J', P', e, g6, g7⟩ := z0
      have e3 : f_Ru_putOrder I 2 a1 a2 = some (q_ui (q_ui (q_ui I 8 no a1) 9 no a2) 2 7 (nI (no + 1))) := by
        unfold f_Ru_putOrder
        rw [e0, if_neg (nI_pos (by omega)), if_neg (d_g4 hno), d_ix (by omega) (by decide), d_l, d_ui_o (by decide), e0, d_ix (by omega) (by decide), d_l, d_ui_o (by decide), d_ui_o (by decide), e0, d_l, nI_1]
      rw [if_neg (show ¬ (1 : Int32) = 0 by decide), if_neg (show ¬ (1 : Int32) = 0 by decide), e3, d_b1, e, d_b3, g7, d_ui_s, d_x3, hm4.1.2.2.1.1]
      exact ⟨_, _, _, _, _, _, rfl, rfl, g6⟩
