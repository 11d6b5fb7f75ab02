/-! creating, and changing -/
def d_ne (nx r w k mt val kr s d rm ps per cnt : Nat) : Nat → Nat := fun f => if f = 0 then nx else if f = 1 then r else if f = 2 then w else if f = 3 then k else if f = 4 then mt else if f = 5 then val else if f = 6 then kr else if f = 7 then s else if f = 8 then d else if f = 9 then rm else if f = 10 then ps else if f = 11 then per else cnt
theorem d_startE (a : Int32) : f_CR_isStart a = f_Mo_in a 0 95 := by
  unfold f_CR_isStart
  rw [dn_within]
  rcases d_inL a 0 95 0 95 rfl rfl (by decide) (by decide) with ⟨e, -⟩ | ⟨k, -, -, -, e⟩ <;> rw [e] <;> rfl
theorem d_durE (a : Int32) : f_CR_isDuration a = f_Mo_in a 1 8 := by
  unfold f_CR_isDuration
  rw [dn_within]
  rcases d_inL a 1 8 1 8 rfl rfl (by decide) (by decide) with ⟨e, -⟩ | ⟨k, -, -, -, e⟩ <;> rw [e] <;> rfl
theorem d_weiE (a : Int32) : f_CR_isWeight a = f_Mo_in a 1 9 := by
  unfold f_CR_isWeight
  rw [dn_within]
  rcases d_inL a 1 9 1 9 rfl rfl (by decide) (by decide) with ⟨e, -⟩ | ⟨k, -, -, -, e⟩ <;> rw [e] <;> rfl
theorem d_ml_hi {v v' : Nat → Int32} {n : Nat} {Ru : Nat → Nat → Nat} {no : Nat} {Of Os : Nat → Int32} {base : List (Nat → Nat)} {E : Nat → Nat → Nat} {kn : Nat → Nat} {nx : Nat} (hm : d_ml1 v n Ru no Of Os base E kn nx) (hb : base.length ≤ 12) (hv : ∀ x, x < 124 + 13 * n → v' x = v x) : d_ml1 v' n Ru no Of Os base E kn nx := by
  obtain ⟨⟨g1, g2, g3, g4, g5, g6, g7, g8, g9⟩, g10, g11⟩ := hm
  refine ⟨⟨?_, ?_, ⟨?_, g3.2⟩, fun x hx => ?_, fun x hx => ?_, fun o ho => ?_, fun k m hk f hf => ?_, fun i hi => ?_, g9⟩, ?_, fun q hq => ?_⟩
  · rw [hv 0 (by omega)]; exact g1
  · rw [hv 2 (by omega)]; exact g2
  · rw [hv 3 (by omega)]; exact g3.1
  · rw [hv _ (by omega), hv _ (by omega), hv _ (by omega)]; exact g4 x hx
  · rw [hv _ (by omega), hv _ (by omega)]; exact g5 x hx
  · have := g3.2
    rw [hv _ (by omega), hv _ (by omega)]; exact g6 o ho
  · have := d_get_lt hk
    rw [hv _ (by omega)]; exact g7 k m hk f hf
  · obtain ⟨q1, q2⟩ := g8 i hi
    exact ⟨fun f hf => by rw [hv _ (by omega)]; exact q1 f hf, fun h3 f h7 hf => by rw [hv _ (by omega)]; exact q2 h3 f h7 hf⟩
  · rw [hv 1 (by omega)]; exact g10
  · rw [hv _ (by omega)]; exact g11 q hq
theorem d_creates {t : Nat} {I : q_I} {J J2 : q_J} {P : q_P} {M : q_I} (h0 : d_Z t I P M) (ht : t ≤ 100000) {r s d rm ps per cnt w : Nat} (hr : r < 3) (hs : s ≤ 95) (hd : 1 ≤ d ∧ d ≤ 8) (hrm : rm ≤ 3) (hps : ps ≤ 63) (hper : per ≤ 99) (hcnt : 1 ≤ cnt ∧ cnt ≤ 4) (hw : 1 ≤ w ∧ w ≤ 9) (p1 : I 112 1 = nI s) (p2 : I 112 2 = nI d) (p3 : I 112 3 = nI rm) (p4 : I 112 4 = nI ps) (p5 : I 112 5 = nI per) (p6 : I 112 6 = nI cnt) (m16 : M 0 16 = nI per) (m17 : M 0 17 = nI cnt) :
    ∃ v I' J' P' M' J2', f_CR_make I J P (nI r) 0 (I 1 4) 0 (nI w) = some (v, I', J', P') ∧ f_Mo_creates M J2 (nI r) (nI s) (nI d) (nI rm) (nI ps) (nI w) = some (v, M', J2') ∧ d_Z (t + 1) I' P' M' := by
  have hh := h0
  obtain ⟨⟨n, Ru, no, Of, Os, base, E, kn, nx, ac, ha, hc, hm⟩, h2, h3, h4, h5, h6⟩ := hh
  have hn12 : n ≤ 12 := ha.1.2.2.2.2.2.2.2.2
  have hz := d_Zt h0 (show t ≤ t + 1 by omega)
  unfold f_Mo_creates
  rw [d_x0, hm.1.1]
  by_cases hn : n = 12
  · subst hn
    rw [if_pos (show nI 12 = 12 from rfl), d_make12 hc.2.1]
    exact ⟨_, _, _, _, _, _, rfl, rfl, hz⟩
  have hnl : n < 12 := by omega
  rw [if_neg (d_n12 (by omega) hn), d_x0, hm.1.1, d_l, show f_Mo_edit (nI n) 7 = some (nI (124 + 13 * n + 7)) from d_me n 7, d_b1, d_ix (by omega) (by omega), d_l, show f_Mo_edit (nI n) 8 = some (nI (124 + 13 * n + 8)) from d_me n 8, d_b1, d_ix (by omega) (by omega), d_l, show f_Mo_edit (nI n) 9 = some (nI (124 + 13 * n + 9)) from d_me n 9, d_b1, d_ix (by omega) (by omega), d_l, show f_Mo_edit (nI n) 10 = some (nI (124 + 13 * n + 10)) from d_me n 10, d_b1, d_ix (by omega) (by omega), d_l, show f_Mo_edit (nI n) 11 = some (nI (124 + 13 * n + 11)) from d_me n 11, d_b1, d_ix (by omega) (by omega), d_l, show f_Mo_edit (nI n) 12 = some (nI (124 + 13 * n + 12)) from d_me n 12, d_b1, d_ix (by omega) (by omega), d_l, d_ui_o (by decide), d_ui_o (by decide), d_ui_o (by decide), d_ui_o (by decide), m16, d_ui_o (by decide), d_ui_o (by decide), d_ui_o (by decide), d_ui_o (by decide), d_ui_o (by decide), m17]
  obtain ⟨M6, eM, -⟩ : ∃ M6, M6 = q_ui (q_ui (q_ui (q_ui (q_ui (q_ui M 1 (124 + 13 * n + 7) (nI s)) 1 (124 + 13 * n + 8) (nI d)) 1 (124 + 13 * n + 9) (nI rm)) 1 (124 + 13 * n + 10) (nI ps)) 1 (124 + 13 * n + 11) (nI per)) 1 (124 + 13 * n + 12) (nI cnt) ∧ True := ⟨_, rfl, trivial⟩
  rw [← eM]
  have hms : d_ms2 M M6 := by
    rw [eM]
    exact d_ms2_tr (d_ms2_tr (d_ms2_tr (d_ms2_tr (d_ms2_tr d_ms2_1 d_ms2_1) d_ms2_1) d_ms2_1) d_ms2_1) d_ms2_1
  have hm6 : d_ml1 (M6 1) n Ru no Of Os base E kn nx := d_ml_hi hm ha.1.2.2.1 (fun x hx => by
    rw [eM]
    simp (disch := omega) only [d_ui_n])
  have h06 : d_Z t I P M6 := d_Z_up h0 (Nat.le_refl _) ⟨n, Ru, no, Of, Os, base, E, kn, nx, ac, ha, hc, hm6⟩ ⟨fun _ _ => rfl, fun _ _ => rfl, h3, h4⟩ hms
  have hnx := ha.2.2.2.2.1
  obtain ⟨v, I', J', P', M', J2', x1, x2, x3⟩ := d_makeZ (J := J) (J2 := J2) (a3 := 0) (e := d_ne nx r w 0 nx 0 (kn r) s d rm ps per cnt) h06 ha hc hm6 hnl hr ⟨rfl, rfl, rfl, ⟨Nat.zero_le 6, hw, by show nx ≤ 100000; omega, by show nx ≤ 100000; omega, Nat.zero_le _, fun _ => Nat.zero_le _, fun z => absurd z (show ¬ (0 : Nat) = 3 by decide), fun _ => Nat.zero_le _, fun _ => ⟨rfl, hs, hd, hrm, hps, hper, hcnt, by show nx ≤ 100000; omega⟩, hr⟩, fun z => absurd rfl z⟩ (fun _ f h1 h7 => by
    have hf' : f = 1 ∨ f = 2 ∨ f = 3 ∨ f = 4 ∨ f = 5 ∨ f = 6 := by omega
    rcases hf' with rfl | rfl | rfl | rfl | rfl | rfl
    · exact p1
    · exact p2
    · exact p3
    · exact p4
    · exact p5
    · exact p6) (fun _ f h7 h13 => by
    rw [eM]
    have hf' : f = 7 ∨ f = 8 ∨ f = 9 ∨ f = 10 ∨ f = 11 ∨ f = 12 := by omega
    rcases hf' with rfl | rfl | rfl | rfl | rfl | rfl <;> simp (disch := omega) only [d_ui_s, d_ui_n] <;> rfl) (fun z => absurd rfl z)
  have x1' : f_CR_make I J P (nI r) 0 (nI nx) 0 (nI w) = some (v, I', J', P') := x1
  have x2' : f_Mo_makes M6 J2 (nI r) 0 0 0 (nI w) = some (v, M', J2') := x2
  rw [hc.2.2.1, x1', x2', d_b3]
  exact ⟨_, _, _, _, _, _, rfl, rfl, x3⟩
theorem y2_create {t : Nat} {I : q_I} {J J2 : q_J} {P : q_P} {M : q_I} (h : d_Z t I P M) (ht : t ≤ 100000) (a1 a2 a3 a4 a5 a6 : Int32) : ∃ v I' J' P' M' J2', f_CR_create I J P a1 a2 a3 a4 a5 a6 = some (v, I', J', P') ∧ f_Mo_create M J2 a1 a2 a3 a4 a5 a6 = some (v, M', J2') ∧ d_Z (t + 1) I' P' M' := by
  have hz := d_Zt h (show t ≤ t + 1 by omega)
  have c10 : ¬ (1 : Int32) = 0 := by decide
  unfold f_CR_create f_Mo_create
  rw [d_repC, d_startE, d_durE, dn_within, dn_within, d_weiE]
  rcases d_rep a1 with ⟨e1, -⟩ | ⟨r, hr, rfl, e1⟩
  · rw [e1, d_b1, d_b1, if_pos rfl, if_pos rfl, d_b1, if_pos rfl]
    exact ⟨_, _, _, _, _, _, rfl, rfl, hz⟩
  rw [e1, d_b1, d_b1, if_neg c10, if_neg c10]
  rcases d_inL a2 0 95 0 95 rfl rfl (by decide) (by decide) with ⟨e2, -⟩ | ⟨s, -, hs, rfl, e2⟩
  · rw [e2, d_b1, d_b1, if_pos rfl, if_pos rfl, d_b1, if_pos rfl]
    exact ⟨_, _, _, _, _, _, rfl, rfl, hz⟩
  rw [e2, d_b1, d_b1, if_neg c10, if_neg c10]
  rcases d_inL a3 1 8 1 8 rfl rfl (by decide) (by decide) with ⟨e3, -⟩ | ⟨d, hd1, hd, rfl, e3⟩
  · rw [e3, d_b1, d_b1, if_pos rfl, if_pos rfl, d_b1, if_pos rfl]
    exact ⟨_, _, _, _, _, _, rfl, rfl, hz⟩
  rw [e3, d_b1, d_b1, if_neg c10, if_neg c10]
  rcases d_inL a4 0 3 0 3 rfl rfl (by decide) (by decide) with ⟨e4, -⟩ | ⟨rm, -, hrm, rfl, e4⟩
  · rw [e4, d_b1, d_b1, if_pos rfl, if_pos rfl, d_b1, if_pos rfl]
    exact ⟨_, _, _, _, _, _, rfl, rfl, hz⟩
  rw [e4, d_b1, d_b1, if_neg c10, if_neg c10, d_b1, if_neg c10]
  rcases d_inL a5 1 63 1 63 rfl rfl (by decide) (by decide) with ⟨e5, -⟩ | ⟨ps, -, hps, rfl, e5⟩
  · rw [e5, d_b1, d_b1, if_pos rfl, if_pos rfl]
    exact ⟨_, _, _, _, _, _, rfl, rfl, hz⟩
  rw [e5, d_b1, d_b1, if_neg c10, if_neg c10]
  rcases d_inL a6 1 9 1 9 rfl rfl (by decide) (by decide) with ⟨e6, -⟩ | ⟨w, hw1, hw, rfl, e6⟩
  · rw [e6, d_b1, d_b1, if_pos rfl, if_pos rfl]
    exact ⟨_, _, _, _, _, _, rfl, rfl, hz⟩
  rw [e6, d_b1, d_b1, if_neg c10, if_neg c10]
  unfold f_Me_fill
  rw [d_l, d_l, d_l, d_l, d_l, d_l, d_b1, d_l, d_l]
  have h' : d_Z t (q_ui (q_ui (q_ui (q_ui (q_ui (q_ui I 112 1 (nI s)) 112 2 (nI d)) 112 3 (nI rm)) 112 4 (nI ps)) 112 5 0) 112 6 1) P (q_ui (q_ui M 0 16 0) 0 17 1) := d_Z_fr h (Nat.le_refl _) ⟨fun o ho => by
      have : o ≠ 112 := by
        unfold d_rel at ho
        omega
      rw [d_ui_o this, d_ui_o this, d_ui_o this, d_ui_o this, d_ui_o this, d_ui_o this], fun _ _ _ => rfl, h.2.2.1, h.2.2.2.1⟩ ⟨fun o q1 q2 => by rw [d_ui_o (by omega), d_ui_o (by omega)], by rw [d_ui_n (by decide), d_ui_n (by decide)], by rw [d_ui_n (by decide), d_ui_n (by decide)]⟩
  obtain ⟨v, I', J', P', M', J2', x1, x2, x3⟩ := d_creates (J := J) (J2 := J2) (per := 0) (cnt := 1) h' ht hr hs ⟨hd1, hd⟩ hrm hps (by decide) ⟨by decide, by decide⟩ ⟨hw1, hw⟩ (by simp (disch := omega) only [d_ui_s, d_ui_n]) (by simp (disch := omega) only [d_ui_s, d_ui_n]) (by simp (disch := omega) only [d_ui_s, d_ui_n]) (by simp (disch := omega) only [d_ui_s, d_ui_n]) (by simp (disch := omega) only [d_ui_s, d_ui_n]; rfl) (by simp (disch := omega) only [d_ui_s, d_ui_n]; rfl) (by rw [d_ui_n (by decide), d_ui_s]; rfl) (by rw [d_ui_s]; rfl)
  rw [x1, d_b4, x2, d_b3]
  exact ⟨_, _, _, _, _, _, rfl, rfl, x3⟩
