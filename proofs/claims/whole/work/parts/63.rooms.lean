/-! rooms, absences, orders -/
def d_cs2 (I I' : q_I) (P P' : q_P) : Prop := (∀ o, o = 52 ∨ o = 114 ∨ o = 115 ∨ o = 117 ∨ o = 118 ∨ 119 ≤ o → I' o = I o) ∧ (∀ a, 119 ≤ a → P' a = P a) ∧ d_inj P' 55 24 ∧ d_inj P' 84 24
def d_ms2 (M M' : q_I) : Prop := (∀ o, 2 ≤ o → o ≤ 5 → M' o = M o) ∧ M' 0 4 = M 0 4 ∧ M' 0 6 = M 0 6
theorem d_ms2_of {M M' : q_I} (h : d_ms M M') : d_ms2 M M' := ⟨fun o q1 q2 => h.1 o (by omega) q2, h.2⟩
theorem d_ms2_tr {M M1 M2 : q_I} (h1 : d_ms2 M M1) (h2 : d_ms2 M1 M2) : d_ms2 M M2 := ⟨fun o q1 q2 => (h2.1 o q1 q2).trans (h1.1 o q1 q2), h2.2.1.trans h1.2.1, h2.2.2.trans h1.2.2⟩
theorem d_ms2_1 {M : q_I} {j : Nat} {v : Int32} : d_ms2 M (q_ui M 1 j v) := ⟨fun o q1 q2 => d_ui_o (by omega), by rw [d_ui_o (by decide)], by rw [d_ui_o (by decide)]⟩
theorem d_cs2_of {I I' : q_I} {P P' : q_P} (h : d_cs I I' P P') : d_cs2 I I' P P' := ⟨fun o q => h.1 o (by unfold d_rel; omega), fun a q => h.2.1 a (by omega) (by omega), h.2.2⟩
theorem d_cs2_tr {I I1 I2 : q_I} {P P1 P2 : q_P} (h1 : d_cs2 I I1 P P1) (h2 : d_cs2 I1 I2 P1 P2) : d_cs2 I I2 P P2 := ⟨fun o q => (h2.1 o q).trans (h1.1 o q), fun a q => (h2.2.1 a q).trans (h1.2.1 a q), h2.2.2⟩
theorem d_cs2_u {I : q_I} {P : q_P} {o j : Nat} {v : Int32} (ho : o < 52) (h1 : d_inj P 55 24) (h2 : d_inj P 84 24) : d_cs2 I (q_ui I o j v) P P := ⟨fun a q => d_ui_o (by omega), fun _ _ => rfl, h1, h2⟩
theorem d_Z_up {t t' : Nat} {I I' : q_I} {P P' : q_P} {M M' : q_I} (h : d_Z t I P M) (ht : t ≤ t') (hp : d_pw I' P' 1 (M' 1) t') (hc : d_cs2 I I' P P') (hm : d_ms2 M M') : d_Z t' I' P' M' := by
  obtain ⟨h1, h2, h3, h4, h5, h6⟩ := h
  exact ⟨hp, d_kp_fr h2 ht (fun o q => hc.1 o (by omega)) hc.2.1 ⟨hm.1 2 (by decide) (by decide), hm.1 3 (by decide) (by decide)⟩, hc.2.2.1, hc.2.2.2, d_tx_fr h5 ⟨hc.1 _ (by decide), hc.1 _ (by decide)⟩ ⟨hm.2.1, hm.1 4 (by decide) (by decide)⟩, d_pg_fr h6 ⟨hc.1 _ (by decide), hc.1 _ (by decide)⟩ ⟨hm.2.2, hm.1 5 (by decide) (by decide)⟩⟩
theorem d_inL (x : Int32) (a b : Nat) (A B : Int32) (hA : A = nI a) (hB : B = nI b) (ha : a < 2 ^ 31) (hb : b < 2 ^ 31) : (f_Mo_in x A B = some 0 ∧ ∀ k, a ≤ k → k ≤ b → x ≠ nI k) ∨ ∃ k, a ≤ k ∧ k ≤ b ∧ x = nI k ∧ f_Mo_in x A B = some 1 := by
  subst hA hB
  exact dn_in ha hb
theorem d_rangeC (a b : Int32) : (f_CR_isRange a b = some 0 ∧ (f_Mo_in a 0 96 = some 0 ∨ (f_Mo_in a 0 96 = some 1 ∧ f_Mo_in b a 96 = some 0))) ∨ ∃ f t, f ≤ t ∧ t ≤ 96 ∧ a = nI f ∧ b = nI t ∧ f_CR_isRange a b = some 1 ∧ f_Mo_in a 0 96 = some 1 ∧ f_Mo_in b a 96 = some 1 := by
  unfold f_CR_isRange
  rw [dn_within, dn_within]
  rcases d_inL a 0 96 0 96 rfl rfl (by decide) (by decide) with ⟨e, -⟩ | ⟨f, -, hf, rfl, e⟩
  · rw [e, d_b1, if_pos rfl]
    exact Or.inl ⟨rfl, Or.inl rfl⟩
  · rw [e, d_b1, if_neg (by decide)]
    rcases d_inL b f 96 (nI f) 96 rfl rfl (by omega) (by decide) with ⟨e2, -⟩ | ⟨k, h1, h2, rfl, e2⟩
    · rw [e2, d_b1, if_pos rfl]
      exact Or.inl ⟨rfl, Or.inr ⟨rfl, rfl⟩⟩
    · rw [e2, d_b1, if_neg (by decide)]
      exact Or.inr ⟨f, k, h1, h2, rfl, rfl, rfl, rfl, rfl⟩
section DR
variable {t n : Nat} {I : q_I} {P : q_P} {M : q_I} {Ru : Nat → Nat → Nat} {no : Nat} {Of Os : Nat → Int32} {base : List (Nat → Nat)} {E : Nat → Nat → Nat} {kn : Nat → Nat} {nx : Nat} {ac : Nat → Nat}
theorem d_blk (hc : d_cl1 I P 1 n Ru no Of Os base E kn nx ac) (hm : d_ml1 (M 1) n Ru no Of Os base E kn nx) (hn : n ≤ 12) (hb : base.length ≤ 12) : (f_Wo_isBlank I 1 = some 0 ∧ f_Mo_isBegun M = some 1) ∨ (f_Wo_isBlank I 1 = some 1 ∧ f_Mo_isBegun M = some 0 ∧ n = 0 ∧ base = []) := by
  obtain ⟨⟨C, N, h1⟩, h2, h3, h4⟩ := hc
  have hl : I (1 + 9) 1 = nI base.length := h1.2.2.1.1
  unfold f_Wo_isBlank f_Mo_isBegun
  rw [hl, h2, d_x2, d_x0, hm.1.2.1, hm.1.1]
  by_cases hb0 : base.length = 0
  · rw [hb0, if_pos (show nI 0 = 0 from rfl), if_neg (show ¬ (0 : Int32) < nI 0 by decide)]
    by_cases hn0 : n = 0
    · subst hn0
      rw [if_pos (show nI 0 = 0 from rfl), if_pos (show nI 0 ≤ 0 by decide)]
      exact Or.inr ⟨rfl, rfl, rfl, List.eq_nil_of_length_eq_zero hb0⟩
    · rw [if_neg (d_n0 (by omega) hn0), if_neg (fun q => by
        have := nI_ge (a := 0) (b := n) (by omega) (by omega)
        exact this q)]
      exact Or.inl ⟨rfl, rfl⟩
  · rw [if_neg (d_n0 (by omega) hb0), if_pos (show (0 : Int32) < nI base.length from nI_lt (a := 0) (by omega) (by omega))]
    exact Or.inl ⟨rfl, rfl⟩
theorem d_val0 {Ru : Nat → Nat → Nat} {no : Nat} {Of Os : Nat → Int32} : d_valid Ru no Of Os [] := ⟨⟨fun m hm => absurd hm List.not_mem_nil, List.Pairwise.nil⟩, fun o _ i j a b h => by cases h⟩
theorem d_adm00 (hb : d_valid Ru no Of Os base) : d_adm Ru no Of Os base E 0 := ⟨fun i j h => absurd h w_in_0, fun i j h => absurd h w_in_0, by
  unfold d_val
  rw [d_fm_0]
  exact hb⟩
theorem d_ab0 {Ru' : Nat → Nat → Nat} {t' : Nat} (h : d_ab t 0 Ru no Of Os [] E kn nx ac) (hv : d_rv Ru') (ht : t ≤ t') : d_ab t' 0 Ru' no Of Os [] E kn nx ac := by
  refine ⟨h.1, d_val0, h.2.2.1, h.2.2.2.1, by have := h.2.2.2.2.1; omega, fun r hr => ?_, hv, h.2.2.2.2.2.2.2⟩
  obtain ⟨h1, h2, -⟩ := h.2.2.2.2.2.1 r hr
  have hac : ac r = 0 := by omega
  rw [hac]
  refine ⟨h1, by decide, 0, fun j => ?_, d_adm00 d_val0, ?_, ?_, ?_⟩
  · have : kn r = 0 := by omega
    rw [this]
    exact ⟨fun q => absurd q w_in_0, fun q => absurd q.1 w_in_0⟩
  · exact fun i q => absurd q w_in_0
  · exact fun i q => absurd q w_in_0
  · intro s h1 h2 h3
    have hs : s = 0 := w_zero.mpr (fun i q => w_in_0 (h3 i q))
    rw [hs]
    exact Or.inr ⟨rfl, Or.inl rfl⟩
end DR
def d_ruR (Ru : Nat → Nat → Nat) (k c f t : Nat) : Nat → Nat → Nat := fun o x => if x = k ∧ o = 0 then c else if x = k ∧ o = 1 then f else if x = k ∧ o = 2 then t else Ru o x
def d_ruA (Ru : Nat → Nat → Nat) (k f t : Nat) : Nat → Nat → Nat := fun o x => if x = k ∧ o = 3 then f else if x = k ∧ o = 4 then t else Ru o x
theorem d_rvR {Ru : Nat → Nat → Nat} {k c f t : Nat} (h : d_rv Ru) (hc : 1 ≤ c ∧ c ≤ 6) (hf : f ≤ t) (ht : t ≤ 96) : d_rv (d_ruR Ru k c f t) := by
  unfold d_ruR
  refine ⟨fun x hx => ?_, fun x hx => ?_⟩
  · by_cases hk : x = k
    · simp [hk]
      omega
    · simp [hk]
      exact h.1 x hx
  · simp
    exact h.2 x hx
theorem d_rvA {Ru : Nat → Nat → Nat} {k f t : Nat} (h : d_rv Ru) (hf : f ≤ t) (ht : t ≤ 96) : d_rv (d_ruA Ru k f t) := by
  unfold d_ruA
  refine ⟨fun x hx => ?_, fun x hx => ?_⟩
  · simp
    exact h.1 x hx
  · by_cases hk : x = k
    · simp [hk]
      omega
    · simp [hk]
      exact h.2 x hx
theorem y2_setRoom {t : Nat} {I : q_I} {P : q_P} {M : q_I} (h : d_Z t I P M) (a1 a2 a3 a4 : Int32) : ∃ v I' M', f_CR_setRoom I a1 a2 a3 a4 = some (v, I') ∧ f_Mo_setRoom M a1 a2 a3 a4 = some (v, M') ∧ d_Z (t + 1) I' P M' := by
  have h0 := h
  obtain ⟨⟨n, Ru, no, Of, Os, base, E, kn, nx, ac, ha, hc, hm⟩, h2, h3, h4, h5, h6⟩ := h
  have hn12 : n ≤ 12 := ha.1.2.2.2.2.2.2.2.2
  have hz := d_Zt h0 (show t ≤ t + 1 by omega)
  unfold f_CR_setRoom f_Mo_setRoom
  rw [dn_within, dn_within]
  rcases d_inL a1 0 3 0 3 rfl rfl (by decide) (by decide) with ⟨e, -⟩ | ⟨k, -, hk, rfl, e⟩
  · rw [e, d_b1, d_b1, if_pos rfl, if_pos rfl]
    exact ⟨_, _, _, rfl, rfl, hz⟩
  rw [e, d_b1, d_b1, if_neg (show ¬ (1 : Int32) = 0 by decide), if_neg (show ¬ (1 : Int32) = 0 by decide)]
  rcases d_inL a2 1 6 1 6 rfl rfl (by decide) (by decide) with ⟨e, -⟩ | ⟨c, hc1, hc6, rfl, e⟩
  · rw [e, d_b1, d_b1, if_pos rfl, if_pos rfl]
    exact ⟨_, _, _, rfl, rfl, hz⟩
  rw [e, d_b1, d_b1, if_neg (show ¬ (1 : Int32) = 0 by decide), if_neg (show ¬ (1 : Int32) = 0 by decide)]
  rcases d_rangeC a3 a4 with ⟨e, e2 | ⟨e2, e3⟩⟩ | ⟨f, u, hfu, hu, rfl, rfl, e, e2, e3⟩
  · rw [e, e2, d_b1, d_b1, if_pos rfl, if_pos rfl]
    exact ⟨_, _, _, rfl, rfl, hz⟩
  · rw [e, e2, d_b1, d_b1, e3, d_b1, if_pos rfl, if_neg (show ¬ (1 : Int32) = 0 by decide), if_pos rfl]
    exact ⟨_, _, _, rfl, rfl, hz⟩
  rw [e, e2, d_b1, d_b1, e3, d_b1, if_neg (show ¬ (1 : Int32) = 0 by decide), if_neg (show ¬ (1 : Int32) = 0 by decide), if_neg (show ¬ (1 : Int32) = 0 by decide)]
  rcases d_blk hc hm hn12 ha.1.2.2.1 with ⟨e, e2⟩ | ⟨e, e2, rfl, rfl⟩
  · rw [e, e2, d_b1, d_b1, if_pos rfl, if_neg (show ¬ (1 : Int32) = 0 by decide)]
    exact ⟨_, _, _, rfl, rfl, hz⟩
  rw [e, e2, d_b1, d_b1, if_neg (show ¬ (1 : Int32) = 0 by decide), if_pos rfl, d_ix (by omega) (by decide), d_l, d_ix (by omega) (by decide), d_l, d_ix (by omega) (by decide), d_l, d_ix (by omega) (by decide), d_l, d_k8, d_ix (by omega) (by decide), d_l, d_ix (by omega) (by decide), d_l, d_k12, d_ix (by omega) (by decide), d_l, d_k16, d_ix (by omega) (by decide), d_l]
  obtain ⟨⟨C, N, hcw⟩, hc2, hc3, hc4⟩ := hc
  have hru := hcw.1
  have hr0 : I 3 k = nI (Ru 0 k) := (hru.1 k (by omega)).1
  rw [hr0, (hm.1.2.2.2.1 k (by omega)).1]
  refine ⟨_, _, _, rfl, rfl, d_Z_up h0 (by omega) ⟨0, d_ruR Ru k c f u, no, Of, Os, [], E, kn, nx, ac, d_ab0 ha (d_rvR ha.2.2.2.2.2.2.1 ⟨hc1, hc6⟩ hfu hu) (by omega), ⟨⟨C, N, ⟨fun x hx => ?_, fun x hx => ?_, d_rvR ha.2.2.2.2.2.2.1 ⟨hc1, hc6⟩ hfu hu⟩, ⟨?_, hcw.2.1.2.1, fun x hx => ?_⟩, d_cal_eq hcw.2.2.1 (fun o q1 q2 => ?_) rfl, d_eds_fr hcw.2.2.2 (by omega) (fun o q1 q2 => ?_)⟩, ?_, ?_, fun r hr => ?_⟩, ⟨?_, ?_, fun r hr => ?_⟩⟩ ?_ ?_⟩
  · have := hru.1 x hx
    show q_ui _ 5 k _ 3 x = _ ∧ q_ui _ 5 k _ 4 x = _ ∧ q_ui _ 5 k _ 5 x = _
    unfold d_ruR
    by_cases hxk : x = k
    · subst hxk
      simp (disch := omega) only [d_ui_s, d_ui_n, d_ui_o]
      simp
    · simp (disch := omega) only [d_ui_s, d_ui_n, d_ui_o]
      simp [hxk]
      exact this
  · have := hru.2.1 x hx
    show q_ui _ 5 k _ 6 x = _ ∧ q_ui _ 5 k _ 7 x = _
    simp (disch := omega) only [d_ui_s, d_ui_n, d_ui_o]
    unfold d_ruR
    simp
    exact this
  · simp (disch := omega) only [d_ui_s, d_ui_n, d_ui_o]
    exact hcw.2.1.1
  · simp (disch := omega) only [d_ui_s, d_ui_n, d_ui_o]
    exact hcw.2.1.2.2 x hx
  · simp (disch := omega) only [d_ui_s, d_ui_n, d_ui_o]
  · simp (disch := omega) only [d_ui_s, d_ui_n, d_ui_o]
  · simp (disch := omega) only [d_ui_s, d_ui_n, d_ui_o]
    exact hc2
  · simp (disch := omega) only [d_ui_s, d_ui_n, d_ui_o]
    exact hc3
  · simp (disch := omega) only [d_ui_s, d_ui_n, d_ui_o]
    exact hc4 r hr
  · obtain ⟨g1, g2, g3, g4, g5, g6, g7, g8, g9⟩ := hm.1
    refine ⟨?_, ?_, ⟨?_, g3.2⟩, fun x hx => ?_, fun x hx => ?_, fun o ho => ?_, (fun j m q => (by cases q)), (fun i hi => (by omega)), d_rvR g9 ⟨hc1, hc6⟩ hfu hu⟩
    · simp (disch := omega) only [d_ui_s, d_ui_n, d_ui_o]
      exact g1
    · simp (disch := omega) only [d_ui_s, d_ui_n, d_ui_o]
      exact g2
    · simp (disch := omega) only [d_ui_s, d_ui_n, d_ui_o]
      exact g3.1
    · have := g4 x hx
      unfold d_ruR
      by_cases hxk : x = k
      · subst hxk
        simp (disch := omega) only [d_ui_s, d_ui_n, d_ui_o]
        simp
      · simp (disch := omega) only [d_ui_s, d_ui_n, d_ui_o]
        simp [hxk]
        exact this
    · have := g5 x hx
      simp (disch := omega) only [d_ui_s, d_ui_n, d_ui_o]
      unfold d_ruR
      simp
      exact this
    · have := g6 o ho
      simp (disch := omega) only [d_ui_s, d_ui_n, d_ui_o]
      exact this
  · simp (disch := omega) only [d_ui_s, d_ui_n, d_ui_o]
    exact hm.2.1
  · simp (disch := omega) only [d_ui_s, d_ui_n, d_ui_o]
    exact hm.2.2 r hr
  · exact d_cs2_tr (d_cs2_tr (d_cs2_u (by decide) h3 h4) (d_cs2_u (by decide) h3 h4)) (d_cs2_u (by decide) h3 h4)
  · exact d_ms2_tr (d_ms2_tr d_ms2_1 d_ms2_1) d_ms2_1
theorem y2_setAbsence {t : Nat} {I : q_I} {P : q_P} {M : q_I} (h : d_Z t I P M) (a1 a2 a3 : Int32) : ∃ v I' M', f_CR_setAbsence I a1 a2 a3 = some (v, I') ∧ f_Mo_setAbsence M a1 a2 a3 = some (v, M') ∧ d_Z (t + 1) I' P M' := by
  have h0 := h
  obtain ⟨⟨n, Ru, no, Of, Os, base, E, kn, nx, ac, ha, hc, hm⟩, h2, h3, h4, h5, h6⟩ := h
  have hn12 : n ≤ 12 := ha.1.2.2.2.2.2.2.2.2
  have hz := d_Zt h0 (show t ≤ t + 1 by omega)
  unfold f_CR_setAbsence f_Mo_setAbsence
  rw [dn_within]
  rcases d_inL a1 0 5 0 5 rfl rfl (by decide) (by decide) with ⟨e, -⟩ | ⟨k, -, hk, rfl, e⟩
  · rw [e, d_b1, d_b1, if_pos rfl, if_pos rfl]
    exact ⟨_, _, _, rfl, rfl, hz⟩
  rw [e, d_b1, d_b1, if_neg (show ¬ (1 : Int32) = 0 by decide), if_neg (show ¬ (1 : Int32) = 0 by decide)]
  rcases d_rangeC a2 a3 with ⟨e, e2 | ⟨e2, e3⟩⟩ | ⟨f, u, hfu, hu, rfl, rfl, e, e2, e3⟩
  · rw [e, e2, d_b1, d_b1, if_pos rfl, if_pos rfl]
    exact ⟨_, _, _, rfl, rfl, hz⟩
  · rw [e, e2, d_b1, d_b1, e3, d_b1, if_pos rfl, if_neg (show ¬ (1 : Int32) = 0 by decide), if_pos rfl]
    exact ⟨_, _, _, rfl, rfl, hz⟩
  rw [e, e2, d_b1, d_b1, e3, d_b1, if_neg (show ¬ (1 : Int32) = 0 by decide), if_neg (show ¬ (1 : Int32) = 0 by decide), if_neg (show ¬ (1 : Int32) = 0 by decide)]
  rcases d_blk hc hm hn12 ha.1.2.2.1 with ⟨e, e2⟩ | ⟨e, e2, rfl, rfl⟩
  · rw [e, e2, d_b1, d_b1, if_pos rfl, if_neg (show ¬ (1 : Int32) = 0 by decide)]
    exact ⟨_, _, _, rfl, rfl, hz⟩
  rw [e, e2, d_b1, d_b1, if_neg (show ¬ (1 : Int32) = 0 by decide), if_pos rfl, d_ix (by omega) (by decide), d_ix (by omega) (by decide), d_l, d_ix (by omega) (by decide), d_l, d_ix (by omega) (by decide), d_l, d_k26, d_ix (by omega) (by decide), d_k20, d_ix (by omega) (by decide), d_l, d_ix (by omega) (by decide), d_l, d_ix (by omega) (by decide), d_l]
  obtain ⟨⟨C, N, hcw⟩, hc2, hc3, hc4⟩ := hc
  have hru := hcw.1
  have hr0 : I 6 k = nI (Ru 3 k) := (hru.2.1 k (by omega)).1
  have hr1 : I 7 k = nI (Ru 4 k) := (hru.2.1 k (by omega)).2
  rw [hr0, hr1, (hm.1.2.2.2.2.1 k (by omega)).1, (hm.1.2.2.2.2.1 k (by omega)).2]
  refine ⟨_, _, _, rfl, rfl, d_Z_up h0 (by omega) ⟨0, d_ruA Ru k f u, no, Of, Os, [], E, kn, nx, ac, d_ab0 ha (d_rvA ha.2.2.2.2.2.2.1 hfu hu) (by omega), ⟨⟨C, N, ⟨fun x hx => ?_, fun x hx => ?_, d_rvA ha.2.2.2.2.2.2.1 hfu hu⟩, ⟨?_, hcw.2.1.2.1, fun x hx => ?_⟩, d_cal_eq hcw.2.2.1 (fun o q1 q2 => ?_) rfl, d_eds_fr hcw.2.2.2 (by omega) (fun o q1 q2 => ?_)⟩, ?_, ?_, fun r hr => ?_⟩, ⟨?_, ?_, fun r hr => ?_⟩⟩ ?_ ?_⟩
  · have := hru.1 x hx
    show q_ui _ 7 k _ 3 x = _ ∧ q_ui _ 7 k _ 4 x = _ ∧ q_ui _ 7 k _ 5 x = _
    simp (disch := omega) only [d_ui_s, d_ui_n, d_ui_o]
    unfold d_ruA
    simp
    exact this
  · have := hru.2.1 x hx
    show q_ui _ 7 k _ 6 x = _ ∧ q_ui _ 7 k _ 7 x = _
    unfold d_ruA
    by_cases hxk : x = k
    · subst hxk
      simp (disch := omega) only [d_ui_s, d_ui_n, d_ui_o]
      simp
    · simp (disch := omega) only [d_ui_s, d_ui_n, d_ui_o]
      simp [hxk]
      exact this
  · simp (disch := omega) only [d_ui_s, d_ui_n, d_ui_o]
    exact hcw.2.1.1
  · simp (disch := omega) only [d_ui_s, d_ui_n, d_ui_o]
    exact hcw.2.1.2.2 x hx
  · simp (disch := omega) only [d_ui_s, d_ui_n, d_ui_o]
  · simp (disch := omega) only [d_ui_s, d_ui_n, d_ui_o]
  · simp (disch := omega) only [d_ui_s, d_ui_n, d_ui_o]
    exact hc2
  · simp (disch := omega) only [d_ui_s, d_ui_n, d_ui_o]
    exact hc3
  · simp (disch := omega) only [d_ui_s, d_ui_n, d_ui_o]
    exact hc4 r hr
  · obtain ⟨g1, g2, g3, g4, g5, g6, g7, g8, g9⟩ := hm.1
    refine ⟨?_, ?_, ⟨?_, g3.2⟩, fun x hx => ?_, fun x hx => ?_, fun o ho => ?_, (fun j m q => (by cases q)), (fun i hi => (by omega)), d_rvA g9 hfu hu⟩
    · simp (disch := omega) only [d_ui_s, d_ui_n, d_ui_o]
      exact g1
    · simp (disch := omega) only [d_ui_s, d_ui_n, d_ui_o]
      exact g2
    · simp (disch := omega) only [d_ui_s, d_ui_n, d_ui_o]
      exact g3.1
    · have := g4 x hx
      simp (disch := omega) only [d_ui_s, d_ui_n, d_ui_o]
      unfold d_ruA
      simp
      exact this
    · have := g5 x hx
      unfold d_ruA
      by_cases hxk : x = k
      · subst hxk
        simp (disch := omega) only [d_ui_s, d_ui_n, d_ui_o]
        simp
      · simp (disch := omega) only [d_ui_s, d_ui_n, d_ui_o]
        simp [hxk]
        exact this
    · have := g6 o ho
      simp (disch := omega) only [d_ui_s, d_ui_n, d_ui_o]
      exact this
  · simp (disch := omega) only [d_ui_s, d_ui_n, d_ui_o]
    exact hm.2.1
  · simp (disch := omega) only [d_ui_s, d_ui_n, d_ui_o]
    exact hm.2.2 r hr
  · exact d_cs2_tr (d_cs2_u (by decide) h3 h4) (d_cs2_u (by decide) h3 h4)
  · exact d_ms2_tr d_ms2_1 d_ms2_1
theorem d_cw_fr2 {I I' : q_I} {P P' : q_P} {w n : Nat} {Ru : Nat → Nat → Nat} {no : Nat} {Of Os : Nat → Int32} {base : List (Nat → Nat)} {E : Nat → Nat → Nat} {C N : Nat → Nat} (h : d_cw I P w n Ru no Of Os base E C N) (hn : n ≤ 12) (hI : ∀ o, w < o → o < w + 50 → o ≠ w + 24 → o ≠ w + 25 → I' o = I o) (hP : P' (w + 10) = P (w + 10)) : d_cw I' P' w n Ru no Of Os base E C N :=
  ⟨d_ru_fr h.1 (fun o q1 q2 => hI o (by omega) (by omega) (by omega) (by omega)), d_or_fr h.2.1 (fun o q1 q2 => hI o (by omega) (by omega) (by omega) (by omega)), d_cal_eq h.2.2.1 (fun o q1 q2 => hI o (by omega) (by omega) (by omega) (by omega)) hP, d_eds_fr h.2.2.2 hn (fun o q1 q2 => hI o (by omega) (by omega) (by omega) (by omega))⟩
/-- all three lists are merged anew -/
theorem d_mallL {n : Nat} {Ru : Nat → Nat → Nat} {no : Nat} {Of Os : Nat → Int32} {base : List (Nat → Nat)} {E : Nat → Nat → Nat} {C N : Nat → Nat} {kn : Nat → Nat} (hwf : d_wf base E n) (hbv : d_valid Ru no Of Os base) (hk : ∀ r, r < 3 → kn r < 2 ^ n) : ∀ (d r fu : Nat) (I : q_I) (J : q_J) (P : q_P) (ac : Nat → Nat), r + d = 3 → d < fu → d_cw I P 1 n Ru no Of Os base E C N → d_inj P 55 24 → (∀ r, r < 3 → I 25 r = nI (kn r)) → (∀ q, q < r → I 26 q = nI (ac q) ∧ ac q < 2 ^ n ∧ d_acc1 Ru no Of Os base E (kn q) 0 (some (ac q))) →
    ∃ (I' : q_I) (J' : q_J) (P' : q_P) (ac' : Nat → Nat), f_CR_mergeAll_L1 fu (nI r) I J P = some (I', J', P') ∧ (∀ q, q < 3 → I' 26 q = nI (ac' q) ∧ ac' q < 2 ^ n ∧ d_acc1 Ru no Of Os base E (kn q) 0 (some (ac' q))) ∧ (∀ o, o < 53 ∨ 80 ≤ o → o ≠ 26 → I' o = I o) ∧ (∀ f, f ≠ 0 → f ≠ 1 → f ≠ 2 → I' 26 f = I 26 f) ∧ d_pr 55 P P' ∧ d_inj P' 55 24 := by
  have hn12 : n ≤ 12 := hwf.2.2.2.2.2.2.2.2
  intro d
  induction d with
  | zero =>
    intro r fu I J P ac hr hf hcw hi h25 hac
    obtain ⟨fu, rfl, -⟩ := d_fuel hf
    have : r = 3 := by omega
    subst this
    unfold f_CR_mergeAll_L1
    rw [if_pos (by decide)]
    exact ⟨I, J, P, ac, rfl, hac, fun _ _ _ => rfl, fun _ _ _ _ => rfl, fun _ _ => rfl, hi⟩
  | succ d ih =>
    intro r fu I J P ac hr hf hcw hi h25 hac
    obtain ⟨fu, rfl, hf⟩ := d_fuel hf
    obtain ⟨v, I1, J1, P1, b, e1, g1, g2, g3, g4, g5, g6⟩ := d_heav (I := I) (J := J) (P := P) (mg := 53) (req := 0) hcw hwf cM54 (by omega) hi (hk r (by omega)) (Nat.two_pow_pos n) hbv
    have e1' : f_Mg_heaviest I J P 53 1 (nI (kn r)) 0 = some (v, I1, J1, P1) := e1
    unfold f_CR_mergeAll_L1
    rw [if_neg (d_g3 (by omega)), d_ix (by omega) (by decide), h25 r (by omega), e1', d_b4, d_ix (by omega) (by decide), d_l, nI_1]
    cases b with
    | none =>
      obtain ⟨U, g7, g8⟩ := g1
      exact absurd (fun i q => absurd q w_in_0) (g8 0 (d_adm00 hbv) (fun i q => absurd q w_in_0))
    | some s =>
      obtain ⟨rfl, g2⟩ := g2
      obtain ⟨I', J', P', ac', q1, q2, q3, q6, q4, q5⟩ := ih (r + 1) fu (q_ui I1 26 r (nI s)) J1 P1 (fun q => if q = r then s else ac q) (by omega) (by omega) (d_cw_fr2 hcw hn12 (fun o q1 q2 q3 q4 => by rw [d_ui_o (by omega), g3 o (by omega)]) (g5 _ (by decide))) g6 (fun q hq => by rw [d_ui_o (by decide), g3 25 (by omega), h25 q hq]) (fun q hq => by
        by_cases hqr : q = r
        · subst hqr
          rw [d_ui_s, if_pos rfl]
          exact ⟨rfl, g2, g1⟩
        · rw [d_ui_n hqr, if_neg hqr, g3 26 (by omega)]
          exact hac q (by omega))
      refine ⟨I', J', P', ac', q1, q2, fun o ho h26 => ?_, fun f f0 f1 f2 => ?_, fun o ho => (q4 o ho).trans (g5 o ho), q5⟩
      · rw [q3 o ho h26, d_ui_o h26, g3 o (by omega)]
      · rw [q6 f f0 f1 f2, d_ui_n (by omega), g3 26 (by omega)]
