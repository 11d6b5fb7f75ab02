/-! texts; keeping and restoring -/
theorem d_ch : ∀ c, c < 127 → (nI c).toInt8.toInt32 = nI c ∧ nI c &&& 255 = nI c ∧ ((nI c).toUInt32 % 65536).toInt32 = nI c ∧ (nI c).toUInt32.toUInt16.toUInt32.toInt32 = nI c := by decide +kernel
def d_bu (I M : q_I) (s mc mr len : Nat) : Prop := I s 0 = nI len ∧ M 0 mc = nI len ∧ ∀ j, j < len → ∃ c, 32 ≤ c ∧ c ≤ 126 ∧ I (s + 1) j = nI c ∧ M mr j = nI c
theorem d_push {I M : q_I} {s mc mr len c : Nat} (h : d_bu I M s mc mr len) (hl : len < 80) (h1 : 32 ≤ c) (h2 : c ≤ 126) (hmr : mr ≠ 0) : d_bu (q_sp1 I s (nI c)) (q_ui (q_ui M mr len (nI c)) 0 mc (nI (len + 1))) s mc mr (len + 1) := by
  obtain ⟨g1, g2, g3⟩ := h
  have hc := (d_ch c (by omega)).1
  unfold q_sp1
  rw [g1, nI_clamp (by omega), hc, nI_1]
  refine ⟨d_ui_s, d_ui_s, fun j hj => ?_⟩
  rw [d_ui_o (by omega), d_ui_o hmr]
  by_cases hjl : j = len
  · subst hjl
    rw [d_ui_s, d_ui_s]
    exact ⟨c, h1, h2, rfl, rfl⟩
  · rw [d_ui_n hjl, d_ui_n hjl]
    exact g3 j (by omega)
theorem d_sp1_o {I : q_I} {s o : Nat} {c : Int32} (h1 : o ≠ s) (h2 : o ≠ s + 1) : q_sp1 I s c o = I o := by
  unfold q_sp1
  rw [d_ui_o h1, d_ui_o h2]
theorem d_appC {I M : q_I} {s mc mr len c : Nat} (h : d_bu I M s mc mr len) (hl : len < 80) (h2 : c ≤ 126) : f_SB_appC I s (nI c) = some (q_sp1 I s (nI c)) := by
  unfold f_SB_appC
  rw [h.1, if_pos ⟨⟨nI_pos' (by omega), show nI c ≤ 255 from nI_le (b := 255) (by omega) (by decide)⟩, nI_pos' (by omega), show nI len ≤ 80 from nI_le (b := 80) (by omega) (by decide)⟩]
theorem d_Z_tx {t t' : Nat} {I I' : q_I} {P : q_P} {M M' : q_I} (h : d_Z t I P M) (ht : t ≤ t') (hI : ∀ o, d_rel o → o ≠ 114 → o ≠ 115 → I' o = I o) (hM : ∀ o, 1 ≤ o → o ≤ 5 → o ≠ 4 → M' o = M o) (h6 : M' 0 6 = M 0 6) (hx : d_tx I' M') : d_Z t' I' P M' := by
  obtain ⟨h1, h2, h3, h4, h5, h7⟩ := h
  refine ⟨d_pw_fr h1 ht (fun o q1 q2 => hI o (Or.inl ⟨q1, by omega⟩) (by omega) (by omega)) rfl (hM 1 (by decide) (by decide) (by decide)), d_kp_fr h2 ht (fun o q => hI o ?_ (by omega) (by omega)) (fun _ _ => rfl) ⟨hM 2 (by decide) (by decide) (by decide), hM 3 (by decide) (by decide) (by decide)⟩, h3, h4, hx, d_pg_fr h7 ⟨hI _ ?_ (by decide) (by decide), hI _ ?_ (by decide) (by decide)⟩ ⟨h6, hM 5 (by decide) (by decide) (by decide)⟩⟩
  all_goals (unfold d_rel; omega)
theorem y2_append {t : Nat} {I : q_I} {P : q_P} {M : q_I} (h : d_Z t I P M) (a1 : Int32) : ∃ v I' M', f_CR_append I a1 = some (v, I') ∧ f_Mo_append M a1 = some (v, M') ∧ d_Z (t + 1) I' P M' := by
  have h0 := h
  have hz := d_Zt h0 (show t ≤ t + 1 by omega)
  obtain ⟨h1, h2, h3, h4, ⟨len, hlen, t1, t2, t3⟩, h6⟩ := h
  have hb : d_bu I M 114 4 4 len := ⟨t1, t2, t3⟩
  unfold f_CR_append f_Mo_append
  rw [dn_within]
  rcases d_inL a1 32 126 32 126 rfl rfl (by decide) (by decide) with ⟨e, -⟩ | ⟨c, hc1, hc2, rfl, e⟩
  · rw [e, d_b1, d_b1, if_pos rfl, if_pos rfl]
    exact ⟨_, _, _, rfl, rfl, hz⟩
  · unfold f_SB_length
    rw [e, d_b1, if_neg (show ¬ (1 : Int32) = 0 by decide), d_b1, d_b1, if_neg (show ¬ (1 : Int32) = 0 by decide), t1, t2]
    by_cases hl : len = 60
    · subst hl
      rw [if_neg (show ¬ nI 60 < 60 by decide), if_pos (show nI 60 = 60 from rfl)]
      exact ⟨_, _, _, rfl, rfl, hz⟩
    · have hp := d_push (c := c) hb (by omega) hc1 hc2 (by decide)
      rw [if_pos (show nI len < 60 from nI_lt (b := 60) (by omega) (by decide)), (d_ch c (by omega)).2.2.1, d_appC hb (by omega) hc2, d_b1, hp.1, d_b1, if_neg (show ¬ nI len = 60 from fun q => hl ((nI_eq (b := 60) (by omega) (by decide)).mp q)), d_ix (by omega) (by decide), d_l, d_ui_o (by decide), t2, nI_1, d_l, d_ui_s]
      refine ⟨_, _, _, rfl, rfl, d_Z_tx h0 (by omega) (fun o _ q1 q2 => d_sp1_o q1 q2) (fun o q1 q2 q3 => by rw [d_ui_o (by omega), d_ui_o q3]) (by rw [d_ui_n (by decide), d_ui_o (by decide)]) ⟨len + 1, by omega, hp⟩⟩
theorem y2_clearText {t : Nat} {I : q_I} {P : q_P} {M : q_I} (h : d_Z t I P M) : ∃ v I' M', f_CR_clearText I = some (v, I') ∧ f_Mo_clearText M = some (v, M') ∧ d_Z (t + 1) I' P M' := by
  have h0 := h
  obtain ⟨h1, h2, h3, h4, ⟨len, hlen, t1, t2, t3⟩, h6⟩ := h
  unfold f_CR_clearText f_Mo_clearText f_SB_length f_SB_setLength
  rw [d_b1, if_pos rfl, d_b1, d_l, d_l, t1, t2]
  refine ⟨_, _, _, rfl, rfl, d_Z_tx h0 (by omega) (fun o _ q1 q2 => ?_) (fun o q1 q2 q3 => d_ui_o (by omega)) (d_ui_n (by decide)) ⟨0, by decide, d_ui_s, d_ui_s, fun j hj => by omega⟩⟩
  rw [d_ui_o q1]
  by_cases q : (0 : Int32) < nI len
  · rw [if_pos q, d_ui_o q1]
  · rw [if_neg q]
theorem d_uI_s {I : q_I} {o : Nat} {f : Nat → Int32} : q_uI I o f o = f := if_pos rfl
theorem d_uI_o {I : q_I} {o a : Nat} {f : Nat → Int32} (h : a ≠ o) : q_uI I o f a = I a := if_neg h
theorem d_ml_lt {v v' : Nat → Int32} {n : Nat} {Ru : Nat → Nat → Nat} {no : Nat} {Of Os : Nat → Int32} {base : List (Nat → Nat)} {E : Nat → Nat → Nat} {kn : Nat → Nat} {nx : Nat} (hm : d_ml1 v n Ru no Of Os base E kn nx) (hn : n ≤ 12) (hb : base.length ≤ 12) (hv : ∀ x, x < 280 → v' x = v x) : d_ml1 v' n Ru no Of Os base E kn nx := d_ml_hi hm hb (fun x hx => hv x (by omega))
theorem d_edcp {I : q_I} {a b : Nat} (hab : a + 1 < b ∨ b + 1 < a) : ∃ I', f_Ed_copyFrom I a b = some I' ∧ (∀ f, f < 8 → I' a f = I b f) ∧ (∀ f, f < 7 → I' (a + 1) f = I (b + 1) f) ∧ ∀ o, o ≠ a → o ≠ a + 1 → I' o = I o := by
  unfold f_Ed_copyFrom f_Ed_fill
  rw [d_l, d_l, d_l, d_l, d_l, d_l, d_b1, d_l, d_l]
  obtain ⟨I1, eI, -⟩ : ∃ I1, I1 = q_ui (q_ui (q_ui (q_ui (q_ui (q_ui I a 0 (I b 0)) a 1 (I b 1)) a 2 (I b 2)) a 3 (I b 3)) a 4 (I b 4)) a 5 (I b 5) ∧ True := ⟨_, rfl, trivial⟩
  have g1 : ∀ o, o ≠ a → I1 o = I o := fun o ho => by rw [eI, d_ui_o ho, d_ui_o ho, d_ui_o ho, d_ui_o ho, d_ui_o ho, d_ui_o ho]
  have g2 : ∀ f, f < 6 → I1 a f = I b f := fun f hf => by
    rw [eI]
    have hf' : f = 0 ∨ f = 1 ∨ f = 2 ∨ f = 3 ∨ f = 4 ∨ f = 5 := by omega
    rcases hf' with rfl | rfl | rfl | rfl | rfl | rfl <;> simp (disch := omega) only [d_ui_s, d_ui_n]
  rw [← eI, d_ui_o (show b ≠ a by omega), g1 b (by omega)]
  obtain ⟨I', x1, x2, x3⟩ := d_cp (I := q_ui (q_ui I1 a 6 (I b 6)) a 7 (I b 7)) (a := a + 1) (b := b + 1) (by omega)
  rw [x1, d_b1]
  refine ⟨I', rfl, fun f hf => ?_, fun f hf => ?_, fun o h1 h2 => ?_⟩
  · rw [x2 a (by omega)]
    by_cases h7 : f = 7
    · subst h7; rw [d_ui_s]
    · rw [d_ui_n h7]
      by_cases h6 : f = 6
      · subst h6; rw [d_ui_s]
      · rw [d_ui_n h6, g2 f (by omega)]
  · rw [x3 f hf, d_ui_o (by omega), d_ui_o (by omega), g1 _ (by omega)]
  · rw [x2 o h2, d_ui_o h1, d_ui_o h1, g1 o h1]
theorem d_wcL {a b n : Nat} (hab : a + 50 ≤ b ∨ b + 50 ≤ a) (hn : n ≤ 12) (I0 : q_I) (K : q_I → Option q_I) : ∀ (d k fu : Nat) (I5 : q_I), k + d = n → d < fu → I5 a 3 = nI n → (∀ o, o < a + 26 ∨ a + 26 + 2 * k ≤ o → I5 o = I0 o) → (∀ j, j < k → (∀ f, f < 8 → I5 (a + 26 + 2 * j) f = I0 (b + 26 + 2 * j) f) ∧ ∀ f, f < 7 → I5 (a + 26 + 2 * j + 1) f = I0 (b + 26 + 2 * j + 1) f) →
    ∃ I', f_Wo_copyFrom_L1 a b K fu (nI k) I5 = K I' ∧ (∀ o, o < a + 26 ∨ a + 26 + 2 * n ≤ o → I' o = I0 o) ∧ ∀ j, j < n → (∀ f, f < 8 → I' (a + 26 + 2 * j) f = I0 (b + 26 + 2 * j) f) ∧ ∀ f, f < 7 → I' (a + 26 + 2 * j + 1) f = I0 (b + 26 + 2 * j + 1) f := by
  intro d
  induction d with
  | zero =>
    intro k fu I5 hk hf hsz h1 h2
    obtain ⟨fu, rfl, -⟩ := d_fuel hf
    have : k = n := by omega
    subst this
    unfold f_Wo_copyFrom_L1
    rw [hsz, if_pos (nI_le (by omega) (by omega))]
    exact ⟨I5, rfl, h1, h2⟩
  | succ d ih =>
    intro k fu I5 hk hf hsz h1 h2
    obtain ⟨fu, rfl, hf⟩ := d_fuel hf
    obtain ⟨I6, e, g1, g2, g3⟩ := d_edcp (I := I5) (a := a + 26 + 2 * k) (b := b + 26 + 2 * k) (by omega)
    unfold f_Wo_copyFrom_L1
    rw [hsz, if_neg (nI_ge (by omega) (by omega)), d_ix (by omega) (by decide), d_ix (by omega) (by decide), e, d_b1, nI_1]
    refine ih (k + 1) fu I6 (by omega) (by omega) (by rw [g3 a (by omega) (by omega)]; exact hsz) (fun o ho => by rw [g3 o (by omega) (by omega)]; exact h1 o (by omega)) (fun j hj => ?_)
    by_cases hjk : j = k
    · subst hjk
      refine ⟨fun f hf => ?_, fun f hf => ?_⟩
      · rw [g1 f hf, h1 _ (by omega)]
      · rw [g2 f hf, h1 _ (by omega)]
    · rw [g3 _ (by omega) (by omega), g3 _ (by omega) (by omega)]
      exact h2 j (by omega)
theorem d_stl_fn {I : q_I} {w : Nat} (h : d_stl I w) : ∃ C N : Nat → Nat, ∀ j, j < 12 → I (w + 26 + 2 * j) 6 = nI (C j) ∧ I (w + 26 + 2 * j) 7 = nI (N j) ∧ C j < 4096 ∧ N j < 4096 := by
  refine ⟨fun j => if hj : j < 12 then Classical.choose (h j hj) else 0, fun j => if hj : j < 12 then Classical.choose (Classical.choose_spec (h j hj)) else 0, fun j hj => ?_⟩
  dsimp only
  rw [dif_pos hj, dif_pos hj]
  exact Classical.choose_spec (Classical.choose_spec (h j hj))
theorem d_stl_of {I : q_I} {P : q_P} {w n : Nat} {Ru : Nat → Nat → Nat} {no : Nat} {Of Os : Nat → Int32} {base : List (Nat → Nat)} {E : Nat → Nat → Nat} {C N : Nat → Nat} (h : d_cw I P w n Ru no Of Os base E C N) : d_stl I w := fun j hj => ⟨C j, N j, h.2.2.2.1 j hj⟩
theorem d_wcopy {I : q_I} {P : q_P} {a b n : Nat} {Ru : Nat → Nat → Nat} {no : Nat} {Of Os : Nat → Int32} {base : List (Nat → Nat)} {E : Nat → Nat → Nat} {kn : Nat → Nat} {nx : Nat} {ac : Nat → Nat} (hab : a + 50 ≤ b ∨ b + 50 ≤ a) (hn : n ≤ 12) (hbl : base.length ≤ 12) (hc : d_cl1 I P b n Ru no Of Os base E kn nx ac) (hi : d_inj P (a + 10) 12) (hs : d_stl I a) : ∃ I', f_Wo_copyFrom I P a b = some I' ∧ d_cl1 I' P a n Ru no Of Os base E kn nx ac ∧ (∀ o, o < a ∨ a + 50 ≤ o → I' o = I o) := by
  obtain ⟨⟨C, N, h1, h2, h3, h4⟩, c2, c3, c4⟩ := hc
  unfold f_Wo_copyFrom f_Ru_copyFrom
  rw [d_l, d_l, d_l, d_l, d_l, d_l, d_l, d_l, d_b1]
  obtain ⟨I1, eI, -⟩ : ∃ I1, I1 = q_ui (q_uI (q_uI (q_uI (q_uI (q_uI (q_uI (q_uI I (a + 1 + 1) (va_cpy (I (b + 1 + 1)) (I (a + 1 + 1)) 0 0 4)) (a + 1 + 2) (va_cpy (I (b + 1 + 2)) (I (a + 1 + 2)) 0 0 4)) (a + 1 + 3) (va_cpy (I (b + 1 + 3)) (I (a + 1 + 3)) 0 0 4)) (a + 1 + 4) (va_cpy (I (b + 1 + 4)) (I (a + 1 + 4)) 0 0 6)) (a + 1 + 5) (va_cpy (I (b + 1 + 5)) (I (a + 1 + 5)) 0 0 6)) (a + 1 + 6) (va_cpy (I (b + 1 + 6)) (I (a + 1 + 6)) 0 0 4)) (a + 1 + 7) (va_cpy (I (b + 1 + 7)) (I (a + 1 + 7)) 0 0 4)) (a + 1) 7 (I (b + 1) 7) ∧ True := ⟨_, rfl, trivial⟩
  have g1 : ∀ o, o < a + 1 ∨ a + 9 ≤ o → I1 o = I o := fun o ho => by
    rw [eI]
    simp (disch := omega) only [d_ui_o, d_uI_o]
  have gr : ∀ x, x < 4 → I1 (a + 1 + 1) x = I (b + 1 + 1) x ∧ I1 (a + 1 + 2) x = I (b + 1 + 2) x ∧ I1 (a + 1 + 3) x = I (b + 1 + 3) x ∧ I1 (a + 1 + 6) x = I (b + 1 + 6) x ∧ I1 (a + 1 + 7) x = I (b + 1 + 7) x := fun x hx => by
    rw [eI]
    simp (disch := omega) only [d_ui_o, d_uI_o, d_uI_s, sb_cpy0, and_self]
  have gr6 : ∀ x, x < 6 → I1 (a + 1 + 4) x = I (b + 1 + 4) x ∧ I1 (a + 1 + 5) x = I (b + 1 + 5) x := fun x hx => by
    rw [eI]
    simp (disch := omega) only [d_ui_o, d_uI_o, d_uI_s, sb_cpy0, and_self]
  have g7 : I1 (a + 1) 7 = I (b + 1) 7 := by rw [eI, d_ui_s]
  have eR : q_ui (q_uI (q_uI (q_uI (q_uI (q_uI (q_uI (q_uI I (a + 1 + 1) (va_cpy (I (b + 1 + 1)) (I (a + 1 + 1)) 0 0 4)) (a + 1 + 2) (va_cpy ((q_uI I (a + 1 + 1) (va_cpy (I (b + 1 + 1)) (I (a + 1 + 1)) 0 0 4)) (b + 1 + 2)) ((q_uI I (a + 1 + 1) (va_cpy (I (b + 1 + 1)) (I (a + 1 + 1)) 0 0 4)) (a + 1 + 2)) 0 0 4)) (a + 1 + 3) (va_cpy (I (b + 1 + 3)) (I (a + 1 + 3)) 0 0 4)) (a + 1 + 4) (va_cpy (I (b + 1 + 4)) (I (a + 1 + 4)) 0 0 6)) (a + 1 + 5) (va_cpy (I (b + 1 + 5)) (I (a + 1 + 5)) 0 0 6)) (a + 1 + 6) (va_cpy (I (b + 1 + 6)) (I (a + 1 + 6)) 0 0 4)) (a + 1 + 7) (va_cpy (I (b + 1 + 7)) (I (a + 1 + 7)) 0 0 4)) (a + 1) 7 (I (b + 1) 7) = I1 := by
    rw [eI]
    simp (disch := omega) only [d_ui_o, d_uI_o]
  simp (disch := omega) only [d_uI_o]
  rw [← eI]
  obtain ⟨I2, e2, k1, k2⟩ := d_copy (I := I1) (P := P) (c := a + 9) (n := 12) (c2 := b + 9) (n2 := 12) (by decide) (by decide) (d_cal_eq h3 (fun o q1 q2 => g1 o (by omega)) rfl) hbl hi (by omega)
  have eb3 : I2 b 3 = nI n := by rw [k2 b (by omega), g1 b (by omega)]; exact c2
  have eb4 : I2 b 4 = nI nx := by rw [k2 b (by omega), g1 b (by omega)]; exact c3
  rw [e2, d_b1, eb3, if_neg (show ¬ (12 : Int32) < nI n from nI_nlt (a := 12) hn (by decide)), d_l, d_ui_o (by omega), eb4, d_l]
  obtain ⟨I5, e5, m1, m2⟩ := d_wcL hab hn (q_ui (q_ui I2 a 3 (nI n)) a 4 (nI nx)) (fun (I7 : q_I) => q_l (q_uI I7 (a + 24) (va_cpy (I7 (b + 24)) (I7 (a + 24)) 0 0 3)) (fun I8 => q_l (q_uI I8 (a + 25) (va_cpy (I8 (b + 25)) (I8 (a + 25)) 0 0 3)) (fun I9 => some (I9)))) n 0 q_fu (q_ui (q_ui I2 a 3 (nI n)) a 4 (nI nx)) (by omega) (d_q (by omega)) (by rw [d_ui_n (by decide), d_ui_s]) (fun _ _ => rfl) (fun j hj => by omega)
  have e5' : f_Wo_copyFrom_L1 a b (fun (I7 : q_I) => q_l (q_uI I7 (a + 24) (va_cpy (I7 (b + 24)) (I7 (a + 24)) 0 0 3)) (fun I8 => q_l (q_uI I8 (a + 25) (va_cpy (I8 (b + 25)) (I8 (a + 25)) 0 0 3)) (fun I9 => some (I9)))) q_fu 0 (q_ui (q_ui I2 a 3 (nI n)) a 4 (nI nx)) = some (q_uI (q_uI I5 (a + 24) (va_cpy (I5 (b + 24)) (I5 (a + 24)) 0 0 3)) (a + 25) (va_cpy ((q_uI I5 (a + 24) (va_cpy (I5 (b + 24)) (I5 (a + 24)) 0 0 3)) (b + 25)) ((q_uI I5 (a + 24) (va_cpy (I5 (b + 24)) (I5 (a + 24)) 0 0 3)) (a + 25)) 0 0 3)) := e5
  rw [e5']
  have old : ∀ o, o ≠ a → (o < a + 26 ∨ a + 26 + 2 * n ≤ o) → I5 o = I2 o := fun o q1 q2 => by rw [m1 o q2, d_ui_o q1, d_ui_o q1]
  obtain ⟨I9, e9, -⟩ : ∃ I9, I9 = q_uI (q_uI I5 (a + 24) (va_cpy (I5 (b + 24)) (I5 (a + 24)) 0 0 3)) (a + 25) (va_cpy ((q_uI I5 (a + 24) (va_cpy (I5 (b + 24)) (I5 (a + 24)) 0 0 3)) (b + 25)) ((q_uI I5 (a + 24) (va_cpy (I5 (b + 24)) (I5 (a + 24)) 0 0 3)) (a + 25)) 0 0 3) ∧ True := ⟨_, rfl, trivial⟩
  rw [← e9]
  have n9 : ∀ o, o ≠ a + 24 → o ≠ a + 25 → I9 o = I5 o := fun o q1 q2 => by rw [e9, d_uI_o q2, d_uI_o q1]
  have n24 : ∀ x, x < 3 → I9 (a + 24) x = I (b + 24) x := fun x hx => by
    rw [e9, d_uI_o (by omega), d_uI_s, sb_cpy0 hx, old _ (by omega) (by omega), k2 _ (by omega), g1 _ (by omega)]
  have n25 : ∀ x, x < 3 → I9 (a + 25) x = I (b + 25) x := fun x hx => by
    rw [e9, d_uI_s, sb_cpy0 hx, d_uI_o (by omega), old _ (by omega) (by omega), k2 _ (by omega), g1 _ (by omega)]
  have ob : ∀ o, b ≤ o → o < b + 50 → I2 o = I o := fun o q1 q2 => by rw [k2 o (by omega), g1 o (by omega)]
  obtain ⟨C', N', hs'⟩ := d_stl_fn hs
  refine ⟨I9, rfl, ⟨⟨fun j => if j < n then C j else C' j, fun j => if j < n then N j else N' j, ⟨fun x hx => ?_, fun x hx => ?_, h1.2.2⟩, ⟨?_, h2.2.1, fun x hx => ?_⟩, d_cal_eq k1 (fun o q1 q2 => by rw [n9 o (by omega) (by omega), old o (by omega) (by omega)]) rfl, fun j hj => ?_, fun j hj => ?_⟩, ?_, ?_, fun r hr => ⟨?_, ?_⟩⟩, fun o ho => ?_⟩
  · have z := gr x hx
    rw [n9 _ (by omega) (by omega), n9 _ (by omega) (by omega), n9 _ (by omega) (by omega), old _ (by omega) (by omega), old _ (by omega) (by omega), old _ (by omega) (by omega), k2 _ (by omega), k2 _ (by omega), k2 _ (by omega), z.1, z.2.1, z.2.2.1]
    exact h1.1 x hx
  · have z := gr6 x hx
    rw [n9 _ (by omega) (by omega), n9 _ (by omega) (by omega), old _ (by omega) (by omega), old _ (by omega) (by omega), k2 _ (by omega), k2 _ (by omega), z.1, z.2]
    exact h1.2.1 x hx
  · rw [n9 _ (by omega) (by omega), old _ (by omega) (by omega), k2 _ (by omega), g7]
    exact h2.1
  · have := h2.2.1
    have z := gr x (by omega)
    rw [n9 _ (by omega) (by omega), n9 _ (by omega) (by omega), old _ (by omega) (by omega), old _ (by omega) (by omega), k2 _ (by omega), k2 _ (by omega), z.2.2.2.1, z.2.2.2.2]
    exact h2.2.2 x hx
  · dsimp only
    rw [n9 _ (by omega) (by omega)]
    by_cases hjn : j < n
    · rw [if_pos hjn, if_pos hjn, (m2 j hjn).1 6 (by decide), (m2 j hjn).1 7 (by decide), d_ui_o (by omega), d_ui_o (by omega), ob _ (by omega) (by omega)]
      exact h4.1 j hj
    · rw [if_neg hjn, if_neg hjn, old _ (by omega) (by omega), k2 _ (by omega), g1 _ (by omega)]
      exact hs' j hj
  · dsimp only
    rw [if_pos hj, if_pos hj]
    obtain ⟨z1, z2⟩ := h4.2 j hj
    refine ⟨⟨fun f hf => ?_, fun h0 f hf => ?_⟩, z2⟩
    · rw [n9 _ (by omega) (by omega), (m2 j hj).1 f (by omega), d_ui_o (by omega), d_ui_o (by omega), ob _ (by omega) (by omega)]
      exact z1.1 f hf
    · rw [n9 _ (by omega) (by omega), (m2 j hj).2 f hf, d_ui_o (by omega), d_ui_o (by omega), ob _ (by omega) (by omega)]
      exact z1.2 h0 f hf
  · rw [n9 _ (by omega) (by omega), m1 a (by omega), d_ui_n (by decide), d_ui_s]
  · rw [n9 _ (by omega) (by omega), m1 a (by omega), d_ui_s]
  · rw [n24 r hr]; exact (c4 r hr).1
  · rw [n25 r hr]; exact (c4 r hr).2
  · rw [n9 _ (by omega) (by omega), old _ (by omega) (by omega), k2 _ (by omega), g1 _ (by omega)]
