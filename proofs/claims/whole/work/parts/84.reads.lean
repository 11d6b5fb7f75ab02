/-! reading the text -/
theorem d_in48 : ∀ c, c < 127 → ∀ a, a < 10 → ∀ b, b < 10 → f_Mo_in (nI c - 48) (nI a) (nI b) = some (if 48 + a ≤ c ∧ c ≤ 48 + b then 1 else 0) := by decide +kernel
theorem d_c48 : ∀ c, c < 127 → 48 ≤ c → nI c - 48 = nI (c - 48) := by decide +kernel
theorem d_c10 : ∀ a, a < 10 → ∀ c, c < 127 → 48 ≤ c → 10 * nI a + nI c - 48 = nI (10 * a + (c - 48)) := by decide +kernel
theorem d_isdg : ∀ c, c < 127 → f_Mo_isDigit (nI c) = some (if 48 ≤ c ∧ c ≤ 57 then 1 else 0) := by decide +kernel
def d_pf (I0 M0 I M : q_I) (p : Nat) : Prop := (∀ o, o ≠ 113 → o ≠ 116 → I o = I0 o) ∧ (∀ o, o ≠ 0 → M o = M0 o) ∧ (∀ f, f < 11 ∨ 19 ≤ f → M 0 f = M0 0 f) ∧ I 113 3 = nI p ∧ M 0 18 = nI p ∧ p ≤ 60
def d_sk (I I' : q_I) : Prop := (∀ o, o ≠ 113 → I' o = I o) ∧ ∀ f, f ≠ 3 → I' 113 f = I 113 f
def d_sm (M M' : q_I) : Prop := (∀ o, o ≠ 0 → M' o = M o) ∧ ∀ f, f ≠ 18 → M' 0 f = M 0 f
theorem d_sk_rf {I : q_I} : d_sk I I := ⟨fun _ _ => rfl, fun _ _ => rfl⟩
theorem d_sm_rf {M : q_I} : d_sm M M := ⟨fun _ _ => rfl, fun _ _ => rfl⟩
theorem d_sk_tr {I I1 I2 : q_I} (h1 : d_sk I I1) (h2 : d_sk I1 I2) : d_sk I I2 := ⟨fun o q => (h2.1 o q).trans (h1.1 o q), fun f q => (h2.2 f q).trans (h1.2 f q)⟩
theorem d_sm_tr {M M1 M2 : q_I} (h1 : d_sm M M1) (h2 : d_sm M1 M2) : d_sm M M2 := ⟨fun o q => (h2.1 o q).trans (h1.1 o q), fun f q => (h2.2 f q).trans (h1.2 f q)⟩
theorem d_sk_u {I : q_I} {v : Int32} : d_sk I (q_ui I 113 3 v) := ⟨fun o q => d_ui_o q, fun f q => d_ui_n q⟩
theorem d_sm_u {M : q_I} {v : Int32} : d_sm M (q_ui M 0 18 v) := ⟨fun o q => d_ui_o q, fun f q => d_ui_n q⟩
section DQ
variable {I0 M0 I M : q_I} {p len : Nat}
theorem d_pf_mv {I' M' : q_I} {p' : Nat} (h : d_pf I0 M0 I M p) (h1 : d_sk I I') (h2 : d_sm M M') (h3 : I' 113 3 = nI p') (h4 : M' 0 18 = nI p') (h5 : p' ≤ 60) : d_pf I0 M0 I' M' p' :=
  ⟨fun o q1 q2 => by rw [h1.1 o q1, h.1 o q1 q2], fun o q => by rw [h2.1 o q, h.2.1 o q], fun f q => by rw [h2.2 f (by omega), h.2.2.1 f q], h3, h4, h5⟩
/-- the sign that stands at the place, or 0 -/
theorem d_here (hb : d_bu I0 M0 114 4 4 len) (hl : len ≤ 60) (h : d_pf I0 M0 I M p) : ∃ c, c < 127 ∧ (c ≠ 0 → p < len) ∧ f_Des_peek I 113 = some (nI c) ∧ f_Mo_here M = some (nI c) := by
  obtain ⟨g1, g2, g3, g4, g5, g6⟩ := h
  obtain ⟨b1, b2, b3⟩ := hb
  have e1 : I (113 + 1) = I0 114 := g1 114 (by decide) (by decide)
  have e2 : I (113 + 1 + 1) = I0 115 := g1 115 (by decide) (by decide)
  unfold f_Des_peek f_Mo_here f_SB_length f_SB_charAt
  rw [g4, g5, if_neg (nI_pos (by omega)), d_b1, e1, e2, b1, g3 4 (by decide), b2]
  by_cases hp : len ≤ p
  · rw [if_pos (nI_le hp (by omega)), if_pos (nI_le hp (by omega))]
    exact ⟨0, by decide, fun q => absurd rfl q, rfl, rfl⟩
  · obtain ⟨c, c1, c2, c3, c4⟩ := b3 p (by omega)
    have hc := d_ch c (by omega)
    rw [if_neg (nI_ge (by omega) (by omega)), if_neg (nI_ge (by omega) (by omega)), if_pos ⟨nI_pos' (by omega), nI_lt (by omega) (by omega)⟩, nI_clamp (by omega), show I0 115 p = nI c from c3, hc.2.1, d_b1, hc.2.2.2, d_ix (by omega) (by decide), g2 4 (by decide), c4]
    exact ⟨c, by omega, fun _ => by omega, rfl, rfl⟩
theorem d_atEnd (hb : d_bu I0 M0 114 4 4 len) (h : d_pf I0 M0 I M p) (hl : len ≤ 60) : f_Des_isAtEnd I 113 = some (if p < len then 0 else 1) ∧ (M 0 4 ≤ M 0 18 ↔ ¬ p < len) := by
  obtain ⟨g1, g2, g3, g4, g5, g6⟩ := h
  obtain ⟨b1, b2, b3⟩ := hb
  have e1 : I (113 + 1) = I0 114 := g1 114 (by decide) (by decide)
  unfold f_Des_isAtEnd f_SB_length
  rw [g4, g5, d_b1, e1, b1, g3 4 (by decide), b2]
  by_cases hp : p < len
  · rw [if_pos (nI_lt hp (by omega)), if_pos hp]
    exact ⟨rfl, fun q => absurd q (nI_ge hp (by omega)), fun q => absurd hp q⟩
  · rw [if_neg (nI_nlt (by omega) (by omega)), if_neg hp]
    exact ⟨rfl, fun _ => hp, fun _ => nI_le (by omega) (by omega)⟩
theorem d_rdig (hb : d_bu I0 M0 114 4 4 len) (hl : len ≤ 60) (h : d_pf I0 M0 I M p) {a b : Nat} (ha : a < 10) (hb9 : b < 10) : ∃ c, c < 127 ∧ f_Mo_here M = some (nI c) ∧ ((48 + a ≤ c ∧ c ≤ 48 + b ∧ f_Des_readDigit I 113 (nI a) (nI b) = some (nI (c - 48), q_ui I 113 3 (nI (p + 1))) ∧ d_pf I0 M0 (q_ui I 113 3 (nI (p + 1))) (q_ui M 0 18 (nI (p + 1))) (p + 1)) ∨ (¬ (48 + a ≤ c ∧ c ≤ 48 + b) ∧ f_Des_readDigit I 113 (nI a) (nI b) = some (-4, I))) := by
  obtain ⟨c, c1, c2, c3, c4⟩ := d_here hb hl h
  refine ⟨c, c1, c4, ?_⟩
  unfold f_Des_readDigit
  rw [c3, d_b1, d_l, dn_within, d_in48 c c1 a ha b hb9, d_b1]
  by_cases hr : 48 + a ≤ c ∧ c ≤ 48 + b
  · have := c2 (by omega)
    rw [if_pos hr, if_neg (show ¬ (1 : Int32) = 0 by decide), h.2.2.2.1, nI_1, d_l, d_c48 c c1 (by omega)]
    exact Or.inl ⟨hr.1, hr.2, rfl, d_pf_mv h d_sk_u d_sm_u d_ui_s d_ui_s (by omega)⟩
  · rw [if_neg hr, if_pos rfl]
    exact Or.inr ⟨hr, rfl⟩
theorem d_rnum (hb : d_bu I0 M0 114 4 4 len) (hl : len ≤ 60) (h : d_pf I0 M0 I M p) : ∃ I' M' p', d_pf I0 M0 I' M' p' ∧ d_sk I I' ∧ d_sm M M' ∧ ((f_Des_readNumber I 113 = some (-4, I') ∧ f_Mo_number M = some (-1, M')) ∨ ∃ v, v ≤ 99 ∧ f_Des_readNumber I 113 = some (nI v, I') ∧ f_Mo_number M = some (nI v, M')) := by
  obtain ⟨c, c1, c2, c3⟩ := d_rdig hb hl h (a := 0) (b := 9) (by decide) (by decide)
  unfold f_Des_readNumber f_Mo_number
  rw [c2, d_b1, d_isdg c c1, d_b1, d_b1]
  rcases c3 with ⟨q1, q2, q3, q4⟩ | ⟨q1, q2⟩
  · have q3' : f_Des_readDigit I 113 0 9 = some (nI (c - 48), q_ui I 113 3 (nI (p + 1))) := q3
    rw [if_pos (show 48 ≤ c ∧ c ≤ 57 by omega), if_neg (show ¬ (1 : Int32) = 0 by decide), q3', d_b2, if_pos (nI_pos' (by omega)), d_l, h.2.2.2.2.1, nI_1, d_l, d_c48 c c1 (by omega)]
    obtain ⟨e, e1, e2, e3⟩ := d_rdig hb hl q4 (a := 0) (b := 9) (by decide) (by decide)
    rw [e2, d_b1, d_isdg e e1, d_b1]
    rcases e3 with ⟨r1, r2, r3, r4⟩ | ⟨r1, r2⟩
    · have r3' : f_Des_readDigit (q_ui I 113 3 (nI (p + 1))) 113 0 9 = some (nI (e - 48), q_ui (q_ui I 113 3 (nI (p + 1))) 113 3 (nI (p + 1 + 1))) := r3
      rw [if_pos (show 48 ≤ e ∧ e ≤ 57 by omega), if_neg (show ¬ (1 : Int32) = 0 by decide), r3', d_b2, if_pos (nI_pos' (by omega)), d_b1, d_c10 (c - 48) (by omega) e e1 (by omega), d_l, d_ui_s, nI_1, d_l, d_m10, nI_add]
      exact ⟨_, _, p + 1 + 1, r4, d_sk_tr d_sk_u d_sk_u, d_sm_tr d_sm_u d_sm_u, Or.inr ⟨10 * (c - 48) + (e - 48), by omega, rfl, rfl⟩⟩
    · have r2' : f_Des_readDigit (q_ui I 113 3 (nI (p + 1))) 113 0 9 = some (-4, q_ui I 113 3 (nI (p + 1))) := r2
      rw [if_neg (show ¬ (48 ≤ e ∧ e ≤ 57) by omega), if_pos rfl, r2', d_b2, if_neg (show ¬ (0 : Int32) ≤ -4 by decide)]
      exact ⟨_, _, p + 1, q4, d_sk_u, d_sm_u, Or.inr ⟨c - 48, by omega, rfl, rfl⟩⟩
  · have q2' : f_Des_readDigit I 113 0 9 = some (-4, I) := q2
    rw [if_neg (show ¬ (48 ≤ c ∧ c ≤ 57) by omega), if_pos rfl, q2', d_b2, if_neg (show ¬ (0 : Int32) ≤ -4 by decide)]
    exact ⟨I, M, p, h, d_sk_rf, d_sm_rf, Or.inl ⟨rfl, rfl⟩⟩
theorem d_rskip (hb : d_bu I0 M0 114 4 4 len) (hl : len ≤ 60) (h : d_pf I0 M0 I M p) {k : Nat} (hk : 1 ≤ k ∧ k < 127) : ∃ I' M' p' v, d_pf I0 M0 I' M' p' ∧ d_sk I I' ∧ d_sm M M' ∧ (v = 0 ∨ v = 1) ∧ f_Des_skip I 113 (nI k) = some (v, I') ∧ f_Mo_takes M (nI k) = some (v, M') := by
  obtain ⟨c, c1, c2, c3, c4⟩ := d_here hb hl h
  unfold f_Des_skip f_Mo_takes
  rw [c3, c4, d_b1, d_b1, h.2.2.2.1, h.2.2.2.2.1]
  by_cases hck : c = k
  · have := c2 (by omega)
    rw [if_pos (congrArg nI hck), if_pos (congrArg nI hck), nI_1, d_l, d_b1, if_neg (show ¬ (1 : Int32) = 0 by decide), d_b1, nI_1, d_l]
    exact ⟨_, _, p + 1, 1, d_pf_mv h d_sk_u d_sm_u d_ui_s d_ui_s (by omega), d_sk_u, d_sm_u, Or.inr rfl, rfl, rfl⟩
  · rw [if_neg (fun q => hck ((nI_eq (by omega) (by omega)).mp q)), if_neg (fun q => hck ((nI_eq (by omega) (by omega)).mp q)), d_b1, if_pos rfl, d_b1, Int32.add_zero, d_l]
    exact ⟨I, _, p, 0, d_pf_mv h d_sk_rf d_sm_u h.2.2.2.1 d_ui_s h.2.2.2.2.2, d_sk_rf, d_sm_u, Or.inl rfl, rfl, rfl⟩
/-- persons, in rising order -/
def d_sm4 (M M' : q_I) : Prop := (∀ o, o ≠ 0 → M' o = M o) ∧ ∀ f, f ≠ 18 → f ≠ 14 → M' 0 f = M 0 f
theorem d_rperL (hb : d_bu I0 M0 114 4 4 len) (hl : len ≤ 60) : ∀ (d x fu fu2 : Nat) (I M : q_I) (p a : Nat) (y : Int32) (l : Nat), x + d = 6 → d < fu → d < fu2 → d_pf I0 M0 I M p → a < 2 ^ x → M 0 14 = nI a → (y = -1 ∧ l = 0) ∨ (y = nI (l - 1) ∧ 1 ≤ l) → l ≤ x → (∀ c, f_Mo_here M = some (nI c) → c < 127 → ¬ (48 + l ≤ c ∧ c < 48 + x)) →
    ∃ I' M' p' a', f_Des_readPersons_L1 113 fu (nI a) (nI x) I = some (nI a', I') ∧ f_Mo_areToldPersons_L1 fu2 y M = some (1, M') ∧ d_pf I0 M0 I' M' p' ∧ d_sk I I' ∧ d_sm4 M M' ∧ M' 0 14 = nI a' ∧ a' < 64 ∧ (a ≠ 0 → a' ≠ 0) ∧ ((∃ c, f_Mo_here M = some (nI c) ∧ c < 127 ∧ 48 + x ≤ c ∧ c ≤ 53) → a' ≠ 0) := by
  intro d
  induction d with
  | zero =>
    intro x fu fu2 I M p a y l hx hf hf2 h ha hM hy hlx hc
    obtain ⟨fu, rfl, -⟩ := d_fuel hf
    obtain ⟨fu2, rfl, -⟩ := d_fuel hf2
    have : x = 6 := by omega
    subst this
    obtain ⟨c, c1, c2, c3, c4⟩ := d_here hb hl h
    have hcc := hc c c4 c1
    unfold f_Des_readPersons_L1 f_Mo_areToldPersons_L1
    rw [if_pos (show (6 : Int32) ≤ nI 6 by decide), c4, d_b1, show f_Mo_in (nI c) 48 53 = some (if 48 ≤ c ∧ c ≤ 53 then 1 else 0) from dn_inE (a := 48) (b := 53) (by omega) (by decide) (by decide), d_b1]
    refine ⟨I, M, p, a, rfl, ?_, h, d_sk_rf, ⟨fun _ _ => rfl, fun _ _ _ => rfl⟩, hM, ha, fun q => q, fun ⟨e, e1, e2, e3, e4⟩ => by omega⟩
    by_cases hr : 48 ≤ c ∧ c ≤ 53
    · rw [if_pos hr, if_neg (by decide), d_b1, d_c48 c c1 hr.1]
      rcases hy with ⟨rfl, rfl⟩ | ⟨rfl, hl1⟩
      · exact absurd ⟨hr.1, by omega⟩ hcc
      · rw [if_pos (nI_le (by omega) (by omega))]
    · rw [if_neg hr, if_pos rfl]
  | succ d ih =>
    intro x fu fu2 I M p a y l hx hf hf2 h ha hM hy hlx hc
    obtain ⟨fu, rfl, hf⟩ := d_fuel hf
    have h2x : a < 2 ^ (x + 1) := by
      have : (2 : Nat) ^ (x + 1) = 2 ^ x * 2 := Nat.pow_succ 2 x
      omega
    obtain ⟨c, c1, c2, c3⟩ := d_rdig hb hl h (a := x) (b := x) (by omega) (by omega)
    unfold f_Des_readPersons_L1
    rw [if_neg (d_g6 (by omega))]
    rcases c3 with ⟨q1, q2, q3, q4⟩ | ⟨q1, q2⟩
    · have hcx : c = 48 + x := by omega
      subst hcx
      have e48 : 48 + x - 48 = x := by omega
      rw [e48] at q3
      obtain ⟨fu2, rfl, hf2⟩ := d_fuel hf2
      have h64 : (2 : Nat) ^ (x + 1) ≤ 2 ^ 6 := Nat.pow_le_pow_right (by decide) (by omega)
      have h2 := dn_2lt (i := x) (n := x + 1) (by omega)
      rw [q3, d_b2, if_neg (nI_pos (by omega)), dn_pos (by omega), dn_or (by omega) (by omega), d_l, nI_1]
      unfold f_Mo_areToldPersons_L1
      have hnle : ¬ nI x ≤ y := by
        rcases hy with ⟨rfl, -⟩ | ⟨rfl, hl1⟩
        · intro q
          rw [Int32.le_iff_toInt_le, nI_toInt (by omega)] at q
          have : (-1 : Int32).toInt = -1 := rfl
          omega
        · exact nI_ge (by omega) (by omega)
      rw [c2, d_b1, show f_Mo_in (nI (48 + x)) 48 53 = some (if 48 ≤ 48 + x ∧ 48 + x ≤ 53 then 1 else 0) from dn_inE (a := 48) (b := 53) (by omega) (by decide) (by decide), d_b1, if_pos (show 48 ≤ 48 + x ∧ 48 + x ≤ 53 by omega), if_neg (show ¬ (1 : Int32) = 0 by decide), d_b1, d_c48 (48 + x) c1 (by omega), e48, if_neg hnle, d_b1, d_c48 (48 + x) c1 (by omega), e48, d_l, hM, dn_pos (by omega), dn_or (by omega) (by omega), d_l, d_ui_n (by decide), h.2.2.2.2.1, nI_1, d_l]
      have hpf : d_pf I0 M0 (q_ui I 113 3 (nI (p + 1))) (q_ui (q_ui M 0 14 (nI (a ||| 2 ^ x))) 0 18 (nI (p + 1))) (p + 1) := by
        refine ⟨q4.1, fun o q => by rw [d_ui_o q, d_ui_o q, h.2.1 o q], fun f q => by rw [d_ui_n (by omega), d_ui_n (by omega), h.2.2.1 f q], d_ui_s, d_ui_s, q4.2.2.2.2.2⟩
      obtain ⟨I', M', p', a', z1, z2, z3, z4, z5, z6, z7, z8, z9⟩ := ih (x + 1) fu fu2 _ _ (p + 1) (a ||| 2 ^ x) (nI x) (x + 1) (by omega) (by omega) (by omega) hpf (dn_orlt h2x h2) (by rw [d_ui_n (by decide), d_ui_s]) (Or.inr ⟨by rw [Nat.add_sub_cancel], by omega⟩) (Nat.le_refl _) (fun e e1 e2 e3 => by omega)
      have hne : a ||| 2 ^ x ≠ 0 := fun q => by
        have : w_in (a ||| 2 ^ x) x := w_in_or.mpr (Or.inr (w_in_2.mpr rfl))
        rw [q] at this
        exact w_in_0 this
      exact ⟨I', M', p', a', z1, z2, z3, d_sk_tr d_sk_u z4, ⟨fun o q => by rw [z5.1 o q, d_ui_o q, d_ui_o q], fun f q1 q2 => by rw [z5.2 f q1 q2, d_ui_n q1, d_ui_n q2]⟩, z6, z7, fun _ => z8 hne, fun _ => z8 hne⟩
    · rw [q2, d_b2, if_pos (show (-4 : Int32) < 0 by decide), nI_1]
      obtain ⟨I', M', p', a', z1, z2, z3, z4, z5, z6, z7, z8, z9⟩ := ih (x + 1) fu fu2 I M p a y l (by omega) (by omega) (by omega) h h2x hM hy (by omega) (fun e e1 e2 => by
        have := hc e e1 e2
        rw [c2] at e1
        have : c = e := (nI_eq (by omega) (by omega)).mp (Option.some.inj e1)
        omega)
      refine ⟨I', M', p', a', z1, z2, z3, z4, z5, z6, z7, z8, fun ⟨e, e1, e2, e3, e4⟩ => z9 ⟨e, e1, e2, ?_, e4⟩⟩
      rw [c2] at e1
      have : c = e := (nI_eq (by omega) (by omega)).mp (Option.some.inj e1)
      omega
end DQ
