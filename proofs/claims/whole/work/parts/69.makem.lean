section DP
variable {t n : Nat} {I : q_I} {P : q_P} {M : q_I} {Ru : Nat → Nat → Nat} {no : Nat} {Of Os : Nat → Int32} {base : List (Nat → Nat)} {E : Nat → Nat → Nat} {kn : Nat → Nat} {nx : Nat} {ac : Nat → Nat} {r : Nat} {e : Nat → Nat}
theorem d_makeM {J : q_J} {a3 : Int32} (ha : d_ab t n Ru no Of Os base E kn nx ac) (hm : d_ml1 (M 1) n Ru no Of Os base E kn nx) (hn : n < 12) (hr : r < 3) (he : d_nw n nx r (kn r) e (d_fm base E (ac r) 12)) (hpl : e 3 = 0 → ∀ f, 7 ≤ f → f < 13 → M 1 (124 + 13 * n + f) = nI (e f)) (ha3 : e 3 ≠ 0 → a3 = nI (e 4)) :
    ∃ v M' J' s, f_Mo_makes M J (nI r) (nI (e 3)) a3 (nI (e 5)) (nI (e 2)) = some (v, M', J') ∧ d_acc1 Ru no Of Os base (d_up E n e) (kn r ||| 2 ^ n) 0 (some s) ∧ (s = ac r ||| 2 ^ n → v = nI nx ∧ d_ml1 (M' 1) (n + 1) Ru no Of Os base (d_up E n e) (fun q => if q = r then kn r ||| 2 ^ n else kn q) (nx + 1)) ∧ (s ≠ ac r ||| 2 ^ n → v = -3 ∧ d_ml1 (M' 1) n Ru no Of Os base E kn nx) ∧ d_ms2 M M' := by
  have hwf' := d_wf_up ha hn hr he
  have h12 : (2 : Nat) ^ (n + 1) ≤ 2 ^ 12 := Nat.pow_le_pow_right (by decide) (by omega)
  have hpn : (2 : Nat) ^ (n + 1) = 2 ^ n * 2 := Nat.pow_succ 2 n
  have h2n : 2 ^ n < 2 ^ (n + 1) := dn_2lt (by omega)
  have hk := (ha.2.2.2.2.2.1 r hr).1
  have hac := (ha.2.2.2.2.2.1 r hr).2.1
  have hk' : kn r ||| 2 ^ n < 2 ^ (n + 1) := dn_orlt (by omega) h2n
  have hac' : ac r ||| 2 ^ n < 2 ^ (n + 1) := dn_orlt (by omega) h2n
  have he' := he
  obtain ⟨e0, e1, e6, ok, par⟩ := he'
  have hnx : nx ≤ 100000 := by have := ok.2.2.1; omega
  obtain ⟨M1, J1, x1, x2⟩ := d_accR (J := J) ha hm hr
  have hm1 := d_mwf hm x2
  have e3 := ok.1
  have key : ∀ X : q_I, X 1 1 = nI nx → (if nI (e 3) = 0 then (q_ix 1 280 (fun j21 => (some (X 1 j21)))) else (some a3) : Option Int32) = some (nI (e 4)) := fun X hX => by
    by_cases h3 : e 3 = 0
    · rw [if_pos ((d_q0 (by omega)).mpr h3), d_x1, hX, (ok.2.2.2.2.2.2.2.2.1 h3).1, e0]
    · rw [if_neg (fun z => h3 ((d_q0 (by omega)).mp z)), ha3 h3]
  obtain ⟨M10, eM, -⟩ : ∃ M10, M10 = q_ui (q_ui (q_ui (q_ui (q_ui (q_ui (q_ui (q_ui (q_ui M1 1 (124 + 13 * n + 0) (nI nx)) 1 (124 + 13 * n + 1) (nI r)) 1 (124 + 13 * n + 2) (nI (e 2))) 1 (124 + 13 * n + 3) (nI (e 3))) 1 (124 + 13 * n + 4) (nI (e 4))) 1 (124 + 13 * n + 5) (nI (e 5))) 1 (124 + 13 * n + 6) (nI (kn r))) 1 0 (nI (n + 1))) 1 (4 + r) (nI (kn r ||| 2 ^ n)) ∧ True := ⟨_, rfl, trivial⟩
  have hX : ∀ x, x ≠ 0 → x ≠ 4 + r → (x < 124 + 13 * n ∨ 124 + 13 * n + 7 ≤ x) → M10 1 x = M1 1 x := fun x q1 q2 q3 => by
    rw [eM]
    simp (disch := omega) only [d_ui_s, d_ui_n]
  have hF : ∀ f, f < 7 → M10 1 (124 + 13 * n + f) = nI (e f) := fun f hf => by
    rw [eM]
    have hf' : f = 0 ∨ f = 1 ∨ f = 2 ∨ f = 3 ∨ f = 4 ∨ f = 5 ∨ f = 6 := by omega
    rcases hf' with rfl | rfl | rfl | rfl | rfl | rfl | rfl
    · simp (disch := omega) only [d_ui_s, d_ui_n]
      rw [e0]
    · simp (disch := omega) only [d_ui_s, d_ui_n]
      rw [e1]
    · simp (disch := omega) only [d_ui_s, d_ui_n]
    · simp (disch := omega) only [d_ui_s, d_ui_n]
    · simp (disch := omega) only [d_ui_s, d_ui_n]
    · simp (disch := omega) only [d_ui_s, d_ui_n]
    · simp (disch := omega) only [d_ui_s, d_ui_n]
      rw [e6]
  have h0 : M10 1 0 = nI (n + 1) := by
    rw [eM, d_ui_n (by omega), d_ui_s]
  have h4r : M10 1 (4 + r) = nI (kn r ||| 2 ^ n) := by rw [eM, d_ui_s]
  have hO : ∀ o, o ≠ 1 → M10 o = M1 o := fun o ho => by
    rw [eM]
    simp (disch := omega) only [d_ui_o]
  obtain ⟨⟨v1, v2, v3, v4, v5, v6, v7, v8, v9⟩, v10, v11⟩ := hm1
  have hlb := ha.1.2.2.1
  have hm10 : d_ml1 (M10 1) (n + 1) Ru no Of Os base (d_up E n e) (fun q => if q = r then kn r ||| 2 ^ n else kn q) nx := by
    refine ⟨⟨h0, ?_, ⟨?_, v3.2⟩, fun x hx => ?_, fun x hx => ?_, fun o ho => ?_, fun k m hk f hf => ?_, fun i hi => ?_, v9⟩, ?_, fun q hq => ?_⟩
    · rw [hX 2 (by omega) (by omega) (by omega)]; exact v2
    · rw [hX 3 (by omega) (by omega) (by omega)]; exact v3.1
    · rw [hX _ (by omega) (by omega) (by omega), hX _ (by omega) (by omega) (by omega), hX _ (by omega) (by omega) (by omega)]; exact v4 x hx
    · rw [hX _ (by omega) (by omega) (by omega), hX _ (by omega) (by omega) (by omega)]; exact v5 x hx
    · have := v3.2
      rw [hX _ (by omega) (by omega) (by omega), hX _ (by omega) (by omega) (by omega)]; exact v6 o ho
    · have := d_get_lt hk
      rw [hX _ (by omega) (by omega) (by omega)]; exact v7 k m hk f hf
    · by_cases q : i = n
      · subst q
        rw [d_up_s]
        exact ⟨hF, fun h3 f h7 hf => by rw [hX _ (by omega) (by omega) (by omega), x2.1 1 (by decide) (by decide)]; exact hpl h3 f h7 hf⟩
      · rw [d_up_n q]
        obtain ⟨z1, z2⟩ := v8 i (by omega)
        exact ⟨fun f hf => by rw [hX _ (by omega) (by omega) (by omega)]; exact z1 f hf, fun h3 f h7 hf => by rw [hX _ (by omega) (by omega) (by omega)]; exact z2 h3 f h7 hf⟩
    · rw [hX 1 (by omega) (by omega) (by omega)]; exact v10
    · dsimp only
      by_cases q1 : q = r
      · rw [if_pos q1, q1]; exact h4r
      · rw [if_neg q1, hX _ (by omega) (by omega) (by omega)]; exact v11 q hq
  obtain ⟨M11, J2, b, y1, y2, y3⟩ := d_mbest (J := J1) (req := 0) hm10.1 hwf' hr hk' h4r (Nat.two_pow_pos (n + 1))
  cases b with
  | none =>
    obtain ⟨U, g7, g8⟩ := y3
    exact absurd (fun i q => absurd q w_in_0) (g8 0 (d_adm00 ha.2.1) (fun i q => absurd q w_in_0))
  | some s =>
    have hs : s < 2 ^ (n + 1) := by
      obtain ⟨U, g7, g8⟩ := y3
      exact w_sub_lt g8.2.2.1 (w_sub_lt (d_us_sub g7) hk')
    have y1' : f_Mo_bestWith M10 J1 (nI r) 0 = some (nI s, M11, J2) := y1
    have h11 : M11 1 = M10 1 := y2.1 1 (by decide) (by decide)
    have hacc : f_Mo_accepted M10 J1 (nI r) = some (nI s, M11, J2) := by
      unfold f_Mo_accepted
      rw [y1', d_b3]
    have ms11 : d_ms2 M M11 := by
      refine ⟨fun o q1 q2 => ?_, ?_, ?_⟩
      · rw [y2.1 o (by omega) (by omega), hO o (by omega), x2.1 o (by omega) (by omega)]
      · rw [y2.2 4 (by decide), hO 0 (by decide), x2.2 4 (by decide)]
      · rw [y2.2 6 (by decide), hO 0 (by decide), x2.2 6 (by decide)]
    unfold f_Mo_makes
    rw [d_x0, hm.1.1, d_l, x1, d_b3, d_k4, d_ix (by omega) (by omega), v11 r hr, d_l, d_me0, d_b1, d_x1, v10, d_ix (by omega) (by omega), d_l, d_me1, d_b1, d_ix (by omega) (by omega), d_l, d_me2, d_b1, d_ix (by omega) (by omega), d_l, d_me3, d_b1, d_ix (by omega) (by omega), d_l, d_me4, d_b1, key _ (by
      simp (disch := omega) only [d_ui_s, d_ui_n]
      exact v10), d_b1, d_ix (by omega) (by omega), d_l, d_me5, d_b1, d_ix (by omega) (by omega), d_l, d_me6, d_b1, d_ix (by omega) (by omega), d_l, d_x0, d_ui_n (by omega), d_ui_n (by omega), d_ui_n (by omega), d_ui_n (by omega), d_ui_n (by omega), d_ui_n (by omega), d_ui_n (by omega), v1, nI_1, d_x0, d_l, d_ix (by omega) (by omega), d_ui_n (by omega), d_ui_n (by omega), d_ui_n (by omega), d_ui_n (by omega), d_ui_n (by omega), d_ui_n (by omega), d_ui_n (by omega), d_ui_n (by omega), v11 r hr, dn_pos (by omega), dn_or (by omega) (by omega), d_ix (by omega) (by omega), d_l, ← eM, hacc, d_b3, dn_or (by omega) (by omega)]
    by_cases hs2 : s = ac r ||| 2 ^ n
    · rw [if_pos (congrArg nI hs2), d_x1, h11, hm10.2.1, d_x1, d_l, d_x1, d_ui_s, nI_1, nI_pred]
      refine ⟨_, _, _, s, rfl, y3, fun _ => ⟨rfl, ?_⟩, fun z => absurd hs2 z, d_ms2_tr ms11 d_ms2_1⟩
      obtain ⟨⟨u1, u2, u3, u4, u5, u6, u7, u8, u9⟩, u10, u11⟩ := hm10
      have hv : ∀ x, x ≠ 1 → q_ui M11 1 1 (nI (nx + 1)) 1 x = M10 1 x := fun x hx => by rw [d_ui_n hx, h11]
      refine ⟨⟨?_, ?_, ⟨?_, u3.2⟩, fun x hx => ?_, fun x hx => ?_, fun o ho => ?_, fun k m hk f hf => ?_, fun i hi => ?_, u9⟩, d_ui_s, fun q hq => ?_⟩
      · rw [hv 0 (by omega)]; exact u1
      · rw [hv 2 (by omega)]; exact u2
      · rw [hv 3 (by omega)]; exact u3.1
      · rw [hv _ (by omega), hv _ (by omega), hv _ (by omega)]; exact u4 x hx
      · rw [hv _ (by omega), hv _ (by omega)]; exact u5 x hx
      · rw [hv _ (by omega), hv _ (by omega)]; exact u6 o ho
      · rw [hv _ (by omega)]; exact u7 k m hk f hf
      · obtain ⟨q1, q2⟩ := u8 i hi
        exact ⟨fun f hf => by rw [hv _ (by omega)]; exact q1 f hf, fun h3 f h7 hf => by rw [hv _ (by omega)]; exact q2 h3 f h7 hf⟩
      · rw [hv _ (by omega)]; exact u11 q hq
    · rw [if_neg (fun z => hs2 ((nI_eq (by omega) (by omega)).mp z)), d_x0, h11, h0, d_x0, nI_pred, d_l, d_ix (by omega) (by omega), d_l]
      refine ⟨_, _, _, s, rfl, y3, fun z => absurd z hs2, fun _ => ⟨rfl, ?_⟩, d_ms2_tr (d_ms2_tr ms11 d_ms2_1) d_ms2_1⟩
      have hv : ∀ x, x ≠ 0 → x ≠ 4 + r → x < 124 + 13 * n → q_ui (q_ui M11 1 0 (nI n)) 1 (4 + r) (nI (kn r)) 1 x = M1 1 x := fun x q1 q2 q3 => by rw [d_ui_n q2, d_ui_n q1, h11, hX x q1 q2 (by omega)]
      refine ⟨⟨?_, ?_, ⟨?_, v3.2⟩, fun x hx => ?_, fun x hx => ?_, fun o ho => ?_, fun k m hk f hf => ?_, fun i hi => ?_, v9⟩, ?_, fun q hq => ?_⟩
      · rw [d_ui_n (by omega), d_ui_s]
      · rw [hv 2 (by omega) (by omega) (by omega)]; exact v2
      · rw [hv 3 (by omega) (by omega) (by omega)]; exact v3.1
      · rw [hv _ (by omega) (by omega) (by omega), hv _ (by omega) (by omega) (by omega), hv _ (by omega) (by omega) (by omega)]; exact v4 x hx
      · rw [hv _ (by omega) (by omega) (by omega), hv _ (by omega) (by omega) (by omega)]; exact v5 x hx
      · have := v3.2
        rw [hv _ (by omega) (by omega) (by omega), hv _ (by omega) (by omega) (by omega)]; exact v6 o ho
      · have := d_get_lt hk
        rw [hv _ (by omega) (by omega) (by omega)]; exact v7 k m hk f hf
      · obtain ⟨q1, q2⟩ := v8 i hi
        exact ⟨fun f hf => by rw [hv _ (by omega) (by omega) (by omega)]; exact q1 f hf, fun h3 f h7 hf => by rw [hv _ (by omega) (by omega) (by omega)]; exact q2 h3 f h7 hf⟩
      · rw [hv 1 (by omega) (by omega) (by omega)]; exact v10
      · by_cases q1 : q = r
        · subst q1; rw [d_ui_s]
        · rw [hv _ (by omega) (by omega) (by omega)]; exact v11 q hq
/-- both make an edit alike -/
theorem d_makeZ {J J2 : q_J} {a3 : Int32} (h0 : d_Z t I P M) (ha : d_ab t n Ru no Of Os base E kn nx ac) (hc : d_cl1 I P 1 n Ru no Of Os base E kn nx ac) (hm : d_ml1 (M 1) n Ru no Of Os base E kn nx) (hn : n < 12) (hr : r < 3) (he : d_nw n nx r (kn r) e (d_fm base E (ac r) 12)) (hplC : e 3 = 0 → ∀ f, 1 ≤ f → f < 7 → I 112 f = nI (e (6 + f))) (hpl : e 3 = 0 → ∀ f, 7 ≤ f → f < 13 → M 1 (124 + 13 * n + f) = nI (e f)) (ha3 : e 3 ≠ 0 → a3 = nI (e 4)) :
    ∃ v I' J' P' M' J2', f_CR_make I J P (nI r) (nI (e 3)) (nI (e 4)) (nI (e 5)) (nI (e 2)) = some (v, I', J', P') ∧ f_Mo_makes M J2 (nI r) (nI (e 3)) a3 (nI (e 5)) (nI (e 2)) = some (v, M', J2') ∧ d_Z (t + 1) I' P' M' := by
  have hwf' := d_wf_up ha hn hr he
  have h2n : 2 ^ n < 2 ^ (n + 1) := dn_2lt (by omega)
  have hpn : (2 : Nat) ^ (n + 1) = 2 ^ n * 2 := Nat.pow_succ 2 n
  have hk := (ha.2.2.2.2.2.1 r hr).1
  have hk' : kn r ||| 2 ^ n < 2 ^ (n + 1) := dn_orlt (by omega) h2n
  obtain ⟨v, I', J', P', s, x1, x2, x3, x4, x5, x6⟩ := d_makeC (J := J) ha hc h0.2.2.1 h0.2.2.2.1 hn hr he hplC
  obtain ⟨v', M', J2', s', y1, y2, y3, y4, y5⟩ := d_makeM (J := J2) ha hm hn hr he hpl ha3
  have : s = s' := Option.some.inj (d_acc_u x2 y2)
  subst this
  by_cases hs : s = ac r ||| 2 ^ n
  · obtain ⟨rfl, c1⟩ := x4 hs
    obtain ⟨rfl, m1⟩ := y3 hs
    refine ⟨_, I', J', P', M', J2', x1, y1, d_Z_up h0 (by omega) ⟨n + 1, Ru, no, Of, Os, base, d_up E n e, _, nx + 1, _, ⟨hwf', ha.2.1, fun m hm => by have := ha.2.2.1 m hm; omega, fun i hi => ?_, by have := ha.2.2.2.2.1; omega, fun q hq => ?_, ha.2.2.2.2.2.2⟩, c1, m1⟩ x6 y5⟩
    · by_cases q : i = n
      · subst q
        rw [d_up_s, he.1]
        omega
      · rw [d_up_n q]
        have := ha.2.2.2.1 i (by omega)
        omega
    · by_cases q1 : q = r
      · rw [if_pos q1, if_pos q1]
        exact ⟨hk', x3, x2⟩
      · rw [if_neg q1, if_neg q1]
        obtain ⟨z1, z2, z3⟩ := ha.2.2.2.2.2.1 q hq
        exact ⟨by omega, by omega, d_acc_x d_up_lt z1 z3⟩
  · obtain ⟨rfl, c1⟩ := x5 hs
    obtain ⟨rfl, m1⟩ := y4 hs
    exact ⟨_, I', J', P', M', J2', x1, y1, d_Z_up h0 (by omega) ⟨n, Ru, no, Of, Os, base, E, kn, nx, ac, d_ab_t ha (by omega), c1, m1⟩ x6 y5⟩
end DP
