/-! learning -/
theorem d_ml_kn {v v' : Nat → Int32} {n : Nat} {Ru : Nat → Nat → Nat} {no : Nat} {Of Os : Nat → Int32} {base : List (Nat → Nat)} {E : Nat → Nat → Nat} {kn : Nat → Nat} {nx r k : Nat} (hm : d_ml1 v n Ru no Of Os base E kn nx) (hr : r < 3) (hv : ∀ x, x ≠ 4 + r → v' x = v x) (hk : v' (4 + r) = nI k) : d_ml1 v' n Ru no Of Os base E (fun q => if q = r then k else kn q) nx := by
  obtain ⟨⟨g1, g2, g3, g4, g5, g6, g7, g8, g9⟩, g10, g11⟩ := hm
  refine ⟨⟨?_, ?_, ⟨?_, g3.2⟩, fun x hx => ?_, fun x hx => ?_, fun o ho => ?_, fun k m hk f hf => ?_, fun i hi => ?_, g9⟩, ?_, fun q hq => ?_⟩
  · rw [hv 0 (by omega)]; exact g1
  · rw [hv 2 (by omega)]; exact g2
  · rw [hv 3 (by omega)]; exact g3.1
  · rw [hv _ (by omega), hv _ (by omega), hv _ (by omega)]; exact g4 x hx
  · rw [hv _ (by omega), hv _ (by omega)]; exact g5 x hx
  · rw [hv _ (by omega), hv _ (by omega)]; exact g6 o ho
  · rw [hv _ (by omega)]; exact g7 k m hk f hf
  · obtain ⟨q1, q2⟩ := g8 i hi
    exact ⟨fun f hf => by rw [hv _ (by omega)]; exact q1 f hf, fun h3 f h7 hf => by rw [hv _ (by omega)]; exact q2 h3 f h7 hf⟩
  · rw [hv 1 (by omega)]; exact g10
  · dsimp only
    by_cases hqr : q = r
    · subst hqr
      rw [if_pos rfl]; exact hk
    · rw [if_neg hqr, hv _ (by omega)]; exact g11 q hq
section DL
variable {t n : Nat} {I : q_I} {P : q_P} {M : q_I} {Ru : Nat → Nat → Nat} {no : Nat} {Of Os : Nat → Int32} {base : List (Nat → Nat)} {E : Nat → Nat → Nat} {kn : Nat → Nat} {nx : Nat} {ac : Nat → Nat}
/-- the merge that is kept in row 53, at any set of known edits, with nothing asked for -/
theorem d_mrg {J : q_J} {C N : Nat → Nat} {k : Nat} (hwf : d_wf base E n) (hv : d_valid Ru no Of Os base) (hcw : d_cw I P 1 n Ru no Of Os base E C N) (hi : d_inj P 55 24) (hk : k < 2 ^ n) : ∃ I' J' P' s, f_Mg_heaviest I J P 53 1 (nI k) 0 = some (nI s, I', J', P') ∧ s < 2 ^ n ∧ d_acc1 Ru no Of Os base E k 0 (some s) ∧ (∀ o, o < 53 ∨ 80 ≤ o → I' o = I o) ∧ d_pr 55 P P' ∧ d_inj P' 55 24 := by
  obtain ⟨v, I1, J1, P1, b, e1, g1, g2, g3, g4, g5, g6⟩ := d_heav (I := I) (J := J) (P := P) (mg := 53) (req := 0) hcw hwf cM54 (by omega) hi hk (Nat.two_pow_pos n) hv
  cases b with
  | none =>
    obtain ⟨U, g7, g8⟩ := g1
    exact absurd (fun i q => absurd q w_in_0) (g8 0 (d_adm00 hv) (fun i q => absurd q w_in_0))
  | some s =>
    obtain ⟨rfl, g2⟩ := g2
    exact ⟨I1, J1, P1, s, e1, g2, g1, g3, g5, g6⟩
theorem d_ab_kn {t' r k s : Nat} (ha : d_ab t n Ru no Of Os base E kn nx ac) (ht : t ≤ t') (hk : k < 2 ^ n) (hs : s < 2 ^ n) (h : d_acc1 Ru no Of Os base E k 0 (some s)) : d_ab t' n Ru no Of Os base E (fun q => if q = r then k else kn q) nx (fun q => if q = r then s else ac q) := by
  refine ⟨ha.1, ha.2.1, ha.2.2.1, ha.2.2.2.1, Nat.le_trans ha.2.2.2.2.1 ht, fun q hq => ?_, ha.2.2.2.2.2.2⟩
  dsimp only
  by_cases hqr : q = r
  · rw [if_pos hqr, if_pos hqr]
    exact ⟨hk, hs, h⟩
  · rw [if_neg hqr, if_neg hqr]
    exact ha.2.2.2.2.2.1 q hq
theorem d_learn {J : q_J} {r s : Nat} (h0 : d_Z t I P M) (ha : d_ab t n Ru no Of Os base E kn nx ac) (hc : d_cl1 I P 1 n Ru no Of Os base E kn nx ac) (hr : r < 3) (hs : s < 2 ^ n) : ∃ I' J' P', f_CR_learn I J P (nI r) (nI s) = some (nI (dn_cnt (w_nd s (kn r))), I', J', P') ∧ ∀ M', d_ml1 (M' 1) n Ru no Of Os base E (fun q => if q = r then kn r ||| w_nd s (kn r) else kn q) nx → d_ms2 M M' → d_Z (t + 1) I' P' M' := by
  have hn12 : n ≤ 12 := ha.1.2.2.2.2.2.2.2.2
  have h12 : (2 : Nat) ^ n ≤ 2 ^ 12 := Nat.pow_le_pow_right (by decide) hn12
  have hh := h0
  obtain ⟨-, h2, h3, h4, -⟩ := hh
  have hc' := hc
  obtain ⟨⟨C, N, hcw⟩, hc2, hc3, hc4⟩ := hc
  have h24 : ∀ q, q < 3 → I 25 q = nI (kn q) := fun q hq => (hc4 q hq).1
  have h25 : ∀ q, q < 3 → I 26 q = nI (ac q) := fun q hq => (hc4 q hq).2
  have hk := (ha.2.2.2.2.2.1 r hr).1
  have hx := dn_ndlt (b := kn r) hs
  unfold f_CR_learn
  rw [d_ix hr (by decide), d_l, h24 r hr, dn_nd (by omega) (by omega)]
  by_cases hx0 : w_nd s (kn r) = 0
  · rw [hx0, if_pos (show nI 0 = 0 from rfl), d_b3, dn_bc 0 (by decide), d_b1]
    refine ⟨_, _, _, rfl, fun M' hm' hms => d_Z_up h0 (by omega) ⟨n, Ru, no, Of, Os, base, E, kn, nx, ac, d_ab_t ha (by omega), hc', ?_⟩ ⟨fun _ _ => rfl, fun _ _ => rfl, h3, h4⟩ hms⟩
    have : (fun q => if q = r then kn r ||| 0 else kn q) = kn := by
      funext q
      by_cases hqr : q = r
      · rw [if_pos hqr, hqr, Nat.or_zero]
      · rw [if_neg hqr]
    rw [this] at hm'
    exact hm'
  · have hk' := dn_orlt hk hx
    rw [if_neg (d_n0 (by omega) hx0), d_ix hr (by decide), h24 r hr, dn_or (by omega) (by omega), d_ix hr (by decide), d_l, d_ix hr (by decide), d_ui_s]
    obtain ⟨I1, J1, P1, s1, e1, g1, g2, g3, g4, g5⟩ := d_mrg (J := J) (I := q_ui I 25 r (nI (kn r ||| w_nd s (kn r)))) ha.1 ha.2.1 (d_cw_fr2 hcw hn12 (fun o q1 q2 q3 q4 => d_ui_o (by omega)) rfl) h3 hk'
    rw [e1, d_b4, d_ix hr (by decide), d_l, d_b3, dn_bc _ (by omega), d_b1]
    have hI : ∀ o, o < 53 ∨ 80 ≤ o → o ≠ 25 → o ≠ 26 → q_ui I1 26 r (nI s1) o = I o := fun o q1 q2 q3 => by rw [d_ui_o q3, g3 o q1, d_ui_o q2]
    refine ⟨_, _, _, rfl, fun M' hm' hms => d_Z_up h0 (by omega) ⟨n, Ru, no, Of, Os, base, E, _, nx, _, d_ab_kn (r := r) ha (by omega) hk' g1 g2, ⟨⟨C, N, d_cw_fr2 hcw hn12 (fun o q1 q2 q3 q4 => hI o (by omega) (by omega) (by omega)) (g4 _ (by decide))⟩, ?_, ?_, fun q hq => ?_⟩, hm'⟩ ⟨fun o q => hI o (by omega) (by omega) (by omega), fun a q => g4 a (by omega), g5, ?_⟩ hms⟩
    · rw [hI 1 (by decide) (by decide) (by decide)]; exact hc2
    · rw [hI 1 (by decide) (by decide) (by decide)]; exact hc3
    · show q_ui I1 26 r (nI s1) 25 q = _ ∧ q_ui I1 26 r (nI s1) 26 q = _
      dsimp only
      rw [d_ui_o (by decide), g3 25 (by decide)]
      by_cases hqr : q = r
      · subst hqr
        rw [if_pos rfl, if_pos rfl, d_ui_s, d_ui_s]
        exact ⟨rfl, rfl⟩
      · rw [if_neg hqr, if_neg hqr, d_ui_n hqr, d_ui_n hqr, g3 26 (by decide), d_ui_o (by decide)]
        exact ⟨h24 q hq, h25 q hq⟩
    · unfold d_inj
      rw [g4 84 (by decide)]
      exact h4
end DL
theorem y2_send {t : Nat} {I : q_I} {J : q_J} {P : q_P} {M : q_I} (h : d_Z t I P M) (a1 a2 : Int32) : ∃ v I' J' P' M', f_CR_send I J P a1 a2 = some (v, I', J', P') ∧ f_Mo_send M a1 a2 = some (v, M') ∧ d_Z (t + 1) I' P' M' := by
  have h0 := h
  obtain ⟨⟨n, Ru, no, Of, Os, base, E, kn, nx, ac, ha, hc, hm⟩, h2, h3, h4, h5, h6⟩ := h
  have hn12 : n ≤ 12 := ha.1.2.2.2.2.2.2.2.2
  have h12 : (2 : Nat) ^ n ≤ 2 ^ 12 := Nat.pow_le_pow_right (by decide) hn12
  have hz := d_Zt h0 (show t ≤ t + 1 by omega)
  unfold f_CR_send f_Mo_send
  rcases d_two a1 a2 with ⟨e, e1 | ⟨e1, e2⟩ | ⟨e1, e2, rfl⟩⟩ | ⟨r, q, hr, hq, hrq, rfl, rfl, e, e1, e2, hne⟩
  · rw [e, e1, d_b1, d_b1, if_pos rfl, if_pos rfl]
    exact ⟨_, _, _, _, _, rfl, rfl, hz⟩
  · rw [e, e1, e2, d_b1, d_b1, d_b1, if_pos rfl, if_neg (show ¬ (1 : Int32) = 0 by decide), if_pos rfl]
    exact ⟨_, _, _, _, _, rfl, rfl, hz⟩
  · rw [e, e1, d_b1, d_b1, d_b1, if_pos rfl, if_neg (show ¬ (1 : Int32) = 0 by decide), if_neg (show ¬ (1 : Int32) = 0 by decide), if_pos rfl]
    exact ⟨_, _, _, _, _, rfl, rfl, hz⟩
  · have hkr := (ha.2.2.2.2.2.1 r hr).1
    have hkq := (ha.2.2.2.2.2.1 q hq).1
    have hx := dn_ndlt (b := kn q) hkr
    have h24 : I 25 r = nI (kn r) := (hc.2.2.2 r hr).1
    obtain ⟨I', J', P', e3, g⟩ := d_learn (J := J) h0 ha hc hq hkr
    rw [e, e1, e2, d_b1, d_b1, d_b1, if_neg (show ¬ (1 : Int32) = 0 by decide), if_neg (show ¬ (1 : Int32) = 0 by decide), if_neg (show ¬ (1 : Int32) = 0 by decide), if_neg hne, d_ix hr (by decide), h24, e3, d_b4, d_k4, d_ix (by omega) (by decide), d_k4, d_ix (by omega) (by decide), hm.2.2 r hr, hm.2.2 q hq, dn_nd (by omega) (by omega), d_l, d_ix (by omega) (by decide), d_ix (by omega) (by decide), hm.2.2 q hq, dn_or (by omega) (by omega), d_l, dn_bits (by omega), d_b1]
    exact ⟨_, _, _, _, _, rfl, rfl, g _ (d_ml_kn hm hq (fun x hx => d_ui_n hx) d_ui_s) d_ms2_1⟩
theorem dn_c1 : ∀ i, i < 12 → dn_cnt (2 ^ i) = 1 := by decide +kernel
theorem w_nd_1 {i s : Nat} : w_nd (2 ^ i) s = if w_in s i then 0 else 2 ^ i := by
  by_cases h : w_in s i
  · rw [if_pos h]
    exact w_zero.mpr (fun j q => by
      have := w_in_nd.mp q
      have hj := w_in_2.mp this.1
      subst hj
      exact this.2 h)
  · rw [if_neg h]
    apply w_ext
    intro j
    rw [w_in_nd, w_in_2]
    constructor
    · exact fun q => q.1
    · rintro rfl
      exact ⟨rfl, h⟩
theorem y2_sendOne {t : Nat} {I : q_I} {J : q_J} {P : q_P} {M : q_I} (h : d_Z t I P M) (a1 a2 a3 : Int32) : ∃ v I' J' P' M', f_CR_sendOne I J P a1 a2 a3 = some (v, I', J', P') ∧ f_Mo_sendOne M a1 a2 a3 = some (v, M') ∧ d_Z (t + 1) I' P' M' := by
  have h0 := h
  obtain ⟨⟨n, Ru, no, Of, Os, base, E, kn, nx, ac, ha, hc, hm⟩, h2, h3, h4, h5, h6⟩ := h
  have hn12 : n ≤ 12 := ha.1.2.2.2.2.2.2.2.2
  have h12 : (2 : Nat) ^ n ≤ 2 ^ 12 := Nat.pow_le_pow_right (by decide) hn12
  have hz := d_Zt h0 (show t ≤ t + 1 by omega)
  have c10 : ¬ (1 : Int32) = 0 := by decide
  unfold f_CR_sendOne f_Mo_sendOne
  have hfe := d_fe2 hc hm hn12 a3
  rcases d_two a1 a2 with ⟨e, e1 | ⟨e1, e2⟩ | ⟨e1, e2, rfl⟩⟩ | ⟨r, q, hr, hq, hrq, rfl, rfl, e, e1, e2, hne⟩
  · rcases hfe with ⟨f1, f2⟩ | ⟨i, -, -, f1, f2⟩ <;>
    · rw [f1, f2, d_b1, d_b1, e, e1, d_b1, d_b1, if_pos rfl, if_pos rfl]
      exact ⟨_, _, _, _, _, rfl, rfl, hz⟩
  · rcases hfe with ⟨f1, f2⟩ | ⟨i, -, -, f1, f2⟩ <;>
    · rw [f1, f2, d_b1, d_b1, e, e1, e2, d_b1, d_b1, d_b1, if_pos rfl, if_neg c10, if_pos rfl]
      exact ⟨_, _, _, _, _, rfl, rfl, hz⟩
  · rcases hfe with ⟨f1, f2⟩ | ⟨i, -, -, f1, f2⟩ <;>
    · rw [f1, f2, d_b1, d_b1, e, e1, d_b1, d_b1, d_b1, if_pos rfl, if_neg c10, if_neg c10, if_pos rfl]
      exact ⟨_, _, _, _, _, rfl, rfl, hz⟩
  · rcases hfe with ⟨f1, f2⟩ | ⟨i, hi, -, f1, f2⟩
    · rw [f1, f2, d_b1, d_b1, e, e1, e2, d_b1, d_b1, d_b1, if_neg c10, if_neg c10, if_neg c10, if_neg hne, if_pos (show (-4 : Int32) < 0 by decide), if_pos (show (-1 : Int32) < 0 by decide)]
      exact ⟨_, _, _, _, _, rfl, rfl, hz⟩
    · have hkr := (ha.2.2.2.2.2.1 r hr).1
      have hkq := (ha.2.2.2.2.2.1 q hq).1
      have h24 : I 25 r = nI (kn r) := (hc.2.2.2 r hr).1
      have h2i := dn_2lt hi
      rw [f1, f2, d_b1, d_b1, e, e1, e2, d_b1, d_b1, d_b1, if_neg c10, if_neg c10, if_neg c10, if_neg hne, if_neg (nI_pos (by omega)), if_neg (nI_pos (by omega)), d_ix hr (by decide), h24, dn_has (by omega) (by omega), d_b1, d_k4, d_ix (by omega) (by decide), hm.2.2 r hr]
      by_cases hin : w_in (kn r) i
      · obtain ⟨I', J', P', e3, g⟩ := d_learn (J := J) h0 ha hc hq h2i
        rw [if_pos hin, if_neg c10, if_neg (fun z => ((dn_b0 (by omega) (by omega)).mp z) hin), dn_pos (by omega), e3, d_b4, d_k4, d_ix (by omega) (by decide), hm.2.2 q hq, dn_nd (by omega) (by omega), d_l, d_ix (by omega) (by decide), d_ix (by omega) (by decide), hm.2.2 q hq]
        have hx := dn_ndlt (b := kn q) h2i
        rw [dn_or (by omega) (by omega), d_l]
        have g' := g (q_ui M 1 (4 + q) (nI (kn q ||| w_nd (2 ^ i) (kn q)))) (d_ml_kn hm hq (fun x hx => d_ui_n hx) d_ui_s) d_ms2_1
        have hw := w_nd_1 (i := i) (s := kn q)
        by_cases hiq : w_in (kn q) i
        · rw [if_pos hiq] at hw
          rw [hw] at g' ⊢
          rw [if_pos (show nI 0 = 0 from rfl)]
          exact ⟨_, _, _, _, _, rfl, rfl, g'⟩
        · rw [if_neg hiq] at hw
          rw [hw] at g' ⊢
          rw [dn_c1 i (by omega), if_neg (d_n0 (by omega) (by have := Nat.two_pow_pos i; omega))]
          exact ⟨_, _, _, _, _, rfl, rfl, g'⟩
      · rw [if_neg hin, if_pos rfl, if_pos ((dn_b0 (by omega) (by omega)).mpr hin)]
        exact ⟨_, _, _, _, _, rfl, rfl, hz⟩
