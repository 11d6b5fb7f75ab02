/-! the checksum -/
def d_m9 (M M' : q_I) : Prop := (∀ o, o ≠ 0 → o ≠ 6 → o ≠ 9 → o ≠ 10 → M' o = M o) ∧ ∀ f, f ≠ 7 → M' 0 f = M 0 f
theorem d_m9_of {M M' : q_I} (h : d_mf M M') : d_m9 M M' := ⟨fun o q1 q2 _ _ => h.1 o q1 q2, h.2⟩
theorem d_m9_tr {M M1 M2 : q_I} (h1 : d_m9 M M1) (h2 : d_m9 M1 M2) : d_m9 M M2 := ⟨fun o q1 q2 q3 q4 => (h2.1 o q1 q2 q3 q4).trans (h1.1 o q1 q2 q3 q4), fun f q => (h2.2 f q).trans (h1.2 f q)⟩
theorem d_m9_ms {M M' : q_I} (h : d_m9 M M') : d_ms M M' := ⟨fun o q1 q2 => h.1 o (by omega) (by omega) (by omega) (by omega), h.2 4 (by decide), h.2 6 (by decide)⟩
theorem d_m9_u {M : q_I} {o j : Nat} {v : Int32} (ho : o = 9 ∨ o = 10) : d_m9 M (q_ui M o j v) := ⟨fun a q1 q2 q3 q4 => d_ui_o (by omega), fun f q => by rw [d_ui_o (by omega)]⟩
theorem d_mixE (a b : Int64) : f_CR_mix a b = some (31 * a + b) := rfl
theorem d_moreE (a : Int64) (b : Int32) : f_Mo_more a b = some (31 * a + b.toInt64) := rfl
def d_fo (m : Nat → Nat) : Nat → Nat → Int64 → Int64
  | 0, _, y => y
  | d + 1, x, y => d_fo m d (x + 1) (31 * y + (nI (m x)).toInt64)
section DK
variable {t n : Nat} {I : q_I} {P : q_P} {M : q_I} {Ru : Nat → Nat → Nat} {no : Nat} {Of Os : Nat → Int32} {base : List (Nat → Nat)} {E : Nat → Nat → Nat} {kn : Nat → Nat} {nx : Nat} {ac : Nat → Nat}
theorem d_accWC (ha : d_ab t n Ru no Of Os base E kn nx ac) (hc : d_cl1 I P 1 n Ru no Of Os base E kn nx ac) {r : Nat} (hr : r < 3) : f_CR_acceptedWeight I (nI r) = some (nI (d_w E (ac r))) := by
  have hn12 : n ≤ 12 := ha.1.2.2.2.2.2.2.2.2
  have er : f_Mo_isReplica (nI r) = some 1 := by
    rcases d_rep (nI r) with ⟨-, z⟩ | ⟨q, -, -, z⟩
    · exact absurd rfl (z r hr)
    · exact z
  obtain ⟨⟨C, N, hcw⟩, hc2, hc3, hc4⟩ := hc
  have h25 : I 26 r = nI (ac r) := (hc4 r hr).2
  unfold f_CR_acceptedWeight
  rw [d_repC, er, d_b1, if_neg (by decide), d_ix hr (by decide), h25, d_wei hcw.2.2.2 hn12 (d_wf_w ha.1) (ha.2.2.2.2.2.1 r hr).2.1, d_b1]
theorem d_rejWC (ha : d_ab t n Ru no Of Os base E kn nx ac) (hc : d_cl1 I P 1 n Ru no Of Os base E kn nx ac) {r U : Nat} (hr : r < 3) (hU : d_us E (kn r) U) : f_CR_rejectedWeight I (nI r) = some (nI (d_w E (w_nd U (ac r)))) := by
  have hn12 : n ≤ 12 := ha.1.2.2.2.2.2.2.2.2
  have h12 : (2 : Nat) ^ n ≤ 2 ^ 12 := Nat.pow_le_pow_right (by decide) hn12
  have er : f_Mo_isReplica (nI r) = some 1 := by
    rcases d_rep (nI r) with ⟨-, z⟩ | ⟨q, -, -, z⟩
    · exact absurd rfl (z r hr)
    · exact z
  obtain ⟨⟨C, N, hcw⟩, hc2, hc3, hc4⟩ := hc
  have hk := ha.2.2.2.2.2.1 r hr
  obtain ⟨U', e3, g4, g5⟩ := d_use hcw.2.2.2 hn12 hk.1
  have := d_us_u hU g5
  subst this
  have h24 : I 25 r = nI (kn r) := (hc4 r hr).1
  have h25 : I 26 r = nI (ac r) := (hc4 r hr).2
  have hlt : w_nd U (ac r) < 2 ^ n := dn_ndlt g4
  unfold f_CR_rejectedWeight
  rw [d_repC, er, d_b1, if_neg (by decide), d_ix hr (by decide), h24, e3, d_b1, d_ix hr (by decide), h25, dn_nd (by omega) (by omega), d_wei hcw.2.2.2 hn12 (d_wf_w ha.1) hlt, d_b1]
/-- what the checksum puts aside -/
def d_ck9 (M : q_I) (n : Nat) (E : Nat → Nat → Nat) (kn ac U : Nat → Nat) (r : Nat) : Prop := ∀ q, q < r → M 9 q = nI (ac q) ∧ M 10 q = nI (U q) ∧ U q < 2 ^ n ∧ d_us E (kn q) (U q)
theorem d_m9f {M' : q_I} (hm : d_ml1 (M 1) n Ru no Of Os base E kn nx) (h : d_m9 M M') : d_ml1 (M' 1) n Ru no Of Os base E kn nx := by
  rw [h.1 1 (by decide) (by decide) (by decide) (by decide)]
  exact hm
theorem d_ckL1 (ha : d_ab t n Ru no Of Os base E kn nx ac) (hm : d_ml1 (M 1) n Ru no Of Os base E kn nx) (K : q_I → q_J → Option (Int64 × q_I × q_J)) : ∀ (d r fu : Nat) (M1 : q_I) (J1 : q_J) (U : Nat → Nat), r + d = 3 → d < fu → d_ck9 M1 n E kn ac U r → d_m9 M M1 → ∃ (M' : q_I) (J' : q_J) (U' : Nat → Nat), f_Mo_checksum_L1 K fu (nI r) M1 J1 = K M' J' ∧ d_ck9 M' n E kn ac U' 3 ∧ d_m9 M M' := by
  intro d
  induction d with
  | zero =>
    intro r fu M1 J1 U hr hf h9 hm9
    obtain ⟨fu, rfl, -⟩ := d_fuel hf
    have : r = 3 := by omega
    subst this
    unfold f_Mo_checksum_L1
    rw [if_pos (by decide)]
    exact ⟨M1, J1, U, rfl, h9, hm9⟩
  | succ d ih =>
    intro r fu M1 J1 U hr hf h9 hm9
    obtain ⟨fu, rfl, hf⟩ := d_fuel hf
    have hr3 : r < 3 := by omega
    obtain ⟨M2, J2, e1, g1⟩ := d_accR (J := J1) ha (d_m9f hm hm9) hr3
    have hm3 : d_m9 M (q_ui M2 9 r (nI (ac r))) := d_m9_tr (d_m9_tr hm9 (d_m9_of g1)) (d_m9_u (Or.inl rfl))
    have hml := d_m9f hm hm3
    obtain ⟨V, e2, g2, g3⟩ := d_muse hml.1 ha.1 hr3 (ha.2.2.2.2.2.1 r hr3).1 (hml.2.2 r hr3)
    unfold f_Mo_checksum_L1
    rw [if_neg (d_g3 hr3), e1, d_b3, d_ix hr3 (by decide), d_l, e2, d_b1, d_ix hr3 (by decide), d_l, nI_1]
    refine ih (r + 1) fu (q_ui (q_ui M2 9 r (nI (ac r))) 10 r (nI V)) J2 (fun q => if q = r then V else U q) (by omega) (by omega) (fun q hq => ?_) (d_m9_tr hm3 (d_m9_u (Or.inr rfl)))
    dsimp only
    by_cases hqr : q = r
    · subst hqr
      rw [if_pos rfl, d_ui_o (by decide), d_ui_s, d_ui_s]
      exact ⟨rfl, rfl, g2, g3⟩
    · rw [if_neg hqr, d_ui_o (by decide), d_ui_n hqr, d_ui_n hqr, d_ui_o (by decide), g1.1 9 (by decide) (by decide), g1.1 10 (by decide) (by decide)]
      exact h9 q (by omega)
theorem d_ckE1 {U : Nat → Nat} (ha : d_ab t n Ru no Of Os base E kn nx ac) (hc : d_cl1 I P 1 n Ru no Of Os base E kn nx ac) (hm : d_ml1 (M 1) n Ru no Of Os base E kn nx) (h9 : d_ck9 M n E kn ac U 3) {i : Nat} (hi : i < n) : ∀ (d r fu fu2 : Nat) (y : Int64), r + d = 3 → d < fu → d < fu2 → ∃ y', f_CR_mixEdit_L1 I (nI i) fu y (nI r) = some y' ∧ f_Mo_moreOfEdit_L1 M (nI i) fu2 y (nI r) = some y' := by
  have hn12 : n ≤ 12 := ha.1.2.2.2.2.2.2.2.2
  have h12 : (2 : Nat) ^ n ≤ 2 ^ 12 := Nat.pow_le_pow_right (by decide) hn12
  intro d
  induction d with
  | zero =>
    intro r fu fu2 y hr hf hf2
    obtain ⟨fu, rfl, -⟩ := d_fuel hf
    obtain ⟨fu2, rfl, -⟩ := d_fuel hf2
    have : r = 3 := by omega
    subst this
    unfold f_CR_mixEdit_L1 f_Mo_moreOfEdit_L1
    rw [if_pos (by decide), if_pos (by decide)]
    exact ⟨y, rfl, rfl⟩
  | succ d ih =>
    intro r fu fu2 y hr hf hf2
    obtain ⟨fu, rfl, hf⟩ := d_fuel hf
    obtain ⟨fu2, rfl, hf2⟩ := d_fuel hf2
    have hr3 : r < 3 := by omega
    obtain ⟨V, g1, g2, e⟩ := d_standC ha hc hr3 hi
    obtain ⟨q1, q2, q3, q4⟩ := h9 r hr3
    have := d_us_u g2 q4
    subst this
    have hk := ha.2.2.2.2.2.1 r hr3
    unfold f_CR_mixEdit_L1 f_Mo_moreOfEdit_L1
    rw [if_neg (d_g3 hr3), if_neg (d_g3 hr3), e, d_b1, d_mixE, d_b1, d_ix hr3 (by decide), d_ix hr3 (by decide), q1, q2, d_stBy hm hr3 (by omega) (by omega) (by omega) (by omega), d_b1, d_moreE, d_b1, nI_1]
    exact ih (r + 1) fu fu2 _ (by omega) (by omega) (by omega)
theorem d_ckE {U : Nat → Nat} (ha : d_ab t n Ru no Of Os base E kn nx ac) (hc : d_cl1 I P 1 n Ru no Of Os base E kn nx ac) (hm : d_ml1 (M 1) n Ru no Of Os base E kn nx) (h9 : d_ck9 M n E kn ac U 3) {i : Nat} (hi : i < n) (y : Int64) : ∃ y', f_CR_mixEdit I y (nI i) = some y' ∧ f_Mo_moreOfEdit M y (nI i) = some y' := by
  have hn12 : n ≤ 12 := ha.1.2.2.2.2.2.2.2.2
  have vm := (hm.1.2.2.2.2.2.2.2.1 i hi).1
  have hc' := hc
  obtain ⟨⟨C, N, hcw⟩, hc2, hc3, hc4⟩ := hc
  have cm := (hcw.2.2.2.2 i hi).1.1
  obtain ⟨y', x1, x2⟩ := d_ckE1 ha hc' hm h9 hi 3 0 q_fu q_fu (31 * (31 * (31 * (31 * (31 * y + (nI (E i 0)).toInt64) + (nI (E i 3)).toInt64) + (nI (E i 4)).toInt64) + (nI (E i 1)).toInt64) + (nI (E i 2)).toInt64) (by omega) (d_q (by omega)) (d_q (by omega))
  have x1' : f_CR_mixEdit_L1 I (nI i) q_fu (31 * (31 * (31 * (31 * (31 * y + (nI (E i 0)).toInt64) + (nI (E i 3)).toInt64) + (nI (E i 4)).toInt64) + (nI (E i 1)).toInt64) + (nI (E i 2)).toInt64) 0 = some y' := x1
  have x2' : f_Mo_moreOfEdit_L1 M (nI i) q_fu (31 * (31 * (31 * (31 * (31 * y + (nI (E i 0)).toInt64) + (nI (E i 3)).toInt64) + (nI (E i 4)).toInt64) + (nI (E i 1)).toInt64) + (nI (E i 2)).toInt64) 0 = some y' := x2
  refine ⟨y', ?_, ?_⟩
  · unfold f_CR_mixEdit
    rw [d_eat hc2 hn12 (by omega) (by omega), d_b1]
    simp only [Option.elim_some]
    unfold q_ck
    rw [if_pos (cE27 i (by omega)), cm 0 (by decide), cm 3 (by decide), cm 4 (by decide), cm 1 (by decide), cm 2 (by decide), d_mixE, d_b1, d_mixE, d_b1, d_mixE, d_b1, d_mixE, d_b1, d_mixE, d_b1, x1']
  · unfold f_Mo_moreOfEdit
    rw [d_me0, d_b1, d_ix (by omega) (by omega), vm 0 (by decide), d_moreE, d_b1, d_me3, d_b1, d_ix (by omega) (by omega), vm 3 (by decide), d_moreE, d_b1, d_me4, d_b1, d_ix (by omega) (by omega), vm 4 (by decide), d_moreE, d_b1, d_me1, d_b1, d_ix (by omega) (by omega), vm 1 (by decide), d_moreE, d_b1, d_me2, d_b1, d_ix (by omega) (by omega), vm 2 (by decide), d_moreE, d_b1, x2']
theorem d_ckL2 {U : Nat → Nat} (ha : d_ab t n Ru no Of Os base E kn nx ac) (hc : d_cl1 I P 1 n Ru no Of Os base E kn nx ac) (hm : d_ml1 (M 1) n Ru no Of Os base E kn nx) (h9 : d_ck9 M n E kn ac U 3) (K : Int64 → Option (Int64 × q_I × q_P)) (K2 : Int64 → Option (Int64 × q_I × q_J)) : ∀ (d k fu fu2 : Nat) (y : Int64), k + d = n → d < fu → d < fu2 → ∃ y', f_CR_checksum_L1 I K fu y (nI k) = K y' ∧ f_Mo_checksum_L2 M K2 fu2 y (nI k) = K2 y' := by
  have hn12 : n ≤ 12 := ha.1.2.2.2.2.2.2.2.2
  intro d
  induction d with
  | zero =>
    intro k fu fu2 y hk hf hf2
    obtain ⟨fu, rfl, -⟩ := d_fuel hf
    obtain ⟨fu2, rfl, -⟩ := d_fuel hf2
    unfold f_CR_checksum_L1 f_Mo_checksum_L2
    rw [hc.2.1, d_x0, hm.1.1, if_pos (nI_le (by omega) (by omega)), if_pos (nI_le (by omega) (by omega))]
    exact ⟨y, rfl, rfl⟩
  | succ d ih =>
    intro k fu fu2 y hk hf hf2
    obtain ⟨fu, rfl, hf⟩ := d_fuel hf
    obtain ⟨fu2, rfl, hf2⟩ := d_fuel hf2
    obtain ⟨y1, e1, e2⟩ := d_ckE ha hc hm h9 (i := k) (by omega) y
    unfold f_CR_checksum_L1 f_Mo_checksum_L2
    rw [hc.2.1, d_x0, hm.1.1, if_neg (nI_ge (by omega) (by omega)), if_neg (nI_ge (by omega) (by omega)), e1, d_b1, e2, d_b1, nI_1]
    exact ih (k + 1) fu fu2 y1 (by omega) (by omega) (by omega)
theorem d_ckM2 {L : List (Nat → Nat)} {k : Nat} {m : Nat → Nat} (hc : d_mc M L) (hk : L[k]? = some m) (K : Int64 → Option (Int64 × q_I)) : ∀ (d x fu : Nat) (y : Int64), x + d = 7 → d < fu → f_Mo_moreOf_L2 M (nI k) K fu y (nI x) = K (d_fo m d x y) := by
  have hkl := d_get_lt hk
  have hL := hc.2.1
  intro d
  induction d with
  | zero =>
    intro x fu y hx hf
    obtain ⟨fu, rfl, -⟩ := d_fuel hf
    have : x = 7 := by omega
    subst this
    unfold f_Mo_moreOf_L2
    rw [if_pos (by decide)]
    rfl
  | succ d ih =>
    intro x fu y hx hf
    obtain ⟨fu, rfl, hf⟩ := d_fuel hf
    unfold f_Mo_moreOf_L2
    rw [if_neg (show ¬ (6 : Int32) < nI x from nI_nlt (a := 6) (by omega) (by decide)), d_mm, d_b1, d_ix (by omega) (by omega), hc.2.2 k m hk x (by omega), d_moreE, d_b1, nI_1, ih (x + 1) fu _ (by omega) (by omega)]
    rfl
theorem d_ckM {L : List (Nat → Nat)} (hcC : d_cal I P 83 24 L) (hc : d_mc M L) (hs : d_srt L) (hmt : ∀ m, m ∈ L → d_mt m) : ∀ (d k fu fu2 : Nat) (y : Int64), k + d = L.length → d < fu → d < fu2 → ∃ y', f_CR_mixReplica_L1 I P fu y (nI k) = some (y', I, P) ∧ f_Mo_moreOf_L1 M fu2 y (nI k) = some (y', M) := by
  have hL := hc.2.1
  intro d
  induction d with
  | zero =>
    intro k fu fu2 y hk hf hf2
    obtain ⟨fu, rfl, -⟩ := d_fuel hf
    obtain ⟨fu2, rfl, -⟩ := d_fuel hf2
    unfold f_CR_mixReplica_L1 f_Mo_moreOf_L1
    rw [hcC.1, hc.1, if_pos (nI_le (by omega) (by omega)), if_pos (nI_le (by omega) (by omega))]
    exact ⟨y, rfl, rfl⟩
  | succ d ih =>
    intro k fu fu2 y hk hf hf2
    obtain ⟨fu, rfl, hf⟩ := d_fuel hf
    obtain ⟨fu2, rfl, hf2⟩ := d_fuel hf2
    have hkl : k < L.length := by omega
    have hg := List.getElem?_eq_getElem hkl
    have hrow := hcC.2.2.2 k _ hg
    have hL2 := hcC.2.1
    have hcm := cM83 _ (hcC.2.2.1.1 k (by omega))
    have e1 : f_Mo_indexOf M (nI k) = some (nI k) := by
      rcases d_mix hc hs hmt (nI k) with ⟨j, h1, h2, h3⟩ | ⟨h1, -⟩
      · have : k = j := (nI_eq (by omega) (by omega)).mp h2
        subst this
        exact h3
      · exact absurd rfl (h1 k hkl)
    have e2 : f_CR_mixMeeting I y (83 + 2 + P (83 + 1) k) = some (d_fo L[k] 7 0 y) := by
      unfold f_CR_mixMeeting
      rw [d_mixE, d_b1, d_mixE, d_b1, d_mixE, d_b1, d_mixE, d_b1, d_mixE, d_b1, d_mixE, d_b1, d_mixE, d_b1, hrow 0 (by decide), hrow 1 (by decide), hrow 2 (by decide), hrow 3 (by decide), hrow 4 (by decide), hrow 5 (by decide), hrow 6 (by decide)]
      rfl
    have e3 : f_Mo_moreOf_L2 M (nI k) (fun (y3 : Int64) => (f_Mo_moreOf_L1 M fu2 y3 (nI (k + 1)))) q_fu y 0 = f_Mo_moreOf_L1 M fu2 (d_fo L[k] 7 0 y) (nI (k + 1)) := d_ckM2 hc hg _ 7 0 q_fu y (by omega) (d_q (by omega))
    unfold f_CR_mixReplica_L1 f_Mo_moreOf_L1
    rw [hcC.1, hc.1, if_neg (nI_ge hkl (by omega)), if_neg (nI_ge hkl (by omega)), d_row_some hcC (by omega) hkl, d_b1]
    simp only [Option.elim_some]
    unfold q_ck
    rw [if_pos hcm, e2, d_b1, e1, d_b1, nI_1, e3]
    exact ih (k + 1) fu fu2 _ (by omega) (by omega) (by omega)
theorem d_ckL3 {U : Nat → Nat} {J : q_J} (ha : d_ab t n Ru no Of Os base E kn nx ac) (hc : d_cl1 I P 1 n Ru no Of Os base E kn nx ac) (hm : d_ml1 (M 1) n Ru no Of Os base E kn nx) (h9 : d_ck9 M n E kn ac U 3) : ∀ (d r fu fu2 : Nat) (I1 : q_I) (P1 : q_P) (M1 : q_I) (y : Int64), r + d = 3 → d < fu → d < fu2 → d_cs I I1 P P1 → d_mf M M1 → ∃ y' I' P' M', f_CR_checksum_L2 fu y (nI r) I1 P1 = some (y', I', P') ∧ f_Mo_checksum_L3 J fu2 y (nI r) M1 = some (y', M', J) ∧ d_cs I I' P P' ∧ d_mf M M' := by
  have hn12 : n ≤ 12 := ha.1.2.2.2.2.2.2.2.2
  have h12 : (2 : Nat) ^ n ≤ 2 ^ 12 := Nat.pow_le_pow_right (by decide) hn12
  intro d
  induction d with
  | zero =>
    intro r fu fu2 I1 P1 M1 y hr hf hf2 hcs hmf
    obtain ⟨fu, rfl, -⟩ := d_fuel hf
    obtain ⟨fu2, rfl, -⟩ := d_fuel hf2
    have : r = 3 := by omega
    subst this
    unfold f_CR_checksum_L2 f_Mo_checksum_L3
    rw [if_pos (by decide), if_pos (by decide)]
    exact ⟨y, I1, P1, M1, rfl, rfl, hcs, hmf⟩
  | succ d ih =>
    intro r fu fu2 I1 P1 M1 y hr hf hf2 hcs hmf
    obtain ⟨fu, rfl, hf⟩ := d_fuel hf
    obtain ⟨fu2, rfl, hf2⟩ := d_fuel hf2
    have hr3 : r < 3 := by omega
    have hk := ha.2.2.2.2.2.1 r hr3
    have hc1 := d_cl1_cs hc hn12 hcs
    have hm1 := d_mwf hm hmf
    obtain ⟨q1, q2, q3, q4⟩ := h9 r hr3
    have m9 : M1 9 r = nI (ac r) := by rw [hmf.1 9 (by decide) (by decide)]; exact q1
    obtain ⟨I2, P2, e1, g1, g2, -⟩ := d_showC ha hc1 hcs.2.2.1 hcs.2.2.2 hr3
    have had := d_acadm ha hr3
    obtain ⟨M2, e2, g3, g4⟩ := d_mforms ha.1 hk.2.1 hm1.1 ⟨had.1, had.2.1, trivial⟩
    have hm2 := d_mwf hm1 g4
    have hc2 := d_cl1_cs hc1 hn12 g2
    have hf' := d_acfm ha hr3
    have n9 : M2 9 r = nI (ac r) := by rw [g4.1 9 (by decide) (by decide)]; exact m9
    have n10 : M2 10 r = nI (U r) := by rw [g4.1 10 (by decide) (by decide), hmf.1 10 (by decide) (by decide)]; exact q2
    have hlt : w_nd (U r) (ac r) < 2 ^ n := dn_ndlt q3
    generalize d_fm base E (ac r) 12 = L at g1 g3 hf'
    obtain ⟨y', x1, x2⟩ := d_ckM g1 g3 hf'.1 hf'.2.1 L.length 0 q_fu q_fu (31 * (31 * (31 * y + (nI L.length).toInt64) + (nI (d_w E (ac r))).toInt64) + (nI (d_w E (w_nd (U r) (ac r)))).toInt64) (by omega) (d_q (by have := g3.2.1; omega)) (d_q (by have := g3.2.1; omega))
    have x1' : f_CR_mixReplica_L1 I2 P2 q_fu (31 * (31 * (31 * y + (nI L.length).toInt64) + (nI (d_w E (ac r))).toInt64) + (nI (d_w E (w_nd (U r) (ac r)))).toInt64) 0 = some (y', I2, P2) := x1
    have x2' : f_Mo_moreOf_L1 M2 q_fu (31 * (31 * (31 * y + (nI L.length).toInt64) + (nI (d_w E (ac r))).toInt64) + (nI (d_w E (w_nd (U r) (ac r)))).toInt64) 0 = some (y', M2) := x2
    have eC : f_CR_mixReplica I1 P1 y (nI r) = some (y', I2, P2) := by
      unfold f_CR_mixReplica
      rw [e1, d_b2, g1.1, d_mixE, d_b1, d_accWC ha hc2 hr3, d_b1, d_mixE, d_b1, d_rejWC ha hc2 hr3 q4, d_b1, d_mixE, d_b1, x1']
    have eM : f_Mo_moreOf M1 y (nI r) = some (y', M2) := by
      unfold f_Mo_moreOf
      rw [d_ix hr3 (by decide), m9, e2, d_b1, g3.1, d_moreE, d_b1, d_ix hr3 (by decide), n9, d_mwt hm2.1 hn12 hk.2.1, d_b1, d_moreE, d_b1, d_ix hr3 (by decide), n10, d_ix hr3 (by decide), n9, dn_nd (by omega) (by omega), d_mwt hm2.1 hn12 hlt, d_b1, d_moreE, d_b1, x2']
    unfold f_CR_checksum_L2 f_Mo_checksum_L3
    rw [if_neg (d_g3 hr3), if_neg (d_g3 hr3), eC, d_b3, eM, d_b2, nI_1]
    exact ih (r + 1) fu fu2 I2 P2 M2 y' (by omega) (by omega) (by omega) (d_cs_tr hcs g2) (d_mf_tr hmf g4)
end DK
theorem y2_checksum {t : Nat} {I : q_I} {P : q_P} {M : q_I} {J : q_J} (h : d_Z t I P M) : ∃ v I' P' M' J', f_CR_checksum I P = some (v, I', P') ∧ f_Mo_checksum M J = some (v, M', J') ∧ d_Z (t + 1) I' P' M' := by
  have h0 := h
  obtain ⟨⟨n, Ru, no, Of, Os, base, E, kn, nx, ac, ha, hc, hm⟩, h2, h3, h4, h5, h6⟩ := h
  have hn12 : n ≤ 12 := ha.1.2.2.2.2.2.2.2.2
  obtain ⟨M1, J1, U, e1, g1, g2⟩ := d_ckL1 ha hm (fun (I5 : q_I) (J3 : q_J) => q_ix 0 280 (fun j3 => q_b1 (f_Mo_more 37 (I5 1 j3)) (fun w1 => f_Mo_checksum_L2 I5 (fun (y2 : Int64) => f_Mo_checksum_L3 J3 q_fu y2 0 I5) q_fu w1 0))) 3 0 q_fu M J (fun _ => 0) (by omega) (d_q (by omega)) (fun q hq => by omega) ⟨fun _ _ _ _ _ => rfl, fun _ _ => rfl⟩
  have hm1 := d_m9f hm g2
  obtain ⟨y1, e2, e3⟩ := d_ckL2 ha hc hm1 g1 (fun (y2 : Int64) => f_CR_checksum_L2 q_fu y2 0 I P) (fun (y2 : Int64) => f_Mo_checksum_L3 J1 q_fu y2 0 M1) n 0 q_fu q_fu (31 * 37 + (nI n).toInt64) (by omega) (d_q (by omega)) (d_q (by omega))
  obtain ⟨y2, I', P', M', e4, e5, g3, g4⟩ := d_ckL3 (J := J1) ha hc hm1 g1 3 0 q_fu q_fu I P M1 y1 (by omega) (d_q (by omega)) (d_q (by omega)) (d_cs_rf h0) d_mf_rf
  refine ⟨y2, I', P', M', J1, ?_, ?_, d_Z_fr h0 (by omega) g3 (d_ms_tr (d_m9_ms g2) (d_ms_mf g4))⟩
  · unfold f_CR_checksum
    rw [hc.2.1, d_mixE, d_b1]
    exact e2.trans e4
  · unfold f_Mo_checksum
    refine Eq.trans e1 ?_
    rw [d_x0, hm1.1.1, d_moreE, d_b1]
    exact e3.trans e5
