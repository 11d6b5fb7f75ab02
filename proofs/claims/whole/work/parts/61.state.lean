/-! the two states, side by side -/
def d_ab (t n : Nat) (Ru : Nat → Nat → Nat) (no : Nat) (Of Os : Nat → Int32) (base : List (Nat → Nat)) (E : Nat → Nat → Nat) (kn : Nat → Nat) (nx : Nat) (ac : Nat → Nat) : Prop :=
  d_wf base E n ∧ d_valid Ru no Of Os base ∧ (∀ m, m ∈ base → m 0 < nx) ∧ (∀ i, i < n → E i 0 < nx) ∧ nx ≤ t ∧ (∀ r, r < 3 → kn r < 2 ^ n ∧ ac r < 2 ^ n ∧ d_acc1 Ru no Of Os base E (kn r) 0 (some (ac r))) ∧ d_rv Ru ∧ no ≤ 4 ∧ ∀ o, o < no → ¬ Of o < 0 ∧ ¬ Os o < 0
def d_cl1 (I : q_I) (P : q_P) (w n : Nat) (Ru : Nat → Nat → Nat) (no : Nat) (Of Os : Nat → Int32) (base : List (Nat → Nat)) (E : Nat → Nat → Nat) (kn : Nat → Nat) (nx : Nat) (ac : Nat → Nat) : Prop :=
  (∃ C N, d_cw I P w n Ru no Of Os base E C N) ∧ I w 3 = nI n ∧ I w 4 = nI nx ∧ ∀ r, r < 3 → I (w + 24) r = nI (kn r) ∧ I (w + 25) r = nI (ac r)
def d_ml1 (v : Nat → Int32) (n : Nat) (Ru : Nat → Nat → Nat) (no : Nat) (Of Os : Nat → Int32) (base : List (Nat → Nat)) (E : Nat → Nat → Nat) (kn : Nat → Nat) (nx : Nat) : Prop :=
  d_mw v n Ru no Of Os base E ∧ v 1 = nI nx ∧ ∀ r, r < 3 → v (4 + r) = nI (kn r)
def d_pw (I : q_I) (P : q_P) (w : Nat) (v : Nat → Int32) (t : Nat) : Prop :=
  ∃ n Ru no Of Os base E kn nx ac, d_ab t n Ru no Of Os base E kn nx ac ∧ d_cl1 I P w n Ru no Of Os base E kn nx ac ∧ d_ml1 v n Ru no Of Os base E kn nx
def d_stl (I : q_I) (w : Nat) : Prop := ∀ j, j < 12 → ∃ c e, I (w + 26 + 2 * j) 6 = nI c ∧ I (w + 26 + 2 * j) 7 = nI e ∧ c < 4096 ∧ e < 4096
def d_tx (I M : q_I) : Prop := ∃ len, len ≤ 60 ∧ I 114 0 = nI len ∧ M 0 4 = nI len ∧ ∀ j, j < len → ∃ c, 32 ≤ c ∧ c ≤ 126 ∧ I 115 j = nI c ∧ M 4 j = nI c
def d_pg (I M : q_I) : Prop := ∃ len, len ≤ 60 ∧ I 117 0 = nI len ∧ M 0 6 = nI len ∧ ∀ j, j < len → ∃ c, 32 ≤ c ∧ c ≤ 126 ∧ I 118 j = nI c ∧ M 5 j = nI c
def d_kp1 (I : q_I) (P : q_P) (M : q_I) (t : Nat) : Prop := ∀ x, x < 2 → I 52 x = M 3 x ∧ d_stl I (119 + 50 * x) ∧ d_inj P (119 + 50 * x + 10) 12 ∧ (I 52 x ≠ 0 → d_pw I P (119 + 50 * x) (fun k => M 2 (280 * x + k)) t)
def d_Z (t : Nat) (I : q_I) (P : q_P) (M : q_I) : Prop := d_pw I P 1 (M 1) t ∧ d_kp1 I P M t ∧ d_inj P 55 24 ∧ d_inj P 84 24 ∧ d_tx I M ∧ d_pg I M
/-- only what may be written over changes -/
def d_rel (o : Nat) : Prop := (1 ≤ o ∧ o ≤ 50) ∨ o = 52 ∨ o = 114 ∨ o = 115 ∨ o = 117 ∨ o = 118 ∨ 119 ≤ o
def d_cs (I I' : q_I) (P P' : q_P) : Prop := (∀ o, d_rel o → I' o = I o) ∧ (∀ a, a ≠ 55 → a ≠ 84 → P' a = P a) ∧ d_inj P' 55 24 ∧ d_inj P' 84 24
def d_ms (M M' : q_I) : Prop := (∀ o, 1 ≤ o → o ≤ 5 → M' o = M o) ∧ M' 0 4 = M 0 4 ∧ M' 0 6 = M 0 6
theorem d_ms_rf {M : q_I} : d_ms M M := ⟨fun _ _ _ => rfl, rfl, rfl⟩
theorem d_ms_tr {M M1 M2 : q_I} (h1 : d_ms M M1) (h2 : d_ms M1 M2) : d_ms M M2 := ⟨fun o q1 q2 => (h2.1 o q1 q2).trans (h1.1 o q1 q2), h2.2.1.trans h1.2.1, h2.2.2.trans h1.2.2⟩
theorem d_ms_mf {M M' : q_I} (h : d_mf M M') : d_ms M M' := ⟨fun o q1 q2 => h.1 o (by omega) (by omega), h.2 4 (by decide), h.2 6 (by decide)⟩
theorem d_cs_tr {I I1 I2 : q_I} {P P1 P2 : q_P} (h1 : d_cs I I1 P P1) (h2 : d_cs I1 I2 P1 P2) : d_cs I I2 P P2 := ⟨fun o q => (h2.1 o q).trans (h1.1 o q), fun a q1 q2 => (h2.2.1 a q1 q2).trans (h1.2.1 a q1 q2), h2.2.2.1, h2.2.2.2⟩
theorem d_ab_t {t t' n : Nat} {Ru : Nat → Nat → Nat} {no : Nat} {Of Os : Nat → Int32} {base : List (Nat → Nat)} {E : Nat → Nat → Nat} {kn : Nat → Nat} {nx : Nat} {ac : Nat → Nat} (h : d_ab t n Ru no Of Os base E kn nx ac) (ht : t ≤ t') : d_ab t' n Ru no Of Os base E kn nx ac :=
  ⟨h.1, h.2.1, h.2.2.1, h.2.2.2.1, Nat.le_trans h.2.2.2.2.1 ht, h.2.2.2.2.2⟩
theorem d_cl1_fr {I I' : q_I} {P P' : q_P} {w n : Nat} {Ru : Nat → Nat → Nat} {no : Nat} {Of Os : Nat → Int32} {base : List (Nat → Nat)} {E : Nat → Nat → Nat} {kn : Nat → Nat} {nx : Nat} {ac : Nat → Nat} (h : d_cl1 I P w n Ru no Of Os base E kn nx ac) (hn : n ≤ 12) (hI : ∀ o, w ≤ o → o < w + 50 → I' o = I o) (hP : P' (w + 10) = P (w + 10)) : d_cl1 I' P' w n Ru no Of Os base E kn nx ac := by
  obtain ⟨⟨C, N, h1⟩, h2, h3, h4⟩ := h
  refine ⟨⟨C, N, d_cw_fr h1 hn (fun o q1 q2 => hI o (by omega) q2) hP⟩, ?_, ?_, fun r hr => ?_⟩
  · rw [hI w (by omega) (by omega)]; exact h2
  · rw [hI w (by omega) (by omega)]; exact h3
  · rw [hI (w + 24) (by omega) (by omega), hI (w + 25) (by omega) (by omega)]; exact h4 r hr
theorem d_pw_fr {I I' : q_I} {P P' : q_P} {w t t' : Nat} {v v' : Nat → Int32} (h : d_pw I P w v t) (ht : t ≤ t') (hI : ∀ o, w ≤ o → o < w + 50 → I' o = I o) (hP : P' (w + 10) = P (w + 10)) (hv : v' = v) : d_pw I' P' w v' t' := by
  obtain ⟨n, Ru, no, Of, Os, base, E, kn, nx, ac, h1, h2, h3⟩ := h
  subst hv
  exact ⟨n, Ru, no, Of, Os, base, E, kn, nx, ac, d_ab_t h1 ht, d_cl1_fr h2 h1.1.2.2.2.2.2.2.2.2 hI hP, h3⟩
theorem d_stl_fr {I I' : q_I} {w : Nat} (h : d_stl I w) (hI : ∀ o, w ≤ o → o < w + 50 → I' o = I o) : d_stl I' w := fun j hj => by
  rw [hI _ (by omega) (by omega)]
  exact h j hj
theorem d_kp_fr {I I' : q_I} {P P' : q_P} {M M' : q_I} {t t' : Nat} (h : d_kp1 I P M t) (ht : t ≤ t') (hI : ∀ o, o = 52 ∨ 119 ≤ o → I' o = I o) (hP : ∀ a, 119 ≤ a → P' a = P a) (hM : M' 2 = M 2 ∧ M' 3 = M 3) : d_kp1 I' P' M' t' := by
  intro x hx
  obtain ⟨h1, h2, h3, h4⟩ := h x hx
  refine ⟨by rw [hI 52 (Or.inl rfl), hM.2]; exact h1, d_stl_fr h2 (fun o q1 q2 => hI o (Or.inr (by omega))), ?_, fun q => ?_⟩
  · unfold d_inj
    rw [hP _ (by omega)]
    exact h3
  · rw [hI 52 (Or.inl rfl)] at q
    exact d_pw_fr (h4 q) ht (fun o q1 q2 => hI o (Or.inr (by omega))) (hP _ (by omega)) (by rw [hM.1])
theorem d_tx_fr {I I' M M' : q_I} (h : d_tx I M) (hI : I' 114 = I 114 ∧ I' 115 = I 115) (hM : M' 0 4 = M 0 4 ∧ M' 4 = M 4) : d_tx I' M' := by
  unfold d_tx
  rw [hI.1, hI.2, hM.1, hM.2]
  exact h
theorem d_pg_fr {I I' M M' : q_I} (h : d_pg I M) (hI : I' 117 = I 117 ∧ I' 118 = I 118) (hM : M' 0 6 = M 0 6 ∧ M' 5 = M 5) : d_pg I' M' := by
  unfold d_pg
  rw [hI.1, hI.2, hM.1, hM.2]
  exact h
theorem d_Z_fr {t t' : Nat} {I I' : q_I} {P P' : q_P} {M M' : q_I} (h : d_Z t I P M) (ht : t ≤ t') (hc : d_cs I I' P P') (hm : d_ms M M') : d_Z t' I' P' M' := by
  obtain ⟨h1, h2, h3, h4, h5, h6⟩ := h
  have r : ∀ o, d_rel o → I' o = I o := hc.1
  refine ⟨d_pw_fr h1 ht (fun o q1 q2 => r o (Or.inl ⟨q1, by omega⟩)) (hc.2.1 _ (by decide) (by decide)) (hm.1 1 (by decide) (by decide)), d_kp_fr h2 ht (fun o q => r o ?_) (fun a q => hc.2.1 a (by omega) (by omega)) ⟨hm.1 2 (by decide) (by decide), hm.1 3 (by decide) (by decide)⟩, hc.2.2.1, hc.2.2.2, d_tx_fr h5 ⟨r _ ?_, r _ ?_⟩ ⟨hm.2.1, hm.1 4 (by decide) (by decide)⟩, d_pg_fr h6 ⟨r _ ?_, r _ ?_⟩ ⟨hm.2.2, hm.1 5 (by decide) (by decide)⟩⟩
  all_goals (unfold d_rel; omega)
theorem d_cs_rf {t : Nat} {I : q_I} {P : q_P} {M : q_I} (h : d_Z t I P M) : d_cs I I P P := ⟨fun _ _ => rfl, fun _ _ _ => rfl, h.2.2.1, h.2.2.2.1⟩
theorem d_Zt {t t' : Nat} {I : q_I} {P : q_P} {M : q_I} (h : d_Z t I P M) (ht : t ≤ t') : d_Z t' I P M := d_Z_fr h ht (d_cs_rf h) d_ms_rf
/-! arguments -/
theorem d_rep (a : Int32) : (f_Mo_isReplica a = some 0 ∧ ∀ r, r < 3 → a ≠ nI r) ∨ ∃ r, r < 3 ∧ a = nI r ∧ f_Mo_isReplica a = some 1 := by
  unfold f_Mo_isReplica
  rcases dn_in (x := a) (a := 0) (b := 2) (by decide) (by decide) with ⟨h1, h2⟩ | ⟨k, h1, h2, h3, h4⟩
  · refine Or.inl ⟨?_, fun r hr => h2 r (by omega) (by omega)⟩
    have h1' : f_Mo_in a 0 2 = some 0 := h1
    rw [h1', d_b1]
    rfl
  · refine Or.inr ⟨k, by omega, h3, ?_⟩
    have h4' : f_Mo_in a 0 2 = some 1 := h4
    rw [h4', d_b1]
    rfl
theorem d_repC (a : Int32) : f_CR_isReplica a = f_Mo_isReplica a := rfl
theorem d_us_u {E : Nat → Nat → Nat} {s U U' : Nat} (h : d_us E s U) (h' : d_us E s U') : U = U' := w_ext (fun i => (h i).trans (h' i).symm)
theorem d_acc_u {Ru : Nat → Nat → Nat} {no : Nat} {Of Os : Nat → Int32} {base : List (Nat → Nat)} {E : Nat → Nat → Nat} {kn req : Nat} {a b : Option Nat} (ha : d_acc1 Ru no Of Os base E kn req a) (hb : d_acc1 Ru no Of Os base E kn req b) : a = b := by
  obtain ⟨U, h1, h2⟩ := ha
  obtain ⟨U', h3, h4⟩ := hb
  have := d_us_u h1 h3
  subst this
  exact w_best_u h2 h4
theorem cM54 : ∀ k, k < 24 → cM (54 + 2 + k) = true := by decide +kernel
theorem cM83 : ∀ k, k < 24 → cM (83 + 2 + k) = true := by decide +kernel
theorem cM10 : ∀ k, k < 12 → cM (10 + 2 + k) = true := by decide +kernel
theorem cE27 : ∀ k, k < 12 → cE (1 + 26 + 2 * k) = true := by decide +kernel
section DZ
variable {t n : Nat} {I : q_I} {P : q_P} {M : q_I} {Ru : Nat → Nat → Nat} {no : Nat} {Of Os : Nat → Int32} {base : List (Nat → Nat)} {E : Nat → Nat → Nat} {kn : Nat → Nat} {nx : Nat} {ac : Nat → Nat}
theorem d_accR {J : q_J} {r : Nat} (ha : d_ab t n Ru no Of Os base E kn nx ac) (hm : d_ml1 (M 1) n Ru no Of Os base E kn nx) (hr : r < 3) : ∃ M' J', f_Mo_accepted M J (nI r) = some (nI (ac r), M', J') ∧ d_mf M M' := by
  obtain ⟨h1, h2, h3, h4, h5, h6, h7⟩ := ha
  obtain ⟨M', J', b, e, g1, g2⟩ := d_mbest (J := J) (req := 0) hm.1 h1 hr (h6 r hr).1 (hm.2.2 r hr) (Nat.two_pow_pos n)
  have := d_acc_u g2 (h6 r hr).2.2
  subst this
  refine ⟨M', J', ?_, g1⟩
  unfold f_Mo_accepted
  have e' : f_Mo_bestWith M J (nI r) 0 = some (d_bo (some (ac r)), M', J') := e
  rw [e', d_b3]
  rfl
theorem d_acadm (ha : d_ab t n Ru no Of Os base E kn nx ac) {r : Nat} (hr : r < 3) : d_adm Ru no Of Os base E (ac r) := by
  obtain ⟨U, -, h⟩ := (ha.2.2.2.2.2.1 r hr).2.2
  exact h.1
theorem d_acfm (ha : d_ab t n Ru no Of Os base E kn nx ac) {r : Nat} (hr : r < 3) : d_srt (d_fm base E (ac r) 12) ∧ (∀ m, m ∈ d_fm base E (ac r) 12 → d_mt m) ∧ d_valid Ru no Of Os (d_fm base E (ac r) 12) ∧ (d_fm base E (ac r) 12).length ≤ 24 := by
  have h := d_fm_ok ha.1 (ha.2.2.2.2.2.1 r hr).2.1 12
  exact ⟨h.1, h.2.1, (d_acadm ha hr).2.2, by omega⟩
theorem d_mwf {M' : q_I} (hm : d_ml1 (M 1) n Ru no Of Os base E kn nx) (hf : d_mf M M') : d_ml1 (M' 1) n Ru no Of Os base E kn nx := by
  rw [hf.1 1 (by decide) (by decide)]
  exact hm
theorem d_showR {J : q_J} {r : Nat} (ha : d_ab t n Ru no Of Os base E kn nx ac) (hm : d_ml1 (M 1) n Ru no Of Os base E kn nx) (hr : r < 3) : ∃ M' J', f_Mo_shows M J (nI r) = some (M', J') ∧ d_mc M' (d_fm base E (ac r) 12) ∧ d_mf M M' := by
  obtain ⟨M1, J1, e1, g1⟩ := d_accR (J := J) ha hm hr
  have had := d_acadm ha hr
  obtain ⟨M2, e2, g2, g3⟩ := d_mforms ha.1 (ha.2.2.2.2.2.1 r hr).2.1 (d_mwf hm g1).1 ⟨had.1, had.2.1, trivial⟩
  refine ⟨M2, J1, ?_, g2, d_mf_tr g1 g3⟩
  unfold f_Mo_shows
  rw [e1, d_b3, e2, d_b1]
theorem d_showC {r : Nat} (ha : d_ab t n Ru no Of Os base E kn nx ac) (hc : d_cl1 I P 1 n Ru no Of Os base E kn nx ac) (hi : d_inj P 55 24) (hi2 : d_inj P 84 24) (hr : r < 3) : ∃ I' P', f_CR_show I P (nI r) = some (I', P') ∧ d_cal I' P' 83 24 (d_fm base E (ac r) 12) ∧ d_cs I I' P P' ∧ d_fr 83 24 I I' := by
  obtain ⟨⟨C, N, h1⟩, h2, h3, h4⟩ := hc
  obtain ⟨I1, P1, e, g1, g2, g3⟩ := d_form (c := 83) ha.1 (ha.2.2.2.2.2.1 r hr).2.1 (by omega) cM83 h1.2.2.1 hi2 (fun j hj => (h1.2.2.2.2 j (w_lt (ha.2.2.2.2.2.1 r hr).2.1 hj)).1)
  refine ⟨I1, P1, ?_, g1, ⟨fun o ho => g2 o (by unfold d_rel at ho; omega), fun a q1 q2 => g3 a q2, ?_, g1.2.2.1⟩, g2⟩
  · unfold f_CR_show
    rw [d_ix hr (by decide), (h4 r hr).2, e, d_b2]
  · unfold d_inj
    rw [g3 55 (by decide)]
    exact hi
theorem d_findZ {J : q_J} (h : d_Z t I P M) (a1 a2 : Int32) :
    (∃ I' P' M' J', f_CR_find I P a1 a2 = some (none, I', P') ∧ f_Mo_isThere M J a1 a2 = some (0, M', J') ∧ d_cs I I' P P' ∧ d_ms M M' ∧ d_mf M M') ∨
    ∃ I' P' M' J' L k m, f_CR_find I P a1 a2 = some (some (83 + 2 + P' 84 k), I', P') ∧ f_Mo_isThere M J a1 a2 = some (1, M', J') ∧ d_cs I I' P P' ∧ d_ms M M' ∧ d_mf M M' ∧ d_find L a2 = some k ∧ L[k]? = some m ∧ d_mt m ∧ d_cal I' P' 83 24 L ∧ d_mc M' L ∧ d_row (I' (83 + 2 + P' 84 k)) m ∧ cM (83 + 2 + P' 84 k) = true ∧ ∃ r, r < 3 ∧ a1 = nI r := by
  have h0 := h
  obtain ⟨⟨n, Ru, no, Of, Os, base, E, kn, nx, ac, ha, hc, hm⟩, h2, h3, h4, h5, h6⟩ := h
  unfold f_CR_find f_Mo_isThere
  rw [d_repC]
  rcases d_rep a1 with ⟨e, -⟩ | ⟨r, hr, rfl, e⟩
  · rw [e, d_b1, d_b1, if_pos rfl, if_pos rfl]
    exact Or.inl ⟨I, P, M, J, rfl, rfl, d_cs_rf h0, d_ms_rf, d_mf_rf⟩
  · rw [e, d_b1, d_b1, if_neg (show ¬ (1 : Int32) = 0 by decide), if_neg (show ¬ (1 : Int32) = 0 by decide)]
    obtain ⟨I1, P1, e1, g1, g2, -⟩ := d_showC ha hc h3 h4 hr
    obtain ⟨M1, J1, e2, g3, g4⟩ := d_showR (J := J) ha hm hr
    have hf := d_acfm ha hr
    rw [e1, d_b2, e2, d_b2, d_findC g1 (by omega), d_b1, d_mfind g3]
    cases hq : d_find (d_fm base E (ac r) 12) a2 with
    | none =>
      refine Or.inl ⟨I1, P1, M1, J1, rfl, ?_, g2, d_ms_mf g4, g4⟩
      show q_b1 (some (-1)) _ = _
      rw [d_b1, if_pos (show (-1 : Int32) < 0 by decide)]
    | some k =>
      obtain ⟨m, hk, hm0⟩ := d_find_some hq
      have hkl := d_get_lt hk
      refine Or.inr ⟨I1, P1, M1, J1, d_fm base E (ac r) 12, k, m, rfl, ?_, g2, d_ms_mf g4, g4, hq, hk, hf.2.1 m (List.mem_of_getElem? hk), g1, g3, g1.2.2.2 k m hk, cM83 _ (g1.2.2.1.1 k (by omega)), r, hr, rfl⟩
      show q_b1 (some (nI k)) _ = _
      rw [d_b1, if_neg (nI_pos (by omega))]
end DZ
/-! what a calendar says -/
theorem y2_meetings {t : Nat} {I : q_I} {P : q_P} {M : q_I} {J : q_J} (h : d_Z t I P M) (a1 : Int32) : ∃ v I' P' M' J', f_CR_meetings I P a1 = some (v, I', P') ∧ f_Mo_meetings M J a1 = some (v, M', J') ∧ d_Z (t + 1) I' P' M' := by
  have h0 := h
  obtain ⟨⟨n, Ru, no, Of, Os, base, E, kn, nx, ac, ha, hc, hm⟩, h2, h3, h4, h5, h6⟩ := h
  unfold f_CR_meetings f_Mo_meetings
  rw [d_repC]
  rcases d_rep a1 with ⟨e, -⟩ | ⟨r, hr, rfl, e⟩
  · rw [e, d_b1, d_b1, if_pos rfl, if_pos rfl]
    exact ⟨_, _, _, _, _, rfl, rfl, d_Zt h0 (by omega)⟩
  · rw [e, d_b1, d_b1, if_neg (show ¬ (1 : Int32) = 0 by decide), if_neg (show ¬ (1 : Int32) = 0 by decide)]
    obtain ⟨I1, P1, e1, g1, g2, -⟩ := d_showC ha hc h3 h4 hr
    obtain ⟨M1, J1, e2, g3, g4⟩ := d_showR (J := J) ha hm hr
    rw [e1, d_b2, e2, d_b2, g1.1, g3.1]
    exact ⟨_, _, _, _, _, rfl, rfl, d_Z_fr h0 (by omega) g2 (d_ms_mf g4)⟩
theorem d_idx2 {M : q_I} {L : List (Nat → Nat)} (hc : d_mc M L) (hs : d_srt L) (hm : ∀ m, m ∈ L → d_mt m) {k : Nat} (hk : k < L.length) (K : Int32 → Option Int32) : ∀ (d i fu : Nat), i + d = L.length → d < fu → f_Mo_indexOf_L2 M (nI k) K fu (nI (min i k)) (nI i) = K (nI k) := by
  have hL := hc.2.1
  intro d
  induction d with
  | zero =>
    intro i fu hi hf
    obtain ⟨fu, rfl, -⟩ := d_fuel hf
    unfold f_Mo_indexOf_L2
    rw [hc.1, if_pos (nI_le (by omega) (by omega)), Nat.min_eq_right (by omega)]
  | succ d ih =>
    intro i fu hi hf
    obtain ⟨fu, rfl, hf⟩ := d_fuel hf
    have hil : i < L.length := by omega
    have ri := hc.2.2 i _ (List.getElem?_eq_getElem hil) 0 (by omega)
    have rk := hc.2.2 k _ (List.getElem?_eq_getElem hk) 0 (by omega)
    have mi := hm _ (List.getElem_mem hil)
    have mk := hm _ (List.getElem_mem hk)
    have hp := List.pairwise_iff_getElem.mp hs
    unfold d_mt at mi mk
    have hih := ih (i + 1) fu (by omega) (by omega)
    unfold f_Mo_indexOf_L2
    rw [hc.1, if_neg (nI_ge hil (by omega)), d_mm0, d_b1, d_ix (by omega) (by omega), d_mm0, d_b1, d_ix (by omega) (by omega), ri, rk]
    rcases Nat.lt_or_ge i k with q | q
    · have := hp i k hil hk q
      rw [if_neg (nI_ge this (by omega)), d_l, nI_1, nI_1, Nat.min_eq_left (by omega)]
      rw [Nat.min_eq_left (by omega)] at hih
      exact hih
    · have : L[k] 0 ≤ L[i] 0 := by
        rcases Nat.lt_or_ge k i with q2 | q2
        · have := hp k i hk hil q2
          omega
        · have : k = i := by omega
          subst this
          exact Nat.le_refl _
      rw [if_pos (nI_le this (by omega)), d_l, Int32.add_zero, nI_1, Nat.min_eq_right (by omega)]
      rw [Nat.min_eq_right (by omega)] at hih
      exact hih
theorem d_idx1 {M : q_I} {L : List (Nat → Nat)} (hc : d_mc M L) (hs : d_srt L) (hm : ∀ m, m ∈ L → d_mt m) (x : Int32) : ∀ (d k fu : Nat), k + d = L.length → d < fu → ((∃ j, k ≤ j ∧ j < L.length ∧ x = nI j ∧ f_Mo_indexOf_L1 M x fu (nI k) = some (nI j)) ∨ ((∀ j, k ≤ j → j < L.length → x ≠ nI j) ∧ f_Mo_indexOf_L1 M x fu (nI k) = some (-1))) := by
  have hL := hc.2.1
  intro d
  induction d with
  | zero =>
    intro k fu hk hf
    obtain ⟨fu, rfl, -⟩ := d_fuel hf
    refine Or.inr ⟨fun j h1 h2 => by omega, ?_⟩
    unfold f_Mo_indexOf_L1
    rw [hc.1, if_pos (nI_le (by omega) (by omega))]
  | succ d ih =>
    intro k fu hk hf
    obtain ⟨fu, rfl, hf⟩ := d_fuel hf
    have hkl : k < L.length := by omega
    have h2 := d_idx2 hc hs hm hkl (fun (x6 : Int32) => if x6 = x then (some (nI k)) else ((f_Mo_indexOf_L1 M x fu (nI k + 1)))) L.length 0 q_fu (by omega) (d_q (by omega))
    rw [Nat.zero_min, nI_0] at h2
    unfold f_Mo_indexOf_L1
    rw [hc.1, if_neg (nI_ge hkl (by omega)), h2]
    by_cases he : nI k = x
    · rw [if_pos he]
      exact Or.inl ⟨k, Nat.le_refl _, hkl, he.symm, rfl⟩
    · rw [if_neg he, nI_1]
      rcases ih (k + 1) fu (by omega) (by omega) with ⟨j, h1, h2, h3, h4⟩ | ⟨h1, h2⟩
      · exact Or.inl ⟨j, by omega, h2, h3, h4⟩
      · refine Or.inr ⟨fun j q1 q2 => ?_, h2⟩
        by_cases hjk : j = k
        · subst hjk; exact fun q => he q.symm
        · exact h1 j (by omega) q2
theorem d_mix {M : q_I} {L : List (Nat → Nat)} (hc : d_mc M L) (hs : d_srt L) (hm : ∀ m, m ∈ L → d_mt m) (x : Int32) : (∃ j, j < L.length ∧ x = nI j ∧ f_Mo_indexOf M x = some (nI j)) ∨ ((∀ j, j < L.length → x ≠ nI j) ∧ f_Mo_indexOf M x = some (-1)) := by
  rcases d_idx1 hc hs hm x L.length 0 q_fu (by omega) (d_q (by have := hc.2.1; omega)) with ⟨j, -, h2, h3, h4⟩ | ⟨h1, h2⟩
  · exact Or.inl ⟨j, h2, h3, h4⟩
  · exact Or.inr ⟨fun j hj => h1 j (by omega) hj, h2⟩
theorem y2_meetingAt {t : Nat} {I : q_I} {P : q_P} {M : q_I} {J : q_J} (h : d_Z t I P M) (a1 a2 : Int32) : ∃ v I' P' M' J', f_CR_meetingAt I P a1 a2 = some (v, I', P') ∧ f_Mo_meetingAt M J a1 a2 = some (v, M', J') ∧ d_Z (t + 1) I' P' M' := by
  have h0 := h
  obtain ⟨⟨n, Ru, no, Of, Os, base, E, kn, nx, ac, ha, hc, hm⟩, h2, h3, h4, h5, h6⟩ := h
  unfold f_CR_meetingAt f_Mo_meetingAt
  rw [d_repC]
  rcases d_rep a1 with ⟨e, -⟩ | ⟨r, hr, rfl, e⟩
  · rw [e, d_b1, d_b1, if_pos rfl, if_pos rfl]
    exact ⟨_, _, _, _, _, rfl, rfl, d_Zt h0 (by omega)⟩
  · rw [e, d_b1, d_b1, if_neg (show ¬ (1 : Int32) = 0 by decide), if_neg (show ¬ (1 : Int32) = 0 by decide)]
    obtain ⟨I1, P1, e1, g1, g2, -⟩ := d_showC ha hc h3 h4 hr
    obtain ⟨M1, J1, e2, g3, g4⟩ := d_showR (J := J) ha hm hr
    have hf := d_acfm ha hr
    rw [e1, d_b2, e2, d_b2]
    rcases d_mix g3 hf.1 hf.2.1 a2 with ⟨j, hj, rfl, e3⟩ | ⟨hno, e3⟩
    · have hjm := List.getElem?_eq_getElem hj
      have hcm : cM (83 + 2 + P1 (83 + 1) j) = true := cM83 _ (g1.2.2.1.1 j (by omega))
      rw [d_row_some g1 (by omega) hj, d_b1, if_pos (nI_pos' (by omega)), e3, d_b1, if_pos (nI_pos' (by omega)), d_mm0, d_b1, d_ix (by omega) (by omega), g3.2.2 j _ hjm 0 (by omega)]
      simp only [Option.elim_some]
      unfold q_ck
      rw [if_pos hcm, g1.2.2.2 j _ hjm 0 (by omega)]
      exact ⟨_, _, _, _, _, rfl, rfl, d_Z_fr h0 (by omega) g2 (d_ms_mf g4)⟩
    · rw [d_row_none g1 (by omega) hno, d_b1, e3, d_b1, if_neg (show ¬ (0 : Int32) ≤ -1 by decide)]
      simp only [Option.elim_none]
      by_cases h9 : (0 : Int32) ≤ a2
      · rw [if_pos h9]
        exact ⟨_, _, _, _, _, rfl, rfl, d_Z_fr h0 (by omega) g2 (d_ms_mf g4)⟩
      · rw [if_neg h9]
        exact ⟨_, _, _, _, _, rfl, rfl, d_Z_fr h0 (by omega) g2 d_ms_rf⟩
theorem y2_startOf {t : Nat} {I : q_I} {P : q_P} {M : q_I} {J : q_J} (h : d_Z t I P M) (a1 a2 : Int32) : ∃ v I' P' M' J', f_CR_startOf I P a1 a2 = some (v, I', P') ∧ f_Mo_startOf M J a1 a2 = some (v, M', J') ∧ d_Z (t + 1) I' P' M' := by
  unfold f_CR_startOf f_Mo_startOf f_Mo_of
  rcases d_findZ (J := J) h a1 a2 with ⟨I1, P1, M1, J1, e1, e2, g1, g2, -⟩ | ⟨I1, P1, M1, J1, L, k, m, e1, e2, g1, g2, -, g3, g4, g5, g6, g7, g8, g9, -⟩
  · rw [e1, d_b3, e2, d_b3, if_pos rfl, d_b3]
    exact ⟨_, _, _, _, _, rfl, rfl, d_Z_fr h (by omega) g1 g2⟩
  · have hkl := d_get_lt g4
    have := g7.2.1
    rw [e1, d_b3, e2, d_b3, if_neg (show ¬ (1 : Int32) = 0 by decide), d_mfind g7, g3]
    simp only [Option.elim_some]
    unfold q_ck
    rw [if_pos g9, d_b1, d_mm1, d_b1, d_ix (by omega) (by omega), g7.2.2 k m g4 1 (by omega), g8 1 (by omega), d_b3]
    exact ⟨_, _, _, _, _, rfl, rfl, d_Z_fr h (by omega) g1 g2⟩
theorem y2_durationOf {t : Nat} {I : q_I} {P : q_P} {M : q_I} {J : q_J} (h : d_Z t I P M) (a1 a2 : Int32) : ∃ v I' P' M' J', f_CR_durationOf I P a1 a2 = some (v, I', P') ∧ f_Mo_durationOf M J a1 a2 = some (v, M', J') ∧ d_Z (t + 1) I' P' M' := by
  unfold f_CR_durationOf f_Mo_durationOf f_Mo_of
  rcases d_findZ (J := J) h a1 a2 with ⟨I1, P1, M1, J1, e1, e2, g1, g2, -⟩ | ⟨I1, P1, M1, J1, L, k, m, e1, e2, g1, g2, -, g3, g4, g5, g6, g7, g8, g9, -⟩
  · rw [e1, d_b3, e2, d_b3, if_pos rfl, d_b3]
    exact ⟨_, _, _, _, _, rfl, rfl, d_Z_fr h (by omega) g1 g2⟩
  · have hkl := d_get_lt g4
    have := g7.2.1
    rw [e1, d_b3, e2, d_b3, if_neg (show ¬ (1 : Int32) = 0 by decide), d_mfind g7, g3]
    simp only [Option.elim_some]
    unfold q_ck
    rw [if_pos g9, d_b1, d_mm2, d_b1, d_ix (by omega) (by omega), g7.2.2 k m g4 2 (by omega), g8 2 (by omega), d_b3]
    exact ⟨_, _, _, _, _, rfl, rfl, d_Z_fr h (by omega) g1 g2⟩
theorem y2_roomOf {t : Nat} {I : q_I} {P : q_P} {M : q_I} {J : q_J} (h : d_Z t I P M) (a1 a2 : Int32) : ∃ v I' P' M' J', f_CR_roomOf I P a1 a2 = some (v, I', P') ∧ f_Mo_roomOf M J a1 a2 = some (v, M', J') ∧ d_Z (t + 1) I' P' M' := by
  unfold f_CR_roomOf f_Mo_roomOf f_Mo_of
  rcases d_findZ (J := J) h a1 a2 with ⟨I1, P1, M1, J1, e1, e2, g1, g2, -⟩ | ⟨I1, P1, M1, J1, L, k, m, e1, e2, g1, g2, -, g3, g4, g5, g6, g7, g8, g9, -⟩
  · rw [e1, d_b3, e2, d_b3, if_pos rfl, d_b3]
    exact ⟨_, _, _, _, _, rfl, rfl, d_Z_fr h (by omega) g1 g2⟩
  · have hkl := d_get_lt g4
    have := g7.2.1
    rw [e1, d_b3, e2, d_b3, if_neg (show ¬ (1 : Int32) = 0 by decide), d_mfind g7, g3]
    simp only [Option.elim_some]
    unfold q_ck
    rw [if_pos g9, d_b1, d_mm3, d_b1, d_ix (by omega) (by omega), g7.2.2 k m g4 3 (by omega), g8 3 (by omega), d_b3]
    exact ⟨_, _, _, _, _, rfl, rfl, d_Z_fr h (by omega) g1 g2⟩
theorem y2_personsOf {t : Nat} {I : q_I} {P : q_P} {M : q_I} {J : q_J} (h : d_Z t I P M) (a1 a2 : Int32) : ∃ v I' P' M' J', f_CR_personsOf I P a1 a2 = some (v, I', P') ∧ f_Mo_personsOf M J a1 a2 = some (v, M', J') ∧ d_Z (t + 1) I' P' M' := by
  unfold f_CR_personsOf f_Mo_personsOf f_Mo_of
  rcases d_findZ (J := J) h a1 a2 with ⟨I1, P1, M1, J1, e1, e2, g1, g2, -⟩ | ⟨I1, P1, M1, J1, L, k, m, e1, e2, g1, g2, -, g3, g4, g5, g6, g7, g8, g9, -⟩
  · rw [e1, d_b3, e2, d_b3, if_pos rfl, d_b3]
    exact ⟨_, _, _, _, _, rfl, rfl, d_Z_fr h (by omega) g1 g2⟩
  · have hkl := d_get_lt g4
    have := g7.2.1
    rw [e1, d_b3, e2, d_b3, if_neg (show ¬ (1 : Int32) = 0 by decide), d_mfind g7, g3]
    simp only [Option.elim_some]
    unfold q_ck
    rw [if_pos g9, d_b1, d_mm4, d_b1, d_ix (by omega) (by omega), g7.2.2 k m g4 4 (by omega), g8 4 (by omega), d_b3]
    exact ⟨_, _, _, _, _, rfl, rfl, d_Z_fr h (by omega) g1 g2⟩
theorem y2_periodOf {t : Nat} {I : q_I} {P : q_P} {M : q_I} {J : q_J} (h : d_Z t I P M) (a1 a2 : Int32) : ∃ v I' P' M' J', f_CR_periodOf I P a1 a2 = some (v, I', P') ∧ f_Mo_periodOf M J a1 a2 = some (v, M', J') ∧ d_Z (t + 1) I' P' M' := by
  unfold f_CR_periodOf f_Mo_periodOf f_Mo_of
  rcases d_findZ (J := J) h a1 a2 with ⟨I1, P1, M1, J1, e1, e2, g1, g2, -⟩ | ⟨I1, P1, M1, J1, L, k, m, e1, e2, g1, g2, -, g3, g4, g5, g6, g7, g8, g9, -⟩
  · rw [e1, d_b3, e2, d_b3, if_pos rfl, d_b3]
    exact ⟨_, _, _, _, _, rfl, rfl, d_Z_fr h (by omega) g1 g2⟩
  · have hkl := d_get_lt g4
    have := g7.2.1
    rw [e1, d_b3, e2, d_b3, if_neg (show ¬ (1 : Int32) = 0 by decide), d_mfind g7, g3]
    simp only [Option.elim_some]
    unfold q_ck
    rw [if_pos g9, d_b1, d_mm5, d_b1, d_ix (by omega) (by omega), g7.2.2 k m g4 5 (by omega), g8 5 (by omega), d_b3]
    exact ⟨_, _, _, _, _, rfl, rfl, d_Z_fr h (by omega) g1 g2⟩
theorem y2_countOf {t : Nat} {I : q_I} {P : q_P} {M : q_I} {J : q_J} (h : d_Z t I P M) (a1 a2 : Int32) : ∃ v I' P' M' J', f_CR_countOf I P a1 a2 = some (v, I', P') ∧ f_Mo_countOf M J a1 a2 = some (v, M', J') ∧ d_Z (t + 1) I' P' M' := by
  unfold f_CR_countOf f_Mo_countOf f_Mo_of
  rcases d_findZ (J := J) h a1 a2 with ⟨I1, P1, M1, J1, e1, e2, g1, g2, -⟩ | ⟨I1, P1, M1, J1, L, k, m, e1, e2, g1, g2, -, g3, g4, g5, g6, g7, g8, g9, -⟩
  · rw [e1, d_b3, e2, d_b3, if_pos rfl, d_b3]
    exact ⟨_, _, _, _, _, rfl, rfl, d_Z_fr h (by omega) g1 g2⟩
  · have hkl := d_get_lt g4
    have := g7.2.1
    rw [e1, d_b3, e2, d_b3, if_neg (show ¬ (1 : Int32) = 0 by decide), d_mfind g7, g3]
    simp only [Option.elim_some]
    unfold q_ck
    rw [if_pos g9, d_b1, d_mm6, d_b1, d_ix (by omega) (by omega), g7.2.2 k m g4 6 (by omega), g8 6 (by omega), d_b3]
    exact ⟨_, _, _, _, _, rfl, rfl, d_Z_fr h (by omega) g1 g2⟩
