/-! busy slots, free starts -/
section DB
variable {t n : Nat} {I : q_I} {P : q_P} {M : q_I} {Ru : Nat → Nat → Nat} {L : List (Nat → Nat)}
theorem d_busyL {J : q_J} {p : Nat} (hp : p < 31) (hc : d_cal I P 83 24 L) (hm : d_mc M L) (hmt : ∀ m, m ∈ L → d_mt m) : ∀ (d k fu fu2 : Nat) (x : Int32), k + d = L.length → d < fu → d < fu2 → ∃ v, f_CR_busySlots_L1 (nI p) I P fu x (nI k) = some (v, I, P) ∧ f_Mo_busySlots_L1 (nI p) M J fu2 x (nI k) = some (v, M, J) := by
  have hL := hc.2.1
  intro d
  induction d with
  | zero =>
    intro k fu fu2 x hk hf hf2
    obtain ⟨fu, rfl, -⟩ := d_fuel hf
    obtain ⟨fu2, rfl, -⟩ := d_fuel hf2
    unfold f_CR_busySlots_L1 f_Mo_busySlots_L1
    rw [hc.1, hm.1, if_pos (nI_le (by omega) (by omega)), if_pos (nI_le (by omega) (by omega))]
    exact ⟨x, rfl, rfl⟩
  | succ d ih =>
    intro k fu fu2 x hk hf hf2
    obtain ⟨fu, rfl, hf⟩ := d_fuel hf
    obtain ⟨fu2, rfl, hf2⟩ := d_fuel hf2
    have hkl : k < L.length := by omega
    have hg := List.getElem?_eq_getElem hkl
    have hmk := hmt _ (List.getElem_mem hkl)
    have hrow := hc.2.2.2 k _ hg
    have hr2 := hm.2.2 k _ hg
    have hcm := cM83 _ (hc.2.2.1.1 k (by omega))
    unfold d_mt at hmk
    unfold f_CR_busySlots_L1 f_Mo_busySlots_L1
    rw [hc.1, hm.1, if_neg (nI_ge hkl (by omega)), if_neg (nI_ge hkl (by omega)), d_row_some hc (by omega) hkl, d_b1]
    simp only [Option.elim_some]
    unfold q_ck
    rw [if_pos hcm, hrow 4 (by omega), dn_has (by omega) hp, d_b1, hrow 6 (by omega), hrow 2 (by omega), d_mm4, d_b1, d_ix (by omega) (by omega), hr2 4 (by omega), d_mm6, d_b1, nI_1]
    by_cases hin : w_in (L[k] 4) p
    · rw [if_pos hin, if_neg (show ¬ (1 : Int32) = 0 by decide), d_l, if_pos ((dn_b1 (by omega) hp).mpr hin), d_b1, if_neg (show ¬ (1 : Int32) = 0 by decide), d_ix (by omega) (by omega), hr2 6 (by omega), d_mm2, d_b1, d_ix (by omega) (by omega), hr2 2 (by omega), d_l]
      exact ih (k + 1) fu fu2 _ (by omega) (by omega) (by omega)
    · rw [if_neg hin, if_pos rfl, if_neg (fun q => hin ((dn_b1 (by omega) hp).mp q)), d_b1, if_pos rfl, d_l, Int32.add_zero]
      exact ih (k + 1) fu fu2 _ (by omega) (by omega) (by omega)
/-- the rows that are taken when a calendar has been booked -/
def d_R (Ru : Nat → Nat → Nat) (L : List (Nat → Nat)) (r i : Nat) : Prop := d_closed Ru r i ∨ ∃ m, m ∈ L ∧ w_in (d_rows m) r ∧ d_S m i
theorem d_fillL (hc : d_cal I P 83 24 L) (hmt : ∀ m, m ∈ L → d_mt m) (hv : d_vm Ru L) : ∀ (d k fu : Nat) (J : q_J), k + d = L.length → d < fu → d_tt J 109 (d_R Ru (L.take k)) → ∃ J', f_CR_fillTimetable_L1 I P fu (nI k) J = some (I, J', P) ∧ d_tt J' 109 (d_R Ru L) := by
  have hL := hc.2.1
  intro d
  induction d with
  | zero =>
    intro k fu J hk hf h
    obtain ⟨fu, rfl, -⟩ := d_fuel hf
    rw [List.take_of_length_le (by omega)] at h
    unfold f_CR_fillTimetable_L1
    rw [hc.1, if_pos (nI_le (by omega) (by omega))]
    exact ⟨J, rfl, h⟩
  | succ d ih =>
    intro k fu J hk hf h
    obtain ⟨fu, rfl, hf⟩ := d_fuel hf
    have hkl : k < L.length := by omega
    have htk : L.take (k + 1) = L.take k ++ [L[k]] := (List.take_append_getElem hkl).symm
    have hrow := hc.2.2.2 k _ (List.getElem?_eq_getElem hkl)
    have hmk := hmt _ (List.getElem_mem hkl)
    have hcm := cM83 _ (hc.2.2.1.1 k (by omega))
    generalize hmm : L[k] = m at htk hrow hmk
    have hmem : m ∈ L := by rw [← hmm]; exact List.getElem_mem hkl
    have hwell := hv.1 m hmem
    obtain ⟨v, J1, e2, g3, g4, g5, g6⟩ := d_book hrow hmk hwell.1.2.1 h
    have hv1 : v = 1 := g4.mpr (fun r h1 h2 i h3 h4 => by
      rcases h4.1 with h5 | ⟨m', h5, h6, h7⟩
      · exact hwell.2 r h1 h2 i h3 ⟨h5, h4.2⟩
      · have hq := (d_vm_take hv (k + 1)).2
        rw [htk, List.pairwise_append] at hq
        exact hq.2.2 m' h5 m (List.mem_singleton.mpr rfl) r h1 h6 h2 i h3 ⟨h7, h4.2⟩)
    unfold f_CR_fillTimetable_L1
    rw [hc.1, if_neg (nI_ge hkl (by omega)), d_row_some hc (by omega) hkl, d_b1]
    simp only [Option.elim_some]
    unfold q_ck
    rw [if_pos hcm, e2, d_b2, nI_1]
    exact ih (k + 1) fu J1 (by omega) (by omega) (d_tt_cg (g5 hv1) (fun r hr i hi => by
      unfold d_R
      rw [htk]
      constructor
      · rintro ((q | ⟨m', q1, q2⟩) | ⟨q1, q2⟩)
        · exact Or.inl q
        · exact Or.inr ⟨m', List.mem_append_left _ q1, q2⟩
        · exact Or.inr ⟨m, List.mem_append_right _ (List.mem_singleton.mpr rfl), q1, q2⟩
      · rintro (q | ⟨m', q1, q2⟩)
        · exact Or.inl (Or.inl q)
        · rcases List.mem_append.mp q1 with q1 | q1
          · exact Or.inl (Or.inr ⟨m', q1, q2⟩)
          · rw [List.mem_singleton.mp q1] at q2
            exact Or.inr q2))
theorem d_fillT {J : q_J} {no : Nat} {Of Os : Nat → Int32} {base : List (Nat → Nat)} {E : Nat → Nat → Nat} {kn : Nat → Nat} {nx : Nat} {ac : Nat → Nat} {r : Nat} (ha : d_ab t n Ru no Of Os base E kn nx ac) (hc : d_cl1 I P 1 n Ru no Of Os base E kn nx ac) (h3 : d_inj P 55 24) (h4 : d_inj P 84 24) (hr : r < 3) : ∃ I' J' P', f_CR_fillTimetable I J P (nI r) = some (I', J', P') ∧ d_tt J' 109 (d_R Ru (d_fm base E (ac r) 12)) ∧ d_cal I' P' 83 24 (d_fm base E (ac r) 12) ∧ d_cs I I' P P' := by
  have hn12 : n ≤ 12 := ha.1.2.2.2.2.2.2.2.2
  obtain ⟨I1, P1, e1, g1, g2, -⟩ := d_showC ha hc h3 h4 hr
  have hf := d_acfm ha hr
  have hc1 := d_cl1_cs hc hn12 g2
  obtain ⟨⟨C, N, hcw⟩, -⟩ := hc1
  obtain ⟨J1, e2, g3, -⟩ := d_begin (J := J) (a := 109) (r0 := 2) hcw.1
  obtain ⟨J2, e3, g4⟩ := d_fillL g1 hf.2.1 hf.2.2.1.1 (d_fm base E (ac r) 12).length 0 q_fu J1 (by omega) (d_q (by omega)) (d_tt_cg g3 (fun r hr i hi => by
    unfold d_R
    constructor
    · exact Or.inl
    · rintro (q | ⟨m, q, -⟩)
      · exact q
      · cases q))
  refine ⟨I1, J2, P1, ?_, g4, g1, g2⟩
  unfold f_CR_fillTimetable
  rw [e1, d_b2, e2, d_b1]
  exact e3
end DB
theorem y2_busySlots {t : Nat} {I : q_I} {P : q_P} {M : q_I} {J : q_J} (h : d_Z t I P M) (a1 a2 : Int32) : ∃ v I' P' M' J', f_CR_busySlots I P a1 a2 = some (v, I', P') ∧ f_Mo_busySlots M J a1 a2 = some (v, M', J') ∧ d_Z (t + 1) I' P' M' := by
  have h0 := h
  obtain ⟨⟨n, Ru, no, Of, Os, base, E, kn, nx, ac, ha, hc, hm⟩, h2, h3, h4, h5, h6⟩ := h
  have c10 : ¬ (1 : Int32) = 0 := by decide
  have hz := d_Zt h0 (show t ≤ t + 1 by omega)
  unfold f_CR_busySlots f_Mo_busySlots
  rw [d_repC, dn_within]
  rcases d_rep a1 with ⟨e, -⟩ | ⟨r, hr, rfl, e⟩
  · rw [e, d_b1, d_b1, if_pos rfl, if_pos rfl]
    exact ⟨_, _, _, _, _, rfl, rfl, hz⟩
  rw [e, d_b1, d_b1, if_neg c10, if_neg c10]
  rcases d_inL a2 0 5 0 5 rfl rfl (by decide) (by decide) with ⟨e2, -⟩ | ⟨p, -, hp, rfl, e2⟩
  · rw [e2, d_b1, d_b1, if_pos rfl, if_pos rfl]
    exact ⟨_, _, _, _, _, rfl, rfl, hz⟩
  obtain ⟨I1, P1, e3, g1, g2, -⟩ := d_showC ha hc h3 h4 hr
  obtain ⟨M1, J1, e4, g3, g4⟩ := d_showR (J := J) ha hm hr
  have hf := d_acfm ha hr
  obtain ⟨v, x1, x2⟩ := d_busyL (J := J1) (p := p) (by omega) g1 g3 hf.2.1 (d_fm base E (ac r) 12).length 0 q_fu q_fu 0 (by omega) (d_q (by omega)) (d_q (by omega))
  have x1' : f_CR_busySlots_L1 (nI p) I1 P1 q_fu 0 0 = some (v, I1, P1) := x1
  have x2' : f_Mo_busySlots_L1 (nI p) M1 J1 q_fu 0 0 = some (v, M1, J1) := x2
  rw [e2, d_b1, d_b1, if_neg c10, if_neg c10, e3, d_b2, e4, d_b2, x1', x2']
  exact ⟨_, _, _, _, _, rfl, rfl, d_Z_fr h0 (by omega) g2 (d_ms_mf g4)⟩
section DF
variable {M : q_I} {Ru : Nat → Nat → Nat} {L : List (Nat → Nat)}
theorem d_frL1 (hm : d_mc M L) (hmt : ∀ m, m ∈ L → d_mt m) (K : q_J → Option (Int32 × q_I × q_J)) : ∀ (d k fu : Nat) (J : q_J), k + d = L.length → d < fu → (∀ j a, j < k → L[j]? = some a → d_lh J j (fun s => d_S a s)) → ∃ J', f_Mo_freeStart_L1 M K fu (nI k) J = K J' ∧ ∀ j a, L[j]? = some a → d_lh J' j (fun s => d_S a s) := by
  have hL := hm.2.1
  intro d
  induction d with
  | zero =>
    intro k fu J hk hf h
    obtain ⟨fu, rfl, -⟩ := d_fuel hf
    unfold f_Mo_freeStart_L1
    rw [hm.1, if_pos (nI_le (by omega) (by omega))]
    exact ⟨J, rfl, fun j a ha => h j a (by have := d_get_lt ha; omega) ha⟩
  | succ d ih =>
    intro k fu J hk hf h
    obtain ⟨fu, rfl, hf⟩ := d_fuel hf
    have hkl : k < L.length := by omega
    have hg := List.getElem?_eq_getElem hkl
    obtain ⟨J1, e, g1, g2⟩ := d_mslots (J := J) hm hg (d_mp_of (hmt _ (List.getElem_mem hkl)))
    unfold f_Mo_freeStart_L1
    rw [hm.1, if_neg (nI_ge hkl (by omega)), e, d_b1, nI_1]
    refine ih (k + 1) fu J1 (by omega) (by omega) (fun j a hj ha => ?_)
    by_cases hjk : j = k
    · subst hjk
      rw [hg] at ha
      cases ha
      exact g1
    · have := h j a (by omega) ha
      unfold d_lh
      rw [g2 7 j hjk, g2 8 j hjk]
      exact this
theorem d_frL3 {J : q_J} {rm x dur : Nat} (hrm : rm ≤ 3) (hx : x + dur ≤ 1000) (hm : d_mc M L) (hmt : ∀ m, m ∈ L → d_mt m) (hs : ∀ j a, L[j]? = some a → d_lh J j (fun s => d_S a s)) (K : Int32 → Option (Int32 × q_I × q_J)) : ∀ (d k fu : Nat) (y : Int32), k + d = L.length → d < fu → (y = 0 ∨ y = 1) → ∃ v, f_Mo_freeStart_L3 (nI rm) (nI dur) M J (nI x) K fu y (nI k) = K v ∧ (v = 0 ∨ v = 1) ∧ (v = 1 ↔ y = 1 ∧ ∀ j m, k ≤ j → L[j]? = some m → m 3 = rm → ∀ i, i < 96 → ¬ (d_S m i ∧ d_rg x (x + dur) i)) := by
  have hL := hm.2.1
  intro d
  induction d with
  | zero =>
    intro k fu y hk hf hy
    obtain ⟨fu, rfl, -⟩ := d_fuel hf
    unfold f_Mo_freeStart_L3
    rw [hm.1, if_pos (nI_le (by omega) (by omega))]
    exact ⟨y, rfl, hy, fun q => ⟨q, fun j m h1 h2 => by have := d_get_lt h2; omega⟩, fun q => q.1⟩
  | succ d ih =>
    intro k fu y hk hf hy
    obtain ⟨fu, rfl, hf⟩ := d_fuel hf
    have hkl : k < L.length := by omega
    have hg := List.getElem?_eq_getElem hkl
    have hmk := hmt _ (List.getElem_mem hkl)
    unfold d_mt at hmk
    unfold f_Mo_freeStart_L3
    rw [hm.1, if_neg (nI_ge hkl (by omega)), nI_1]
    rcases hy with rfl | rfl
    · rw [if_pos rfl]
      obtain ⟨v, e, g1, g2⟩ := ih (k + 1) fu 0 (by omega) (by omega) (Or.inl rfl)
      exact ⟨v, e, g1, g2.trans ⟨fun q => absurd q.1 (by decide), fun q => absurd q.1 (by decide)⟩⟩
    rw [if_neg (show ¬ (1 : Int32) = 0 by decide), d_mm3, d_b1, d_ix (by omega) (by omega), hm.2.2 k _ hg 3 (by omega)]
    have split : ∀ Q : Prop, (Q ↔ (L[k] 3 = rm → ∀ i, i < 96 → ¬ (d_S L[k] i ∧ d_rg x (x + dur) i))) → ((1 : Int32) = 1 ∧ (∀ j m, k ≤ j → L[j]? = some m → m 3 = rm → ∀ i, i < 96 → ¬ (d_S m i ∧ d_rg x (x + dur) i)) ↔ Q ∧ ∀ j m, k + 1 ≤ j → L[j]? = some m → m 3 = rm → ∀ i, i < 96 → ¬ (d_S m i ∧ d_rg x (x + dur) i)) := fun Q hQ => by
      constructor
      · rintro ⟨-, q⟩
        exact ⟨hQ.mpr (q k _ (Nat.le_refl _) hg), fun j m h1 => q j m (by omega)⟩
      · rintro ⟨q1, q2⟩
        refine ⟨rfl, fun j m h1 h2 => ?_⟩
        by_cases hjk : j = k
        · subst hjk
          rw [hg] at h2
          cases h2
          exact hQ.mp q1
        · exact q2 j m (by omega) h2
    by_cases h3 : L[k] 3 = rm
    · obtain ⟨v0, e0, g3, g4⟩ := d_meets (J := J) (f := x) (t := x + dur) (k := k) (by omega) (by omega) (by omega) (hs k _ hg)
      rw [if_pos (congrArg nI h3), nI_add, e0, d_b1]
      rcases g3 with rfl | rfl
      · rw [if_pos rfl]
        obtain ⟨v, e, g1, g2⟩ := ih (k + 1) fu 1 (by omega) (by omega) (Or.inr rfl)
        exact ⟨v, e, g1, g2.trans (split (1 = 1) ⟨fun _ _ => g4.mp rfl, fun _ => rfl⟩).symm⟩
      · rw [if_neg (show ¬ (1 : Int32) = 0 by decide)]
        obtain ⟨v, e, g1, g2⟩ := ih (k + 1) fu 0 (by omega) (by omega) (Or.inl rfl)
        exact ⟨v, e, g1, g2.trans (split ((0 : Int32) = 1) ⟨fun q => absurd q (by decide), fun q => absurd (g4.mpr (q h3)) (by decide)⟩).symm⟩
    · rw [if_neg (fun q => h3 ((nI_eq (by omega) (by omega)).mp q))]
      obtain ⟨v, e, g1, g2⟩ := ih (k + 1) fu 1 (by omega) (by omega) (Or.inr rfl)
      exact ⟨v, e, g1, g2.trans (split (1 = 1) ⟨fun _ q => absurd q h3, fun _ => rfl⟩).symm⟩
end DF
