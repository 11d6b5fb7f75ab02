/-! valid calendars, and what does not fit any more -/
def d_vm (Ru : Nat → Nat → Nat) (L : List (Nat → Nat)) : Prop := (∀ m, m ∈ L → d_well Ru m) ∧ L.Pairwise d_dis
def d_valid (Ru : Nat → Nat → Nat) (no : Nat) (Of Os : Nat → Int32) (L : List (Nat → Nat)) : Prop := d_vm Ru L ∧ ∀ o, o < no → d_keeps L (Of o) (Os o)
def d_or (I : q_I) (r no : Nat) (Of Os : Nat → Int32) : Prop := I r 7 = nI no ∧ no ≤ 4 ∧ ∀ x, x < no → I (r + 6) x = Of x ∧ I (r + 7) x = Os x
theorem d_vm_take {Ru : Nat → Nat → Nat} {L : List (Nat → Nat)} (h : d_vm Ru L) (k : Nat) : d_vm Ru (L.take k) := ⟨fun m hm => h.1 m (List.mem_of_mem_take hm), h.2.sublist (List.take_sublist _ _)⟩
theorem d_fitsL {I : q_I} {P : q_P} {mg w : Nat} {L : List (Nat → Nat)} {Ru : Nat → Nat → Nat} (hc : d_cal I P (mg + 1) 24 L) (hM : ∀ k, k < 24 → cM (mg + 1 + 2 + k) = true) (hru : d_ru I (w + 1) Ru) (hm : ∀ m, m ∈ L → d_mt m) (K : q_J → Option (Int32 × q_I × q_J × q_P)) :
    ∀ (d k fu : Nat) (J : q_J), k + d = L.length → d < fu → d_vm Ru (L.take k) → d_tt J (mg + 27) (fun r i => d_closed Ru r i ∨ ∃ m, m ∈ L.take k ∧ w_in (d_rows m) r ∧ d_S m i) → ∃ J', d_jf (mg + 27) J J' ∧ ((d_vm Ru L ∧ f_Mg_fits_L1 mg w I P K fu (nI k) J = K J') ∨ (¬ d_vm Ru L ∧ f_Mg_fits_L1 mg w I P K fu (nI k) J = some (0, I, J', P))) := by
  have hL := hc.2.1
  intro d
  induction d with
  | zero =>
    intro k fu J hk hf hv h
    obtain ⟨fu, rfl, -⟩ := d_fuel hf
    rw [List.take_of_length_le (by omega)] at hv
    refine ⟨J, d_jf_rf, Or.inl ⟨hv, ?_⟩⟩
    unfold f_Mg_fits_L1
    rw [hc.1, if_pos (nI_le (by omega) (by omega))]
  | succ d ih =>
    intro k fu J hk hf hv h
    obtain ⟨fu, rfl, hf⟩ := d_fuel hf
    have hkl : k < L.length := by omega
    have htk : L.take (k + 1) = L.take k ++ [L[k]] := (List.take_append_getElem hkl).symm
    have hrow := hc.2.2.2 k _ (List.getElem?_eq_getElem hkl)
    have hmk := hm _ (List.getElem_mem hkl)
    have hP := hc.2.2.1.1 k (by omega)
    generalize hmm : L[k] = m at htk hrow hmk
    have hmem : m ∈ L := by rw [← hmm]; exact List.getElem_mem hkl
    obtain ⟨v, e1, g1, g2⟩ := d_allows hru hrow hmk
    unfold f_Mg_fits_L1
    rw [hc.1, if_neg (nI_ge hkl (by omega)), d_row_some hc (by omega) hkl, d_b1]
    simp only [Option.elim_some]
    rw [hM _ hP]
    unfold q_ck
    rw [if_pos rfl, e1, d_b1]
    rcases g1 with rfl | rfl
    · rw [if_pos rfl]
      exact ⟨J, d_jf_rf, Or.inr ⟨fun q => absurd (g2.mpr (q.1 m hmem).1) (by decide), rfl⟩⟩
    · rw [if_neg (show ¬ (1 : Int32) = 0 by decide)]
      have hok := g2.mp rfl
      obtain ⟨v, J1, e2, g3, g4, g5, g6⟩ := d_book hrow hmk hok.2.1 h
      rw [e2, d_b2]
      rcases g3 with rfl | rfl
      · rw [if_pos rfl]
        refine ⟨J1, g6, Or.inr ⟨fun q => absurd (g4.mpr (fun r h1 h2 i h3 h4 => ?_)) (by decide), rfl⟩⟩
        rcases h4.1 with h5 | ⟨m', h5, h6, h7⟩
        · exact (q.1 m hmem).2 r h1 h2 i h3 ⟨h5, h4.2⟩
        · have hq := (d_vm_take q (k + 1)).2
          rw [htk, List.pairwise_append] at hq
          exact hq.2.2 m' h5 m (List.mem_singleton.mpr rfl) r h1 h6 h2 i h3 ⟨h7, h4.2⟩
      · rw [if_neg (show ¬ (1 : Int32) = 0 by decide), nI_1]
        have hfree := g4.mp rfl
        have hv2 : d_vm Ru (L.take (k + 1)) := by
          rw [htk]
          refine ⟨fun m' hm' => ?_, List.pairwise_append.mpr ⟨hv.2, List.pairwise_singleton _ _, fun m' h1 b hb => ?_⟩⟩
          · rcases List.mem_append.mp hm' with h1 | h1
            · exact hv.1 m' h1
            · rw [List.mem_singleton.mp h1]
              exact ⟨hok, fun r h1 h2 i h3 h4 => hfree r h1 h2 i h3 ⟨Or.inl h4.1, h4.2⟩⟩
          · rw [List.mem_singleton.mp hb]
            exact fun r h2 h3 h4 i h5 h6 => hfree r h2 h4 i h5 ⟨Or.inr ⟨m', h1, h3, h6.1⟩, h6.2⟩
        obtain ⟨J', g7, g8⟩ := ih (k + 1) fu J1 (by omega) (by omega) hv2 (d_tt_cg (g5 rfl) (fun r hr i hi => by
          rw [htk]
          constructor
          · rintro ((q | ⟨m', q1, q2⟩) | ⟨q1, q2⟩)
            · exact Or.inl q
            · exact Or.inr ⟨m', List.mem_append_left _ q1, q2⟩
            · exact Or.inr ⟨m, List.mem_append_right _ (List.mem_singleton.mpr rfl), q1, q2⟩
          · rintro (q | ⟨m', q1, q2⟩)
            · exact Or.inl (Or.inl q)
            · rcases List.mem_append.mp q1 with q1 | q1
              · exact Or.inl (Or.inr ⟨m', q1, q2⟩)
              · rw [List.mem_singleton.mp q1] at q2
                exact Or.inr q2))
        exact ⟨J', d_jf_tr g6 g7, g8⟩
theorem d_ordL {I : q_I} {P : q_P} {c n r no : Nat} {L : List (Nat → Nat)} {Of Os : Nat → Int32} (hc : d_cal I P c n L) (hn : n ≤ 24) (hm : ∀ m, m ∈ L → d_mt m) (hM : ∀ k, k < n → cM (c + 2 + k) = true) (ho : d_or I r no Of Os) :
    ∀ (d k fu : Nat), k + d = no → d < fu → ∃ v, f_Ru_hasOrders_L1 I P r c n fu (nI k) = some v ∧ (v = 0 ∨ v = 1) ∧ (v = 1 ↔ ∀ o, k ≤ o → o < no → d_keeps L (Of o) (Os o)) := by
  obtain ⟨h1, h2, h3⟩ := ho
  intro d
  induction d with
  | zero =>
    intro k fu hk hf
    obtain ⟨fu, rfl, -⟩ := d_fuel hf
    refine ⟨1, ?_, Or.inr rfl, fun _ => fun o g1 g2 => by omega, fun _ => rfl⟩
    unfold f_Ru_hasOrders_L1
    rw [h1, if_pos (nI_le (by omega) (by omega))]
  | succ d ih =>
    intro k fu hk hf
    obtain ⟨fu, rfl, hf⟩ := d_fuel hf
    have hk4 : k < 4 := by omega
    have hx := h3 k (by omega)
    obtain ⟨v, e, g1, g2⟩ := d_keepsC hc hn hm hM (Of k) (Os k)
    unfold f_Ru_hasOrders_L1
    rw [h1, if_neg (nI_ge (show k < no by omega) (by omega)), if_neg (d_g4 hk4), d_ix hk4 (by decide), d_ix hk4 (by decide), hx.1, hx.2, e, d_b1]
    rcases g1 with rfl | rfl
    · rw [if_pos rfl]
      exact ⟨0, rfl, Or.inl rfl, fun q => absurd q (by decide), fun q => absurd (g2.mpr (q k (Nat.le_refl _) (by omega))) (by decide)⟩
    · rw [if_neg (show ¬ (1 : Int32) = 0 by decide), nI_1]
      obtain ⟨v, e, g3, g4⟩ := ih (k + 1) fu (by omega) (by omega)
      refine ⟨v, e, g3, g4.trans ⟨fun q o q1 q2 => ?_, fun q o q1 => q o (by omega)⟩⟩
      by_cases hok : o = k
      · subst hok; exact g2.mp rfl
      · exact q o (by omega) q2
/-- a world of the class: rules, orders, base, edits -/
def d_cw (I : q_I) (P : q_P) (w n : Nat) (Ru : Nat → Nat → Nat) (no : Nat) (Of Os : Nat → Int32) (base : List (Nat → Nat)) (E : Nat → Nat → Nat) (C N : Nat → Nat) : Prop := d_ru I (w + 1) Ru ∧ d_or I (w + 1) no Of Os ∧ d_cal I P (w + 9) 12 base ∧ d_eds I w n E C N
theorem d_eds_fr {I I' : q_I} {w n : Nat} {E : Nat → Nat → Nat} {C N : Nat → Nat} (h : d_eds I w n E C N) (hn : n ≤ 12) (hI : ∀ o, w + 26 ≤ o → o < w + 50 → I' o = I o) : d_eds I' w n E C N :=
  ⟨fun j hj => by rw [hI _ (by omega) (by omega)]; exact h.1 j hj, fun j hj => ⟨d_ed_fr (h.2 j hj).1 (hI _ (by omega) (by omega)) (hI _ (by omega) (by omega)), (h.2 j hj).2⟩⟩
theorem d_ru_fr {I I' : q_I} {r : Nat} {Ru : Nat → Nat → Nat} (h : d_ru I r Ru) (hI : ∀ o, r ≤ o → o < r + 8 → I' o = I o) : d_ru I' r Ru := by
  obtain ⟨h1, h2, h3⟩ := h
  refine ⟨fun x hx => ?_, fun x hx => ?_, h3⟩
  · rw [hI (r + 1) (by omega) (by omega), hI (r + 2) (by omega) (by omega), hI (r + 3) (by omega) (by omega)]
    exact h1 x hx
  · rw [hI (r + 4) (by omega) (by omega), hI (r + 5) (by omega) (by omega)]
    exact h2 x hx
theorem d_or_fr {I I' : q_I} {r no : Nat} {Of Os : Nat → Int32} (h : d_or I r no Of Os) (hI : ∀ o, r ≤ o → o < r + 8 → I' o = I o) : d_or I' r no Of Os := by
  obtain ⟨h1, h2, h3⟩ := h
  refine ⟨by rw [hI r (by omega) (by omega)]; exact h1, h2, fun x hx => ?_⟩
  rw [hI (r + 6) (by omega) (by omega), hI (r + 7) (by omega) (by omega)]
  exact h3 x hx
theorem d_cal_eq {I I' : q_I} {P P' : q_P} {c n : Nat} {L : List (Nat → Nat)} (h : d_cal I P c n L) (hI : ∀ o, c ≤ o → o < c + 2 + n → I' o = I o) (hP : P' (c + 1) = P (c + 1)) : d_cal I' P' c n L := by
  obtain ⟨h1, h2, h3, h4⟩ := h
  refine ⟨by rw [hI c (by omega) (by omega)]; exact h1, h2, by unfold d_inj; rw [hP]; exact h3, fun k m hk => ?_⟩
  have := d_get_lt hk
  have := h3.1 k (by omega)
  rw [hP, hI _ (by omega) (by omega)]
  exact h4 k m hk
theorem d_cw_fr {I I' : q_I} {P P' : q_P} {w n : Nat} {Ru : Nat → Nat → Nat} {no : Nat} {Of Os : Nat → Int32} {base : List (Nat → Nat)} {E : Nat → Nat → Nat} {C N : Nat → Nat} (h : d_cw I P w n Ru no Of Os base E C N) (hn : n ≤ 12) (hI : ∀ o, w < o → o < w + 50 → I' o = I o) (hP : P' (w + 10) = P (w + 10)) : d_cw I' P' w n Ru no Of Os base E C N :=
  ⟨d_ru_fr h.1 (fun o h1 h2 => hI o (by omega) (by omega)), d_or_fr h.2.1 (fun o h1 h2 => hI o (by omega) (by omega)), d_cal_eq h.2.2.1 (fun o h1 h2 => hI o (by omega) (by omega)) hP, d_eds_fr h.2.2.2 hn (fun o h1 h2 => hI o (by omega) (by omega))⟩
section DF
variable {I : q_I} {J : q_J} {P : q_P} {mg w n : Nat} {Ru : Nat → Nat → Nat} {no : Nat} {Of Os : Nat → Int32} {base : List (Nat → Nat)} {E : Nat → Nat → Nat} {C N : Nat → Nat}
theorem d_fits {ch op : Nat} (hcw : d_cw I P w n Ru no Of Os base E C N) (hwf : d_wf base E n) (hi : d_inj P (mg + 2) 24) (hM : ∀ k, k < 24 → cM (mg + 1 + 2 + k) = true) (hd : w + 50 ≤ mg ∨ mg + 30 ≤ w) (hch : ch < 2 ^ n) (hop : op < 2 ^ n) :
    ∃ v I' J' P', f_Mg_fits I J P mg w (nI ch) (nI op) = some (v, I', J', P') ∧ (v = 0 ∨ v = 1) ∧ (v = 1 ↔ d_valid Ru no Of Os ((d_fm base E ch 12).filter (d_kp E op 12))) ∧ d_fr (mg + 1) 24 I I' ∧ d_pr (mg + 2) P P' ∧ d_jf (mg + 27) J J' ∧ d_inj P' (mg + 2) 24 := by
  have hn12 : n ≤ 12 := hwf.2.2.2.2.2.2.2.2
  obtain ⟨hru, hor, hb, heds⟩ := hcw
  have hok := d_fm_ok hwf hch 12
  obtain ⟨I1, P1, e1, c1, f1, p1⟩ := d_form (c := mg + 1) hwf hch (by omega) hM hb hi (fun j hj => (heds.2 j (w_lt hch hj)).1)
  obtain ⟨I2, P2, e2, c2, f2, p2⟩ := d_drops (w := w) (E := E) hok.2.1 hwf.2.2.2.1 hop hn12 (by omega) c1 (fun j hj => by
    have := w_lt hop hj
    exact d_ed_fr (heds.2 j (w_lt hop hj)).1 (f1 _ (by omega)) (f1 _ (by omega)))
  have f12 := d_fr_tr f1 f2
  have hru2 : d_ru I2 (w + 1) Ru := d_ru_fr hru (fun o h1 h2 => f12 o (by omega))
  have hor2 : d_or I2 (w + 1) no Of Os := d_or_fr hor (fun o h1 h2 => f12 o (by omega))
  have hm2 : ∀ m, m ∈ (d_fm base E ch 12).filter (d_kp E op 12) → d_mt m := fun m hm => hok.2.1 m (List.mem_filter.mp hm).1
  obtain ⟨J1, e3, t1, j1⟩ := d_begin (J := J) (a := mg + 27) hru2
  obtain ⟨J2, j2, h2⟩ := d_fitsL c2 hM hru2 hm2 (fun (J4 : q_J) => q_b1 (f_Ru_hasOrders I2 P2 (w + 1) (mg + 1) 24) (fun v3 => some ((v3 &&& 1), I2, J4, P2))) _ 0 q_fu J1 (Nat.zero_add _) (d_q (by have := c2.2.1; omega)) ⟨fun m hm => by simp at hm, by simp⟩ (d_tt_cg t1 (fun r hr i hi => ⟨Or.inl, fun q => q.elim (fun q => q) (fun q => by obtain ⟨m, hm, -⟩ := q; simp at hm)⟩))
  obtain ⟨v, e4, g1, g2⟩ := d_ordL c2 (by omega) hm2 hM hor2 no 0 q_fu (by omega) (d_q (by have := hor.2.1; omega))
  have p12 : d_pr (mg + 2) P P2 := fun o ho => (p2 o ho).trans (p1 o ho)
  rw [nI_0] at h2 e4
  have eun : f_Mg_fits I J P mg w (nI ch) (nI op) = f_Mg_fits_L1 mg w I2 P2 (fun (J4 : q_J) => q_b1 (f_Ru_hasOrders I2 P2 (w + 1) (mg + 1) 24) (fun v3 => some ((v3 &&& 1), I2, J4, P2))) q_fu 0 J1 := by
    unfold f_Mg_fits
    rw [e1, d_b2, e2, d_b2, e3, d_b1]
  rw [eun]
  have eho : f_Ru_hasOrders I2 P2 (w + 1) (mg + 1) 24 = some v := e4
  rcases h2 with ⟨h3, h4⟩ | ⟨h3, h4⟩
  · rw [h4, eho, d_b1]
    rcases g1 with rfl | rfl
    · exact ⟨0, I2, J2, P2, rfl, Or.inl rfl, ⟨fun q => absurd q (by decide), fun q => absurd (g2.mpr (fun o _ ho => q.2 o ho)) (by decide)⟩, f12, p12, d_jf_tr j1 j2, c2.2.2.1⟩
    · exact ⟨1, I2, J2, P2, rfl, Or.inr rfl, ⟨fun _ => ⟨h3, fun o ho => g2.mp rfl o (by omega) ho⟩, fun _ => rfl⟩, f12, p12, d_jf_tr j1 j2, c2.2.2.1⟩
  · rw [h4]
    exact ⟨0, I2, J2, P2, rfl, Or.inl rfl, ⟨fun q => absurd q (by decide), fun q => absurd q.1 h3⟩, f12, p12, d_jf_tr j1 j2, c2.2.2.1⟩
end DF
/-! what every part of a valid calendar keeps -/
theorem d_find_mem {L : List (Nat → Nat)} (hs : d_srt L) (hm : ∀ m, m ∈ L → d_mt m) {a : Nat → Nat} {x : Int32} (ha : a ∈ L) (hx : nI (a 0) = x) : ∃ i, d_find L x = some i ∧ L[i]? = some a := by
  cases hq : d_find L x with
  | none => exact absurd hx (d_find_none hq a ha)
  | some i =>
    obtain ⟨m, h1, h2⟩ := d_find_some hq
    obtain ⟨j, hj⟩ := List.getElem?_of_mem ha
    have hma := hm a ha
    have hmm := hm m (List.mem_of_getElem? h1)
    unfold d_mt at hma hmm
    have : m 0 = a 0 := (nI_eq (by omega) (by omega)).mp (h2.trans hx.symm)
    have hij := d_srt_nd hs h1 hj this
    subst hij
    exact ⟨i, rfl, hj⟩
theorem d_keeps_iff {L : List (Nat → Nat)} (hs : d_srt L) (hm : ∀ m, m ∈ L → d_mt m) {x y : Int32} : d_keeps L x y ↔ ∀ a b, a ∈ L → b ∈ L → nI (a 0) = x → nI (b 0) = y → d_end a ≤ b 1 := by
  constructor
  · intro h a b ha hb h1 h2
    obtain ⟨i, h3, h4⟩ := d_find_mem hs hm ha h1
    obtain ⟨j, h5, h6⟩ := d_find_mem hs hm hb h2
    exact h i j a b h3 h5 h4 h6
  · intro h i j a b h1 h2 h3 h4
    obtain ⟨m, g1, g2⟩ := d_find_some h1
    obtain ⟨m', g3, g4⟩ := d_find_some h2
    have e1 : m = a := Option.some.inj (g1.symm.trans h3)
    have e2 : m' = b := Option.some.inj (g3.symm.trans h4)
    subst e1 e2
    exact h m m' (List.mem_of_getElem? h3) (List.mem_of_getElem? h4) g2 g4
theorem d_valid_f {Ru : Nat → Nat → Nat} {no : Nat} {Of Os : Nat → Int32} {L : List (Nat → Nat)} (hs : d_srt L) (hm : ∀ m, m ∈ L → d_mt m) (h : d_valid Ru no Of Os L) (p : (Nat → Nat) → Bool) : d_valid Ru no Of Os (L.filter p) := by
  have hm' : ∀ m, m ∈ L.filter p → d_mt m := fun m h => hm m (List.mem_filter.mp h).1
  refine ⟨⟨fun m hm => h.1.1 m (List.mem_filter.mp hm).1, h.1.2.filter p⟩, fun o ho => ?_⟩
  rw [d_keeps_iff (hs.filter p) hm']
  intro a b ha hb
  exact (d_keeps_iff hs hm).mp (h.2 o ho) a b (List.mem_filter.mp ha).1 (List.mem_filter.mp hb).1
theorem d_app_f {e : Nat → Nat} {p : (Nat → Nat) → Bool} (hp : ∀ a b : Nat → Nat, a 0 = b 0 → p a = p b) {L L' : List (Nat → Nat)} (h : L.filter p = L'.filter p) : (d_app e L).filter p = (d_app e L').filter p := by
  unfold d_app
  split
  · rw [List.filter_append, List.filter_append, h]
  · split
    · rw [List.filter_filter, List.filter_filter]
      have : ∀ T : List (Nat → Nat), T.filter (fun a => p a && decide (a 0 ≠ e 4)) = (T.filter p).filter (fun a => decide (a 0 ≠ e 4)) := by
        intro T
        rw [List.filter_filter]
        exact List.filter_congr (fun a _ => Bool.and_comm _ _)
      rw [this, this, h]
    · have : ∀ T : List (Nat → Nat), (T.map (fun m => if m 0 = e 4 then d_chg e m else m)).filter p = (T.filter p).map (fun m => if m 0 = e 4 then d_chg e m else m) := by
        intro T
        rw [List.filter_map]
        congr 1
        refine List.filter_congr (fun a _ => hp _ _ ?_)
        show (if a 0 = e 4 then d_chg e a else a) 0 = a 0
        split
        · exact (d_chg0 e a).1
        · rfl
      rw [this, this, h]
theorem d_app_k {e : Nat → Nat} {p : (Nat → Nat) → Bool} (hp : ∀ a b : Nat → Nat, a 0 = b 0 → p a = p b) (he : d_eok e) (hk : ∀ m : Nat → Nat, m 0 = e 4 → p m = false) (L : List (Nat → Nat)) : (d_app e L).filter p = L.filter p := by
  unfold d_app
  unfold d_eok at he
  split
  · next h0 =>
    rw [List.filter_append, List.filter_cons_of_neg (by rw [hk (d_new e) (by rw [d_new0]; exact (he.2.2.2.2.2.2.2.2.1 h0).1.symm)]; decide)]
    simp
  · split
    · rw [List.filter_filter]
      refine List.filter_congr (fun a _ => ?_)
      by_cases ha : a 0 = e 4
      · rw [hk a ha]
        rfl
      · simp [ha]
    · have : (L.map (fun m => if m 0 = e 4 then d_chg e m else m)).filter p = (L.filter p).map (fun m => if m 0 = e 4 then d_chg e m else m) := by
        rw [List.filter_map]
        congr 1
        refine List.filter_congr (fun a _ => hp _ _ ?_)
        show (if a 0 = e 4 then d_chg e a else a) 0 = a 0
        split
        · exact (d_chg0 e a).1
        · rfl
      rw [this]
      refine d_map_id (fun m hm hm4 => ?_)
      have := (List.mem_filter.mp hm).2
      rw [hk m hm4] at this
      cases this
theorem d_kp_0 {E : Nat → Nat → Nat} {s : Nat} : ∀ k (a b : Nat → Nat), a 0 = b 0 → d_kp E s k a = d_kp E s k b := by
  intro k a b h
  induction k with
  | zero => rfl
  | succ k ih =>
    unfold d_kp
    rw [ih, h]
theorem d_fm_f {base : List (Nat → Nat)} {E : Nat → Nat → Nat} {n s ch op : Nat} (hw : d_wf base E n) (hs : s < 2 ^ n) (h1 : w_sub ch s) (h2 : w_sub s (ch ||| op)) : ∀ k, k ≤ 12 → (d_fm base E ch k).filter (d_kp E op 12) = (d_fm base E s k).filter (d_kp E op 12) := by
  intro k
  induction k with
  | zero => intro _; rfl
  | succ k ih =>
    intro hk
    have ih := ih (by omega)
    unfold d_fm
    by_cases hc : w_in ch k
    · rw [if_pos hc, if_pos (h1 k hc)]
      exact d_app_f (d_kp_0 12) ih
    · rw [if_neg hc]
      by_cases hsk : w_in s k
      · rw [if_pos hsk, ih]
        have hop : w_in op k := (w_in_or.mp (h2 k hsk)).elim (fun q => absurd q hc) (fun q => q)
        refine (d_app_k (d_kp_0 12) (hw.2.2.2.1 k (w_lt hs hsk)) (fun m hm => ?_) _).symm
        cases hq : d_kp E op 12 m with
        | false => rfl
        | true => exact absurd hm ((d_kp_iff 12).mp hq k (by omega) hop)
      · rw [if_neg hsk, ih]
theorem d_prune {Ru : Nat → Nat → Nat} {no : Nat} {Of Os : Nat → Int32} {base : List (Nat → Nat)} {E : Nat → Nat → Nat} {n s ch op : Nat} (hw : d_wf base E n) (hs : s < 2 ^ n) (h1 : w_sub ch s) (h2 : w_sub s (ch ||| op)) (hv : d_valid Ru no Of Os (d_fm base E s 12)) : d_valid Ru no Of Os ((d_fm base E ch 12).filter (d_kp E op 12)) := by
  rw [d_fm_f hw hs h1 h2 12 (Nat.le_refl _)]
  have hok := d_fm_ok hw hs 12
  exact d_valid_f hok.1 hok.2.1 hv _
theorem d_kp_z {E : Nat → Nat → Nat} {L : List (Nat → Nat)} : L.filter (d_kp E 0 12) = L := List.filter_eq_self.mpr (fun m _ => (d_kp_iff 12).mpr (fun i _ hi => absurd hi w_in_0))
theorem d_fm_0 {base : List (Nat → Nat)} {E : Nat → Nat → Nat} : ∀ k, d_fm base E 0 k = base := by
  intro k
  induction k with
  | zero => rfl
  | succ k ih =>
    unfold d_fm
    rw [if_neg (fun h => w_in_0 h), ih]
