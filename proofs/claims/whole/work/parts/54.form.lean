/-! the result of a set of edits, in the class -/
theorem d_n0 {k : Nat} (hk : k < 2 ^ 31) (h : ¬ k = 0) : ¬ nI k = (0 : Int32) := fun q => h ((nI_eq (b := 0) hk (by decide)).mp q)
theorem d_n1 {k : Nat} (hk : k < 2 ^ 31) (h : ¬ k = 1) : ¬ nI k = (1 : Int32) := fun q => h ((nI_eq (b := 1) hk (by decide)).mp q)
theorem d_n2 {k : Nat} (hk : k < 2 ^ 31) (h : ¬ k = 2) : ¬ nI k = (2 : Int32) := fun q => h ((nI_eq (b := 2) hk (by decide)).mp q)
theorem d_n3 {k : Nat} (hk : k < 2 ^ 31) (h : ¬ k = 3) : ¬ nI k = (3 : Int32) := fun q => h ((nI_eq (b := 3) hk (by decide)).mp q)
theorem d_n4 {k : Nat} (hk : k < 2 ^ 31) (h : ¬ k = 4) : ¬ nI k = (4 : Int32) := fun q => h ((nI_eq (b := 4) hk (by decide)).mp q)
theorem d_n5 {k : Nat} (hk : k < 2 ^ 31) (h : ¬ k = 5) : ¬ nI k = (5 : Int32) := fun q => h ((nI_eq (b := 5) hk (by decide)).mp q)
theorem d_n6 {k : Nat} (hk : k < 2 ^ 31) (h : ¬ k = 6) : ¬ nI k = (6 : Int32) := fun q => h ((nI_eq (b := 6) hk (by decide)).mp q)
theorem d_n12 {k : Nat} (hk : k < 2 ^ 31) (h : ¬ k = 12) : ¬ nI k = (12 : Int32) := fun q => h ((nI_eq (b := 12) hk (by decide)).mp q)
theorem d_chg0 (e m : Nat → Nat) : d_chg e m 0 = m 0 ∧ d_chg e m 1 = (if e 3 = 1 then e 5 else m 1) ∧ d_chg e m 2 = (if e 3 = 3 then e 5 else m 2) ∧ d_chg e m 3 = (if e 3 = 2 then e 5 else m 3) ∧ d_chg e m 4 = (if e 3 = 4 then m 4 ||| 2 ^ e 5 else if e 3 = 5 then w_nd (m 4) (2 ^ e 5) else m 4) ∧ d_chg e m 5 = m 5 ∧ d_chg e m 6 = m 6 := by
  simp [d_chg]
theorem d_new0 (e : Nat → Nat) : d_new e 0 = e 0 := rfl
theorem d_chg_mt {e m : Nat → Nat} (he : d_eok e) (hm : d_mt m) : d_mt (d_chg e m) := by
  obtain ⟨c0, c1, c2, c3, c4, c5, c6⟩ := d_chg0 e m
  unfold d_mt at hm ⊢
  unfold d_eok at he
  rw [c0, c1, c2, c3, c4, c5, c6]
  refine ⟨by split <;> omega, by split <;> omega, by split <;> omega, ?_, hm.2.2.2.2.1, hm.2.2.2.2.2.1, hm.2.2.2.2.2.2⟩
  have h63 : m 4 < 2 ^ 6 := by omega
  split
  · next h =>
    have : m 4 ||| 2 ^ e 5 < 2 ^ 6 := Nat.or_lt_two_pow h63 (dn_2lt (by omega))
    omega
  · split
    · have : w_nd (m 4) (2 ^ e 5) < 2 ^ 6 := dn_ndlt h63
      omega
    · omega
abbrev d_srt (L : List (Nat → Nat)) : Prop := L.Pairwise (fun a b => a 0 < b 0)
theorem d_srt_nd {L : List (Nat → Nat)} (h : d_srt L) {i j : Nat} {a b : Nat → Nat} (hi : L[i]? = some a) (hj : L[j]? = some b) (hab : a 0 = b 0) : i = j := by
  obtain ⟨hi1, rfl⟩ := List.getElem?_eq_some_iff.mp hi
  obtain ⟨hj1, rfl⟩ := List.getElem?_eq_some_iff.mp hj
  have hp := List.pairwise_iff_getElem.mp h
  rcases Nat.lt_trichotomy i j with q | q | q
  · have := hp i j hi1 hj1 q
    omega
  · exact q
  · have := hp j i hj1 hi1 q
    omega
theorem d_fm_ok {base : List (Nat → Nat)} {E : Nat → Nat → Nat} {n s : Nat} (hw : d_wf base E n) (hs : s < 2 ^ n) : ∀ k, d_srt (d_fm base E s k) ∧ (∀ m, m ∈ d_fm base E s k → d_mt m) ∧ (d_fm base E s k).length ≤ 12 + k ∧ ∀ m, m ∈ d_fm base E s k → ∀ i, k ≤ i → i < n → m 0 < E i 0 := by
  obtain ⟨w1, w2, w3, w4, w5, w6, w7, w8, w9⟩ := hw
  intro k
  induction k with
  | zero => exact ⟨w1, w2, w3, fun m hm i _ hi => w5 i hi m hm⟩
  | succ k ih =>
    obtain ⟨h1, h2, h3, h4⟩ := ih
    unfold d_fm
    split
    · next hk =>
      have hkn : k < n := w_lt hs hk
      have he := w4 k hkn
      generalize d_fm base E s k = L at h1 h2 h3 h4 ⊢
      unfold d_app
      split
      · next h0 =>
        have hnew : d_mt (d_new (E k)) := by
          unfold d_eok at he
          exact (he.2.2.2.2.2.2.2.2.1 h0).2
        refine ⟨List.pairwise_append.mpr ⟨h1, List.pairwise_singleton _ _, fun a ha b hb => ?_⟩, fun m hm => ?_, by rw [List.length_append]; show _ + 1 ≤ _; omega, fun m hm i hi hin => ?_⟩
        · rw [List.mem_singleton.mp hb]
          exact h4 a ha k (Nat.le_refl _) hkn
        · rcases List.mem_append.mp hm with hm | hm
          · exact h2 m hm
          · rw [List.mem_singleton.mp hm]
            exact hnew
        · rcases List.mem_append.mp hm with hm | hm
          · exact h4 m hm i (by omega) hin
          · rw [List.mem_singleton.mp hm]
            exact w6 k i (by omega) hin
      · split
        · refine ⟨h1.filter _, fun m hm => h2 m (List.mem_filter.mp hm).1, ?_, fun m hm i hi hin => h4 m (List.mem_filter.mp hm).1 i (by omega) hin⟩
          exact Nat.le_trans (List.length_filter_le _ _) (by omega)
        · have e0 : ∀ m : Nat → Nat, (if m 0 = E k 4 then d_chg (E k) m else m) 0 = m 0 := by
            intro m
            split
            · exact (d_chg0 _ _).1
            · rfl
          refine ⟨?_, fun m hm => ?_, by rw [List.length_map]; omega, fun m hm i hi hin => ?_⟩
          · unfold d_srt
            rw [List.pairwise_map]
            refine h1.imp (fun {a b} hab => ?_)
            rw [e0, e0]
            exact hab
          · obtain ⟨m', hm', rfl⟩ := List.mem_map.mp hm
            split
            · exact d_chg_mt he (h2 m' hm')
            · exact h2 m' hm'
          · obtain ⟨m', hm', rfl⟩ := List.mem_map.mp hm
            rw [e0]
            exact h4 m' hm' i (by omega) hin
    · exact ⟨h1, h2, by omega, fun m hm i hi => h4 m hm i (by omega)⟩
theorem d_fm_stop {base : List (Nat → Nat)} {E : Nat → Nat → Nat} {n s : Nat} (hs : s < 2 ^ n) : ∀ k, d_fm base E s (n + k) = d_fm base E s n := by
  intro k
  induction k with
  | zero => rfl
  | succ k ih =>
    show (if s.testBit (n + k) then _ else d_fm base E s (n + k)) = _
    rw [if_neg (fun h => by have := w_lt hs h; omega), ih]
theorem d_ed_fr {I I' : q_I} {o : Nat} {e : Nat → Nat} (h : d_ed I o e) (h1 : I' o = I o) (h2 : I' (o + 1) = I (o + 1)) : d_ed I' o e := by
  unfold d_ed
  rw [h1, h2]
  exact h
theorem d_applyC {I : q_I} {o a : Nat} {e m : Nat → Nat} (h : ∀ f, f < 6 → I o f = nI (e f)) (hr : d_row (I a) m) (he : d_eok e) (hm : d_mt m) : ∃ I', f_Ed_applyTo I o a = some I' ∧ (∀ x, x ≠ a → I' x = I x) ∧ d_row (I' a) (d_chg e m) := by
  obtain ⟨c0, c1, c2, c3, c4, c5, c6⟩ := d_chg0 e m
  unfold d_mt at hm
  unfold d_eok at he
  have h3 := h 3 (by omega)
  have h5 := h 5 (by omega)
  have r0 := hr 0 (by omega)
  have r1 := hr 1 (by omega)
  have r2 := hr 2 (by omega)
  have r3 := hr 3 (by omega)
  have r4 := hr 4 (by omega)
  have r5 := hr 5 (by omega)
  have r6 := hr 6 (by omega)
  have key : ∀ (I' : q_I), (∀ x, x ≠ a → I' x = I x) → I' a 0 = nI (d_chg e m 0) → I' a 1 = nI (d_chg e m 1) → I' a 2 = nI (d_chg e m 2) → I' a 3 = nI (d_chg e m 3) → I' a 4 = nI (d_chg e m 4) → I' a 5 = nI (d_chg e m 5) → I' a 6 = nI (d_chg e m 6) → ∃ I'', some I' = some I'' ∧ (∀ x, x ≠ a → I'' x = I x) ∧ d_row (I'' a) (d_chg e m) := by
    intro I' g q0 q1 q2 q3 q4 q5 q6
    refine ⟨I', rfl, g, fun f hf => ?_⟩
    rcases (by omega : f = 0 ∨ f = 1 ∨ f = 2 ∨ f = 3 ∨ f = 4 ∨ f = 5 ∨ f = 6) with rfl | rfl | rfl | rfl | rfl | rfl | rfl <;> assumption
  have ui : ∀ f v x, x ≠ a → q_ui I a f v x = I x := fun f v x hx => if_neg hx
  have us : ∀ f v, q_ui I a f v a f = v := fun f v => by unfold q_ui; rw [if_pos rfl]; exact pk_us
  have un : ∀ f v g, g ≠ f → q_ui I a f v a g = I a g := fun f v g hg => by unfold q_ui; rw [if_pos rfl]; exact pk_un hg
  unfold f_Ed_applyTo
  rw [c0, c1, c2, c3, c4, c5, c6] at key
  by_cases k1 : e 3 = 1
  · rw [k1] at h3 key
    rw [h3, if_pos (show nI 1 = 1 from rfl), h5]
    exact key _ (ui _ _) (by rw [un _ _ _ (by decide)]; exact r0) (us _ _) (by rw [un _ _ _ (by decide)]; exact r2) (by rw [un _ _ _ (by decide)]; exact r3) (by rw [un _ _ _ (by decide)]; exact r4) (by rw [un _ _ _ (by decide)]; exact r5) (by rw [un _ _ _ (by decide)]; exact r6)
  · by_cases k2 : e 3 = 2
    · rw [k2] at h3 key
      rw [h3, if_neg (show ¬ nI 2 = 1 by decide), if_pos (show nI 2 = 2 from rfl), h5]
      exact key _ (ui _ _) (by rw [un _ _ _ (by decide)]; exact r0) (by rw [un _ _ _ (by decide)]; exact r1) (by rw [un _ _ _ (by decide)]; exact r2) (us _ _) (by rw [un _ _ _ (by decide)]; exact r4) (by rw [un _ _ _ (by decide)]; exact r5) (by rw [un _ _ _ (by decide)]; exact r6)
    · by_cases k3 : e 3 = 3
      · rw [k3] at h3 key
        rw [h3, if_neg (show ¬ nI 3 = 1 by decide), if_neg (show ¬ nI 3 = 2 by decide), if_pos (show nI 3 = 3 from rfl), h5]
        exact key _ (ui _ _) (by rw [un _ _ _ (by decide)]; exact r0) (by rw [un _ _ _ (by decide)]; exact r1) (us _ _) (by rw [un _ _ _ (by decide)]; exact r3) (by rw [un _ _ _ (by decide)]; exact r4) (by rw [un _ _ _ (by decide)]; exact r5) (by rw [un _ _ _ (by decide)]; exact r6)
      · by_cases k4 : e 3 = 4
        · rw [k4] at h3 key
          rw [h3, if_neg (show ¬ nI 4 = 1 by decide), if_neg (show ¬ nI 4 = 2 by decide), if_neg (show ¬ nI 4 = 3 by decide), if_pos (show nI 4 = 4 from rfl), h5, r4, dn_pos (by omega), dn_or (by omega) (dn_2lt (by omega))]
          exact key _ (ui _ _) (by rw [un _ _ _ (by decide)]; exact r0) (by rw [un _ _ _ (by decide)]; exact r1) (by rw [un _ _ _ (by decide)]; exact r2) (by rw [un _ _ _ (by decide)]; exact r3) (us _ _) (by rw [un _ _ _ (by decide)]; exact r5) (by rw [un _ _ _ (by decide)]; exact r6)
        · by_cases k5 : e 3 = 5
          · rw [k5] at h3 key
            rw [h3, if_neg (show ¬ nI 5 = 1 by decide), if_neg (show ¬ nI 5 = 2 by decide), if_neg (show ¬ nI 5 = 3 by decide), if_neg (show ¬ nI 5 = 4 by decide), if_pos (show nI 5 = 5 from rfl), h5, r4, dn_pos (by omega), dn_nd (by omega) (dn_2lt (by omega))]
            exact key _ (ui _ _) (by rw [un _ _ _ (by decide)]; exact r0) (by rw [un _ _ _ (by decide)]; exact r1) (by rw [un _ _ _ (by decide)]; exact r2) (by rw [un _ _ _ (by decide)]; exact r3) (us _ _) (by rw [un _ _ _ (by decide)]; exact r5) (by rw [un _ _ _ (by decide)]; exact r6)
          · rw [h3, if_neg (d_n1 (by omega) k1), if_neg (d_n2 (by omega) k2), if_neg (d_n3 (by omega) k3), if_neg (d_n4 (by omega) k4), if_neg (d_n5 (by omega) k5)]
            rw [if_neg k1, if_neg k2, if_neg k3, if_neg k4, if_neg k5] at key
            exact key I (fun _ _ => rfl) r0 r1 r2 r3 r4 r5 r6
theorem d_map_id {L : List (Nat → Nat)} {e : Nat → Nat} (h : ∀ m, m ∈ L → m 0 ≠ e 4) : L.map (fun m => if m 0 = e 4 then d_chg e m else m) = L := by
  have : L.map (fun m => if m 0 = e 4 then d_chg e m else m) = L.map id := List.map_congr_left (fun m hm => if_neg (h m hm))
  rw [this, List.map_id]
theorem d_not_eq {L : List (Nat → Nat)} {x : Nat} (hx : x ≤ 100000) (hm : ∀ m, m ∈ L → d_mt m) : L.filter (d_not (nI x)) = L.filter (fun m => decide (m 0 ≠ x)) := by
  refine List.filter_congr (fun m h => ?_)
  have := hm m h
  unfold d_mt at this
  have e := nI_eq (a := m 0) (b := x) (by omega) (by omega)
  by_cases q : m 0 = x
  · simp [d_not, q]
  · have q' : ¬ nI (m 0) = nI x := fun z => q (e.mp z)
    simp [d_not, q, q']
theorem d_formL {w c n s : Nat} {base : List (Nat → Nat)} {E : Nat → Nat → Nat} (hw : d_wf base E n) (hs : s < 2 ^ n) (hd : w + 50 ≤ c ∨ c + 26 ≤ w) (hM : ∀ k, k < 24 → cM (c + 2 + k) = true) :
    ∀ (d k fu : Nat) (I : q_I) (P : q_P), k + d = 12 → d < fu → d_cal I P c 24 (d_fm base E s k) → (∀ j, w_in s j → d_ed I (w + 26 + 2 * j) (E j)) → ∃ I' P', f_Wo_form_L1 w (nI s) c 24 fu (nI k) I P = some (I', P') ∧ d_cal I' P' c 24 (d_fm base E s 12) ∧ d_fr c 24 I I' ∧ d_pr (c + 1) P P' := by
  have hn12 : n ≤ 12 := hw.2.2.2.2.2.2.2.2
  have hs12 : s < 2 ^ 12 := Nat.lt_of_lt_of_le hs (Nat.pow_le_pow_right (by decide) hn12)
  intro d
  induction d with
  | zero =>
    intro k fu I P hk hf hc he
    obtain ⟨fu, rfl, -⟩ := d_fuel hf
    have : k = 12 := by omega
    subst this
    refine ⟨I, P, ?_, hc, d_fr_rf, fun _ _ => rfl⟩
    unfold f_Wo_form_L1
    rw [if_pos (show (12 : Int32) ≤ nI 12 from by decide)]
  | succ d ih =>
    intro k fu I P hk hf hc he
    obtain ⟨fu, rfl, hf⟩ := d_fuel hf
    have hk12 : k < 12 := by omega
    have hfm := d_fm_ok hw hs k
    have go : ∀ (I1 : q_I) (P1 : q_P), d_cal I1 P1 c 24 (d_fm base E s (k + 1)) → d_fr c 24 I I1 → d_pr (c + 1) P P1 → ∃ I' P', f_Wo_form_L1 w (nI s) c 24 fu (nI (k + 1)) I1 P1 = some (I', P') ∧ d_cal I' P' c 24 (d_fm base E s 12) ∧ d_fr c 24 I I' ∧ d_pr (c + 1) P P' := by
      intro I1 P1 h1 h2 h3
      obtain ⟨I', P', g1, g2, g3, g4⟩ := ih (k + 1) fu I1 P1 (by omega) (by omega) h1 (fun j hj => by
        have := w_lt hs12 hj
        exact d_ed_fr (he j hj) (h2 _ (by omega)) (h2 _ (by omega)))
      exact ⟨I', P', g1, g2, d_fr_tr h2 g3, fun o ho => (g4 o ho).trans (h3 o ho)⟩
    unfold f_Wo_form_L1
    rw [if_neg (d_g12 hk12), d_ix hk12 (by decide), dn_has (by omega) (by omega), d_b1]
    unfold d_fm at go
    by_cases hw9 : w_in s k
    · rw [if_pos hw9] at go
      rw [if_pos hw9, if_neg (show ¬ (1 : Int32) = 0 by decide)]
      have hkn : k < n := w_lt hs hw9
      have hek := hw.2.2.2.1 k hkn
      have hed := he k hw9
      have h3 := hed.1 3 (by omega)
      have h4 := hed.1 4 (by omega)
      have hek' := hek
      unfold d_eok at hek'
      unfold d_app at go
      generalize d_fm base E s k = L at hc hfm go
      rw [h3, h4]
      by_cases k0 : E k 3 = 0
      · rw [if_pos k0] at go
        rw [if_pos (by rw [k0]; rfl)]
        obtain ⟨I1, e1, g1, g2⟩ := d_put (a := w + 26 + 2 * k + 1) hc (by omega) (by omega) (by omega) (hed.2 k0)
        rw [e1, d_b1, nI_1]
        exact go I1 P g1 g2 (fun _ _ => rfl)
      · rw [if_neg k0] at go
        rw [if_neg (d_n0 (by omega) k0)]
        by_cases k6 : E k 3 = 6
        · rw [if_pos k6] at go
          rw [if_pos (by rw [k6]; rfl)]
          obtain ⟨I1, P1, e1, g1, g2, g3⟩ := d_drop hc (by omega) (nI (E k 4))
          rw [e1, d_b2, nI_1]
          rw [d_not_eq (by omega) hfm.2.1] at g1
          exact go I1 P1 g1 g2 g3
        · rw [if_neg k6] at go
          rw [if_neg (d_n6 (by omega) k6), d_findC hc (by omega), d_b1]
          cases hq : d_find L (nI (E k 4)) with
          | none =>
            have hno := d_find_none hq
            rw [d_map_id (fun m hm e => hno m hm (by rw [e]))] at go
            show ∃ I' P', f_Wo_form_L1 w (nI s) c 24 fu (nI k + 1) I P = some (I', P') ∧ _
            rw [nI_1]
            exact go I P hc d_fr_rf (fun _ _ => rfl)
          | some j =>
            have hjl := d_find_lt hq
            obtain ⟨m, hj, hm0⟩ := d_find_some hq
            have hPj := hc.2.2.1.1 j (by have := hc.2.1; omega)
            have hmm := hfm.2.1 m (List.mem_of_getElem? hj)
            have hm0' : m 0 = E k 4 := (nI_eq (by unfold d_mt at hmm; omega) (by omega)).mp hm0
            obtain ⟨I1, e1, g1, g2⟩ := d_applyC (a := c + 2 + P (c + 1) j) hed.1 (hc.2.2.2 j m hj) hek hmm
            show ∃ I' P', q_ck (cM (c + 2 + P (c + 1) j)) (q_b1 (f_Ed_applyTo I (w + 26 + 2 * k) (c + 2 + P (c + 1) j)) (fun I3 => f_Wo_form_L1 w (nI s) c 24 fu (nI k + 1) I3 P)) = some (I', P') ∧ _
            rw [hM _ hPj, e1, nI_1]
            unfold q_ck
            rw [if_pos rfl, d_b1]
            refine go I1 P ⟨?_, ?_, hc.2.2.1, ?_⟩ (fun o ho => g1 o (by omega)) (fun _ _ => rfl)
            · rw [List.length_map, g1 c (by omega)]
              exact hc.1
            · rw [List.length_map]
              exact hc.2.1
            · intro i m' hi
              rw [List.getElem?_map] at hi
              cases hmi : L[i]? with
              | none => rw [hmi] at hi; cases hi
              | some m2 =>
                rw [hmi] at hi
                cases hi
                show d_row _ (if m2 0 = E k 4 then d_chg (E k) m2 else m2)
                have hil := d_get_lt hmi
                by_cases hij : i = j
                · subst hij
                  have : m2 = m := Option.some.inj (hmi.symm.trans hj)
                  subst this
                  rw [if_pos hm0']
                  exact g2
                · rw [if_neg (fun e => hij (d_srt_nd hfm.1 hmi hj (by rw [e, hm0'])))]
                  have hPi := hc.2.2.1.1 i (by have := hc.2.1; omega)
                  rw [g1 _ (fun e => hij (hc.2.2.1.2 i j (by have := hc.2.1; omega) (by have := hc.2.1; omega) (by omega)))]
                  exact hc.2.2.2 i m2 hmi
    · rw [if_neg hw9] at go
      rw [if_neg hw9, if_pos rfl, nI_1]
      exact go I P hc d_fr_rf (fun _ _ => rfl)
theorem d_form {I : q_I} {P : q_P} {w c n s : Nat} {base : List (Nat → Nat)} {E : Nat → Nat → Nat} (hw : d_wf base E n) (hs : s < 2 ^ n) (hd : w + 50 ≤ c ∨ c + 26 ≤ w) (hM : ∀ k, k < 24 → cM (c + 2 + k) = true) (hb : d_cal I P (w + 9) 12 base) (hi : d_inj P (c + 1) 24) (he : ∀ j, w_in s j → d_ed I (w + 26 + 2 * j) (E j)) :
    ∃ I' P', f_Wo_form I P w (nI s) c 24 = some (I', P') ∧ d_cal I' P' c 24 (d_fm base E s 12) ∧ d_fr c 24 I I' ∧ d_pr (c + 1) P P' := by
  have hn12 : n ≤ 12 := hw.2.2.2.2.2.2.2.2
  have hs12 : s < 2 ^ 12 := Nat.lt_of_lt_of_le hs (Nat.pow_le_pow_right (by decide) hn12)
  obtain ⟨I1, e1, g1, g2⟩ := d_copy (c := c) (n := 24) (by omega) (by omega) hb (by have := hb.2.1; omega) hi (by omega)
  obtain ⟨I', P', e2, g3, g4, g5⟩ := d_formL hw hs hd hM 12 0 q_fu I1 P (by omega) (d_q (by omega)) g1 (fun j hj => by
    have := w_lt hs12 hj
    exact d_ed_fr (he j hj) (g2 _ (by omega)) (g2 _ (by omega)))
  refine ⟨I', P', ?_, g3, d_fr_tr g2 g4, g5⟩
  unfold f_Wo_form
  rw [e1, d_b1]
  exact e2
/-- a meeting that none of the first k edits of a set would change -/
def d_kp (E : Nat → Nat → Nat) (s : Nat) : Nat → (Nat → Nat) → Bool
  | 0, _ => true
  | k + 1, m => d_kp E s k m && (!s.testBit k || decide (m 0 ≠ E k 4))
theorem d_kp_iff {E : Nat → Nat → Nat} {s : Nat} {m : Nat → Nat} : ∀ k, d_kp E s k m = true ↔ ∀ i, i < k → w_in s i → m 0 ≠ E i 4 := by
  intro k
  induction k with
  | zero => exact ⟨fun _ i hi => by omega, fun _ => rfl⟩
  | succ k ih =>
    unfold d_kp
    rw [Bool.and_eq_true, ih]
    constructor
    · rintro ⟨h1, h2⟩ i hi hs
      by_cases hik : i = k
      · subst hik
        unfold w_in at hs
        rw [hs] at h2
        simpa using h2
      · exact h1 i (by omega) hs
    · intro h
      refine ⟨fun i hi => h i (by omega), ?_⟩
      cases hb : s.testBit k with
      | false => rfl
      | true =>
        have := h k (by omega) hb
        simpa using this
theorem d_dropsL {w c n s : Nat} {E : Nat → Nat → Nat} {L : List (Nat → Nat)} (hm : ∀ m, m ∈ L → d_mt m) (hE : ∀ i, i < n → d_eok (E i)) (hs : s < 2 ^ n) (hn12 : n ≤ 12) (hd : w + 50 ≤ c ∨ c + 26 ≤ w) :
    ∀ (d k fu : Nat) (I : q_I) (P : q_P), k + d = 12 → d < fu → d_cal I P c 24 (L.filter (d_kp E s k)) → (∀ j, w_in s j → d_ed I (w + 26 + 2 * j) (E j)) → ∃ I' P', f_Wo_dropChanged_L1 w (nI s) c 24 fu (nI k) I P = some (I', P') ∧ d_cal I' P' c 24 (L.filter (d_kp E s 12)) ∧ d_fr c 24 I I' ∧ d_pr (c + 1) P P' := by
  have hs12 : s < 2 ^ 12 := Nat.lt_of_lt_of_le hs (Nat.pow_le_pow_right (by decide) hn12)
  intro d
  induction d with
  | zero =>
    intro k fu I P hk hf hc he
    obtain ⟨fu, rfl, -⟩ := d_fuel hf
    have : k = 12 := by omega
    subst this
    refine ⟨I, P, ?_, hc, d_fr_rf, fun _ _ => rfl⟩
    unfold f_Wo_dropChanged_L1
    rw [if_pos (show (12 : Int32) ≤ nI 12 from by decide)]
  | succ d ih =>
    intro k fu I P hk hf hc he
    obtain ⟨fu, rfl, hf⟩ := d_fuel hf
    have hk12 : k < 12 := by omega
    have go : ∀ (I1 : q_I) (P1 : q_P), d_cal I1 P1 c 24 (L.filter (d_kp E s (k + 1))) → d_fr c 24 I I1 → d_pr (c + 1) P P1 → ∃ I' P', f_Wo_dropChanged_L1 w (nI s) c 24 fu (nI (k + 1)) I1 P1 = some (I', P') ∧ d_cal I' P' c 24 (L.filter (d_kp E s 12)) ∧ d_fr c 24 I I' ∧ d_pr (c + 1) P P' := by
      intro I1 P1 h1 h2 h3
      obtain ⟨I', P', g1, g2, g3, g4⟩ := ih (k + 1) fu I1 P1 (by omega) (by omega) h1 (fun j hj => by
        have := w_lt hs12 hj
        exact d_ed_fr (he j hj) (h2 _ (by omega)) (h2 _ (by omega)))
      exact ⟨I', P', g1, g2, d_fr_tr h2 g3, fun o ho => (g4 o ho).trans (h3 o ho)⟩
    unfold f_Wo_dropChanged_L1
    rw [if_neg (d_g12 hk12), dn_has (by omega) (by omega), d_b1]
    by_cases hw9 : w_in s k
    · rw [if_pos hw9, if_neg (show ¬ (1 : Int32) = 0 by decide), d_ix hk12 (by decide)]
      have hkn : k < n := w_lt hs hw9
      have hek := hE k hkn
      unfold d_eok at hek
      rw [(he k hw9).1 4 (by omega)]
      obtain ⟨I1, P1, e1, g1, g2, g3⟩ := d_drop hc (by omega) (nI (E k 4))
      rw [e1, d_b2, nI_1]
      rw [d_not_eq (by omega) (fun m hm' => hm m (List.mem_filter.mp hm').1), List.filter_filter] at g1
      have ef : L.filter (fun a => decide (a 0 ≠ E k 4) && d_kp E s k a) = L.filter (d_kp E s (k + 1)) := by
        refine List.filter_congr (fun m _ => ?_)
        show _ = (d_kp E s k m && (!s.testBit k || decide (m 0 ≠ E k 4)))
        unfold w_in at hw9
        rw [hw9, Bool.and_comm]
        rfl
      rw [ef] at g1
      exact go I1 P1 g1 g2 g3
    · rw [if_neg hw9, if_pos rfl, nI_1]
      have ef : L.filter (d_kp E s (k + 1)) = L.filter (d_kp E s k) := by
        refine List.filter_congr (fun m _ => ?_)
        show (d_kp E s k m && (!s.testBit k || decide (m 0 ≠ E k 4))) = _
        have : s.testBit k = false := by
          cases hb : s.testBit k with
          | false => rfl
          | true => exact absurd hb hw9
        rw [this]
        simp
      exact go I P (by rw [ef]; exact hc) d_fr_rf (fun _ _ => rfl)
theorem d_drops {I : q_I} {P : q_P} {w c n s : Nat} {E : Nat → Nat → Nat} {L : List (Nat → Nat)} (hm : ∀ m, m ∈ L → d_mt m) (hE : ∀ i, i < n → d_eok (E i)) (hs : s < 2 ^ n) (hn12 : n ≤ 12) (hd : w + 50 ≤ c ∨ c + 26 ≤ w) (hc : d_cal I P c 24 L) (he : ∀ j, w_in s j → d_ed I (w + 26 + 2 * j) (E j)) :
    ∃ I' P', f_Wo_dropChanged I P w (nI s) c 24 = some (I', P') ∧ d_cal I' P' c 24 (L.filter (d_kp E s 12)) ∧ d_fr c 24 I I' ∧ d_pr (c + 1) P P' := by
  have h0 : L.filter (d_kp E s 0) = L := List.filter_eq_self.mpr (fun _ _ => rfl)
  exact d_dropsL hm hE hs hn12 hd 12 0 q_fu I P (by omega) (d_q (by omega)) (by rw [h0]; exact hc) he
