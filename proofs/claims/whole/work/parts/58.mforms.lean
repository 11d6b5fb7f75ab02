/-! the reference: its calendar, and the results of sets of edits -/
theorem d_k4 (a : Nat) : (4 : Int32) + nI a = nI (4 + a) := nI_add 4 a
theorem d_k5 (a : Nat) : (5 : Int32) + nI a = nI (5 + a) := nI_add 5 a
theorem d_k6 (a : Nat) : (6 : Int32) + nI a = nI (6 + a) := nI_add 6 a
theorem d_k8 (a : Nat) : (8 : Int32) + nI a = nI (8 + a) := nI_add 8 a
theorem d_k12 (a : Nat) : (12 : Int32) + nI a = nI (12 + a) := nI_add 12 a
theorem d_k16 (a : Nat) : (16 : Int32) + nI a = nI (16 + a) := nI_add 16 a
theorem d_k20 (a : Nat) : (20 : Int32) + nI a = nI (20 + a) := nI_add 20 a
theorem d_k26 (a : Nat) : (26 : Int32) + nI a = nI (26 + a) := nI_add 26 a
theorem d_k32 (a : Nat) : (32 : Int32) + nI a = nI (32 + a) := nI_add 32 a
theorem d_k40 (a : Nat) : (40 : Int32) + nI a = nI (40 + a) := nI_add 40 a
theorem d_k124 (a : Nat) : (124 : Int32) + nI a = nI (124 + a) := nI_add 124 a
theorem d_m7 (a : Nat) : (7 : Int32) * nI a = nI (7 * a) := pk_mul 7 a
theorem d_m2 (a : Nat) : (2 : Int32) * nI a = nI (2 * a) := pk_mul 2 a
theorem d_m10 (a : Nat) : (10 : Int32) * nI a = nI (10 * a) := pk_mul 10 a
theorem d_m13 (a : Nat) : (13 : Int32) * nI a = nI (13 * a) := pk_mul 13 a
theorem d_p7 (a : Nat) : nI a + 7 = nI (a + 7) := nI_add a 7
theorem d_x0 {ρ : Type} {K : Nat → Option ρ} : q_ix (0 : Int32) 280 K = K 0 := d_ix (j := 0) (by decide) (by decide)
theorem d_x1 {ρ : Type} {K : Nat → Option ρ} : q_ix (1 : Int32) 280 K = K 1 := d_ix (j := 1) (by decide) (by decide)
theorem d_x2 {ρ : Type} {K : Nat → Option ρ} : q_ix (2 : Int32) 280 K = K 2 := d_ix (j := 2) (by decide) (by decide)
theorem d_x3 {ρ : Type} {K : Nat → Option ρ} : q_ix (3 : Int32) 280 K = K 3 := d_ix (j := 3) (by decide) (by decide)
theorem d_mm (k f : Nat) : f_Mo_meeting (nI k) (nI f) = some (nI (7 * k + f)) := by
  unfold f_Mo_meeting
  rw [d_m7, nI_add]
theorem d_me (i f : Nat) : f_Mo_edit (nI i) (nI f) = some (nI (124 + 13 * i + f)) := by
  unfold f_Mo_edit
  rw [d_m13, d_k124, nI_add]
theorem d_mm0 (k : Nat) : f_Mo_meeting (nI k) 0 = some (nI (7 * k + 0)) := d_mm k 0
theorem d_mm1 (k : Nat) : f_Mo_meeting (nI k) 1 = some (nI (7 * k + 1)) := d_mm k 1
theorem d_mm2 (k : Nat) : f_Mo_meeting (nI k) 2 = some (nI (7 * k + 2)) := d_mm k 2
theorem d_mm3 (k : Nat) : f_Mo_meeting (nI k) 3 = some (nI (7 * k + 3)) := d_mm k 3
theorem d_mm4 (k : Nat) : f_Mo_meeting (nI k) 4 = some (nI (7 * k + 4)) := d_mm k 4
theorem d_mm5 (k : Nat) : f_Mo_meeting (nI k) 5 = some (nI (7 * k + 5)) := d_mm k 5
theorem d_mm6 (k : Nat) : f_Mo_meeting (nI k) 6 = some (nI (7 * k + 6)) := d_mm k 6
theorem d_me0 (k : Nat) : f_Mo_edit (nI k) 0 = some (nI (124 + 13 * k + 0)) := d_me k 0
theorem d_me1 (k : Nat) : f_Mo_edit (nI k) 1 = some (nI (124 + 13 * k + 1)) := d_me k 1
theorem d_me2 (k : Nat) : f_Mo_edit (nI k) 2 = some (nI (124 + 13 * k + 2)) := d_me k 2
theorem d_me3 (k : Nat) : f_Mo_edit (nI k) 3 = some (nI (124 + 13 * k + 3)) := d_me k 3
theorem d_me4 (k : Nat) : f_Mo_edit (nI k) 4 = some (nI (124 + 13 * k + 4)) := d_me k 4
theorem d_me5 (k : Nat) : f_Mo_edit (nI k) 5 = some (nI (124 + 13 * k + 5)) := d_me k 5
theorem d_me6 (k : Nat) : f_Mo_edit (nI k) 6 = some (nI (124 + 13 * k + 6)) := d_me k 6
/-- the calendar that is formed -/
def d_mc (M : q_I) (L : List (Nat → Nat)) : Prop := M 0 7 = nI L.length ∧ L.length ≤ 25 ∧ ∀ k m, L[k]? = some m → ∀ f, f < 7 → M 6 (7 * k + f) = nI (m f)
/-- only the calendar that is formed changes -/
def d_mf (M M' : q_I) : Prop := (∀ o, o ≠ 0 → o ≠ 6 → M' o = M o) ∧ ∀ f, f ≠ 7 → M' 0 f = M 0 f
theorem d_mf_rf {M : q_I} : d_mf M M := ⟨fun _ _ _ => rfl, fun _ _ => rfl⟩
theorem d_mf_tr {M M1 M2 : q_I} (h1 : d_mf M M1) (h2 : d_mf M1 M2) : d_mf M M2 := ⟨fun o q1 q2 => (h2.1 o q1 q2).trans (h1.1 o q1 q2), fun f q => (h2.2 f q).trans (h1.2 f q)⟩
theorem d_mf6 {M : q_I} {j : Nat} {v : Int32} : d_mf M (q_ui M 6 j v) := ⟨fun o _ h => if_neg h, fun f _ => by unfold q_ui; rw [if_neg (by decide)]⟩
theorem d_mf7 {M : q_I} {v : Int32} : d_mf M (q_ui M 0 7 v) := ⟨fun o h _ => if_neg h, fun f h => by unfold q_ui; rw [if_pos rfl]; exact pk_un h⟩
theorem d_ui_s {M : q_I} {o j : Nat} {v : Int32} : q_ui M o j v o j = v := by unfold q_ui; rw [if_pos rfl]; exact pk_us
theorem d_ui_n {M : q_I} {o j f : Nat} {v : Int32} (h : f ≠ j) : q_ui M o j v o f = M o f := by unfold q_ui; rw [if_pos rfl]; exact pk_un h
theorem d_ui_o {M : q_I} {o j a : Nat} {v : Int32} (h : a ≠ o) : q_ui M o j v a = M a := if_neg h
theorem d_mfindL {M : q_I} {L : List (Nat → Nat)} (hc : d_mc M L) (x : Int32) : ∀ (d k fu : Nat), k + d = L.length → d < fu → f_Mo_find_L1 M x fu (nI k) = (match d_find (L.drop k) x with
    | none => some (-1)
    | some j => some (nI (k + j))) := by
  have hL := hc.2.1
  intro d
  induction d with
  | zero =>
    intro k fu hk hf
    obtain ⟨fu, rfl, -⟩ := d_fuel hf
    unfold f_Mo_find_L1
    rw [hc.1, if_pos (nI_le (by omega) (by omega)), List.drop_eq_nil_of_le (by omega)]
    rfl
  | succ d ih =>
    intro k fu hk hf
    obtain ⟨fu, rfl, hf⟩ := d_fuel hf
    have hkl : k < L.length := by omega
    unfold f_Mo_find_L1
    rw [hc.1, if_neg (nI_ge hkl (by omega)), d_mm0, d_b1, d_ix (by omega) (by omega), hc.2.2 k _ (List.getElem?_eq_getElem hkl) 0 (by omega), List.drop_eq_getElem_cons hkl]
    unfold d_find
    by_cases he : nI (L[k] 0) = x
    · rw [if_pos he, if_pos he]
      rfl
    · rw [if_neg he, if_neg he, nI_1, ih (k + 1) fu (by omega) (by omega)]
      cases d_find (L.drop (k + 1)) x with
      | none => rfl
      | some j =>
        show some (nI (k + 1 + j)) = some (nI (k + (j + 1)))
        rw [show k + 1 + j = k + (j + 1) by omega]
theorem d_mfind {M : q_I} {L : List (Nat → Nat)} (hc : d_mc M L) (x : Int32) : f_Mo_find M x = (match d_find L x with
    | none => some (-1)
    | some j => some (nI j)) := by
  have h := d_mfindL hc x L.length 0 q_fu (by omega) (d_q (by have := hc.2.1; omega))
  rw [List.drop_zero] at h
  have h' : f_Mo_find M x = _ := h
  rw [h']
  cases d_find L x with
  | none => rfl
  | some j => show some (nI (0 + j)) = _; rw [Nat.zero_add]
theorem d_mlast {M : q_I} {L : List (Nat → Nat)} (hc : d_mc M L) {k : Nat} {m : Nat → Nat} (hk : L[k]? = some m) (hm : d_mt m) : f_Mo_lastSlot M (nI k) = some (nI (d_end m - 1)) := by
  have hkl := d_get_lt hk
  have hL := hc.2.1
  have hr := hc.2.2 k m hk
  have hm' := hm
  unfold d_mt at hm'
  unfold f_Mo_lastSlot
  rw [d_mm1, d_b1, d_ix (by omega) (by omega), d_mm6, d_b1, d_ix (by omega) (by omega), d_mm5, d_b1, d_ix (by omega) (by omega), d_mm2, d_b1, d_ix (by omega) (by omega)]
  rw [hr 1 (by omega), hr 6 (by omega), hr 5 (by omega), hr 2 (by omega), show (1 : Int32) = nI 1 from rfl, pk_sub (by omega), pk_mul, nI_add, nI_add, pk_sub (by omega)]
  rfl
/-- what the reference's numbers say of an edit -/
def d_me1d (v : Nat → Int32) (i : Nat) (e : Nat → Nat) : Prop := (∀ f, f < 7 → v (124 + 13 * i + f) = nI (e f)) ∧ (e 3 = 0 → ∀ f, 7 ≤ f → f < 13 → v (124 + 13 * i + f) = nI (e f))
theorem d_mcrL {i : Nat} (hi : i < 12) (K : q_I → Option q_I) : ∀ (d k fu : Nat) (M : q_I) (n : Nat), k + d = 7 → 1 ≤ k → d < fu → M 0 7 = nI n → n < 25 → ∃ M', f_Mo_carriesOut_L2 (nI i) K fu (nI k) M = K M' ∧ d_mf M M' ∧ M' 0 7 = nI n ∧ (∀ f, k ≤ f → f < 7 → M' 6 (7 * n + f) = M 1 (124 + 13 * i + 6 + f)) ∧ ∀ x, (x < 7 * n + k ∨ 7 * n + 7 ≤ x) → M' 6 x = M 6 x := by
  intro d
  induction d with
  | zero =>
    intro k fu M n hk hk1 hf hn hn25
    obtain ⟨fu, rfl, -⟩ := d_fuel hf
    have : k = 7 := by omega
    subst this
    refine ⟨M, ?_, d_mf_rf, hn, fun f h1 h2 => by omega, fun _ _ => rfl⟩
    unfold f_Mo_carriesOut_L2
    rw [if_pos (show (6 : Int32) < nI 7 by decide)]
  | succ d ih =>
    intro k fu M n hk hk1 hf hn hn25
    obtain ⟨fu, rfl, hf⟩ := d_fuel hf
    unfold f_Mo_carriesOut_L2
    rw [if_neg (show ¬ (6 : Int32) < nI k from nI_nlt (a := 6) (by omega) (by decide)), hn, d_mm, d_b1, d_k6, d_me, d_b1, d_ix (by omega) (by omega), d_ix (by omega) (by omega), d_l, nI_1]
    obtain ⟨M', g1, g2, g3, g4, g5⟩ := ih (k + 1) fu (q_ui M 6 (7 * n + k) (M 1 (124 + 13 * i + (6 + k)))) n (by omega) (by omega) (by omega) (by rw [d_ui_o (by decide)]; exact hn) hn25
    refine ⟨M', g1, d_mf_tr d_mf6 g2, g3, fun f h1 h2 => ?_, fun x hx => ?_⟩
    · by_cases hfk : f = k
      · subst hfk
        rw [g5 _ (by omega), d_ui_s, show 124 + 13 * i + 6 + f = 124 + 13 * i + (6 + f) by omega]
      · rw [g4 f (by omega) h2, d_ui_o (by decide)]
    · rw [g5 x (by omega), d_ui_n (by omega)]
theorem d_mdelL {k n : Nat} (hn : n < 25) : ∀ (d x fu : Nat) (M : q_I), x + d = 7 * n → 7 * k ≤ x → d < fu → M 0 7 = nI n → ∃ M', f_Mo_carriesOut_L1 fu (nI x) M = some M' ∧ d_mf M M' ∧ M' 0 7 = nI n ∧ (∀ y, x ≤ y → y < 7 * n → M' 6 y = M 6 (y + 7)) ∧ ∀ y, (y < x ∨ 7 * n ≤ y) → M' 6 y = M 6 y := by
  intro d
  induction d with
  | zero =>
    intro x fu M hx hk hf hm
    obtain ⟨fu, rfl, -⟩ := d_fuel hf
    refine ⟨M, ?_, d_mf_rf, hm, fun y h1 h2 => by omega, fun _ _ => rfl⟩
    unfold f_Mo_carriesOut_L1
    rw [hm, d_mm0, d_b1, if_pos (nI_le (by omega) (by omega))]
  | succ d ih =>
    intro x fu M hx hk hf hm
    obtain ⟨fu, rfl, hf⟩ := d_fuel hf
    unfold f_Mo_carriesOut_L1
    rw [hm, d_mm0, d_b1, if_neg (nI_ge (by omega) (by omega)), d_p7, d_ix (by omega) (by omega), d_ix (by omega) (by omega), d_l, nI_1]
    obtain ⟨M', g1, g2, g3, g4, g5⟩ := ih (x + 1) fu (q_ui M 6 x (M 6 (x + 7))) (by omega) (by omega) (by omega) (by rw [d_ui_o (by decide)]; exact hm)
    refine ⟨M', g1, d_mf_tr d_mf6 g2, g3, fun y h1 h2 => ?_, fun y hy => ?_⟩
    · by_cases hyx : y = x
      · subst hyx
        rw [g5 y (by omega), d_ui_s]
      · rw [g4 y (by omega) h2, d_ui_n (by omega)]
    · rw [g5 y (by omega), d_ui_n (by omega)]
theorem d_del : ∀ {L : List (Nat → Nat)}, d_srt L → ∀ {k : Nat} {m : Nat → Nat}, L[k]? = some m → L.filter (fun a => decide (a 0 ≠ m 0)) = L.eraseIdx k
  | [], _, k, m, h => by cases h
  | a :: T, hs, 0, m, h => by
    cases h
    have hs' := List.pairwise_cons.mp hs
    rw [List.filter_cons_of_neg (by simp), List.eraseIdx_zero, List.tail_cons]
    refine List.filter_eq_self.mpr (fun b hb => ?_)
    have := hs'.1 b hb
    simp only [decide_eq_true_eq]
    omega
  | a :: T, hs, k + 1, m, h => by
    have hs' := List.pairwise_cons.mp hs
    have hm : T[k]? = some m := h
    have := hs'.1 m (List.mem_of_getElem? hm)
    rw [List.filter_cons_of_pos (by simp only [decide_eq_true_eq]; omega), List.eraseIdx_cons_succ, d_del hs'.2 hm]
theorem d_carry {M : q_I} {L : List (Nat → Nat)} {i : Nat} {e : Nat → Nat} (hc : d_mc M L) (hs : d_srt L) (hm : ∀ m, m ∈ L → d_mt m) (hi : i < 12) (hv : d_me1d (M 1) i e) (he : d_eok e) (hl : L.length < 25) (hp : e 3 ≠ 0 → ∃ m, m ∈ L ∧ m 0 = e 4) : ∃ M', f_Mo_carriesOut M (nI i) = some M' ∧ d_mc M' (d_app e L) ∧ d_mf M M' := by
  have he' := he
  unfold d_eok at he'
  have h3 := hv.1 3 (by omega)
  have h5 := hv.1 5 (by omega)
  have h4 := hv.1 4 (by omega)
  unfold f_Mo_carriesOut
  rw [d_me3, d_b1, d_ix (by omega) (by omega), d_l, d_me5, d_b1, d_ix (by omega) (by omega), d_l, h3, h5]
  unfold d_app
  by_cases k0 : e 3 = 0
  · rw [if_pos k0, if_pos (by rw [k0]; rfl), hc.1, d_mm0, d_b1, d_me0, d_b1, d_ix (by omega) (by omega), d_ix (by omega) (by omega), d_l]
    obtain ⟨M1, e1, g1, g2, g3, g4⟩ := d_mcrL hi (fun (I12 : q_I) => q_l (q_ui I12 0 7 ((I12 0 7) + 1)) (fun I13 => some (I13))) 6 1 q_fu (q_ui M 6 (7 * L.length + 0) (M 1 (124 + 13 * i + 0))) L.length (by omega) (by omega) (d_q (by omega)) (by rw [d_ui_o (by decide)]; exact hc.1) hl
    have e1' : f_Mo_carriesOut_L2 (nI i) (fun (I12 : q_I) => q_l (q_ui I12 0 7 ((I12 0 7) + 1)) (fun I13 => some (I13))) q_fu 1 (q_ui M 6 (7 * L.length + 0) (M 1 (124 + 13 * i + 0))) = _ := e1
    rw [e1', d_l, g2, nI_1]
    refine ⟨_, rfl, ⟨?_, ?_, fun k m hk f hf => ?_⟩, d_mf_tr d_mf6 (d_mf_tr g1 d_mf7)⟩
    · rw [d_ui_s, List.length_append]
      rfl
    · rw [List.length_append]
      exact hl
    · rw [d_ui_o (by decide)]
      have hkl := d_get_lt hk
      rw [List.length_append] at hkl
      have hkl' : k < L.length + 1 := hkl
      by_cases hkL : k < L.length
      · rw [List.getElem?_append_left hkL] at hk
        rw [g4 _ (by omega), d_ui_n (by omega)]
        exact hc.2.2 k m hk f hf
      · have hke : k = L.length := by omega
        subst hke
        rw [List.getElem?_append_right (Nat.le_refl _), Nat.sub_self] at hk
        cases hk
        by_cases hf0 : f = 0
        · subst hf0
          rw [g4 _ (by omega), d_ui_s]
          exact hv.1 0 (by omega)
        · rw [g3 f (by omega) hf, d_ui_o (by decide), show 124 + 13 * i + 6 + f = 124 + 13 * i + (6 + f) by omega, hv.2 k0 (6 + f) (by omega) (by omega)]
          unfold d_new
          rw [if_neg hf0, if_pos hf]
  · rw [if_neg k0, if_neg (d_n0 (by omega) k0), d_me4, d_b1, d_ix (by omega) (by omega), h4, d_mfind hc]
    obtain ⟨m, hmem, hm0⟩ := hp k0
    obtain ⟨k, hk1, hk2⟩ := d_find_mem hs hm hmem (by rw [hm0])
    rw [hk1]
    show ∃ M', q_b1 (some (nI k)) _ = some M' ∧ _
    rw [d_b1]
    have hkl := d_get_lt hk2
    have hr := hc.2.2 k m hk2
    have hmm := hm m hmem
    unfold d_mt at hmm
    by_cases k6 : e 3 = 6
    · rw [if_pos k6, k6, if_neg (show ¬ nI 6 = 1 by decide), if_neg (show ¬ nI 6 = 2 by decide), if_neg (show ¬ nI 6 = 3 by decide), if_neg (show ¬ nI 6 = 4 by decide), if_neg (show ¬ nI 6 = 5 by decide), d_l, d_mm0, d_b1, hc.1, show (1 : Int32) = nI 1 from rfl, pk_sub (by omega)]
      obtain ⟨M', e1, g1, g2, g3, g4⟩ := d_mdelL (k := k) (n := L.length - 1) (by omega) (7 * (L.length - 1) - (7 * k + 0)) (7 * k + 0) q_fu (q_ui M 0 7 (nI (L.length - 1))) (by omega) (by omega) (d_q (by omega)) d_ui_s
      have hdel : L.filter (fun a => decide (a 0 ≠ e 4)) = L.eraseIdx k := by
        rw [← hm0]
        exact d_del hs hk2
      refine ⟨M', e1, ⟨?_, ?_, fun j m' hj f hf => ?_⟩, d_mf_tr d_mf7 g1⟩
      · rw [hdel, List.length_eraseIdx, if_pos hkl]
        exact g2
      · rw [hdel, List.length_eraseIdx, if_pos hkl]
        omega
      · rw [hdel] at hj
        have hjl := d_get_lt hj
        rw [List.length_eraseIdx, if_pos hkl] at hjl
        rw [List.getElem?_eraseIdx] at hj
        by_cases hjk : j < k
        · rw [if_pos hjk] at hj
          rw [g4 _ (by omega), d_ui_o (by decide)]
          exact hc.2.2 j m' hj f hf
        · rw [if_neg hjk] at hj
          rw [g3 _ (by omega) (by omega), d_ui_o (by decide), show 7 * j + f + 7 = 7 * (j + 1) + f by omega]
          exact hc.2.2 (j + 1) m' hj f hf
    · rw [if_neg k6]
      obtain ⟨c0, c1, c2, c3, c4, c5, c6⟩ := d_chg0 e m
      have upd1 : ∀ (g : Nat) (v : Nat), g < 7 → d_chg e m g = v → (∀ f, f ≠ g → f < 7 → d_chg e m f = m f) → d_mc (q_ui M 6 (7 * k + g) (nI v)) (L.map (fun m => if m 0 = e 4 then d_chg e m else m)) ∧ d_mf M (q_ui M 6 (7 * k + g) (nI v)) := by
        intro g v hg h1 h2
        refine ⟨⟨?_, ?_, fun j m' hj f hf => ?_⟩, d_mf6⟩
        · rw [d_ui_o (by decide), List.length_map]
          exact hc.1
        · rw [List.length_map]
          exact hc.2.1
        · rw [List.getElem?_map] at hj
          cases hmj : L[j]? with
          | none => rw [hmj] at hj; cases hj
          | some m2 =>
            rw [hmj] at hj
            cases hj
            show _ = nI ((if m2 0 = e 4 then d_chg e m2 else m2) f)
            by_cases hjk : j = k
            · subst hjk
              have : m2 = m := Option.some.inj (hmj.symm.trans hk2)
              subst this
              rw [if_pos hm0]
              by_cases hfg : f = g
              · subst hfg
                rw [d_ui_s, h1]
              · rw [d_ui_n (by omega), h2 f hfg hf]
                exact hr f hf
            · rw [if_neg (fun q => hjk (d_srt_nd hs hmj hk2 (by rw [q, hm0]))), d_ui_n (by omega)]
              exact hc.2.2 j m2 hmj f hf
      have oth : ∀ g, (∀ f, f ≠ g → f < 7 → d_chg e m f = m f) ↔ ∀ f, f ≠ g → (f = 0 ∨ f = 1 ∨ f = 2 ∨ f = 3 ∨ f = 4 ∨ f = 5 ∨ f = 6) → d_chg e m f = m f := by
        intro g
        exact ⟨fun q f h1 h2 => q f h1 (by omega), fun q f h1 h2 => q f h1 (by omega)⟩
      by_cases k1 : e 3 = 1
      · rw [k1, if_pos (show nI 1 = 1 from rfl), d_mm1, d_b1, d_ix (by omega) (by omega), d_l]
        rw [k1] at c1 c2 c3 c4
        obtain ⟨g1, g2⟩ := upd1 1 (e 5) (by omega) c1 ((oth 1).mpr (fun f hf h => by rcases h with rfl | rfl | rfl | rfl | rfl | rfl | rfl <;> first | exact absurd rfl hf | assumption))
        exact ⟨_, rfl, g1, g2⟩
      · by_cases k2 : e 3 = 2
        · rw [k2, if_neg (show ¬ nI 2 = 1 by decide), if_pos (show nI 2 = 2 from rfl), d_mm3, d_b1, d_ix (by omega) (by omega), d_l]
          rw [k2] at c1 c2 c3 c4
          obtain ⟨g1, g2⟩ := upd1 3 (e 5) (by omega) c3 ((oth 3).mpr (fun f hf h => by rcases h with rfl | rfl | rfl | rfl | rfl | rfl | rfl <;> first | exact absurd rfl hf | assumption))
          exact ⟨_, rfl, g1, g2⟩
        · by_cases k3 : e 3 = 3
          · rw [k3, if_neg (show ¬ nI 3 = 1 by decide), if_neg (show ¬ nI 3 = 2 by decide), if_pos (show nI 3 = 3 from rfl), d_mm2, d_b1, d_ix (by omega) (by omega), d_l]
            rw [k3] at c1 c2 c3 c4
            obtain ⟨g1, g2⟩ := upd1 2 (e 5) (by omega) c2 ((oth 2).mpr (fun f hf h => by rcases h with rfl | rfl | rfl | rfl | rfl | rfl | rfl <;> first | exact absurd rfl hf | assumption))
            exact ⟨_, rfl, g1, g2⟩
          · by_cases k4 : e 3 = 4
            · rw [k4, if_neg (show ¬ nI 4 = 1 by decide), if_neg (show ¬ nI 4 = 2 by decide), if_neg (show ¬ nI 4 = 3 by decide), if_pos (show nI 4 = 4 from rfl), d_mm4, d_b1, d_ix (by omega) (by omega), d_ix (by omega) (by omega), d_l, hr 4 (by omega), dn_pos (by omega), dn_or (by omega) (dn_2lt (by omega))]
              rw [k4] at c1 c2 c3 c4
              obtain ⟨g1, g2⟩ := upd1 4 (m 4 ||| 2 ^ e 5) (by omega) c4 ((oth 4).mpr (fun f hf h => by rcases h with rfl | rfl | rfl | rfl | rfl | rfl | rfl <;> first | exact absurd rfl hf | assumption))
              exact ⟨_, rfl, g1, g2⟩
            · have k5 : e 3 = 5 := by omega
              rw [k5, if_neg (show ¬ nI 5 = 1 by decide), if_neg (show ¬ nI 5 = 2 by decide), if_neg (show ¬ nI 5 = 3 by decide), if_neg (show ¬ nI 5 = 4 by decide), if_pos (show nI 5 = 5 from rfl), d_mm4, d_b1, d_ix (by omega) (by omega), d_ix (by omega) (by omega), d_l, hr 4 (by omega), dn_pos (by omega), dn_nd (by omega) (dn_2lt (by omega))]
              rw [k5] at c1 c2 c3 c4
              obtain ⟨g1, g2⟩ := upd1 4 (w_nd (m 4) (2 ^ e 5)) (by omega) c4 ((oth 4).mpr (fun f hf h => by rcases h with rfl | rfl | rfl | rfl | rfl | rfl | rfl <;> first | exact absurd rfl hf | assumption))
              exact ⟨_, rfl, g1, g2⟩
/-- what the reference's numbers say of a world -/
def d_mw (v : Nat → Int32) (n : Nat) (Ru : Nat → Nat → Nat) (no : Nat) (Of Os : Nat → Int32) (base : List (Nat → Nat)) (E : Nat → Nat → Nat) : Prop :=
  v 0 = nI n ∧ v 2 = nI base.length ∧ (v 3 = nI no ∧ no ≤ 4) ∧ (∀ x, x < 4 → v (8 + x) = nI (Ru 0 x) ∧ v (12 + x) = nI (Ru 1 x) ∧ v (16 + x) = nI (Ru 2 x)) ∧ (∀ x, x < 6 → v (20 + x) = nI (Ru 3 x) ∧ v (26 + x) = nI (Ru 4 x)) ∧ (∀ o, o < no → v (32 + 2 * o) = Of o ∧ v (33 + 2 * o) = Os o) ∧
  (∀ k m, base[k]? = some m → ∀ f, f < 7 → v (40 + (7 * k + f)) = nI (m f)) ∧ (∀ i, i < n → d_me1d v i (E i)) ∧ d_rv Ru
theorem d_stay {base : List (Nat → Nat)} {E : Nat → Nat → Nat} {s x i : Nat} (hno : ∀ j, w_in s j → j < i → E j 3 = 6 → E j 4 ≠ x) : ∀ (d t : Nat), t + d = i → (∃ m, m ∈ d_fm base E s t ∧ m 0 = x) → ∃ m, m ∈ d_fm base E s i ∧ m 0 = x := by
  intro d
  induction d with
  | zero => intro t ht h; rw [← show t = i by omega]; exact h
  | succ d ih =>
    intro t ht h
    refine ih (t + 1) (by omega) ?_
    obtain ⟨m, hm, hx⟩ := h
    unfold d_fm
    by_cases hst : w_in s t
    · rw [if_pos hst]
      unfold d_app
      split
      · exact ⟨m, List.mem_append_left _ hm, hx⟩
      · split
        · next h6 =>
          refine ⟨m, List.mem_filter.mpr ⟨hm, ?_⟩, hx⟩
          have := hno t hst (by omega) h6
          simp only [decide_eq_true_eq]
          omega
        · refine ⟨_, List.mem_map.mpr ⟨m, hm, rfl⟩, ?_⟩
          show (if m 0 = E t 4 then d_chg (E t) m else m) 0 = x
          split
          · rw [(d_chg0 _ _).1, hx]
          · exact hx
    · rw [if_neg hst]
      exact ⟨m, hm, hx⟩
theorem d_present {base : List (Nat → Nat)} {E : Nat → Nat → Nat} {n s i : Nat} (hw : d_wf base E n) (hs : s < 2 ^ n) (h : w_adm (d_K E) (d_N E) (fun _ => True) s) (hi : w_in s i) (h3 : E i 3 ≠ 0) : ∃ m, m ∈ d_fm base E s i ∧ m 0 = E i 4 := by
  have hin := w_lt hs hi
  have hno : ∀ j, w_in s j → j < i → E j 3 = 6 → E j 4 ≠ E i 4 := by
    intro j hj hji h6 e
    have := h.1 j i hj hi
    unfold d_K at this
    exact d_dec_f.mp this (Or.inl ⟨hji, e, Or.inl h6⟩)
  rcases hw.2.2.2.2.2.2.1 i hin h3 with ⟨m, hm, he⟩ | ⟨k, a1, a2, a3, -⟩
  · exact d_stay hno i 0 (by omega) ⟨m, hm, he⟩
  · have ek := hw.2.2.2.1 k (by omega)
    unfold d_eok at ek
    have hk4 := (ek.2.2.2.2.2.2.2.2.1 a2).1
    have hks : w_in s k := h.2.1 i k hi (d_dec_t.mpr ⟨a1, a2, by omega⟩)
    refine d_stay hno (i - (k + 1)) (k + 1) (by omega) ⟨d_new (E k), ?_, a3⟩
    unfold d_fm
    rw [if_pos hks]
    unfold d_app
    rw [if_pos a2]
    exact List.mem_append_right _ (List.mem_singleton.mpr rfl)
theorem d_mfoL1 {L : List (Nat → Nat)} (hl : L.length ≤ 12) (K : q_I → Option q_I) : ∀ (d x fu : Nat) (M : q_I), x + d = 7 * L.length → d < fu → M 0 7 = nI L.length → ∃ M', f_Mo_forms_L1 K fu (nI x) M = K M' ∧ d_mf M M' ∧ M' 0 7 = nI L.length ∧ (∀ y, x ≤ y → y < 7 * L.length → M' 6 y = M 1 (40 + y)) ∧ ∀ y, y < x → M' 6 y = M 6 y := by
  intro d
  induction d with
  | zero =>
    intro x fu M hx hf hm
    obtain ⟨fu, rfl, -⟩ := d_fuel hf
    refine ⟨M, ?_, d_mf_rf, hm, fun y h1 h2 => by omega, fun _ _ => rfl⟩
    unfold f_Mo_forms_L1
    rw [hm, d_m7, if_pos (nI_le (by omega) (by omega))]
  | succ d ih =>
    intro x fu M hx hf hm
    obtain ⟨fu, rfl, hf⟩ := d_fuel hf
    unfold f_Mo_forms_L1
    rw [hm, d_m7, if_neg (nI_ge (by omega) (by omega)), d_k40, d_ix (by omega) (by omega), d_ix (by omega) (by omega), d_l, nI_1]
    obtain ⟨M', g1, g2, g3, g4, g5⟩ := ih (x + 1) fu (q_ui M 6 x (M 1 (40 + x))) (by omega) (by omega) (by rw [d_ui_o (by decide)]; exact hm)
    refine ⟨M', g1, d_mf_tr d_mf6 g2, g3, fun y h1 h2 => ?_, fun y hy => ?_⟩
    · by_cases hyx : y = x
      · subst hyx
        rw [g5 y (by omega), d_ui_s]
      · rw [g4 y (by omega) h2, d_ui_o (by decide)]
    · rw [g5 y (by omega), d_ui_n (by omega)]
theorem d_mfoL2 {n s : Nat} {base : List (Nat → Nat)} {E : Nat → Nat → Nat} {V : Nat → Int32} (hw : d_wf base E n) (hs : s < 2 ^ n) (hV0 : V 0 = nI n) (hVE : ∀ i, i < n → d_me1d V i (E i)) (hp : ∀ i, w_in s i → E i 3 ≠ 0 → ∃ m, m ∈ d_fm base E s i ∧ m 0 = E i 4) :
    ∀ (d k fu : Nat) (M : q_I), k + d = n → d < fu → M 1 = V → d_mc M (d_fm base E s k) → ∃ M', f_Mo_forms_L2 (nI s) fu (nI k) M = some M' ∧ d_mc M' (d_fm base E s n) ∧ d_mf M M' := by
  have hn12 : n ≤ 12 := hw.2.2.2.2.2.2.2.2
  have h12 : (2 : Nat) ^ n ≤ 2 ^ 12 := Nat.pow_le_pow_right (by decide) hn12
  intro d
  induction d with
  | zero =>
    intro k fu M hk hf hM hc
    obtain ⟨fu, rfl, -⟩ := d_fuel hf
    have : k = n := by omega
    subst this
    refine ⟨M, ?_, hc, d_mf_rf⟩
    unfold f_Mo_forms_L2
    rw [d_x0, hM, hV0, if_pos (Int32.le_refl _)]
  | succ d ih =>
    intro k fu M hk hf hM hc
    obtain ⟨fu, rfl, hf⟩ := d_fuel hf
    have hok := d_fm_ok hw hs k
    unfold f_Mo_forms_L2
    rw [d_x0, hM, hV0, if_neg (nI_ge (show k < n by omega) (by omega))]
    by_cases hsk : w_in s k
    · rw [if_pos ((dn_b1 (by omega) (by omega)).mpr hsk)]
      obtain ⟨M1, e1, g1, g2⟩ := d_carry (i := k) (e := E k) hc hok.1 hok.2.1 (by omega) (by rw [hM]; exact hVE k (by omega)) (hw.2.2.2.1 k (by omega)) (by omega) (hp k hsk)
      rw [e1, d_b1, nI_1]
      have hfm : d_fm base E s (k + 1) = d_app (E k) (d_fm base E s k) := by
        show (if s.testBit k then _ else _) = _
        rw [if_pos hsk]
      obtain ⟨M', g3, g4, g5⟩ := ih (k + 1) fu M1 (by omega) (by omega) (by rw [g2.1 1 (by decide) (by decide)]; exact hM) (by
        show d_mc M1 (d_fm base E s (k + 1))
        rw [hfm]; exact g1)
      exact ⟨M', g3, g4, d_mf_tr g2 g5⟩
    · rw [if_neg (fun q => hsk ((dn_b1 (by omega) (by omega)).mp q)), nI_1]
      have hfm : d_fm base E s (k + 1) = d_fm base E s k := by
        show (if s.testBit k then _ else _) = _
        rw [if_neg hsk]
      exact ih (k + 1) fu M (by omega) (by omega) hM (by
        show d_mc M (d_fm base E s (k + 1))
        rw [hfm]; exact hc)
theorem d_mforms {M : q_I} {n s : Nat} {Ru : Nat → Nat → Nat} {no : Nat} {Of Os : Nat → Int32} {base : List (Nat → Nat)} {E : Nat → Nat → Nat} (hw : d_wf base E n) (hs : s < 2 ^ n) (hv : d_mw (M 1) n Ru no Of Os base E) (h : w_adm (d_K E) (d_N E) (fun _ => True) s) : ∃ M', f_Mo_forms M (nI s) = some M' ∧ d_mc M' (d_fm base E s 12) ∧ d_mf M M' := by
  have hn12 : n ≤ 12 := hw.2.2.2.2.2.2.2.2
  have hb12 := hw.2.2.1
  obtain ⟨M1, e1, g1, g2, g3, g4⟩ := d_mfoL1 hb12 (fun (I4 : q_I) => f_Mo_forms_L2 (nI s) q_fu 0 I4) (7 * base.length) 0 q_fu (q_ui M 0 7 (nI base.length)) (by omega) (d_q (by omega)) d_ui_s
  have hM1 : M1 1 = M 1 := by rw [g1.1 1 (by decide) (by decide), d_ui_o (by decide)]
  obtain ⟨M2, e2, g5, g6⟩ := d_mfoL2 (V := M 1) hw hs hv.1 hv.2.2.2.2.2.2.2.1 (fun i hi h3 => d_present hw hs h hi h3) n 0 q_fu M1 (by omega) (d_q (by omega)) hM1 ⟨g2, (by show base.length ≤ 25; omega), fun k m hk f hf => by
    have hk' : base[k]? = some m := hk
    have := d_get_lt hk'
    rw [g3 _ (by omega) (by omega), d_ui_o (by decide)]
    exact hv.2.2.2.2.2.2.1 k m hk' f hf⟩
  refine ⟨M2, ?_, ?_, d_mf_tr d_mf7 (d_mf_tr g1 g6)⟩
  · unfold f_Mo_forms
    rw [d_x2, hv.2.1, d_l]
    exact e1.trans e2
  · have := d_fm_stop (base := base) (E := E) hs (12 - n)
    rw [show n + (12 - n) = 12 by omega] at this
    rw [this]
    exact g5
