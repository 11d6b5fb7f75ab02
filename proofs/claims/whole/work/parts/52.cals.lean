/-! calendars as lists of meetings; a meeting is its seven numbers -/
theorem d_b1 {α ρ : Type} {a : α} {K : α → Option ρ} : q_b1 (some a) K = K a := rfl
theorem d_b2 {α β ρ : Type} {a : α} {b : β} {K : α → β → Option ρ} : q_b2 (some (a, b)) K = K a b := rfl
theorem d_b3 {α β γ ρ : Type} {a : α} {b : β} {c : γ} {K : α → β → γ → Option ρ} : q_b3 (some (a, b, c)) K = K a b c := rfl
theorem d_b4 {α β γ δ ρ : Type} {a : α} {b : β} {c : γ} {d : δ} {K : α → β → γ → δ → Option ρ} : q_b4 (some (a, b, c, d)) K = K a b c d := rfl
theorem d_l {α ρ : Type} {a : α} {K : α → ρ} : q_l a K = K a := rfl
theorem d_ix {ρ : Type} {j N : Nat} {K : Nat → Option ρ} (h : j < N) (hN : N < 2 ^ 31) : q_ix (nI j) N K = K j := by
  unfold q_ix
  rw [if_neg (nI_in h hN), nI_clamp (by omega)]
theorem d_fuel {n d : Nat} (h : d < n) : ∃ m, n = m + 1 ∧ d ≤ m := ⟨n - 1, by omega, by omega⟩
theorem d_q {d : Nat} (h : d < 50000) : d < q_fu := Nat.lt_trans h (by decide)
def d_row (g : Nat → Int32) (m : Nat → Nat) : Prop := ∀ f, f < 7 → g f = nI (m f)
def d_inj (P : q_P) (a n : Nat) : Prop := (∀ i, i < n → P a i < n) ∧ ∀ i j, i < n → j < n → P a i = P a j → i = j
def d_cal (I : q_I) (P : q_P) (c n : Nat) (L : List (Nat → Nat)) : Prop := I c 1 = nI L.length ∧ L.length ≤ n ∧ d_inj P (c + 1) n ∧ ∀ k m, L[k]? = some m → d_row (I (c + 2 + P (c + 1) k)) m
def d_fr (c n : Nat) (I I' : q_I) : Prop := ∀ o, o < c ∨ c + 2 + n ≤ o → I' o = I o
theorem d_fr_rf {c n : Nat} {I : q_I} : d_fr c n I I := fun _ _ => rfl
theorem d_fr_tr {c n : Nat} {I I1 I2 : q_I} (h1 : d_fr c n I I1) (h2 : d_fr c n I1 I2) : d_fr c n I I2 := fun o ho => (h2 o ho).trans (h1 o ho)
def d_pr (a : Nat) (P P' : q_P) : Prop := ∀ o, o ≠ a → P' o = P o
theorem d_get_lt {α : Type} {L : List α} {k : Nat} {m : α} (h : L[k]? = some m) : k < L.length := (List.getElem?_eq_some_iff.mp h).1
theorem d_cal_fr {I I' : q_I} {P P' : q_P} {c n c2 n2 : Nat} {L : List (Nat → Nat)} (h : d_cal I P c2 n2 L) (hf : d_fr c n I I') (hp : P' (c2 + 1) = P (c2 + 1)) (hd : c2 + 2 + n2 ≤ c ∨ c + 2 + n ≤ c2) : d_cal I' P' c2 n2 L := by
  obtain ⟨h1, h2, h3, h4⟩ := h
  refine ⟨by rw [hf c2 (by omega)]; exact h1, h2, by unfold d_inj; rw [hp]; exact h3, fun k m hk => ?_⟩
  have hl := d_get_lt hk
  have := h3.1 k (by omega)
  rw [hp, hf _ (by omega)]
  exact h4 k m hk
theorem d_cp {I : q_I} {a b : Nat} (h : a ≠ b) : ∃ I', f_Me_copyFrom I a b = some I' ∧ (∀ o, o ≠ a → I' o = I o) ∧ (∀ f, f < 7 → I' a f = I b f) := by
  refine ⟨_, rfl, fun o ho => ?_, fun f hf => ?_⟩
  · unfold q_ui
    simp only [if_neg ho]
  · have hb : b ≠ a := fun e => h e.symm
    rcases (by omega : f = 0 ∨ f = 1 ∨ f = 2 ∨ f = 3 ∨ f = 4 ∨ f = 5 ∨ f = 6) with rfl | rfl | rfl | rfl | rfl | rfl | rfl <;> simp [q_ui, upd, hb]
theorem d_row_some {I : q_I} {P : q_P} {c n : Nat} {L : List (Nat → Nat)} (hc : d_cal I P c n L) (hn : n ≤ 24) {k : Nat} (hk : k < L.length) : f_Cal_row I P c n (nI k) = some (some (c + 2 + P (c + 1) k)) := by
  have hL := hc.2.1
  unfold f_Cal_row
  rw [if_neg (nI_pos (by omega)), hc.1, if_neg (nI_ge hk (by omega)), if_neg (nI_ge (show k < n by omega) (by omega)), d_ix (by omega) (by omega)]
theorem d_row_none {I : q_I} {P : q_P} {c n : Nat} {L : List (Nat → Nat)} (hc : d_cal I P c n L) (hn : n ≤ 24) {x : Int32} (hx : ∀ k, k < L.length → x ≠ nI k) : f_Cal_row I P c n x = some none := by
  have hL := hc.2.1
  unfold f_Cal_row
  by_cases h0 : x < 0
  · rw [if_pos h0]
  · obtain ⟨k, hk, rfl⟩ := nI_of h0
    rw [if_neg h0, hc.1]
    by_cases h1 : k < L.length
    · exact absurd rfl (hx k h1)
    · rw [if_pos (nI_le (by omega) hk)]
/-- the first meeting of that number -/
def d_find : List (Nat → Nat) → Int32 → Option Nat
  | [], _ => none
  | m :: L, x => if nI (m 0) = x then some 0 else (d_find L x).map (fun j => j + 1)
theorem d_find_some : ∀ {L : List (Nat → Nat)} {x : Int32} {j : Nat}, d_find L x = some j → ∃ m, L[j]? = some m ∧ nI (m 0) = x
  | [], x, j, h => by cases h
  | m :: L, x, j, h => by
    unfold d_find at h
    split at h
    · next he => cases h; exact ⟨m, rfl, he⟩
    · cases hq : d_find L x with
      | none => rw [hq] at h; cases h
      | some i =>
        rw [hq] at h
        cases h
        obtain ⟨m', h1, h2⟩ := d_find_some hq
        exact ⟨m', h1, h2⟩
theorem d_find_none : ∀ {L : List (Nat → Nat)} {x : Int32}, d_find L x = none → ∀ m, m ∈ L → nI (m 0) ≠ x
  | [], x, h, m, hm => by cases hm
  | a :: L, x, h, m, hm => by
    unfold d_find at h
    split at h
    · cases h
    · next he =>
      rcases List.mem_cons.mp hm with rfl | hm
      · exact he
      · cases hq : d_find L x with
        | none => exact d_find_none hq m hm
        | some i => rw [hq] at h; cases h
theorem d_find_lt {L : List (Nat → Nat)} {x : Int32} {j : Nat} (h : d_find L x = some j) : j < L.length := by
  obtain ⟨m, h1, -⟩ := d_find_some h
  exact d_get_lt h1
theorem d_findL {I : q_I} {P : q_P} {c n : Nat} {L : List (Nat → Nat)} (hc : d_cal I P c n L) (hn : n ≤ 24) (x : Int32) (K : Int32 → Option (Option Nat)) : ∀ (d k fu : Nat), k + d = L.length → d < fu → f_Cal_find_L1 I P c n x K fu (nI k) = (d_find (L.drop k) x).elim (some none) (fun j => K (nI (k + j))) := by
  have hL := hc.2.1
  intro d
  induction d with
  | zero =>
    intro k fu hk hf
    obtain ⟨fu, rfl, -⟩ := d_fuel hf
    unfold f_Cal_find_L1
    rw [hc.1, if_pos (nI_le (by omega) (by omega)), List.drop_eq_nil_of_le (by omega)]
    rfl
  | succ d ih =>
    intro k fu hk hf
    obtain ⟨fu, rfl, hf⟩ := d_fuel hf
    have hkl : k < L.length := by omega
    unfold f_Cal_find_L1
    rw [hc.1, if_neg (nI_ge hkl (by omega)), if_neg (nI_ge (show k < n by omega) (by omega)), d_ix (by omega) (by omega), List.drop_eq_getElem_cons hkl]
    have hr := hc.2.2.2 k _ (List.getElem?_eq_getElem hkl) 0 (by omega)
    rw [hr]
    unfold d_find
    by_cases he : nI (L[k] 0) = x
    · rw [if_pos he, if_pos he]
      rfl
    · rw [if_neg he, if_neg he, nI_1, ih (k + 1) fu (by omega) (by omega)]
      cases d_find (L.drop (k + 1)) x with
      | none => rfl
      | some j =>
        show K (nI (k + 1 + j)) = K (nI (k + (j + 1)))
        rw [show k + 1 + j = k + (j + 1) by omega]
theorem d_findC {I : q_I} {P : q_P} {c n : Nat} {L : List (Nat → Nat)} (hc : d_cal I P c n L) (hn : n ≤ 24) (x : Int32) : f_Cal_find I P c n x = some ((d_find L x).map (fun k => c + 2 + P (c + 1) k)) := by
  have hL := hc.2.1
  unfold f_Cal_find
  have := d_findL hc hn x (fun (x2 : Int32) => q_ix x2 n (fun j2 => some ((some ((c + 2) + P (c + 1) j2) : Option Nat)))) L.length 0 q_fu (by omega) (d_q (by omega))
  rw [nI_0] at this
  rw [this, List.drop_zero]
  cases hq : d_find L x with
  | none => rfl
  | some j =>
    have := d_find_lt hq
    simp only [Option.elim_some, Option.map_some]
    rw [Nat.zero_add, d_ix (by omega) (by omega)]
theorem d_put {I : q_I} {P : q_P} {c n a : Nat} {L : List (Nat → Nat)} {m : Nat → Nat} (hc : d_cal I P c n L) (hn : n ≤ 24) (hl : L.length < n) (ha : a < c ∨ c + 2 + n ≤ a) (hm : d_row (I a) m) : ∃ I', f_Cal_put I P c n a = some I' ∧ d_cal I' P c n (L ++ [m]) ∧ d_fr c n I I' := by
  obtain ⟨h1, h2, h3, h4⟩ := hc
  have hr := h3.1 L.length hl
  obtain ⟨I1, e1, e2, e3⟩ := d_cp (I := I) (a := c + 2 + P (c + 1) L.length) (b := a) (by omega)
  have ec : I1 c = I c := e2 c (by omega)
  refine ⟨q_ui I1 c 1 (nI (L.length + 1)), ?_, ⟨?_, ?_, h3, ?_⟩, ?_⟩
  · unfold f_Cal_put
    rw [h1, if_neg (nI_ge hl (by omega)), d_ix hl (by omega), e1, d_b1, d_l, ec, h1, nI_1]
  · rw [List.length_append]
    unfold q_ui
    rw [if_pos rfl]
    exact pk_us
  · rw [List.length_append]
    exact hl
  · intro k m' hk
    have hkl := d_get_lt hk
    rw [List.length_append] at hkl
    have hkl' : k < L.length + 1 := hkl
    have hPk := h3.1 k (by omega)
    unfold q_ui
    rw [if_neg (by omega)]
    by_cases hkL : k < L.length
    · rw [List.getElem?_append_left hkL] at hk
      rw [e2 _ (fun e => by
        have := h3.2 k L.length (by omega) hl (by omega)
        omega)]
      exact h4 k m' hk
    · have hke : k = L.length := by omega
      subst hke
      rw [List.getElem?_append_right (Nat.le_refl _), Nat.sub_self] at hk
      cases hk
      intro f hf
      rw [e3 f hf]
      exact hm f hf
  · intro o ho
    unfold q_ui
    rw [if_neg (by omega)]
    exact e2 o (by omega)
/-- the meetings that stay -/
abbrev d_not (x : Int32) : (Nat → Nat) → Bool := fun m => decide (nI (m 0) ≠ x)
theorem d_dropL {I : q_I} {c n : Nat} {P : q_P} {L : List (Nat → Nat)} (hc : d_cal I P c n L) (hn : n ≤ 24) (x : Int32) (K : Int32 → q_P → Option (q_I × q_P)) : ∀ (d k fu : Nat) (P1 : q_P), k + d = L.length → d < fu → d_inj P1 (c + 1) n → d_pr (c + 1) P P1 → (∀ j, k ≤ j → P1 (c + 1) j = P (c + 1) j) →
    (∀ j m, ((L.take k).filter (d_not x))[j]? = some m → d_row (I (c + 2 + P1 (c + 1) j)) m) → ∃ P2, f_Cal_drop_L1 I c n x K fu (nI ((L.take k).filter (d_not x)).length) (nI k) P1 = K (nI (L.filter (d_not x)).length) P2 ∧ d_inj P2 (c + 1) n ∧ d_pr (c + 1) P P2 ∧ ∀ j m, (L.filter (d_not x))[j]? = some m → d_row (I (c + 2 + P2 (c + 1) j)) m := by
  obtain ⟨h1, h2, h3, h4⟩ := hc
  intro d
  induction d with
  | zero =>
    intro k fu P1 hk hf hi hp hs hr
    obtain ⟨fu, rfl, -⟩ := d_fuel hf
    rw [List.take_of_length_le (by omega)] at hr ⊢
    refine ⟨P1, ?_, hi, hp, hr⟩
    unfold f_Cal_drop_L1
    rw [h1, if_pos (nI_le (by omega) (by omega))]
  | succ d ih =>
    intro k fu P1 hk hf hi hp hs hr
    obtain ⟨fu, rfl, hf⟩ := d_fuel hf
    have hkl : k < L.length := by omega
    have htk : L.take (k + 1) = L.take k ++ [L[k]] := (List.take_append_getElem hkl).symm
    have hr0 := h4 k _ (List.getElem?_eq_getElem hkl)
    unfold f_Cal_drop_L1
    rw [h1, if_neg (nI_ge hkl (by omega)), if_neg (nI_ge (show k < n by omega) (by omega)), d_ix (by omega) (by omega), hs k (Nat.le_refl _), hr0 0 (by omega)]
    by_cases he : nI (L[k] 0) = x
    · rw [if_pos he, nI_1]
      have e : (L.take (k + 1)).filter (d_not x) = (L.take k).filter (d_not x) := by
        rw [htk, List.filter_append, List.filter_cons_of_neg (by simp [d_not, he])]
        simp
      have := ih (k + 1) fu P1 (by omega) (by omega) hi hp (fun j hj => hs j (by omega))
      rw [e] at this
      exact this hr
    · rw [if_neg he]
      have e : (L.take (k + 1)).filter (d_not x) = (L.take k).filter (d_not x) ++ [L[k]] := by
        rw [htk, List.filter_append, List.filter_cons_of_pos (by simp [d_not, he])]
        simp
      have hle : ((L.take k).filter (d_not x)).length ≤ k := Nat.le_trans (List.length_filter_le _ _) (by rw [List.length_take]; omega)
      generalize hg : ((L.take k).filter (d_not x)) = T at e hle hr ⊢
      rw [d_ix (by omega) (by omega), d_ix (by omega) (by omega), d_l, d_ix (by omega) (by omega), d_l, nI_1, nI_1]
      have eP : ∀ i, q_up (q_up P1 (c + 1) k (P1 (c + 1) T.length)) (c + 1) T.length (P1 (c + 1) k) (c + 1) i = P1 (c + 1) (if i = T.length then k else if i = k then T.length else i) := by
        intro i
        unfold q_up va_up
        simp only [if_true]
        by_cases g1 : i = T.length
        · rw [if_pos g1, if_pos g1]
        · rw [if_neg g1, if_neg g1]
          by_cases g2 : i = k
          · rw [if_pos g2, if_pos g2]
          · rw [if_neg g2, if_neg g2]
      have eP2 : ∀ o, o ≠ c + 1 → q_up (q_up P1 (c + 1) k (P1 (c + 1) T.length)) (c + 1) T.length (P1 (c + 1) k) o = P1 o := by
        intro o ho
        unfold q_up
        rw [if_neg ho, if_neg ho]
      rw [hs k (Nat.le_refl _)] at eP eP2
      generalize q_up (q_up P1 (c + 1) k (P1 (c + 1) T.length)) (c + 1) T.length (P (c + 1) k) = P3 at eP eP2 ⊢
      have := ih (k + 1) fu P3 (by omega) (by omega) ⟨fun i hi' => by
          rw [eP]
          split
          · rw [hs k (Nat.le_refl _)]; exact h3.1 k (by omega)
          · split
            · exact hi.1 _ (by omega)
            · exact hi.1 i hi', fun i j hi' hj' hij => by
          rw [eP, eP] at hij
          have := hi.2 _ _ (by split <;> (try split) <;> omega) (by split <;> (try split) <;> omega) hij
          split at this <;> split at this <;> (try split at this) <;> (try split at this) <;> omega⟩ (fun o ho => (eP2 o ho).trans (hp o ho)) (fun j hj => by
          rw [eP, if_neg (by omega), if_neg (by omega)]
          exact hs j (by omega))
      rw [e] at this
      rw [List.length_append] at this
      refine this (fun j m hj => ?_)
      rw [eP]
      by_cases hjT : j < T.length
      · rw [List.getElem?_append_left hjT] at hj
        rw [if_neg (by omega), if_neg (by omega)]
        exact hr j m hj
      · have hjl := d_get_lt hj
        rw [List.length_append] at hjl
        have hje : j = T.length := by
          have : j < T.length + 1 := hjl
          omega
        subst hje
        rw [List.getElem?_append_right (Nat.le_refl _), Nat.sub_self] at hj
        cases hj
        rw [if_pos rfl, hs k (Nat.le_refl _)]
        exact hr0
theorem d_drop {I : q_I} {P : q_P} {c n : Nat} {L : List (Nat → Nat)} (hc : d_cal I P c n L) (hn : n ≤ 24) (x : Int32) : ∃ I' P', f_Cal_drop I P c n x = some (I', P') ∧ d_cal I' P' c n (L.filter (d_not x)) ∧ d_fr c n I I' ∧ d_pr (c + 1) P P' := by
  have h0 := hc
  obtain ⟨h1, h2, h3, h4⟩ := hc
  obtain ⟨P2, e, g1, g2, g3⟩ := d_dropL h0 hn x (fun (x3 : Int32) (P4 : q_P) => q_l (q_ui I c 1 x3) (fun I1 => some (I1, P4))) L.length 0 q_fu P (by omega) (d_q (by omega)) h3 (fun _ _ => rfl) (fun _ _ => rfl) (fun j m hj => by simp at hj)
  refine ⟨q_ui I c 1 (nI (L.filter (d_not x)).length), P2, ?_, ⟨?_, ?_, g1, ?_⟩, ?_, g2⟩
  · unfold f_Cal_drop
    have e' : f_Cal_drop_L1 I c n x (fun (x3 : Int32) (P4 : q_P) => q_l (q_ui I c 1 x3) (fun I1 => some (I1, P4))) q_fu 0 0 P = _ := e
    rw [e']
    rfl
  · unfold q_ui
    rw [if_pos rfl]
    exact pk_us
  · exact Nat.le_trans (List.length_filter_le _ _) h2
  · intro k m hk
    have hkl := d_get_lt hk
    have := List.length_filter_le (d_not x) L
    have := g1.1 k (by omega)
    unfold q_ui
    rw [if_neg (by omega)]
    exact g3 k m hk
  · intro o ho
    unfold q_ui
    rw [if_neg (by omega)]
theorem d_copyL {P : q_P} {c n c2 n2 : Nat} {L : List (Nat → Nat)} (hn : n ≤ 24) (hn2 : n2 ≤ 24) (hl : L.length ≤ n) (hl2 : L.length ≤ n2) (hi : d_inj P (c + 1) n) (hi2 : d_inj P (c2 + 1) n2) (hd : c2 + 2 + n2 ≤ c ∨ c + 2 + n ≤ c2) :
    ∀ (d k fu : Nat) (I : q_I), k + d = L.length → d < fu → I c 1 = nI L.length → (∀ k m, L[k]? = some m → d_row (I (c2 + 2 + P (c2 + 1) k)) m) → (∀ j m, j < k → L[j]? = some m → d_row (I (c + 2 + P (c + 1) j)) m) → ∃ I', f_Cal_copyFrom_L1 P c n c2 n2 fu (nI k) I = some I' ∧ d_cal I' P c n L ∧ d_fr c n I I' := by
  intro d
  induction d with
  | zero =>
    intro k fu I hk hf h1 h2 h3
    obtain ⟨fu, rfl, -⟩ := d_fuel hf
    refine ⟨I, ?_, ⟨h1, hl, hi, fun j m hj => h3 j m (by have := d_get_lt hj; omega) hj⟩, d_fr_rf⟩
    unfold f_Cal_copyFrom_L1
    rw [h1, if_pos (nI_le (by omega) (by omega))]
  | succ d ih =>
    intro k fu I hk hf h1 h2 h3
    obtain ⟨fu, rfl, hf⟩ := d_fuel hf
    have hkl : k < L.length := by omega
    have hr := hi.1 k (by omega)
    have hr2 := hi2.1 k (by omega)
    obtain ⟨I1, e1, e2, e3⟩ := d_cp (I := I) (a := c + 2 + P (c + 1) k) (b := c2 + 2 + P (c2 + 1) k) (by omega)
    obtain ⟨I', g1, g2, g3⟩ := ih (k + 1) fu I1 (by omega) (by omega) (by rw [e2 c (by omega)]; exact h1) (fun j m hj => by
      have hjl := d_get_lt hj
      have := hi2.1 j (by omega)
      rw [e2 _ (by omega)]
      exact h2 j m hj) (fun j m hjk hj => by
      have hjl := d_get_lt hj
      by_cases hjk' : j = k
      · subst hjk'
        intro f hf
        rw [e3 f hf]
        exact h2 j m hj f hf
      · rw [e2 _ (fun e => hjk' (hi.2 j k (by omega) (by omega) (by omega)))]
        exact h3 j m (by omega) hj)
    refine ⟨I', ?_, g2, d_fr_tr (fun o ho => e2 o (by omega)) g3⟩
    unfold f_Cal_copyFrom_L1
    rw [h1, if_neg (nI_ge hkl (by omega)), d_ix (by omega) (by omega), d_ix (by omega) (by omega), e1, d_b1, nI_1]
    exact g1
theorem d_copy {I : q_I} {P : q_P} {c n c2 n2 : Nat} {L : List (Nat → Nat)} (hn : n ≤ 24) (hn2 : n2 ≤ 24) (hc : d_cal I P c2 n2 L) (hl : L.length ≤ n) (hi : d_inj P (c + 1) n) (hd : c2 + 2 + n2 ≤ c ∨ c + 2 + n ≤ c2) : ∃ I', f_Cal_copyFrom I P c n c2 n2 = some I' ∧ d_cal I' P c n L ∧ d_fr c n I I' := by
  obtain ⟨h1, h2, h3, h4⟩ := hc
  have es : (if (if (nI n2) < (nI n) then (nI n2) else (nI n)) < (I c2 1) then (if (nI n2) < (nI n) then (nI n2) else (nI n)) else (I c2 1)) = nI L.length := by
    rw [h1]
    have hmin : (if (nI n2) < (nI n) then (nI n2) else (nI n)) = nI (min n2 n) := by
      by_cases h : n2 < n
      · rw [if_pos (nI_lt h (by omega)), Nat.min_eq_left (by omega)]
      · rw [if_neg (nI_nlt (by omega) (by omega)), Nat.min_eq_right (by omega)]
    rw [hmin, if_neg (nI_nlt (by omega) (by omega))]
  unfold f_Cal_copyFrom
  rw [es, d_l]
  have e1 : ∀ o, o ≠ c → q_ui I c 1 (nI L.length) o = I o := fun o ho => if_neg ho
  obtain ⟨I', g1, g2, g3⟩ := d_copyL (c := c) (n := n) hn hn2 hl h2 hi h3 hd L.length 0 q_fu (q_ui I c 1 (nI L.length)) (by omega) (d_q (by omega)) (by
    unfold q_ui
    rw [if_pos rfl]
    exact pk_us) (fun k m hk => by
    have hkl := d_get_lt hk
    have := h3.1 k (by omega)
    rw [e1 _ (by omega)]
    exact h4 k m hk) (fun j m hj => by omega)
  exact ⟨I', g1, g2, d_fr_tr (fun o ho => e1 o (by omega)) g3⟩
/-- the values that a meeting may have -/
def d_mt (m : Nat → Nat) : Prop := m 1 ≤ 95 ∧ (1 ≤ m 2 ∧ m 2 ≤ 8) ∧ m 3 ≤ 3 ∧ m 4 ≤ 63 ∧ m 5 ≤ 99 ∧ (1 ≤ m 6 ∧ m 6 ≤ 4) ∧ m 0 ≤ 100000
def d_end (m : Nat → Nat) : Nat := m 1 + (m 6 - 1) * m 5 + m 2
theorem d_end_le {m : Nat → Nat} (h : d_mt m) : d_end m ≤ 400 := by
  unfold d_mt at h
  unfold d_end
  have : (m 6 - 1) * m 5 ≤ 3 * 99 := Nat.mul_le_mul (by omega) (by omega)
  omega
theorem d_endC {I : q_I} {a : Nat} {m : Nat → Nat} (hr : d_row (I a) m) (hm : d_mt m) : f_Me_end I a = some (nI (d_end m)) := by
  unfold f_Me_end d_end
  unfold d_mt at hm
  rw [hr 1 (by omega), hr 2 (by omega), hr 5 (by omega), hr 6 (by omega), show (1 : Int32) = nI 1 from rfl, pk_sub (by omega), pk_mul, nI_add, nI_add]
/-- what an order asks of a calendar -/
def d_keeps (L : List (Nat → Nat)) (x y : Int32) : Prop := ∀ i j a b, d_find L x = some i → d_find L y = some j → L[i]? = some a → L[j]? = some b → d_end a ≤ b 1
theorem d_keepsC {I : q_I} {P : q_P} {c n : Nat} {L : List (Nat → Nat)} (hc : d_cal I P c n L) (hn : n ≤ 24) (hm : ∀ m, m ∈ L → d_mt m) (hk : ∀ k, k < n → cM (c + 2 + k) = true) (x y : Int32) : ∃ v, f_Cal_keepsOrder I P c n x y = some v ∧ (v = 0 ∨ v = 1) ∧ (v = 1 ↔ d_keeps L x y) := by
  have hL := hc.2.1
  unfold f_Cal_keepsOrder
  rw [d_findC hc hn x, d_b1, d_findC hc hn y, d_b1]
  cases hi : d_find L x with
  | none => exact ⟨1, rfl, Or.inr rfl, fun _ => (fun i j a b h => by rw [hi] at h; cases h), fun _ => rfl⟩
  | some i =>
    have hil := d_find_lt hi
    have hPi := hc.2.2.1.1 i (by omega)
    show ∃ v, q_ck (cM (c + 2 + P (c + 1) i)) _ = some v ∧ _
    rw [hk _ hPi]
    unfold q_ck
    rw [if_pos rfl]
    cases hj : d_find L y with
    | none => exact ⟨1, rfl, Or.inr rfl, fun _ => (fun i j a b _ h => by rw [hj] at h; cases h), fun _ => rfl⟩
    | some j =>
      have hjl := d_find_lt hj
      have hPj := hc.2.2.1.1 j (by omega)
      show ∃ v, (if cM (c + 2 + P (c + 1) j) = true then _ else none) = some v ∧ _
      rw [hk _ hPj, if_pos rfl]
      have ra := hc.2.2.2 i _ (List.getElem?_eq_getElem hil)
      have rb := hc.2.2.2 j _ (List.getElem?_eq_getElem hjl)
      have ma := hm _ (List.getElem_mem hil)
      have mb := hm _ (List.getElem_mem hjl)
      have hea := d_end_le ma
      rw [d_endC ra ma, d_b1, rb 1 (by omega)]
      have key : d_keeps L x y ↔ d_end L[i] ≤ L[j] 1 := by
        constructor
        · intro h
          exact h i j _ _ hi hj (List.getElem?_eq_getElem hil) (List.getElem?_eq_getElem hjl)
        · intro h i' j' a b h1 h2 h3 h4
          rw [hi] at h1
          rw [hj] at h2
          cases h1
          cases h2
          rw [List.getElem?_eq_getElem hil] at h3
          rw [List.getElem?_eq_getElem hjl] at h4
          cases h3
          cases h4
          exact h
      unfold d_mt at mb
      by_cases hlt : L[j] 1 < d_end L[i]
      · refine ⟨0, if_pos (nI_lt hlt (by omega)), Or.inl rfl, fun h => absurd h (by decide), fun h => ?_⟩
        have := key.mp h
        omega
      · exact ⟨1, if_neg (nI_nlt (by omega) (by omega)), Or.inr rfl, fun _ => key.mpr (by omega), fun _ => rfl⟩
