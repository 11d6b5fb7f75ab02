/-! a set of old edits means the same when a new one is added -/
section DX
variable {n : Nat} {Ru : Nat → Nat → Nat} {no : Nat} {Of Os : Nat → Int32} {base : List (Nat → Nat)} {E E' : Nat → Nat → Nat}
theorem d_fm_x (hE : ∀ i, i < n → E' i = E i) {s : Nat} (hs : s < 2 ^ n) : ∀ k, d_fm base E' s k = d_fm base E s k := by
  intro k
  induction k with
  | zero => rfl
  | succ k ih =>
    unfold d_fm
    by_cases h : w_in s k
    · have := hE k (w_lt hs h)
      rw [if_pos h, if_pos h, ih, this]
    · rw [if_neg h, if_neg h, ih]
theorem d_wt_x (hE : ∀ i, i < n → E' i = E i) {s : Nat} (hs : s < 2 ^ n) : ∀ k, d_wt E' s k = d_wt E s k := by
  intro k
  induction k with
  | zero => rfl
  | succ k ih =>
    unfold d_wt
    by_cases h : w_in s k
    · have := hE k (w_lt hs h)
      rw [if_pos h, if_pos h, ih, this]
    · rw [if_neg h, if_neg h, ih]
theorem d_nn_x (hE : ∀ i, i < n → E' i = E i) {i j : Nat} (hj : j < n) : d_nn E' i j ↔ d_nn E i j := by
  unfold d_nn
  rw [hE j hj]
  constructor
  · rintro ⟨h1, h2, h3⟩
    rw [hE i (by omega)] at h2 h3
    exact ⟨h1, h2, h3⟩
  · rintro ⟨h1, h2, h3⟩
    rw [hE i (by omega)]
    exact ⟨h1, h2, h3⟩
theorem d_cl_x (hE : ∀ i, i < n → E' i = E i) {i j : Nat} (hi : i < n) (hj : j < n) : d_cl E' i j ↔ d_cl E i j := by
  unfold d_cl
  rw [hE i hi, hE j hj]
theorem d_us_x (hE : ∀ i, i < n → E' i = E i) {k U : Nat} (hk : k < 2 ^ n) (h : d_us E k U) : d_us E' k U := by
  intro j
  rw [h j]
  constructor
  · rintro ⟨h1, h2⟩
    exact ⟨h1, fun i hi => h2 i ((d_nn_x hE (w_lt hk h1)).mp hi)⟩
  · rintro ⟨h1, h2⟩
    exact ⟨h1, fun i hi => h2 i ((d_nn_x hE (w_lt hk h1)).mpr hi)⟩
theorem d_adm_x (hE : ∀ i, i < n → E' i = E i) {s : Nat} (hs : s < 2 ^ n) : d_adm Ru no Of Os base E' s ↔ d_adm Ru no Of Os base E s := by
  have hK : ∀ i j, w_in s i → w_in s j → d_K E' i j = d_K E i j := fun i j hi hj => by
    unfold d_K
    have := d_cl_x hE (w_lt hs hi) (w_lt hs hj)
    have := d_cl_x hE (w_lt hs hj) (w_lt hs hi)
    congr 1
    simp only [*]
  have hN : ∀ i k, w_in s i → d_N E' i k = d_N E i k := fun i k hi => by
    unfold d_N
    rw [d_nn_x hE (w_lt hs hi)]
  have hv : d_val Ru no Of Os base E' s ↔ d_val Ru no Of Os base E s := by
    unfold d_val
    rw [d_fm_x hE hs]
  constructor
  · rintro ⟨h1, h2, h3⟩
    exact ⟨fun i j hi hj => by rw [← hK i j hi hj]; exact h1 i j hi hj, fun i k hi hk => h2 i k hi (by rw [hN i k hi]; exact hk), hv.mp h3⟩
  · rintro ⟨h1, h2, h3⟩
    exact ⟨fun i j hi hj => by rw [hK i j hi hj]; exact h1 i j hi hj, fun i k hi hk => h2 i k hi (by rw [← hN i k hi]; exact hk), hv.mpr h3⟩
theorem d_us_sub {k U : Nat} (h : d_us E k U) : w_sub U k := fun i hi => ((h i).mp hi).1
theorem d_acc_x (hE : ∀ i, i < n → E' i = E i) {k req s : Nat} (hk : k < 2 ^ n) (h : d_acc1 Ru no Of Os base E k req (some s)) : d_acc1 Ru no Of Os base E' k req (some s) := by
  obtain ⟨U, h1, h2, h3, h4, h5⟩ := h
  have hU : U < 2 ^ n := w_sub_lt (d_us_sub h1) hk
  have hs := w_sub_lt h4 hU
  refine ⟨U, d_us_x hE hk h1, (d_adm_x hE hs).mpr h2, h3, h4, fun t q1 q2 q3 => ?_⟩
  have ht := w_sub_lt q3 hU
  have := h5 t ((d_adm_x hE ht).mp q1) q2 q3
  unfold d_w at this ⊢
  rw [d_wt_x hE ht, d_wt_x hE hs]
  exact this
end DX
/-! how a new edit stands to the old ones -/
theorem d_jj {α ρ : Type} {a : α} {K : α → Option ρ} : q_jj a K = K a := rfl
theorem d_q0 {k : Nat} (hk : k < 2 ^ 31) : nI k = 0 ↔ k = 0 := nI_eq (b := 0) hk (by decide)
theorem d_q1 {k : Nat} (hk : k < 2 ^ 31) : nI k = 1 ↔ k = 1 := nI_eq (b := 1) hk (by decide)
theorem d_q4 {k : Nat} (hk : k < 2 ^ 31) : nI k = 4 ↔ k = 4 := nI_eq (b := 4) hk (by decide)
theorem d_q5 {k : Nat} (hk : k < 2 ^ 31) : nI k = 5 ↔ k = 5 := nI_eq (b := 5) hk (by decide)
theorem d_q6 {k : Nat} (hk : k < 2 ^ 31) : nI k = 6 ↔ k = 6 := nI_eq (b := 6) hk (by decide)
theorem d_cwth1 {I : q_I} {b a : Nat} {e g : Nat → Nat} (ha : I a 3 = nI (g 3)) (g3 : g 3 ≤ 6) : ∃ v, f_Ed_clashesWith I b a 1 = some v ∧ (v = 0 ∨ v = 1) ∧ (v = 1 ↔ g 3 = 6) := by
  unfold f_Ed_clashesWith
  rw [ha]
  by_cases h : g 3 = 6
  · rw [if_pos ((d_q6 (by omega)).mpr h)]
    exact ⟨1, rfl, Or.inr rfl, fun _ => h, fun _ => rfl⟩
  · rw [if_neg (fun z => h ((d_q6 (by omega)).mp z)), if_neg (by decide)]
    exact ⟨0, rfl, Or.inl rfl, fun z => absurd z (by decide), fun z => absurd z h⟩
theorem d_cwth0 {I : q_I} {b a : Nat} {e g : Nat → Nat} (hb : I b 3 = nI (e 3) ∧ I b 5 = nI (e 5)) (ha : I a 3 = nI (g 3) ∧ I a 5 = nI (g 5)) (g3 : g 3 ≤ 6) (g5 : g 5 ≤ 95) (e3 : e 3 ≤ 6) (e5 : e 5 ≤ 95) (e0 : e 3 ≠ 0) : ∃ v, f_Ed_clashesWith I b a 0 = some v ∧ (v = 0 ∨ v = 1) ∧ (v = 1 ↔ g 3 = 6 ∨ e 3 = 6 ∨ (g 3 = e 3 ∧ (g 3 = 1 ∨ g 3 = 2 ∨ g 3 = 3)) ∨ ((g 3 = 4 ∨ g 3 = 5) ∧ (e 3 = 4 ∨ e 3 = 5) ∧ g 5 = e 5)) := by
  have same : ∃ v, f_Ed_changesSame I b a = some v ∧ (v = 0 ∨ v = 1) ∧ (v = 1 ↔ ((e 3 = 4 ∨ e 3 = 5) ∧ (g 3 = 4 ∨ g 3 = 5) ∧ e 5 = g 5) ∨ (e 3 ≠ 4 ∧ e 3 ≠ 5 ∧ e 3 = g 3)) := by
    unfold f_Ed_changesSame
    rw [d_jj, d_jj, ha.1, hb.1, ha.2, hb.2]
    simp only [d_q4 (show e 3 < 2 ^ 31 by omega), d_q4 (show g 3 < 2 ^ 31 by omega), d_q5 (show e 3 < 2 ^ 31 by omega), d_q5 (show g 3 < 2 ^ 31 by omega), nI_eq (show e 5 < 2 ^ 31 by omega) (show g 5 < 2 ^ 31 by omega), nI_eq (show e 3 < 2 ^ 31 by omega) (show g 3 < 2 ^ 31 by omega)]
    repeat' split
    all_goals first
      | exact ⟨1, rfl, Or.inr rfl, fun _ => by omega, fun _ => rfl⟩
      | exact ⟨0, rfl, Or.inl rfl, fun z => absurd z (by decide), fun z => by omega⟩
  obtain ⟨v, ev, hv, hw⟩ := same
  unfold f_Ed_clashesWith
  rw [ha.1, hb.1, ev, d_b1]
  by_cases h : g 3 = 6
  · rw [if_pos ((d_q6 (by omega)).mpr h)]
    exact ⟨1, rfl, Or.inr rfl, fun _ => Or.inl h, fun _ => rfl⟩
  rw [if_neg (fun z => h ((d_q6 (by omega)).mp z)), if_pos rfl]
  by_cases h2 : e 3 = 6
  · rw [if_pos ((d_q6 (by omega)).mpr h2)]
    exact ⟨1, rfl, Or.inr rfl, fun _ => Or.inr (Or.inl h2), fun _ => rfl⟩
  rw [if_neg (fun z => h2 ((d_q6 (by omega)).mp z))]
  rcases hv with rfl | rfl
  · rw [if_pos rfl]
    refine ⟨0, rfl, Or.inl rfl, fun z => absurd z (by decide), fun z => ?_⟩
    exact absurd (hw.mpr (by omega)) (by decide)
  · rw [if_neg (by decide)]
    refine ⟨1, rfl, Or.inr rfl, fun _ => ?_, fun _ => rfl⟩
    have := hw.mp rfl
    omega
def d_up (E : Nat → Nat → Nat) (n : Nat) (e : Nat → Nat) : Nat → Nat → Nat := fun i => if i = n then e else E i
theorem d_up_s {E : Nat → Nat → Nat} {n : Nat} {e : Nat → Nat} : d_up E n e n = e := if_pos rfl
theorem d_up_n {E : Nat → Nat → Nat} {n : Nat} {e : Nat → Nat} {i : Nat} (h : i ≠ n) : d_up E n e i = E i := if_neg h
theorem d_up_lt {E : Nat → Nat → Nat} {n : Nat} {e : Nat → Nat} : ∀ i, i < n → d_up E n e i = E i := fun _ h => d_up_n (by omega)
theorem d_relL {n kr b : Nat} {E : Nat → Nat → Nat} {e : Nat → Nat} (hb : b = 27 + 2 * n) (hn : n < 12) (hkr : kr < 2 ^ n) (he6 : e 6 = kr) (heok : d_eok e) (hEok : ∀ i, i < n → d_eok (E i)) (h4 : ∀ i, i < n → E i 4 ≤ 100000) (hno : e 3 = 0 → ∀ i, i < n → E i 4 ≠ e 4) (huq : ∀ i j, i < n → j < n → d_nn (d_up E n e) i n → d_nn (d_up E n e) j n → i = j) :
    ∀ (d k fu : Nat) (I : q_I) (c m : Nat), k + d = n → d < fu → I 1 3 = nI n → (∀ i, i < n → ∀ f, f < 6 → I (1 + 26 + 2 * i) f = nI (E i f)) → (∀ f, f < 6 → I b f = nI (e f)) → I b 6 = nI c → c < 4096 → (∀ j, w_in c j ↔ j < k ∧ d_cl (d_up E n e) j n) → I b 7 = nI m → m < 4096 → (∀ j, w_in m j ↔ j < k ∧ d_nn (d_up E n e) j n) →
    ∃ I' c' m', f_Wo_relate_L1 1 b (nI kr) fu (nI k) I = some I' ∧ I' b 6 = nI c' ∧ c' < 4096 ∧ (∀ j, w_in c' j ↔ j < n ∧ d_cl (d_up E n e) j n) ∧ I' b 7 = nI m' ∧ m' < 4096 ∧ (∀ j, w_in m' j ↔ j < n ∧ d_nn (d_up E n e) j n) ∧ (∀ o, o ≠ b → I' o = I o) ∧ ∀ f, f < 6 → I' b f = I b f := by
  have h12 : (2 : Nat) ^ n ≤ 2 ^ 12 := Nat.pow_le_pow_right (by decide) (by omega)
  intro d
  induction d with
  | zero =>
    intro k fu I c m hk hf hsz hE he hc6 hc hcj hm7 hm hmj
    obtain ⟨fu, rfl, -⟩ := d_fuel hf
    have : k = n := by omega
    subst this
    refine ⟨I, c, m, ?_, hc6, hc, hcj, hm7, hm, hmj, fun _ _ => rfl, fun _ _ => rfl⟩
    unfold f_Wo_relate_L1
    rw [hsz, if_pos (nI_le (by omega) (by omega))]
  | succ d ih =>
    intro k fu I c m hk hf hsz hE he hc6 hc hcj hm7 hm hmj
    obtain ⟨fu, rfl, hf⟩ := d_fuel hf
    have hkn : k < n := by omega
    have hne : (1 + 26 + 2 * k) ≠ b := by omega
    have ek := hE k hkn
    have oke := hEok k hkn
    have h4k := h4 k hkn
    obtain ⟨z3, z2, z0, z4, z5, -⟩ := heok
    have split1 : ∀ j, j < k + 1 ↔ j < k ∨ j = k := fun j => by omega
    unfold f_Wo_relate_L1
    rw [hsz, if_neg (nI_ge hkn (by omega)), if_neg (d_g12 (by omega)), d_ix (by omega) (by omega), ek 4 (by omega), he 4 (by omega), nI_1]
    have un : d_up E n e n = e := d_up_s
    have uk : d_up E n e k = E k := d_up_n (by omega)
    by_cases q4 : E k 4 = e 4
    · have he0 : e 3 ≠ 0 := fun z => hno z k hkn q4
      obtain ⟨v1, v2, e1, e2, hv, hw⟩ : ∃ v1 v2, f_CR_contains (nI kr) (nI k) = some v1 ∧ f_Ed_clashesWith I b (1 + 26 + 2 * k) v1 = some v2 ∧ (v2 = 0 ∨ v2 = 1) ∧ (v2 = 1 ↔ d_cl (d_up E n e) k n) := by
        rw [dn_has (by omega) (by omega)]
        unfold d_cl
        rw [un, uk, he6]
        by_cases hin : w_in kr k
        · rw [if_pos hin]
          obtain ⟨v, x1, x2, x3⟩ := d_cwth1 (I := I) (b := b) (a := 1 + 26 + 2 * k) (e := e) (g := E k) (ek 3 (by omega)) oke.1
          refine ⟨1, v, rfl, x1, x2, x3.trans ⟨fun z => ⟨q4, Or.inl z⟩, fun z => z.2.elim id (fun z => absurd hin z.1)⟩⟩
        · rw [if_neg hin]
          obtain ⟨v, x1, x2, x3⟩ := d_cwth0 (I := I) (b := b) (a := 1 + 26 + 2 * k) (e := e) (g := E k) ⟨he 3 (by omega), he 5 (by omega)⟩ ⟨ek 3 (by omega), ek 5 (by omega)⟩ oke.1 oke.2.2.2.2.1 z3 z5 he0
          exact ⟨0, v, rfl, x1, x2, x3.trans ⟨fun z => ⟨q4, z.elim Or.inl (fun z => Or.inr ⟨hin, z⟩)⟩, fun z => z.2.elim Or.inl (fun z => Or.inr z.2)⟩⟩
      have hk31 : k < 31 := by omega
      obtain ⟨I4, c4, e4, y1, y2, y3, y4, y5⟩ : ∃ I4 c4, (if v2 = 0 then (some I) else (q_l (q_ui I b 6 (I b 6 ||| 1 <<< (nI k &&& 31))) (fun I6 => some I6)) : Option q_I) = some I4 ∧ I4 b 6 = nI c4 ∧ c4 < 4096 ∧ (∀ j, w_in c4 j ↔ j < k + 1 ∧ d_cl (d_up E n e) j n) ∧ (∀ o, o ≠ b → I4 o = I o) ∧ ∀ f, f ≠ 6 → I4 b f = I b f := by
        rcases hv with rfl | rfl
        · refine ⟨I, c, if_pos rfl, hc6, hc, fun j => ?_, fun _ _ => rfl, fun _ _ => rfl⟩
          rw [hcj j, split1]
          exact ⟨fun z => ⟨Or.inl z.1, z.2⟩, fun z => ⟨z.1.elim id (fun q => by subst q; exact absurd (hw.mpr z.2) (by decide)), z.2⟩⟩
        · refine ⟨q_ui I b 6 (nI (c ||| 2 ^ k)), c ||| 2 ^ k, ?_, d_ui_s, d_or12 hc (by omega), fun j => ?_, fun o ho => d_ui_o ho, fun f hf => d_ui_n hf⟩
          · have := dn_2lt (i := k) (n := 12) (by omega)
            rw [if_neg (by decide), d_l, hc6, dn_pos hk31, dn_or (by omega) (by omega)]
          · rw [w_in_or, w_in_2, hcj j, split1]
            constructor
            · rintro (z | rfl)
              · exact ⟨Or.inl z.1, z.2⟩
              · exact ⟨Or.inr rfl, hw.mp rfl⟩
            · rintro ⟨z1 | z1, z2⟩
              · exact Or.inl ⟨z1, z2⟩
              · exact Or.inr z1
      rw [if_pos (congrArg nI q4), e1, d_b1, e2, d_b1, e4, d_b1, y4 _ hne, ek 3 (by omega)]
      have fr : ∀ i, i < n → ∀ f, f < 6 → I4 (1 + 26 + 2 * i) f = nI (E i f) := fun i hi f hf => by rw [y4 _ (by omega)]; exact hE i hi f hf
      by_cases q3 : E k 3 = 0
      · have nnk : d_nn (d_up E n e) k n := by
          unfold d_nn
          rw [un, uk]
          exact ⟨hkn, q3, q4⟩
        have := dn_2lt (i := k) (n := 12) (by omega)
        rw [if_pos (show nI (E k 3) = 0 by rw [q3]; rfl), d_l, dn_pos hk31]
        obtain ⟨I', c', m', r1, r2, r3, r4, r5, r6, r7, r8, r9⟩ := ih (k + 1) fu (q_ui I4 b 7 (nI (2 ^ k))) c4 (2 ^ k) (by omega) (by omega) (by rw [d_ui_o (by omega), y4 1 (by omega)]; exact hsz) (fun i hi f hf => by rw [d_ui_o (by omega)]; exact fr i hi f hf) (fun f hf => by rw [d_ui_n (by omega), y5 f (by omega)]; exact he f hf) (by rw [d_ui_n (by decide)]; exact y1) y2 y3 d_ui_s (by omega) (fun j => by
          rw [w_in_2]
          constructor
          · rintro rfl
            exact ⟨by omega, nnk⟩
          · rintro ⟨z1, z2⟩
            exact huq j k (by have := z2.1; omega) hkn z2 nnk)
        exact ⟨I', c', m', r1, r2, r3, r4, r5, r6, r7, fun o ho => by rw [r8 o ho, d_ui_o ho, y4 o ho], fun f hf => by rw [r9 f hf, d_ui_n (by omega), y5 f (by omega)]⟩
      · rw [if_neg (d_n0 (by have := oke.1; omega) q3)]
        obtain ⟨I', c', m', r1, r2, r3, r4, r5, r6, r7, r8, r9⟩ := ih (k + 1) fu I4 c4 m (by omega) (by omega) (by rw [y4 1 (by omega)]; exact hsz) fr (fun f hf => by rw [y5 f (by omega)]; exact he f hf) y1 y2 y3 (by rw [y5 7 (by decide)]; exact hm7) hm (fun j => by
          rw [hmj j, split1]
          exact ⟨fun z => ⟨Or.inl z.1, z.2⟩, fun z => ⟨z.1.elim id (fun q => by
            subst q
            have := z.2.2.1
            rw [uk] at this
            exact absurd this q3), z.2⟩⟩)
        exact ⟨I', c', m', r1, r2, r3, r4, r5, r6, r7, fun o ho => by rw [r8 o ho, y4 o ho], fun f hf => by rw [r9 f hf, y5 f (by omega)]⟩
    · rw [if_neg (fun z => q4 ((nI_eq (by omega) (by omega)).mp z))]
      exact ih (k + 1) fu I c m (by omega) (by omega) hsz hE he hc6 hc (fun j => by
        rw [hcj j, split1]
        exact ⟨fun z => ⟨Or.inl z.1, z.2⟩, fun z => ⟨z.1.elim id (fun q => by
          subst q
          have := z.2.1
          rw [uk, un] at this
          exact absurd this q4), z.2⟩⟩) hm7 hm (fun j => by
        rw [hmj j, split1]
        exact ⟨fun z => ⟨Or.inl z.1, z.2⟩, fun z => ⟨z.1.elim id (fun q => by
          subst q
          have := z.2.2.2
          rw [uk, un] at this
          exact absurd this q4), z.2⟩⟩)
