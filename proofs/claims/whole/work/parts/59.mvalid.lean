/-! the reference: valid calendars -/
def d_mp (m : Nat → Nat) : Prop := m 1 ≤ 95 ∧ (1 ≤ m 2 ∧ m 2 ≤ 8) ∧ m 3 ≤ 3 ∧ m 4 ≤ 63 ∧ m 5 ≤ 99 ∧ (1 ≤ m 6 ∧ m 6 ≤ 4)
theorem d_mp_of {m : Nat → Nat} (h : d_mt m) : d_mp m := ⟨h.1, h.2.1, h.2.2.1, h.2.2.2.1, h.2.2.2.2.1, h.2.2.2.2.2.1⟩
theorem d_end_leP {m : Nat → Nat} (h : d_mp m) : d_end m ≤ 400 := by
  unfold d_mp at h
  unfold d_end
  have : (m 6 - 1) * m 5 ≤ 3 * 99 := Nat.mul_le_mul (by omega) (by omega)
  omega
theorem d_occ_leP {m : Nat → Nat} (hm : d_mp m) {t : Nat} (ht : t < m 6) : m 1 + t * m 5 + m 2 ≤ 1000 ∧ m 1 + t * m 5 + m 2 ≤ d_end m := by
  unfold d_mp at hm
  have : t * m 5 ≤ (m 6 - 1) * m 5 := Nat.mul_le_mul_right _ (by omega)
  have : (m 6 - 1) * m 5 ≤ 3 * 99 := Nat.mul_le_mul (by omega) (by omega)
  unfold d_end
  omega
theorem d_mlastP {M : q_I} {L : List (Nat → Nat)} (hc : d_mc M L) {k : Nat} {m : Nat → Nat} (hk : L[k]? = some m) (hm : d_mp m) : f_Mo_lastSlot M (nI k) = some (nI (d_end m - 1)) := by
  have hkl := d_get_lt hk
  have hL := hc.2.1
  have hr := hc.2.2 k m hk
  have hm' := hm
  unfold d_mp at hm'
  unfold f_Mo_lastSlot
  rw [d_mm1, d_b1, d_ix (by omega) (by omega), d_mm6, d_b1, d_ix (by omega) (by omega), d_mm5, d_b1, d_ix (by omega) (by omega), d_mm2, d_b1, d_ix (by omega) (by omega)]
  rw [hr 1 (by omega), hr 6 (by omega), hr 5 (by omega), hr 2 (by omega), show (1 : Int32) = nI 1 from rfl, pk_sub (by omega), pk_mul, nI_add, nI_add, pk_sub (by omega)]
  rfl
theorem d_mslE (a b c : Int32) : f_Mo_slots a b c = f_TT_bits (a - c) (b - c) := by
  unfold f_Mo_slots f_TT_bits
  congr 1
  funext x1
  congr 1
  funext x2
  by_cases h : x1 < x2
  · rw [if_pos h, if_neg (Int32.not_le.mpr h)]
  · rw [if_neg h, if_pos (Int32.not_lt.mp h)]
theorem d_ms0 {f t : Nat} (hf : f ≤ 1000) (ht : t ≤ 1000) : ∃ x, f_Mo_slots (nI f) (nI t) 0 = some x ∧ dn_lg x (fun i => d_rg f t i) := by
  obtain ⟨x, y, e1, e2, h1, h2⟩ := d_bits2 hf ht
  refine ⟨x, ?_, h1⟩
  rw [d_mslE, Int32.sub_zero, Int32.sub_zero]
  exact e1
theorem d_ms48 {f t : Nat} (hf : f ≤ 1000) (ht : t ≤ 1000) : ∃ y, f_Mo_slots (nI f) (nI t) 48 = some y ∧ dn_lg y (fun i => d_rg f t (i + 48)) := by
  obtain ⟨x, y, e1, e2, h1, h2⟩ := d_bits2 hf ht
  exact ⟨y, by rw [d_mslE]; exact e2, h2⟩
def d_lh (J : q_J) (k : Nat) (S : Nat → Prop) : Prop := dn_lg (J 7 k) (fun i => S i) ∧ dn_lg (J 8 k) (fun i => S (i + 48))
def d_lf (k : Nat) (J J' : q_J) : Prop := ∀ o j, j ≠ k → J' o j = J o j
theorem d_lf_rf {k : Nat} {J : q_J} : d_lf k J J := fun _ _ _ => rfl
theorem d_lf_tr {k : Nat} {J J1 J2 : q_J} (h1 : d_lf k J J1) (h2 : d_lf k J1 J2) : d_lf k J J2 := fun o j h => (h2 o j h).trans (h1 o j h)
theorem d_lf_uj {J : q_J} {o k : Nat} {x : Int64} : d_lf k J (q_uj J o k x) := fun a j h => by
  unfold q_uj
  split
  · next e => subst e; exact pk_uLn h
  · rfl
section DM
variable {M : q_I} {L : List (Nat → Nat)}
theorem d_mslotsL (hc : d_mc M L) {k : Nat} {m : Nat → Nat} (hk : L[k]? = some m) (hm : d_mp m) : ∀ (d i fu : Nat) (J : q_J), i + d = m 6 → d < fu → d_lh J k (fun s => d_sl m i s) → ∃ J', f_Mo_findSlots_L1 M (nI k) fu (nI i) J = some J' ∧ d_lh J' k (fun s => d_S m s) ∧ d_lf k J J' := by
  have hkl := d_get_lt hk
  have hL := hc.2.1
  have hr := hc.2.2 k m hk
  have hm' := hm
  unfold d_mp at hm'
  intro d
  induction d with
  | zero =>
    intro i fu J hi hf h
    obtain ⟨fu, rfl, -⟩ := d_fuel hf
    have : i = m 6 := by omega
    subst this
    refine ⟨J, ?_, h, d_lf_rf⟩
    unfold f_Mo_findSlots_L1
    rw [d_mm6, d_b1, d_ix (by omega) (by omega), hr 6 (by omega), if_pos (Int32.le_refl _)]
  | succ d ih =>
    intro i fu J hi hf h
    obtain ⟨fu, rfl, hf⟩ := d_fuel hf
    have hi6 : i < m 6 := by omega
    have hoc := d_occ_leP hm hi6
    obtain ⟨x, e1, h1⟩ := d_ms0 (f := m 1 + i * m 5) (t := m 1 + i * m 5 + m 2) (by omega) (by omega)
    obtain ⟨y, e2, h2⟩ := d_ms48 (f := m 1 + i * m 5) (t := m 1 + i * m 5 + m 2) (by omega) (by omega)
    unfold f_Mo_findSlots_L1
    rw [d_mm6, d_b1, d_ix (by omega) (by omega), hr 6 (by omega), if_neg (nI_ge hi6 (by omega)), d_mm1, d_b1, d_ix (by omega) (by omega), d_mm5, d_b1, d_ix (by omega) (by omega), hr 1 (by omega), hr 5 (by omega), pk_mul, nI_add, d_l, d_ix (by omega) (by omega), d_mm2, d_b1, d_ix (by omega) (by omega), hr 2 (by omega), nI_add, e1, d_b1, d_ix (by omega) (by omega), d_l, d_ix (by omega) (by omega), d_b1, d_ix (by omega) (by omega), hr 2 (by omega), nI_add, e2, d_b1, d_ix (by omega) (by omega), d_l, nI_1]
    have q7 : q_uj (q_uj J 7 k (J 7 k ||| x)) 8 k (q_uj J 7 k (J 7 k ||| x) 8 k ||| y) 7 k = J 7 k ||| x := by
      unfold q_uj
      rw [if_neg (by decide), if_pos rfl]
      exact pk_uLs
    have q8 : q_uj (q_uj J 7 k (J 7 k ||| x)) 8 k (q_uj J 7 k (J 7 k ||| x) 8 k ||| y) 8 k = J 8 k ||| y := by
      unfold q_uj
      rw [if_pos rfl, if_neg (by decide)]
      exact pk_uLs
    have hsl : ∀ s, d_sl m (i + 1) s ↔ d_sl m i s ∨ d_occ m i s := by
      intro s
      constructor
      · rintro ⟨t, q1, q2⟩
        by_cases htk : t = i
        · rw [htk] at q2; exact Or.inr q2
        · exact Or.inl ⟨t, by omega, q2⟩
      · rintro (⟨t, q1, q2⟩ | q)
        · exact ⟨t, by omega, q2⟩
        · exact ⟨i, by omega, q⟩
    obtain ⟨J', g1, g2, g3⟩ := ih (i + 1) fu (q_uj (q_uj J 7 k (J 7 k ||| x)) 8 k (q_uj J 7 k (J 7 k ||| x) 8 k ||| y)) (by omega) (by omega) ⟨by
        rw [q7]
        exact dn_lgcongr (dn_lgor h.1 h1) (fun s _ => (hsl s).symm), by
        rw [q8]
        exact dn_lgcongr (dn_lgor h.2 h2) (fun s _ => (hsl (s + 48)).symm)⟩
    exact ⟨J', g1, g2, d_lf_tr (d_lf_tr d_lf_uj d_lf_uj) g3⟩
theorem d_mslots {J : q_J} (hc : d_mc M L) {k : Nat} {m : Nat → Nat} (hk : L[k]? = some m) (hm : d_mp m) : ∃ J', f_Mo_findSlots M J (nI k) = some J' ∧ d_lh J' k (fun s => d_S m s) ∧ d_lf k J J' := by
  have hkl := d_get_lt hk
  have hL := hc.2.1
  have hm' := hm
  unfold d_mp at hm'
  have q7 : q_uj (q_uj J 7 k 0) 8 k 0 7 k = 0 := by
    unfold q_uj
    rw [if_neg (by decide), if_pos rfl]
    exact pk_uLs
  have q8 : q_uj (q_uj J 7 k 0) 8 k 0 8 k = 0 := by
    unfold q_uj
    rw [if_pos rfl]
    exact pk_uLs
  obtain ⟨J', g1, g2, g3⟩ := d_mslotsL hc hk hm (m 6) 0 q_fu (q_uj (q_uj J 7 k 0) 8 k 0) (by omega) (d_q (by omega)) ⟨by
    rw [q7]
    exact dn_lgcongr dn_lg0 (fun s _ => ⟨fun q => q.elim, fun q => by obtain ⟨t, ht, -⟩ := q; omega⟩), by
    rw [q8]
    exact dn_lgcongr dn_lg0 (fun s _ => ⟨fun q => q.elim, fun q => by obtain ⟨t, ht, -⟩ := q; omega⟩)⟩
  refine ⟨J', ?_, g2, d_lf_tr (d_lf_tr d_lf_uj d_lf_uj) g3⟩
  unfold f_Mo_findSlots
  rw [d_ix (by omega) (by omega), d_l, d_ix (by omega) (by omega), d_l]
  exact g1
theorem d_meets {J : q_J} {k f t : Nat} {S : Nat → Prop} (hk : k < 25) (hf : f ≤ 1000) (ht : t ≤ 1000) (h : d_lh J k S) : ∃ v, f_Mo_meets J (nI k) (nI f) (nI t) = some v ∧ (v = 0 ∨ v = 1) ∧ (v = 0 ↔ ∀ i, i < 96 → ¬ (S i ∧ d_rg f t i)) := by
  obtain ⟨x, e1, h1⟩ := d_ms0 hf ht
  obtain ⟨y, e2, h2⟩ := d_ms48 hf ht
  have z1 := dn_lgand h.1 h1
  have z2 := dn_lgand h.2 h2
  unfold f_Mo_meets
  rw [d_ix hk (by omega), e1, d_b1]
  by_cases q1 : lg_cmp (J 7 k &&& x) 0 = 0
  · rw [if_pos q1, d_ix hk (by omega), e2, d_b1]
    by_cases q2 : lg_cmp (J 8 k &&& y) 0 = 0
    · rw [if_pos q2]
      refine ⟨0, rfl, Or.inl rfl, fun _ i hi q => ?_, fun _ => rfl⟩
      by_cases hi48 : i < 48
      · exact (z1.mp q1) i hi48 q
      · have := (z2.mp q2) (i - 48) (by omega)
        rw [show i - 48 + 48 = i by omega] at this
        exact this q
    · rw [if_neg q2]
      refine ⟨1, rfl, Or.inr rfl, fun q => absurd q (by decide), fun q => absurd (z2.mpr (fun i hi => ?_)) q2⟩
      exact q (i + 48) (by omega)
  · rw [if_neg q1]
    refine ⟨1, rfl, Or.inr rfl, fun q => absurd q (by decide), fun q => absurd (z1.mpr (fun i hi => ?_)) q1⟩
    exact q i (by omega)
theorem d_wellL {J : q_J} {Ru : Nat → Nat → Nat} {k : Nat} {m : Nat → Nat} (hrv : d_rv Ru) (hv : ∀ x, x < 6 → M 1 (20 + x) = nI (Ru 3 x) ∧ M 1 (26 + x) = nI (Ru 4 x)) (hk : k < 25) (hm : d_mp m) (h : d_lh J k (fun s => d_S m s)) :
    ∀ (d p fu : Nat) (x : Int32), p + d = 6 → d < fu → (x = 0 ∨ x = 1) → ∃ v, f_Mo_isWell_L1 M (nI k) (nI (m 4)) J fu x (nI p) = some (v, J) ∧ (v = 0 ∨ v = 1) ∧ (v = 1 ↔ x = 1 ∧ ∀ q, p ≤ q → q < 6 → w_in (m 4) q → ∀ i, i < 96 → ¬ (d_S m i ∧ d_rg (Ru 3 q) (Ru 4 q) i)) := by
  have hm' := hm
  unfold d_mp at hm'
  intro d
  induction d with
  | zero =>
    intro p fu x hp hf hx
    obtain ⟨fu, rfl, -⟩ := d_fuel hf
    have : p = 6 := by omega
    subst this
    refine ⟨x &&& 1, ?_, ?_, ?_⟩
    · unfold f_Mo_isWell_L1
      rw [if_pos (show (6 : Int32) ≤ nI 6 by decide)]
    · rcases hx with rfl | rfl
      · exact Or.inl rfl
      · exact Or.inr rfl
    · rcases hx with rfl | rfl
      · exact ⟨fun q => absurd q (by decide), fun q => absurd q.1 (by decide)⟩
      · exact ⟨fun _ => ⟨rfl, fun q h1 h2 => by omega⟩, fun _ => rfl⟩
  | succ d ih =>
    intro p fu x hp hf hx
    obtain ⟨fu, rfl, hf⟩ := d_fuel hf
    have hp6 : p < 6 := by omega
    have hxx := hv p hp6
    have hb := hrv.2 p hp6
    have step : ∀ (y : Int32), (y = 0 ∨ y = 1) → (y = 1 ↔ x = 1 ∧ (w_in (m 4) p → ∀ i, i < 96 → ¬ (d_S m i ∧ d_rg (Ru 3 p) (Ru 4 p) i))) → ∃ v, f_Mo_isWell_L1 M (nI k) (nI (m 4)) J fu y (nI (p + 1)) = some (v, J) ∧ (v = 0 ∨ v = 1) ∧ (v = 1 ↔ x = 1 ∧ ∀ q, p ≤ q → q < 6 → w_in (m 4) q → ∀ i, i < 96 → ¬ (d_S m i ∧ d_rg (Ru 3 q) (Ru 4 q) i)) := by
      intro y hy hyx
      obtain ⟨v, e, g1, g2⟩ := ih (p + 1) fu y (by omega) (by omega) hy
      refine ⟨v, e, g1, g2.trans ?_⟩
      rw [hyx]
      constructor
      · rintro ⟨⟨q1, q2⟩, q3⟩
        refine ⟨q1, fun q h1 h2 => ?_⟩
        by_cases hqp : q = p
        · subst hqp; exact q2
        · exact q3 q (by omega) h2
      · rintro ⟨q1, q2⟩
        exact ⟨⟨q1, q2 p (Nat.le_refl _) hp6⟩, fun q h1 => q2 q (by omega)⟩
    unfold f_Mo_isWell_L1
    rw [if_neg (d_g6 hp6)]
    rcases hx with rfl | rfl
    · rw [if_pos rfl, nI_1]
      exact step 0 (Or.inl rfl) ⟨fun q => absurd q (by decide), fun q => absurd q.1 (by decide)⟩
    · rw [if_neg (show ¬ (1 : Int32) = 0 by decide)]
      by_cases hw : w_in (m 4) p
      · rw [if_neg (fun q => ((dn_b0 (by omega) (by omega)).mp q) hw), d_k20, d_k26, d_ix (by omega) (by omega), d_ix (by omega) (by omega), hxx.1, hxx.2]
        obtain ⟨v, e, g1, g2⟩ := d_meets hk (f := Ru 3 p) (t := Ru 4 p) (by omega) (by omega) h
        rw [e, d_b1, nI_1]
        rcases g1 with rfl | rfl
        · rw [if_pos rfl]
          exact step 1 (Or.inr rfl) ⟨fun _ => ⟨rfl, fun _ => g2.mp rfl⟩, fun _ => rfl⟩
        · rw [if_neg (show ¬ (1 : Int32) = 0 by decide)]
          exact step 0 (Or.inl rfl) ⟨fun q => absurd q (by decide), fun q => absurd (g2.mpr (q.2 hw)) (by decide)⟩
      · rw [if_pos ((dn_b0 (by omega) (by omega)).mpr hw), nI_1]
        exact step 1 (Or.inr rfl) ⟨fun _ => ⟨rfl, fun q => absurd q hw⟩, fun _ => rfl⟩
theorem d_well_iff {Ru : Nat → Nat → Nat} {m : Nat → Nat} (hm : d_mp m) : d_well Ru m ↔ d_ok1 Ru m ∧ (∀ i, i < 96 → ¬ (d_S m i ∧ d_rg (Ru 1 (m 3)) (Ru 2 (m 3)) i)) ∧ ∀ q, q < 6 → w_in (m 4) q → ∀ i, i < 96 → ¬ (d_S m i ∧ d_rg (Ru 3 q) (Ru 4 q) i) := by
  unfold d_mp at hm
  unfold d_well
  constructor
  · rintro ⟨h1, h2⟩
    refine ⟨h1, fun i hi q => h2 (m 3) (by omega) (d_rows_in.mpr (Or.inl rfl)) i hi ⟨Or.inl ⟨by omega, q.2⟩, q.1⟩, fun q hq hw i hi p => h2 (4 + q) (by omega) (d_rows_in.mpr (Or.inr ⟨by omega, by rw [Nat.add_sub_cancel_left]; exact hw⟩)) i hi ⟨Or.inr ⟨by omega, by rw [Nat.add_sub_cancel_left]; exact p.2⟩, p.1⟩⟩
  · rintro ⟨h1, h2, h3⟩
    refine ⟨h1, fun r hr hw i hi p => ?_⟩
    rcases d_rows_in.mp hw with rfl | ⟨q1, q2⟩
    · rcases p.1 with q | q
      · exact h2 i hi ⟨p.2, q.2⟩
      · omega
    · rcases p.1 with q | q
      · omega
      · exact h3 (r - 4) (by omega) q2 i hi ⟨p.2, q.2⟩
theorem d_isWell {J : q_J} {Ru : Nat → Nat → Nat} {k : Nat} {m : Nat → Nat} (hc : d_mc M L) (hk : L[k]? = some m) (hm : d_mp m) (hrv : d_rv Ru) (hv1 : ∀ x, x < 4 → M 1 (8 + x) = nI (Ru 0 x) ∧ M 1 (12 + x) = nI (Ru 1 x) ∧ M 1 (16 + x) = nI (Ru 2 x)) (hv2 : ∀ x, x < 6 → M 1 (20 + x) = nI (Ru 3 x) ∧ M 1 (26 + x) = nI (Ru 4 x)) :
    ∃ v J', f_Mo_isWell M J (nI k) = some (v, J') ∧ (v = 0 ∨ v = 1) ∧ (v = 1 ↔ d_well Ru m) ∧ (v = 1 → d_lh J' k (fun s => d_S m s)) ∧ d_lf k J J' := by
  have hkl := d_get_lt hk
  have hL := hc.2.1
  have hr := hc.2.2 k m hk
  have hm' := hm
  unfold d_mp at hm'
  have hel := d_end_leP hm
  have hx := hv1 (m 3) (by omega)
  have hb := hrv.1 (m 3) (by omega)
  have hcl := dn_cnt_le (s := m 4)
  have hend : 1 ≤ d_end m := by unfold d_end; omega
  rw [d_well_iff hm]
  unfold d_ok1
  have no : (∀ (P : Prop), ¬ P → ((0 : Int32) = 1 ↔ P)) := fun P h => ⟨fun q => absurd q (by decide), fun q => absurd q h⟩
  have bad : ∀ (P : Prop), ¬ P → ∃ v J', (some ((0 : Int32), J) : Option (Int32 × q_J)) = some (v, J') ∧ (v = 0 ∨ v = 1) ∧ (v = 1 ↔ P) ∧ (v = 1 → d_lh J' k (fun s => d_S m s)) ∧ d_lf k J J' := fun P h => ⟨0, J, rfl, Or.inl rfl, no P h, fun q => absurd q (by decide), d_lf_rf⟩
  unfold f_Mo_isWell
  rw [d_mm3, d_b1, d_ix (by omega) (by omega), hr 3 (by omega), d_l, d_mm4, d_b1, d_ix (by omega) (by omega), hr 4 (by omega), d_l, d_mlastP hc hk hm, d_b1]
  by_cases h1 : d_end m ≤ 96
  · rw [if_neg (show ¬ (95 : Int32) < nI (d_end m - 1) from nI_nlt (a := 95) (by omega) (by decide)), d_mm6, d_b1, d_ix (by omega) (by omega), hr 6 (by omega)]
    obtain ⟨x3, e3, hx3, hx3'⟩ : ∃ x3, (if nI (m 6) = 1 then ((some (1))) else (q_b1 (f_Mo_meeting (nI k) 5) (fun v8 => q_ix v8 175 (fun j9 => q_b1 (f_Mo_meeting (nI k) 2) (fun v9 => q_ix v9 175 (fun j10 => if (M 6 j9) < (M 6 j10) then ((some (0))) else ((some (1)))))))) : Option (Int32)) = some x3 ∧ (x3 = 0 ∨ x3 = 1) ∧ (x3 = 1 ↔ (m 6 ≤ 1 ∨ m 2 ≤ m 5)) := by
      by_cases h6 : m 6 = 1
      · rw [if_pos (by rw [h6]; rfl)]
        exact ⟨1, rfl, Or.inr rfl, fun _ => Or.inl (by omega), fun _ => rfl⟩
      · rw [if_neg (d_n1 (by omega) h6), d_mm5, d_b1, d_ix (by omega) (by omega), d_mm2, d_b1, d_ix (by omega) (by omega), hr 5 (by omega), hr 2 (by omega)]
        by_cases h52 : m 5 < m 2
        · rw [if_pos (nI_lt h52 (by omega))]
          exact ⟨0, rfl, Or.inl rfl, no _ (by omega)⟩
        · rw [if_neg (nI_nlt (by omega) (by omega))]
          exact ⟨1, rfl, Or.inr rfl, fun _ => Or.inr (by omega), fun _ => rfl⟩
    rw [e3, d_b1]
    rcases hx3 with rfl | rfl
    · rw [if_pos rfl]
      exact bad _ (fun q => absurd (hx3'.mpr q.1.2.1) (by decide))
    · rw [if_neg (show ¬ (1 : Int32) = 0 by decide)]
      by_cases h4 : m 4 = 0
      · rw [h4, if_pos (show nI 0 = 0 from rfl)]
        exact bad _ (fun q => q.1.2.2.1 rfl)
      · rw [if_neg (d_n0 (by omega) h4), dn_bits (by omega), d_b1, d_k8, d_ix (by omega) (by omega), hx.1]
        by_cases hcap : dn_cnt (m 4) ≤ Ru 0 (m 3)
        · obtain ⟨J1, e4, g1, g2⟩ := d_mslots (J := J) hc hk hm
          obtain ⟨v5, e5, g3, g4⟩ := d_meets (k := k) (f := Ru 1 (m 3)) (t := Ru 2 (m 3)) (by omega) (by omega) (by omega) g1
          rw [if_pos (nI_le hcap (by omega)), e4, d_b1, d_k12, d_ix (by omega) (by omega), d_k16, d_ix (by omega) (by omega), hx.2.1, hx.2.2, e5, d_b1]
          obtain ⟨x4, e6, hx4, hx4'⟩ : ∃ x4, (if v5 = 0 then ((some (1))) else ((some (0))) : Option (Int32)) = some x4 ∧ (x4 = 0 ∨ x4 = 1) ∧ (x4 = 1 ↔ ∀ i, i < 96 → ¬ (d_S m i ∧ d_rg (Ru 1 (m 3)) (Ru 2 (m 3)) i)) := by
            rcases g3 with rfl | rfl
            · exact ⟨1, if_pos rfl, Or.inr rfl, fun _ => g4.mp rfl, fun _ => rfl⟩
            · exact ⟨0, if_neg (by decide), Or.inl rfl, no _ (fun q => absurd (g4.mpr q) (by decide))⟩
          rw [e6, d_b1]
          obtain ⟨v, e7, g5, g6⟩ := d_wellL hrv hv2 (by omega) hm g1 6 0 q_fu x4 (by omega) (d_q (by omega)) hx4
          refine ⟨v, J1, e7, g5, g6.trans ⟨fun q => ⟨⟨h1, hx3'.mp rfl, h4, hcap⟩, hx4'.mp q.1, fun p hp => q.2 p (by omega) hp⟩, fun q => ⟨hx4'.mpr q.2.1, fun p _ hp => q.2.2 p hp⟩⟩, fun _ => g1, g2⟩
        · rw [if_neg (nI_ge (by omega) (by omega))]
          exact bad _ (fun q => hcap q.1.2.2.2)
  · rw [if_pos (show (95 : Int32) < nI (d_end m - 1) from nI_lt (a := 95) (by omega) (by omega)), d_b1, if_pos rfl]
    exact bad _ (fun q => h1 q.1.1)
theorem d_share {m m' : Nat → Nat} (hm : d_mp m) (hm' : d_mp m') : (m 3 = m' 3 ∨ m 4 &&& m' 4 ≠ 0) ↔ ∃ r, r < 10 ∧ w_in (d_rows m) r ∧ w_in (d_rows m') r := by
  unfold d_mp at hm hm'
  constructor
  · rintro (h | h)
    · exact ⟨m 3, by omega, d_rows_in.mpr (Or.inl rfl), d_rows_in.mpr (Or.inl h)⟩
    · have : ∃ i, w_in (m 4 &&& m' 4) i := Classical.byContradiction (fun q => h (w_zero.mpr (fun i hi => q ⟨i, hi⟩)))
      obtain ⟨i, hi⟩ := this
      have h2 := w_in_and.mp hi
      have hi6 : i < 6 := w_lt (show m 4 < 2 ^ 6 by omega) h2.1
      exact ⟨4 + i, by omega, d_rows_in.mpr (Or.inr ⟨by omega, by rw [Nat.add_sub_cancel_left]; exact h2.1⟩), d_rows_in.mpr (Or.inr ⟨by omega, by rw [Nat.add_sub_cancel_left]; exact h2.2⟩)⟩
  · rintro ⟨r, hr, h1, h2⟩
    rcases d_rows_in.mp h1 with rfl | ⟨a1, a2⟩ <;> rcases d_rows_in.mp h2 with b | ⟨b1, b2⟩
    · exact Or.inl b
    · omega
    · omega
    · exact Or.inr (fun q => (w_zero.mp q) (r - 4) (w_in_and.mpr ⟨a2, b2⟩))
theorem d_dis_ns {m m' : Nat → Nat} (h : ¬ ∃ r, r < 10 ∧ w_in (d_rows m) r ∧ w_in (d_rows m') r) : d_dis m m' := fun r hr h1 h2 => absurd ⟨r, hr, h1, h2⟩ h
theorem d_dis_sh {m m' : Nat → Nat} (h : ∃ r, r < 10 ∧ w_in (d_rows m) r ∧ w_in (d_rows m') r) : d_dis m m' ↔ ∀ i, i < 96 → ¬ (d_S m' i ∧ d_S m i) := by
  obtain ⟨r, hr, h1, h2⟩ := h
  exact ⟨fun q i hi p => q r hr h1 h2 i hi ⟨p.2, p.1⟩, fun q _ _ _ _ i hi p => q i hi ⟨p.2, p.1⟩⟩
theorem d_validL2 {J : q_J} (hc : d_mc M L) (hm : ∀ m, m ∈ L → d_mp m) {k : Nat} {m : Nat → Nat} (hk : L[k]? = some m) (K : Int32 → Option (Int32 × q_J)) :
    ∀ (d i fu : Nat) (x : Int32), i + d = k → d < fu → (x = 0 ∨ x = 1) → (x = 1 → ∀ j a, j ≤ k → L[j]? = some a → d_lh J j (fun s => d_S a s)) → ∃ v, f_Mo_isValid_L2 M (nI k) J K fu x (nI i) = K v ∧ (v = 0 ∨ v = 1) ∧ (v = 1 ↔ x = 1 ∧ ∀ j a, i ≤ j → j < k → L[j]? = some a → d_dis a m) := by
  have hkl := d_get_lt hk
  have hL := hc.2.1
  have hr := hc.2.2 k m hk
  have hmm := hm m (List.mem_of_getElem? hk)
  have hmm' := hmm
  unfold d_mp at hmm'
  intro d
  induction d with
  | zero =>
    intro i fu x hi hf hx hs
    obtain ⟨fu, rfl, -⟩ := d_fuel hf
    have : i = k := by omega
    subst this
    refine ⟨x, ?_, hx, fun q => ⟨q, fun j a h1 h2 => by omega⟩, fun q => q.1⟩
    unfold f_Mo_isValid_L2
    rw [if_pos (Int32.le_refl _)]
  | succ d ih =>
    intro i fu x hi hf hx hs
    obtain ⟨fu, rfl, hf⟩ := d_fuel hf
    have hik : i < k := by omega
    unfold f_Mo_isValid_L2
    rw [if_neg (nI_ge hik (by omega))]
    rcases hx with rfl | rfl
    · rw [if_pos rfl]
      exact ⟨0, rfl, Or.inl rfl, fun q => absurd q (by decide), fun q => absurd q.1 (by decide)⟩
    · rw [if_neg (show ¬ (1 : Int32) = 0 by decide)]
      have hil : i < L.length := by omega
      have ha := List.getElem?_eq_getElem hil
      have hma := hm _ (List.getElem_mem hil)
      generalize L[i] = a at ha hma
      have hra := hc.2.2 i a ha
      have hma' := hma
      unfold d_mp at hma'
      have si := hs rfl i a (by omega) ha
      have sk := hs rfl k m (Nat.le_refl _) hk
      have step : ∀ y : Int32, (y = 0 ∨ y = 1) → (y = 1 ↔ d_dis a m) → ∃ v, f_Mo_isValid_L2 M (nI k) J K fu y (nI (i + 1)) = K v ∧ (v = 0 ∨ v = 1) ∧ (v = 1 ↔ (1 : Int32) = 1 ∧ ∀ j a, i ≤ j → j < k → L[j]? = some a → d_dis a m) := by
        intro y hy hyd
        obtain ⟨v, e, g1, g2⟩ := ih (i + 1) fu y (by omega) (by omega) hy (fun _ => hs rfl)
        refine ⟨v, e, g1, g2.trans ?_⟩
        rw [hyd]
        constructor
        · rintro ⟨q1, q2⟩
          refine ⟨rfl, fun j b h1 h2 h3 => ?_⟩
          by_cases hji : j = i
          · subst hji
            rw [ha] at h3
            cases h3
            exact q1
          · exact q2 j b (by omega) h2 h3
        · rintro ⟨-, q⟩
          exact ⟨q i a (Nat.le_refl _) hik ha, fun j b h1 => q j b (by omega)⟩
      rw [d_mm3, d_b1, d_ix (by omega) (by omega), d_mm3, d_b1, d_ix (by omega) (by omega), hr 3 (by omega), hra 3 (by omega)]
      obtain ⟨x5, e5, hx5, hx5'⟩ : ∃ x5, (if nI (m 3) = nI (a 3) then ((some (1))) else (q_b1 (f_Mo_meeting (nI k) 4) (fun v4 => q_ix v4 175 (fun j7 => q_b1 (f_Mo_meeting (nI i) 4) (fun v5 => q_ix v5 175 (fun j8 => if ((M 6 j7) &&& (M 6 j8)) = 0 then ((some (0))) else ((some (1)))))))) : Option (Int32)) = some x5 ∧ (x5 = 0 ∨ x5 = 1) ∧ (x5 = 1 ↔ ∃ r, r < 10 ∧ w_in (d_rows a) r ∧ w_in (d_rows m) r) := by
        rw [← d_share hma hmm]
        by_cases h3 : m 3 = a 3
        · rw [if_pos (by rw [h3])]
          exact ⟨1, rfl, Or.inr rfl, fun _ => Or.inl h3.symm, fun _ => rfl⟩
        · rw [if_neg (fun q => h3 ((nI_eq (by omega) (by omega)).mp q)), d_mm4, d_b1, d_ix (by omega) (by omega), d_mm4, d_b1, d_ix (by omega) (by omega), hr 4 (by omega), hra 4 (by omega), dn_and (by omega) (by omega)]
          have hlt : m 4 &&& a 4 < 2 ^ 6 := Nat.and_lt_two_pow _ (by omega)
          by_cases h4 : m 4 &&& a 4 = 0
          · rw [h4, if_pos (show nI 0 = 0 from rfl)]
            refine ⟨0, rfl, Or.inl rfl, fun q => absurd q (by decide), fun q => ?_⟩
            rcases q with q | q
            · exact absurd q.symm h3
            · rw [Nat.and_comm] at q
              exact absurd h4 q
          · rw [if_neg (d_n0 (by omega) h4)]
            exact ⟨1, rfl, Or.inr rfl, fun _ => Or.inr (by rw [Nat.and_comm]; exact h4), fun _ => rfl⟩
      rw [e5, d_b1]
      rcases hx5 with rfl | rfl
      · rw [if_pos rfl, nI_1]
        exact step 1 (Or.inr rfl) ⟨fun _ => d_dis_ns (fun q => absurd (hx5'.mpr q) (by decide)), fun _ => rfl⟩
      · rw [if_neg (show ¬ (1 : Int32) = 0 by decide), d_ix (by omega) (by omega), d_ix (by omega) (by omega)]
        have hd := d_dis_sh (hx5'.mp rfl)
        have z1 := dn_lgand sk.1 si.1
        have z2 := dn_lgand sk.2 si.2
        by_cases q1 : lg_cmp (J 7 k &&& J 7 i) 0 = 0
        · rw [if_pos q1, d_ix (by omega) (by omega), d_ix (by omega) (by omega)]
          by_cases q2 : lg_cmp (J 8 k &&& J 8 i) 0 = 0
          · rw [if_pos q2, nI_1]
            refine step 1 (Or.inr rfl) ⟨fun _ => hd.mpr (fun s hs q => ?_), fun _ => rfl⟩
            by_cases hs48 : s < 48
            · exact (z1.mp q1) s hs48 q
            · have := (z2.mp q2) (s - 48) (by omega)
              rw [show s - 48 + 48 = s by omega] at this
              exact this q
          · rw [if_neg q2, nI_1]
            exact step 0 (Or.inl rfl) ⟨fun q => absurd q (by decide), fun q => absurd (z2.mpr (fun s hs => hd.mp q (s + 48) (by omega))) q2⟩
        · rw [if_neg q1, nI_1]
          exact step 0 (Or.inl rfl) ⟨fun q => absurd q (by decide), fun q => absurd (z1.mpr (fun s hs => hd.mp q s (by omega))) q1⟩
theorem d_validL1 {Ru : Nat → Nat → Nat} (hc : d_mc M L) (hm : ∀ m, m ∈ L → d_mp m) (hrv : d_rv Ru) (hv1 : ∀ x, x < 4 → M 1 (8 + x) = nI (Ru 0 x) ∧ M 1 (12 + x) = nI (Ru 1 x) ∧ M 1 (16 + x) = nI (Ru 2 x)) (hv2 : ∀ x, x < 6 → M 1 (20 + x) = nI (Ru 3 x) ∧ M 1 (26 + x) = nI (Ru 4 x)) (K : Int32 → q_J → Option (Int32 × q_J)) :
    ∀ (d k fu : Nat) (x : Int32) (J : q_J), k + d = L.length → d < fu → (x = 0 ∨ x = 1) → (x = 1 ↔ d_vm Ru (L.take k)) → (x = 1 → ∀ j a, j < k → L[j]? = some a → d_lh J j (fun s => d_S a s)) → ∃ v J', f_Mo_isValid_L1 M K fu x (nI k) J = K v J' ∧ (v = 0 ∨ v = 1) ∧ (v = 1 ↔ d_vm Ru L) := by
  have hL := hc.2.1
  intro d
  induction d with
  | zero =>
    intro k fu x J hk hf hx hvm hs
    obtain ⟨fu, rfl, -⟩ := d_fuel hf
    rw [List.take_of_length_le (by omega)] at hvm
    refine ⟨x, J, ?_, hx, hvm⟩
    unfold f_Mo_isValid_L1
    rw [hc.1, if_pos (nI_le (by omega) (by omega))]
  | succ d ih =>
    intro k fu x J hk hf hx hvm hs
    obtain ⟨fu, rfl, hf⟩ := d_fuel hf
    have hkl : k < L.length := by omega
    unfold f_Mo_isValid_L1
    rw [hc.1, if_neg (nI_ge hkl (by omega))]
    rcases hx with rfl | rfl
    · rw [if_pos rfl]
      exact ⟨0, J, rfl, Or.inl rfl, fun q => absurd q (by decide), fun q => absurd (hvm.mpr (d_vm_take q k)) (by decide)⟩
    · rw [if_neg (show ¬ (1 : Int32) = 0 by decide)]
      have htk : L.take (k + 1) = L.take k ++ [L[k]] := (List.take_append_getElem hkl).symm
      have hkm := List.getElem?_eq_getElem hkl
      have hmm := hm _ (List.getElem_mem hkl)
      generalize L[k] = m at htk hkm hmm
      obtain ⟨v1, J1, e1, g1, g2, g3, g4⟩ := d_isWell (J := J) hc hkm hmm hrv hv1 hv2
      rw [e1, d_b2]
      obtain ⟨v2, e2, g5, g6⟩ := d_validL2 (J := J1) hc hm hkm (fun (x6 : Int32) => (f_Mo_isValid_L1 M K fu x6 (nI k + 1) J1)) k 0 q_fu v1 (by omega) (d_q (by omega)) g1 (fun hv j a hj ha => by
        by_cases hjk : j = k
        · subst hjk
          rw [hkm] at ha
          cases ha
          exact g3 hv
        · have := hs rfl j a (by omega) ha
          unfold d_lh at this ⊢
          rw [g4 7 j hjk, g4 8 j hjk]
          exact this)
      rw [nI_0] at e2
      rw [e2, nI_1]
      refine ih (k + 1) fu v2 J1 (by omega) (by omega) g5 (g6.trans ?_) (fun hv j a hj ha => ?_)
      · rw [g2, htk]
        have hv0 := hvm.mp rfl
        constructor
        · rintro ⟨q1, q2⟩
          refine ⟨fun m' hm' => ?_, List.pairwise_append.mpr ⟨hv0.2, List.pairwise_singleton _ _, fun a ha b hb => ?_⟩⟩
          · rcases List.mem_append.mp hm' with h1 | h1
            · exact hv0.1 m' h1
            · rw [List.mem_singleton.mp h1]
              exact q1
          · rw [List.mem_singleton.mp hb]
            obtain ⟨j, hj⟩ := List.getElem?_of_mem ha
            have hjl := d_get_lt hj
            rw [List.length_take] at hjl
            rw [List.getElem?_take_of_lt (by omega)] at hj
            exact q2 j a (by omega) (by omega) hj
        · rintro ⟨q1, q2⟩
          refine ⟨q1 m (List.mem_append_right _ (List.mem_singleton.mpr rfl)), fun j a _ hj ha => ?_⟩
          rw [List.pairwise_append] at q2
          refine q2.2.2 a ?_ m (List.mem_singleton.mpr rfl)
          refine List.mem_of_getElem? (i := j) ?_
          rw [List.getElem?_take_of_lt hj]
          exact ha
      · have hv1' : v1 = 1 := (g6.mp hv).1
        by_cases hjk : j = k
        · subst hjk
          rw [hkm] at ha
          cases ha
          exact g3 hv1'
        · have := hs rfl j a (by omega) ha
          unfold d_lh at this ⊢
          rw [g4 7 j hjk, g4 8 j hjk]
          exact this
theorem d_validL3 {J : q_J} {no : Nat} {Of Os : Nat → Int32} (hc : d_mc M L) (hm : ∀ m, m ∈ L → d_mp m) (hno : M 1 3 = nI no ∧ no ≤ 4) (ho : ∀ o, o < no → M 1 (32 + 2 * o) = Of o ∧ M 1 (33 + 2 * o) = Os o) :
    ∀ (d k fu : Nat) (x : Int32), k + d = no → d < fu → (x = 0 ∨ x = 1) → ∃ v, f_Mo_isValid_L3 M J fu x (nI k) = some (v, J) ∧ (v = 0 ∨ v = 1) ∧ (v = 1 ↔ x = 1 ∧ ∀ o, k ≤ o → o < no → d_keeps L (Of o) (Os o)) := by
  have hL := hc.2.1
  have a1 : ∀ x : Int32, (x = 0 ∨ x = 1) → x &&& 1 = x := fun x h => by rcases h with rfl | rfl <;> rfl
  intro d
  induction d with
  | zero =>
    intro k fu x hk hf hx
    obtain ⟨fu, rfl, -⟩ := d_fuel hf
    refine ⟨x, ?_, hx, fun q => ⟨q, fun o h1 h2 => by omega⟩, fun q => q.1⟩
    unfold f_Mo_isValid_L3
    rw [d_x3, hno.1, if_pos (nI_le (by omega) (by omega)), a1 x hx]
  | succ d ih =>
    intro k fu x hk hf hx
    obtain ⟨fu, rfl, hf⟩ := d_fuel hf
    have hkn : k < no := by omega
    have hok := ho k hkn
    unfold f_Mo_isValid_L3
    rw [d_x3, hno.1, if_neg (nI_ge hkn (by omega))]
    rcases hx with rfl | rfl
    · rw [if_pos rfl, a1 0 (Or.inl rfl)]
      exact ⟨0, rfl, Or.inl rfl, fun q => absurd q (by decide), fun q => absurd q.1 (by decide)⟩
    · rw [if_neg (show ¬ (1 : Int32) = 0 by decide), d_m2, d_k32, d_ix (by omega) (by omega), hok.1, d_mfind hc]
      have step : ∀ y : Int32, (y = 0 ∨ y = 1) → (y = 1 ↔ d_keeps L (Of k) (Os k)) → ∃ v, f_Mo_isValid_L3 M J fu y (nI (k + 1)) = some (v, J) ∧ (v = 0 ∨ v = 1) ∧ (v = 1 ↔ (1 : Int32) = 1 ∧ ∀ o, k ≤ o → o < no → d_keeps L (Of o) (Os o)) := by
        intro y hy hyd
        obtain ⟨v, e, g1, g2⟩ := ih (k + 1) fu y (by omega) (by omega) hy
        refine ⟨v, e, g1, g2.trans ?_⟩
        rw [hyd]
        constructor
        · rintro ⟨q1, q2⟩
          refine ⟨rfl, fun o h1 h2 => ?_⟩
          by_cases hok : o = k
          · subst hok; exact q1
          · exact q2 o (by omega) h2
        · rintro ⟨-, q⟩
          exact ⟨q k (Nat.le_refl _) hkn, fun o h1 => q o (by omega)⟩
      have e33 : nI (32 + 2 * k) + 1 = nI (33 + 2 * k) := by rw [nI_1, show 32 + 2 * k + 1 = 33 + 2 * k by omega]
      cases hi : d_find L (Of k) with
      | none =>
        show ∃ v, q_b1 (some (-1)) _ = some (v, J) ∧ _
        rw [d_b1, e33, d_ix (by omega) (by omega), hok.2, d_mfind hc]
        have fin := step 1 (Or.inr rfl) ⟨fun _ => (fun i j a b h => by rw [hi] at h; cases h), fun _ => rfl⟩
        cases d_find L (Os k) with
        | none =>
          show ∃ v, q_b1 (some (-1)) _ = some (v, J) ∧ _
          rw [d_b1, if_pos (show (-1 : Int32) < 0 by decide), nI_1]
          exact fin
        | some j =>
          show ∃ v, q_b1 (some (nI j)) _ = some (v, J) ∧ _
          rw [d_b1, if_pos (show (-1 : Int32) < 0 by decide), nI_1]
          exact fin
      | some i =>
        have hil := d_find_lt hi
        show ∃ v, q_b1 (some (nI i)) _ = some (v, J) ∧ _
        rw [d_b1, e33, d_ix (by omega) (by omega), hok.2, d_mfind hc]
        cases hj : d_find L (Os k) with
        | none =>
          show ∃ v, q_b1 (some (-1)) _ = some (v, J) ∧ _
          rw [d_b1, if_neg (nI_pos (by omega)), if_pos (show (-1 : Int32) < 0 by decide), nI_1]
          exact step 1 (Or.inr rfl) ⟨fun _ => (fun i j a b _ h => by rw [hj] at h; cases h), fun _ => rfl⟩
        | some j =>
          have hjl := d_find_lt hj
          show ∃ v, q_b1 (some (nI j)) _ = some (v, J) ∧ _
          have ha := List.getElem?_eq_getElem hil
          have hb := List.getElem?_eq_getElem hjl
          have hma := hm _ (List.getElem_mem hil)
          have hmb := hm _ (List.getElem_mem hjl)
          have hea := d_end_leP hma
          have he1 : 1 ≤ d_end L[i] := by unfold d_mp at hma; unfold d_end; omega
          rw [d_b1, if_neg (nI_pos (by omega)), if_neg (nI_pos (by omega)), d_mlastP hc ha hma, d_b1, d_mm1, d_b1, d_ix (by omega) (by omega), hc.2.2 j _ hb 1 (by omega)]
          have key : d_keeps L (Of k) (Os k) ↔ d_end L[i] ≤ L[j] 1 := by
            constructor
            · intro h
              exact h i j _ _ hi hj ha hb
            · intro h i' j' a b h1 h2 h3 h4
              rw [hi] at h1
              rw [hj] at h2
              cases h1
              cases h2
              rw [ha] at h3
              rw [hb] at h4
              cases h3
              cases h4
              exact h
          unfold d_mp at hmb
          by_cases hlt : L[j] 1 ≤ d_end L[i] - 1
          · rw [if_pos (nI_le hlt (by omega)), nI_1]
            exact step 0 (Or.inl rfl) ⟨fun q => absurd q (by decide), fun q => by have := key.mp q; omega⟩
          · rw [if_neg (nI_ge (by omega) (by omega)), nI_1]
            exact step 1 (Or.inr rfl) ⟨fun _ => key.mpr (by omega), fun _ => rfl⟩
theorem d_isValidP {J : q_J} {n : Nat} {Ru : Nat → Nat → Nat} {no : Nat} {Of Os : Nat → Int32} {base : List (Nat → Nat)} {E : Nat → Nat → Nat} (hc : d_mc M L) (hm : ∀ m, m ∈ L → d_mp m) (hv : d_mw (M 1) n Ru no Of Os base E) : ∃ v J', f_Mo_isValid M J = some (v, J') ∧ (v = 0 ∨ v = 1) ∧ (v = 1 ↔ d_valid Ru no Of Os L) := by
  have hL := hc.2.1
  obtain ⟨h0, h2, h3, h4, h5, h6, h7, h8, h9⟩ := hv
  obtain ⟨v, J1, e1, g1, g2⟩ := d_validL1 hc hm h9 h4 h5 (fun (x7 : Int32) (J3 : q_J) => f_Mo_isValid_L3 M J3 q_fu x7 0) L.length 0 q_fu 1 J (by omega) (d_q (by omega)) (Or.inr rfl) ⟨fun _ => ⟨fun m hm => by simp at hm, by simp⟩, fun _ => rfl⟩ (fun _ j a hj => by omega)
  obtain ⟨v', e2, g3, g4⟩ := d_validL3 (J := J1) hc hm h3 h6 no 0 q_fu v (by omega) (d_q (by omega)) g1
  rw [nI_0] at e1 e2
  refine ⟨v', J1, e1.trans e2, g3, g4.trans ?_⟩
  rw [g2]
  exact ⟨fun q => ⟨q.1, fun o ho => q.2 o (by omega) ho⟩, fun q => ⟨q.1, fun o _ ho => q.2 o ho⟩⟩
theorem d_isValid {J : q_J} {n : Nat} {Ru : Nat → Nat → Nat} {no : Nat} {Of Os : Nat → Int32} {base : List (Nat → Nat)} {E : Nat → Nat → Nat} (hc : d_mc M L) (hm : ∀ m, m ∈ L → d_mt m) (hv : d_mw (M 1) n Ru no Of Os base E) : ∃ v J', f_Mo_isValid M J = some (v, J') ∧ (v = 0 ∨ v = 1) ∧ (v = 1 ↔ d_valid Ru no Of Os L) :=
  d_isValidP hc (fun m h => d_mp_of (hm m h)) hv
end DM
