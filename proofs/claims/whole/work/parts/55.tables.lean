/-! timetables, valid calendars, in the class -/
def d_rg (f t i : Nat) : Prop := f ≤ i ∧ i < t
def d_tt (J : q_J) (a : Nat) (R : Nat → Nat → Prop) : Prop := ∀ r, r < 10 → dn_lg (J (a + 1) r) (fun i => R r i) ∧ dn_lg (J (a + 2) r) (fun i => R r (i + 48))
def d_jf (a : Nat) (J J' : q_J) : Prop := ∀ o, o ≠ a + 1 → o ≠ a + 2 → J' o = J o
theorem d_jf_rf {a : Nat} {J : q_J} : d_jf a J J := fun _ _ _ => rfl
theorem d_jf_tr {a : Nat} {J J1 J2 : q_J} (h1 : d_jf a J J1) (h2 : d_jf a J1 J2) : d_jf a J J2 := fun o q1 q2 => (h2 o q1 q2).trans (h1 o q1 q2)
theorem d_tt_cg {J : q_J} {a : Nat} {R R' : Nat → Nat → Prop} (h : d_tt J a R) (hc : ∀ r, r < 10 → ∀ i, i < 96 → (R r i ↔ R' r i)) : d_tt J a R' := fun r hr => ⟨dn_lgcongr (h r hr).1 (fun i hi => hc r hr i (by omega)), dn_lgcongr (h r hr).2 (fun i hi => hc r hr (i + 48) (by omega))⟩
theorem d_bits2 {f t : Nat} (hf : f ≤ 1000) (ht : t ≤ 1000) : ∃ x y, f_TT_bits (nI f) (nI t) = some x ∧ f_TT_bits (nI f - 48) (nI t - 48) = some y ∧ dn_lg x (fun i => d_rg f t i) ∧ dn_lg y (fun i => d_rg f t (i + 48)) := by
  obtain ⟨x, e1, h1⟩ := dn_slots (x := nI f) (y := nI t) (nI_toInt (by omega)) (nI_toInt (by omega)) (by omega)
  obtain ⟨y, e2, h2⟩ := dn_slots (x := nI f - nI 48) (y := nI t - nI 48) (pk_sub_toInt (by omega) (by omega)) (pk_sub_toInt (by omega) (by omega)) (by omega)
  refine ⟨x, y, e1, e2, dn_lgcongr h1 (fun i hi => ?_), dn_lgcongr h2 (fun i hi => ?_)⟩ <;> unfold d_rg <;> omega
theorem d_takeL {a rows : Nat} {x y : Int64} {Z : Nat → Prop} (hrw : rows < 2 ^ 31) (hx : dn_lg x (fun i => Z i)) (hy : dn_lg y (fun i => Z (i + 48))) : ∀ (d k fu : Nat) (J : q_J) (R : Nat → Nat → Prop), k + d = 10 → d < fu → d_tt J a R → ∃ J', f_TT_take_L1 a (nI rows) x y fu (nI k) J = some J' ∧ d_tt J' a (fun r i => R r i ∨ (k ≤ r ∧ w_in rows r ∧ Z i)) ∧ d_jf a J J' := by
  intro d
  induction d with
  | zero =>
    intro k fu J R hk hf h
    obtain ⟨fu, rfl, -⟩ := d_fuel hf
    have : k = 10 := by omega
    subst this
    refine ⟨J, ?_, d_tt_cg h (fun r hr i hi => ⟨Or.inl, fun q => q.elim (fun q => q) (fun q => by omega)⟩), d_jf_rf⟩
    unfold f_TT_take_L1
    rw [if_pos (show (10 : Int32) ≤ nI 10 from by decide)]
  | succ d ih =>
    intro k fu J R hk hf h
    obtain ⟨fu, rfl, hf⟩ := d_fuel hf
    have hk10 : k < 10 := by omega
    unfold f_TT_take_L1
    rw [if_neg (d_g10 hk10), dn_has hrw (by omega), d_b1]
    by_cases hw : w_in rows k
    · rw [if_pos hw, if_neg (show ¬ (1 : Int32) = 0 by decide), d_ix hk10 (by decide), d_ix hk10 (by decide), d_l, d_ix hk10 (by decide), d_ix hk10 (by decide), d_l, nI_1]
      have e2 : q_uj J (a + 1) k (J (a + 1) k ||| x) (a + 2) = J (a + 2) := if_neg (by omega)
      rw [e2]
      obtain ⟨J', g1, g2, g3⟩ := ih (k + 1) fu (q_uj (q_uj J (a + 1) k (J (a + 1) k ||| x)) (a + 2) k (J (a + 2) k ||| y)) (fun r i => R r i ∨ (r = k ∧ Z i)) (by omega) (by omega) (by
        intro r hr
        have hr' := h r hr
        have q1 : q_uj (q_uj J (a + 1) k (J (a + 1) k ||| x)) (a + 2) k (J (a + 2) k ||| y) (a + 1) = vp_updL (J (a + 1)) k (J (a + 1) k ||| x) := by
          unfold q_uj
          rw [if_neg (by omega), if_pos rfl]
        have q2 : q_uj (q_uj J (a + 1) k (J (a + 1) k ||| x)) (a + 2) k (J (a + 2) k ||| y) (a + 2) = vp_updL (J (a + 2)) k (J (a + 2) k ||| y) := by
          unfold q_uj
          rw [if_pos rfl, if_neg (by omega)]
        rw [q1, q2]
        by_cases hrk : r = k
        · subst hrk
          rw [pk_uLs, pk_uLs]
          exact ⟨dn_lgcongr (dn_lgor hr'.1 hx) (fun i _ => ⟨fun q => q.elim Or.inl (fun q => Or.inr ⟨rfl, q⟩), fun q => q.elim Or.inl (fun q => Or.inr q.2)⟩), dn_lgcongr (dn_lgor hr'.2 hy) (fun i _ => ⟨fun q => q.elim Or.inl (fun q => Or.inr ⟨rfl, q⟩), fun q => q.elim Or.inl (fun q => Or.inr q.2)⟩)⟩
        · rw [pk_uLn hrk, pk_uLn hrk]
          exact ⟨dn_lgcongr hr'.1 (fun i _ => ⟨Or.inl, fun q => q.elim (fun q => q) (fun q => absurd q.1 hrk)⟩), dn_lgcongr hr'.2 (fun i _ => ⟨Or.inl, fun q => q.elim (fun q => q) (fun q => absurd q.1 hrk)⟩)⟩)
      refine ⟨J', g1, d_tt_cg g2 (fun r hr i hi => ?_), d_jf_tr (fun o h1 h2 => ?_) g3⟩
      · constructor
        · rintro ((q | ⟨rfl, q⟩) | ⟨q1, q2, q3⟩)
          · exact Or.inl q
          · exact Or.inr ⟨Nat.le_refl _, hw, q⟩
          · exact Or.inr ⟨by omega, q2, q3⟩
        · rintro (q | ⟨q1, q2, q3⟩)
          · exact Or.inl (Or.inl q)
          · by_cases hrk : r = k
            · exact Or.inl (Or.inr ⟨hrk, q3⟩)
            · exact Or.inr ⟨by omega, q2, q3⟩
      · unfold q_uj
        rw [if_neg h2, if_neg h1]
    · rw [if_neg hw, if_pos rfl, nI_1]
      obtain ⟨J', g1, g2, g3⟩ := ih (k + 1) fu J R (by omega) (by omega) h
      refine ⟨J', g1, d_tt_cg g2 (fun r hr i hi => ?_), g3⟩
      constructor
      · rintro (q | ⟨q1, q2, q3⟩)
        · exact Or.inl q
        · exact Or.inr ⟨by omega, q2, q3⟩
      · rintro (q | ⟨q1, q2, q3⟩)
        · exact Or.inl q
        · by_cases hrk : r = k
          · subst hrk; exact absurd q2 hw
          · exact Or.inr ⟨by omega, q2, q3⟩
theorem d_take {J : q_J} {a rows f t : Nat} {R : Nat → Nat → Prop} (hrw : rows < 2 ^ 31) (hf : f ≤ 1000) (ht : t ≤ 1000) (h : d_tt J a R) : ∃ J', f_TT_take J a (nI rows) (nI f) (nI t) = some J' ∧ d_tt J' a (fun r i => R r i ∨ (w_in rows r ∧ d_rg f t i)) ∧ d_jf a J J' := by
  obtain ⟨x, y, e1, e2, h1, h2⟩ := d_bits2 hf ht
  obtain ⟨J', g1, g2, g3⟩ := d_takeL (a := a) hrw h1 h2 10 0 q_fu J R (by omega) (d_q (by omega)) h
  refine ⟨J', ?_, d_tt_cg g2 (fun r hr i hi => ⟨fun q => q.elim Or.inl (fun q => Or.inr q.2), fun q => q.elim Or.inl (fun q => Or.inr ⟨by omega, q⟩)⟩), g3⟩
  unfold f_TT_take
  rw [e1, d_b1, e2, d_b1]
  exact g1
theorem d_freeL {J : q_J} {a rows : Nat} {x y : Int64} {Z : Nat → Prop} {R : Nat → Nat → Prop} (hrw : rows < 2 ^ 31) (hx : dn_lg x (fun i => Z i)) (hy : dn_lg y (fun i => Z (i + 48))) (h : d_tt J a R) : ∀ (d k fu : Nat), k + d = 10 → d < fu → ∃ v, f_TT_isFree_L1 J a (nI rows) x y fu (nI k) = some v ∧ (v = 0 ∨ v = 1) ∧ (v = 1 ↔ ∀ r, k ≤ r → r < 10 → w_in rows r → ∀ i, i < 96 → ¬ (R r i ∧ Z i)) := by
  intro d
  induction d with
  | zero =>
    intro k fu hk hf
    obtain ⟨fu, rfl, -⟩ := d_fuel hf
    have : k = 10 := by omega
    subst this
    refine ⟨1, ?_, Or.inr rfl, fun _ => fun r h1 h2 => by omega, fun _ => rfl⟩
    unfold f_TT_isFree_L1
    rw [if_pos (show (10 : Int32) ≤ nI 10 from by decide)]
  | succ d ih =>
    intro k fu hk hf
    obtain ⟨fu, rfl, hf⟩ := d_fuel hf
    have hk10 : k < 10 := by omega
    obtain ⟨v, e, hv, hq⟩ := ih (k + 1) fu (by omega) (by omega)
    have step : (w_in rows k → ∀ i, i < 96 → ¬ (R k i ∧ Z i)) → ∃ v, f_TT_isFree_L1 J a (nI rows) x y fu (nI (k + 1)) = some v ∧ (v = 0 ∨ v = 1) ∧ (v = 1 ↔ ∀ r, k ≤ r → r < 10 → w_in rows r → ∀ i, i < 96 → ¬ (R r i ∧ Z i)) := by
      intro hz
      refine ⟨v, e, hv, hq.trans ⟨fun q r h1 h2 h3 => ?_, fun q r h1 => q r (by omega)⟩⟩
      by_cases hrk : r = k
      · subst hrk; exact hz h3
      · exact q r (by omega) h2 h3
    have hr := h k hk10
    have z1 := dn_lgand hr.1 hx
    have z2 := dn_lgand hr.2 hy
    unfold f_TT_isFree_L1
    rw [if_neg (d_g10 hk10), dn_has hrw (by omega), d_b1]
    by_cases hw : w_in rows k
    · rw [if_pos hw, if_neg (show ¬ (1 : Int32) = 0 by decide), d_ix hk10 (by decide)]
      by_cases q1 : lg_cmp (J (a + 1) k &&& x) 0 = 0
      · rw [if_pos q1, d_ix hk10 (by decide)]
        by_cases q2 : lg_cmp (J (a + 2) k &&& y) 0 = 0
        · rw [if_pos q2, nI_1]
          refine step (fun _ i hi q => ?_)
          by_cases hi48 : i < 48
          · exact (z1.mp q1) i hi48 q
          · have := (z2.mp q2) (i - 48) (by omega)
            rw [show i - 48 + 48 = i by omega] at this
            exact this q
        · rw [if_neg q2]
          refine ⟨0, rfl, Or.inl rfl, fun q => absurd q (by decide), fun q => absurd (z2.mpr (fun i hi => ?_)) q2⟩
          exact q k (Nat.le_refl _) hk10 hw (i + 48) (by omega)
      · rw [if_neg q1]
        refine ⟨0, rfl, Or.inl rfl, fun q => absurd q (by decide), fun q => absurd (z1.mpr (fun i hi => ?_)) q1⟩
        exact q k (Nat.le_refl _) hk10 hw i (by omega)
    · rw [if_neg hw, if_pos rfl, nI_1]
      exact step (fun q => absurd q hw)
theorem d_free {J : q_J} {a rows f t : Nat} {R : Nat → Nat → Prop} (hrw : rows < 2 ^ 31) (hf : f ≤ 1000) (ht : t ≤ 1000) (h : d_tt J a R) : ∃ v, f_TT_isFree J a (nI rows) (nI f) (nI t) = some v ∧ (v = 0 ∨ v = 1) ∧ (v = 1 ↔ ∀ r, r < 10 → w_in rows r → ∀ i, i < 96 → ¬ (R r i ∧ d_rg f t i)) := by
  obtain ⟨x, y, e1, e2, h1, h2⟩ := d_bits2 hf ht
  obtain ⟨v, g1, g2, g3⟩ := d_freeL (a := a) hrw h1 h2 h 10 0 q_fu (by omega) (d_q (by omega))
  refine ⟨v, ?_, g2, g3.trans ⟨fun q r h1 => q r (by omega) h1, fun q r _ h1 => q r h1⟩⟩
  unfold f_TT_isFree
  rw [e1, d_b1, e2, d_b1]
  exact g1
/-! closing times and absences -/
def d_rv (Ru : Nat → Nat → Nat) : Prop := (∀ x, x < 4 → (1 ≤ Ru 0 x ∧ Ru 0 x ≤ 6) ∧ Ru 1 x ≤ 96 ∧ Ru 2 x ≤ 96 ∧ Ru 1 x ≤ Ru 2 x) ∧ ∀ x, x < 6 → Ru 3 x ≤ 96 ∧ Ru 4 x ≤ 96 ∧ Ru 3 x ≤ Ru 4 x
def d_ru (I : q_I) (r : Nat) (Ru : Nat → Nat → Nat) : Prop := (∀ x, x < 4 → I (r + 1) x = nI (Ru 0 x) ∧ I (r + 2) x = nI (Ru 1 x) ∧ I (r + 3) x = nI (Ru 2 x)) ∧ (∀ x, x < 6 → I (r + 4) x = nI (Ru 3 x) ∧ I (r + 5) x = nI (Ru 4 x)) ∧ d_rv Ru
def d_closed (Ru : Nat → Nat → Nat) (r i : Nat) : Prop := (r < 4 ∧ d_rg (Ru 1 r) (Ru 2 r) i) ∨ (4 ≤ r ∧ d_rg (Ru 3 (r - 4)) (Ru 4 (r - 4)) i)
theorem d_begL1 {a : Nat} (K : q_J → Option q_J) : ∀ (d k fu : Nat) (J : q_J), k + d = 10 → d < fu → (∀ r, r < k → J (a + 1) r = 0 ∧ J (a + 2) r = 0) → ∃ J', f_TT_begin_L1 a K fu (nI k) J = K J' ∧ d_tt J' a (fun _ _ => False) ∧ d_jf a J J' := by
  intro d
  induction d with
  | zero =>
    intro k fu J hk hf h
    obtain ⟨fu, rfl, -⟩ := d_fuel hf
    have : k = 10 := by omega
    subst this
    refine ⟨J, ?_, fun r hr => ?_, d_jf_rf⟩
    · unfold f_TT_begin_L1
      rw [if_pos (show (10 : Int32) ≤ nI 10 from by decide)]
    · rw [(h r hr).1, (h r hr).2]
      exact ⟨dn_lg0, dn_lg0⟩
  | succ d ih =>
    intro k fu J hk hf h
    obtain ⟨fu, rfl, hf⟩ := d_fuel hf
    have hk10 : k < 10 := by omega
    unfold f_TT_begin_L1
    rw [if_neg (d_g10 hk10), d_ix hk10 (by decide), d_l, d_ix hk10 (by decide), d_l, nI_1]
    have q1 : q_uj (q_uj J (a + 1) k 0) (a + 2) k 0 (a + 1) = vp_updL (J (a + 1)) k 0 := by
      unfold q_uj
      rw [if_neg (by omega), if_pos rfl]
    have q2 : q_uj (q_uj J (a + 1) k 0) (a + 2) k 0 (a + 2) = vp_updL (J (a + 2)) k 0 := by
      unfold q_uj
      rw [if_pos rfl, if_neg (by omega)]
    obtain ⟨J', g1, g2, g3⟩ := ih (k + 1) fu (q_uj (q_uj J (a + 1) k 0) (a + 2) k 0) (by omega) (by omega) (fun r hr => by
      rw [q1, q2]
      by_cases hrk : r = k
      · subst hrk
        exact ⟨pk_uLs, pk_uLs⟩
      · rw [pk_uLn hrk, pk_uLn hrk]
        exact h r (by omega))
    refine ⟨J', g1, g2, d_jf_tr (fun o h1 h2 => ?_) g3⟩
    unfold q_uj
    rw [if_neg h2, if_neg h1]
theorem d_begL2 {I : q_I} {a r0 : Nat} {Ru : Nat → Nat → Nat} (hru : d_ru I r0 Ru) (K : q_J → Option q_J) : ∀ (d k fu : Nat) (J : q_J), k + d = 4 → d < fu → d_tt J a (fun r i => r < k ∧ d_closed Ru r i) → ∃ J', f_TT_begin_L2 I a r0 K fu (nI k) J = K J' ∧ d_tt J' a (fun r i => r < 4 ∧ d_closed Ru r i) ∧ d_jf a J J' := by
  intro d
  induction d with
  | zero =>
    intro k fu J hk hf h
    obtain ⟨fu, rfl, -⟩ := d_fuel hf
    have : k = 4 := by omega
    subst this
    refine ⟨J, ?_, h, d_jf_rf⟩
    unfold f_TT_begin_L2
    rw [if_pos (show (4 : Int32) ≤ nI 4 from by decide)]
  | succ d ih =>
    intro k fu J hk hf h
    obtain ⟨fu, rfl, hf⟩ := d_fuel hf
    have hk4 : k < 4 := by omega
    have hx := hru.1 k hk4
    have hv := hru.2.2.1 k hk4
    obtain ⟨J1, e1, g1, g2⟩ := d_take (rows := 2 ^ k) (f := Ru 1 k) (t := Ru 2 k) (Nat.lt_trans (dn_2lt (n := 4) hk4) (by decide)) (by omega) (by omega) h
    obtain ⟨J', g3, g4, g5⟩ := ih (k + 1) fu J1 (by omega) (by omega) (d_tt_cg g1 (fun r hr i hi => by
      rw [w_in_2]
      constructor
      · rintro (⟨q1, q2⟩ | ⟨rfl, q⟩)
        · exact ⟨by omega, q2⟩
        · exact ⟨by omega, Or.inl ⟨hk4, q⟩⟩
      · rintro ⟨q1, q2⟩
        by_cases hrk : r = k
        · subst hrk
          rcases q2 with q2 | q2
          · exact Or.inr ⟨rfl, q2.2⟩
          · exact absurd q2.1 (by omega)
        · exact Or.inl ⟨by omega, q2⟩))
    refine ⟨J', ?_, g4, d_jf_tr g2 g5⟩
    unfold f_TT_begin_L2
    rw [if_neg (d_g4 hk4), d_ix hk4 (by decide), d_ix hk4 (by decide), dn_pos (by omega), hx.2.1, hx.2.2, e1, d_b1, nI_1]
    exact g3
theorem d_begL3 {I : q_I} {a r0 : Nat} {Ru : Nat → Nat → Nat} (hru : d_ru I r0 Ru) : ∀ (d k fu : Nat) (J : q_J), k + d = 6 → d < fu → d_tt J a (fun r i => r < k + 4 ∧ d_closed Ru r i) → ∃ J', f_TT_begin_L3 I a r0 fu (nI k) J = some J' ∧ d_tt J' a (fun r i => d_closed Ru r i) ∧ d_jf a J J' := by
  intro d
  induction d with
  | zero =>
    intro k fu J hk hf h
    obtain ⟨fu, rfl, -⟩ := d_fuel hf
    have : k = 6 := by omega
    subst this
    refine ⟨J, ?_, d_tt_cg h (fun r hr i hi => ⟨fun q => q.2, fun q => ⟨by omega, q⟩⟩), d_jf_rf⟩
    unfold f_TT_begin_L3
    rw [if_pos (show (6 : Int32) ≤ nI 6 from by decide)]
  | succ d ih =>
    intro k fu J hk hf h
    obtain ⟨fu, rfl, hf⟩ := d_fuel hf
    have hk6 : k < 6 := by omega
    have hx := hru.2.1 k hk6
    have hv := hru.2.2.2 k hk6
    obtain ⟨J1, e1, g1, g2⟩ := d_take (rows := 2 ^ (4 + k)) (f := Ru 3 k) (t := Ru 4 k) (Nat.lt_trans (dn_2lt (n := 10) (by omega)) (by decide)) (by omega) (by omega) h
    obtain ⟨J', g3, g4, g5⟩ := ih (k + 1) fu J1 (by omega) (by omega) (d_tt_cg g1 (fun r hr i hi => by
      rw [w_in_2]
      constructor
      · rintro (⟨q1, q2⟩ | ⟨rfl, q⟩)
        · exact ⟨by omega, q2⟩
        · refine ⟨by omega, Or.inr ⟨by omega, ?_⟩⟩
          rw [Nat.add_sub_cancel_left]
          exact q
      · rintro ⟨q1, q2⟩
        by_cases hrk : r = 4 + k
        · subst hrk
          rcases q2 with q2 | q2
          · exact absurd q2.1 (by omega)
          · have := q2.2
            rw [Nat.add_sub_cancel_left] at this
            exact Or.inr ⟨rfl, this⟩
        · exact Or.inl ⟨by omega, q2⟩))
    refine ⟨J', ?_, g4, d_jf_tr g2 g5⟩
    unfold f_TT_begin_L3
    rw [if_neg (d_g6 hk6), d_ix hk6 (by decide), d_ix hk6 (by decide), show (4 : Int32) + nI k = nI (4 + k) from nI_add 4 k, dn_pos (by omega), hx.1, hx.2, e1, d_b1, nI_1]
    exact g3
theorem d_begin {I : q_I} {J : q_J} {a r0 : Nat} {Ru : Nat → Nat → Nat} (hru : d_ru I r0 Ru) : ∃ J', f_TT_begin I J a r0 = some J' ∧ d_tt J' a (fun r i => d_closed Ru r i) ∧ d_jf a J J' := by
  unfold f_TT_begin
  obtain ⟨J1, e1, g1, h1⟩ := d_begL1 (a := a) (fun (J4 : q_J) => f_TT_begin_L2 I a r0 (fun (J7 : q_J) => f_TT_begin_L3 I a r0 q_fu 0 J7) q_fu 0 J4) 10 0 q_fu J (by omega) (d_q (by omega)) (fun r hr => by omega)
  obtain ⟨J2, e2, g2, h2⟩ := d_begL2 (a := a) hru (fun (J7 : q_J) => f_TT_begin_L3 I a r0 q_fu 0 J7) 4 0 q_fu J1 (by omega) (d_q (by omega)) (d_tt_cg g1 (fun r hr i hi => ⟨fun q => q.elim, fun q => by omega⟩))
  obtain ⟨J3, e3, g3, h3⟩ := d_begL3 (a := a) hru 6 0 q_fu J2 (by omega) (d_q (by omega)) (d_tt_cg g2 (fun r hr i hi => by rw [Nat.zero_add]))
  rw [nI_0] at e1 e2 e3
  exact ⟨J3, by rw [e1, e2, e3], g3, d_jf_tr h1 (d_jf_tr h2 h3)⟩
/-! a meeting's slots and rows -/
def d_occ (m : Nat → Nat) (t i : Nat) : Prop := d_rg (m 1 + t * m 5) (m 1 + t * m 5 + m 2) i
def d_sl (m : Nat → Nat) (k i : Nat) : Prop := ∃ t, t < k ∧ d_occ m t i
abbrev d_S (m : Nat → Nat) (i : Nat) : Prop := d_sl m (m 6) i
def d_rows (m : Nat → Nat) : Nat := 2 ^ m 3 ||| m 4 * 2 ^ 4
theorem d_rows_in {m : Nat → Nat} {r : Nat} : w_in (d_rows m) r ↔ r = m 3 ∨ (4 ≤ r ∧ w_in (m 4) (r - 4)) := by
  unfold d_rows
  rw [w_in_or, w_in_2]
  have : w_in (m 4 * 2 ^ 4) r ↔ 4 ≤ r ∧ w_in (m 4) (r - 4) := by
    unfold w_in
    rw [Nat.testBit_mul_two_pow]
    simp
  rw [this]
theorem d_rows_lt {m : Nat → Nat} (hm : d_mt m) : d_rows m < 2 ^ 10 := by
  unfold d_mt at hm
  unfold d_rows
  exact Nat.or_lt_two_pow (dn_2lt (by omega)) (by omega)
theorem d_rowsC {I : q_I} {b : Nat} {m : Nat → Nat} (hr : d_row (I b) m) (hm : d_mt m) : f_Me_rows I b = some (nI (d_rows m)) := by
  have hm' := hm
  unfold d_mt at hm'
  have e3 : (2 : Nat) ^ m 3 < 2 ^ 10 := dn_2lt (by omega)
  unfold f_Me_rows d_rows
  rw [hr 3 (by omega), hr 4 (by omega), dn_pos (by omega), pk_shlN (4 &&& 31) 4 (by decide) (by omega), dn_or (by omega) (by omega)]
theorem d_self {m : Nat → Nat} (h : m 6 ≤ 1 ∨ m 2 ≤ m 5) : ∀ t, t < m 6 → ∀ i, ¬ (d_sl m t i ∧ d_occ m t i) := by
  rintro t ht i ⟨⟨u, hu, h1⟩, h2⟩
  unfold d_occ d_rg at h1 h2
  rcases h with h | h
  · omega
  · have e : (u + 1) * m 5 ≤ t * m 5 := Nat.mul_le_mul_right _ hu
    rw [Nat.add_mul, Nat.one_mul] at e
    omega
theorem d_occ_le {m : Nat → Nat} (hm : d_mt m) {t : Nat} (ht : t < m 6) : m 1 + t * m 5 + m 2 ≤ 1000 ∧ m 1 + t * m 5 + m 2 ≤ d_end m := by
  unfold d_mt at hm
  have : t * m 5 ≤ (m 6 - 1) * m 5 := Nat.mul_le_mul_right _ (by omega)
  have : (m 6 - 1) * m 5 ≤ 3 * 99 := Nat.mul_le_mul (by omega) (by omega)
  unfold d_end
  omega
theorem d_bookL {I : q_I} {a b : Nat} {m : Nat → Nat} {R : Nat → Nat → Prop} (hr : d_row (I b) m) (hm : d_mt m) (hself : m 6 ≤ 1 ∨ m 2 ≤ m 5) :
    ∀ (d k fu : Nat) (J : q_J), k + d = m 6 → d < fu → d_tt J a (fun r i => R r i ∨ (w_in (d_rows m) r ∧ d_sl m k i)) → (∀ r, r < 10 → w_in (d_rows m) r → ∀ i, i < 96 → ¬ (R r i ∧ d_sl m k i)) → ∃ v J', f_TT_book_L1 I a b (nI (d_rows m)) fu (nI k) J = some (v, J') ∧ (v = 0 ∨ v = 1) ∧ (v = 1 ↔ ∀ r, r < 10 → w_in (d_rows m) r → ∀ i, i < 96 → ¬ (R r i ∧ d_S m i)) ∧ (v = 1 → d_tt J' a (fun r i => R r i ∨ (w_in (d_rows m) r ∧ d_S m i))) ∧ d_jf a J J' := by
  have hm' := hm
  unfold d_mt at hm'
  have hrl := d_rows_lt hm
  intro d
  induction d with
  | zero =>
    intro k fu J hk hf h hn
    obtain ⟨fu, rfl, -⟩ := d_fuel hf
    have : k = m 6 := by omega
    subst this
    refine ⟨1, J, ?_, Or.inr rfl, ⟨fun _ => hn, fun _ => rfl⟩, fun _ => h, d_jf_rf⟩
    unfold f_TT_book_L1
    rw [hr 6 (by omega), if_pos (Int32.le_refl _)]
  | succ d ih =>
    intro k fu J hk hf h hn
    obtain ⟨fu, rfl, hf⟩ := d_fuel hf
    have hk6 : k < m 6 := by omega
    have hoc := d_occ_le hm hk6
    obtain ⟨v, e, hv, hq⟩ := d_free (rows := d_rows m) (f := m 1 + k * m 5) (t := m 1 + k * m 5 + m 2) (by omega) (by omega) (by omega) h
    unfold f_TT_book_L1
    rw [hr 6 (by omega), if_neg (nI_ge hk6 (by omega)), hr 1 (by omega), hr 5 (by omega), pk_mul, nI_add, d_l, hr 2 (by omega), nI_add, e, d_b1]
    have key : (v = 1 ↔ ∀ r, r < 10 → w_in (d_rows m) r → ∀ i, i < 96 → ¬ (R r i ∧ d_occ m k i)) := hq.trans ⟨fun q r h1 h2 i h3 h4 => q r h1 h2 i h3 ⟨Or.inl h4.1, h4.2⟩, fun q r h1 h2 i h3 h4 => by
      rcases h4.1 with h5 | ⟨-, h5⟩
      · exact q r h1 h2 i h3 ⟨h5, h4.2⟩
      · exact d_self hself k hk6 i ⟨h5, h4.2⟩⟩
    rcases hv with rfl | rfl
    · rw [if_pos rfl]
      refine ⟨0, J, rfl, Or.inl rfl, ⟨fun q => absurd q (by decide), fun q => absurd (key.mpr (fun r h1 h2 i h3 h4 => ?_)) (by decide)⟩, fun q => absurd q (by decide), d_jf_rf⟩
      exact q r h1 h2 i h3 ⟨h4.1, k, hk6, h4.2⟩
    · rw [if_neg (show ¬ (1 : Int32) = 0 by decide)]
      have hnow := key.mp rfl
      obtain ⟨J1, e1, g1, g2⟩ := d_take (rows := d_rows m) (f := m 1 + k * m 5) (t := m 1 + k * m 5 + m 2) (by omega) (by omega) (by omega) h
      rw [e1, d_b1, nI_1]
      have hsl : ∀ i, d_sl m (k + 1) i ↔ d_sl m k i ∨ d_occ m k i := by
        intro i
        constructor
        · rintro ⟨t, h1, h2⟩
          by_cases htk : t = k
          · subst htk; exact Or.inr h2
          · exact Or.inl ⟨t, by omega, h2⟩
        · rintro (⟨t, h1, h2⟩ | h)
          · exact ⟨t, by omega, h2⟩
          · exact ⟨k, by omega, h⟩
      obtain ⟨v, J', g3, g4, g5, g6, g7⟩ := ih (k + 1) fu J1 (by omega) (by omega) (d_tt_cg g1 (fun r hr i hi => by
        rw [hsl]
        constructor
        · rintro ((q | ⟨q1, q2⟩) | ⟨q1, q2⟩)
          · exact Or.inl q
          · exact Or.inr ⟨q1, Or.inl q2⟩
          · exact Or.inr ⟨q1, Or.inr q2⟩
        · rintro (q | ⟨q1, q2 | q2⟩)
          · exact Or.inl (Or.inl q)
          · exact Or.inl (Or.inr ⟨q1, q2⟩)
          · exact Or.inr ⟨q1, q2⟩)) (fun r h1 h2 i h3 h4 => by
        rcases (hsl i).mp h4.2 with q | q
        · exact hn r h1 h2 i h3 ⟨h4.1, q⟩
        · exact hnow r h1 h2 i h3 ⟨h4.1, q⟩)
      exact ⟨v, J', g3, g4, g5, g6, d_jf_tr g2 g7⟩
theorem d_book {I : q_I} {J : q_J} {a b : Nat} {m : Nat → Nat} {R : Nat → Nat → Prop} (hr : d_row (I b) m) (hm : d_mt m) (hself : m 6 ≤ 1 ∨ m 2 ≤ m 5) (h : d_tt J a R) : ∃ v J', f_TT_book I J a b = some (v, J') ∧ (v = 0 ∨ v = 1) ∧ (v = 1 ↔ ∀ r, r < 10 → w_in (d_rows m) r → ∀ i, i < 96 → ¬ (R r i ∧ d_S m i)) ∧ (v = 1 → d_tt J' a (fun r i => R r i ∨ (w_in (d_rows m) r ∧ d_S m i))) ∧ d_jf a J J' := by
  have hm' := hm
  unfold d_mt at hm'
  unfold f_TT_book
  rw [d_rowsC hr hm, d_b1]
  exact d_bookL hr hm hself (m 6) 0 q_fu J (by omega) (d_q (by omega)) (d_tt_cg h (fun r hr i hi => ⟨Or.inl, fun q => q.elim (fun q => q) (fun q => by obtain ⟨-, t, h1, -⟩ := q; omega)⟩)) (fun r h1 h2 i h3 h4 => by obtain ⟨-, t, h5, -⟩ := h4; omega)
/-! a meeting by itself -/
def d_ok1 (Ru : Nat → Nat → Nat) (m : Nat → Nat) : Prop := d_end m ≤ 96 ∧ (m 6 ≤ 1 ∨ m 2 ≤ m 5) ∧ m 4 ≠ 0 ∧ dn_cnt (m 4) ≤ Ru 0 (m 3)
def d_well (Ru : Nat → Nat → Nat) (m : Nat → Nat) : Prop := d_ok1 Ru m ∧ ∀ r, r < 10 → w_in (d_rows m) r → ∀ i, i < 96 → ¬ (d_closed Ru r i ∧ d_S m i)
def d_dis (m m' : Nat → Nat) : Prop := ∀ r, r < 10 → w_in (d_rows m) r → w_in (d_rows m') r → ∀ i, i < 96 → ¬ (d_S m i ∧ d_S m' i)
theorem d_cnt0 : ∀ s, s < 64 → (1 ≤ dn_cnt s ↔ s ≠ 0) := by decide +kernel
theorem d_allows {I : q_I} {r0 b : Nat} {m : Nat → Nat} {Ru : Nat → Nat → Nat} (hru : d_ru I r0 Ru) (hr : d_row (I b) m) (hm : d_mt m) : ∃ v, f_Ru_allows I r0 b = some v ∧ (v = 0 ∨ v = 1) ∧ (v = 1 ↔ d_ok1 Ru m) := by
  have hm' := hm
  unfold d_mt at hm'
  have he := d_end_le hm
  have hx := hru.1 (m 3) (by omega)
  have hv := hru.2.2.1 (m 3) (by omega)
  have hc := d_cnt0 (m 4) (by omega)
  have hcl := dn_cnt_le (s := m 4)
  unfold f_Ru_allows
  rw [hr 3 (by omega), dn_within, show f_Mo_in (nI (m 3)) 0 3 = some 1 by rw [show (0 : Int32) = nI 0 from rfl, show (3 : Int32) = nI 3 from rfl, dn_inE (by omega) (by omega) (by omega), if_pos (by omega)], d_b1, if_neg (show ¬ (1 : Int32) = 0 by decide), hr 1 (by omega), if_neg (nI_pos (by omega)), d_endC hr hm, d_b1]
  unfold d_ok1
  by_cases h1 : d_end m ≤ 96
  · rw [if_pos (show nI (d_end m) ≤ 96 from nI_le (b := 96) h1 (by decide)), hr 4 (by omega), dn_bc _ (by omega), d_b1, d_ix (by omega) (by decide), hx.1, dn_within, show (1 : Int32) = nI 1 from rfl, dn_inE (by omega) (by omega) (by omega), d_b1]
    unfold q_jj
    dsimp only
    rw [hr 6 (by omega), hr 2 (by omega), hr 5 (by omega)]
    have fin : ∃ v, some ((if 1 ≤ dn_cnt (m 4) ∧ dn_cnt (m 4) ≤ Ru 0 (m 3) then (1 : Int32) else 0) &&& nI 1) = some v ∧ (v = 0 ∨ v = nI 1) ∧ (v = nI 1 ↔ m 4 ≠ 0 ∧ dn_cnt (m 4) ≤ Ru 0 (m 3)) := by
      by_cases hq : 1 ≤ dn_cnt (m 4) ∧ dn_cnt (m 4) ≤ Ru 0 (m 3)
      · rw [if_pos hq]
        exact ⟨1, rfl, Or.inr rfl, fun _ => ⟨hc.mp hq.1, hq.2⟩, fun _ => rfl⟩
      · rw [if_neg hq]
        exact ⟨0, rfl, Or.inl rfl, fun q => absurd q (by decide), fun q => absurd ⟨hc.mpr q.1, q.2⟩ hq⟩
    obtain ⟨v, e, g1, g2⟩ := fin
    by_cases h2 : m 6 ≤ 1
    · rw [if_pos (nI_le h2 (by omega))]
      exact ⟨v, e, g1, g2.trans ⟨fun q => ⟨h1, Or.inl h2, q⟩, fun q => q.2.2⟩⟩
    · rw [if_neg (nI_ge (by omega) (by omega))]
      by_cases h3 : m 2 ≤ m 5
      · rw [if_pos (nI_le h3 (by omega))]
        exact ⟨v, e, g1, g2.trans ⟨fun q => ⟨h1, Or.inr h3, q⟩, fun q => q.2.2⟩⟩
      · rw [if_neg (nI_ge (by omega) (by omega))]
        exact ⟨0, rfl, Or.inl rfl, fun q => absurd q (by decide), fun q => by omega⟩
  · rw [if_neg (show ¬ nI (d_end m) ≤ 96 from nI_ge (a := 96) (by omega) (by omega))]
    exact ⟨0, rfl, Or.inl rfl, fun q => absurd q (by decide), fun q => absurd q.1 h1⟩
