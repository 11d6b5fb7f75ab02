/-! the search, in the class -/
noncomputable def d_dec (p : Prop) : Bool := @decide p (Classical.propDecidable p)
theorem d_dec_t {p : Prop} : d_dec p = true ↔ p := by
  unfold d_dec
  exact @decide_eq_true_iff p (Classical.propDecidable p)
theorem d_dec_f {p : Prop} : d_dec p = false ↔ ¬ p := by
  unfold d_dec
  exact @decide_eq_false_iff_not p (Classical.propDecidable p)
noncomputable def d_K (E : Nat → Nat → Nat) (i j : Nat) : Bool := d_dec ((i < j ∧ d_cl E i j) ∨ (j < i ∧ d_cl E j i))
noncomputable def d_N (E : Nat → Nat → Nat) (i k : Nat) : Bool := d_dec (d_nn E k i)
noncomputable def d_bs (Q : Nat → Prop) : Nat → Nat
  | 0 => 0
  | k + 1 => d_bs Q k ||| (if d_dec (Q k) = true then 2 ^ k else 0)
theorem d_bs_in {Q : Nat → Prop} : ∀ k j, w_in (d_bs Q k) j ↔ j < k ∧ Q j := by
  intro k
  induction k with
  | zero => exact fun j => ⟨fun h => absurd h w_in_0, fun h => by omega⟩
  | succ k ih =>
    intro j
    unfold d_bs
    rw [w_in_or, ih]
    by_cases hq : Q k
    · rw [if_pos (d_dec_t.mpr hq), w_in_2]
      constructor
      · rintro (⟨h1, h2⟩ | rfl)
        · exact ⟨by omega, h2⟩
        · exact ⟨by omega, hq⟩
      · rintro ⟨h1, h2⟩
        by_cases hj : j = k
        · exact Or.inr hj
        · exact Or.inl ⟨by omega, h2⟩
    · rw [if_neg (fun h => hq (d_dec_t.mp h))]
      constructor
      · rintro (⟨h1, h2⟩ | h)
        · exact ⟨by omega, h2⟩
        · exact absurd h w_in_0
      · rintro ⟨h1, h2⟩
        by_cases hj : j = k
        · subst hj; exact absurd h2 hq
        · exact Or.inl ⟨by omega, h2⟩
noncomputable def d_clN (n : Nat) (E : Nat → Nat → Nat) (x : Nat) : Nat := d_bs (fun j => d_K E x j = true) n
noncomputable def d_neN (n : Nat) (E : Nat → Nat → Nat) (x : Nat) : Nat := d_bs (fun j => d_nn E x j) n
theorem d_nd_eq {U a c c' n : Nat} (ha : w_sub a U) (hU : U < 2 ^ n) (h : ∀ j, j < n → (w_in c j ↔ w_in c' j)) : w_nd a c = w_nd a c' := by
  apply w_ext
  intro i
  rw [w_in_nd, w_in_nd]
  constructor
  · rintro ⟨h1, h2⟩
    exact ⟨h1, fun q => h2 ((h i (w_lt hU (ha i h1))).mpr q)⟩
  · rintro ⟨h1, h2⟩
    exact ⟨h1, fun q => h2 ((h i (w_lt hU (ha i h1))).mp q)⟩
noncomputable def d_fitB (Ru : Nat → Nat → Nat) (no : Nat) (Of Os : Nat → Int32) (base : List (Nat → Nat)) (E : Nat → Nat → Nat) (ch op : Nat) : Bool := d_dec (d_valid Ru no Of Os ((d_fm base E ch 12).filter (d_kp E op 12)))
def d_val (Ru : Nat → Nat → Nat) (no : Nat) (Of Os : Nat → Int32) (base : List (Nat → Nat)) (E : Nat → Nat → Nat) (s : Nat) : Prop := d_valid Ru no Of Os (d_fm base E s 12)
abbrev d_w (E : Nat → Nat → Nat) (s : Nat) : Nat := d_wt E s 12
/-- the best set that a merge holds -/
def d_bst (I : q_I) (mg : Nat) (E : Nat → Nat → Nat) (b : Option Nat) : Prop := match b with
  | none => I mg 3 = -4 ∧ I mg 4 = -1
  | some s => I mg 3 = nI s ∧ I mg 4 = nI (d_w E s)
/-- what the search leaves as it is -/
def d_sf (mg : Nat) (I I' : q_I) (J J' : q_J) (P P' : q_P) : Prop := (∀ o, o < mg ∨ mg + 27 ≤ o → I' o = I o) ∧ (∀ f, f ≠ 3 → f ≠ 4 → I' mg f = I mg f) ∧ d_jf (mg + 27) J J' ∧ d_pr (mg + 2) P P' ∧ d_inj P' (mg + 2) 24
theorem d_sf_tr {mg : Nat} {I I1 I2 : q_I} {J J1 J2 : q_J} {P P1 P2 : q_P} (h1 : d_sf mg I I1 J J1 P P1) (h2 : d_sf mg I1 I2 J1 J2 P1 P2) : d_sf mg I I2 J J2 P P2 :=
  ⟨fun o ho => (h2.1 o ho).trans (h1.1 o ho), fun f q1 q2 => (h2.2.1 f q1 q2).trans (h1.2.1 f q1 q2), d_jf_tr h1.2.2.1 h2.2.2.1, fun o ho => (h2.2.2.2.1 o ho).trans (h1.2.2.2.1 o ho), h2.2.2.2.2⟩
theorem d_wt_mono {E : Nat → Nat → Nat} {s t : Nat} (h : w_sub s t) : ∀ k, d_wt E s k ≤ d_wt E t k := by
  intro k
  induction k with
  | zero => exact Nat.le_refl _
  | succ k ih =>
    unfold d_wt
    by_cases hs : w_in s k
    · rw [if_pos hs, if_pos (h k hs)]
      omega
    · rw [if_neg hs]
      omega
theorem d_wt_0 {E : Nat → Nat → Nat} : ∀ k, d_wt E 0 k = 0 := by
  intro k
  induction k with
  | zero => rfl
  | succ k ih =>
    unfold d_wt
    rw [if_neg (fun h => w_in_0 h), ih]
theorem d_wt_pos {E : Nat → Nat → Nat} {n s : Nat} (hE : ∀ i, i < n → 1 ≤ E i 2) (hs : s < 2 ^ n) : ∀ k, d_wt E s k = 0 → ∀ i, i < k → ¬ w_in s i := by
  intro k
  induction k with
  | zero => intro _ i hi; omega
  | succ k ih =>
    intro h i hi hsi
    unfold d_wt at h
    by_cases hk : w_in s k
    · rw [if_pos hk] at h
      have := hE k (w_lt hs hk)
      omega
    · rw [if_neg hk] at h
      by_cases hik : i = k
      · subst hik; exact hk hsi
      · exact ih (by omega) i (by omega) hsi
section DS
variable {mg w n : Nat} {Ru : Nat → Nat → Nat} {no : Nat} {Of Os : Nat → Int32} {base : List (Nat → Nat)} {E : Nat → Nat → Nat} {C N : Nat → Nat}
theorem d_wf_w (hwf : d_wf base E n) : ∀ i, i < n → E i 2 ≤ 9 := fun i hi => by
  have := hwf.2.2.2.1 i hi
  unfold d_eok at this
  omega
theorem d_w_le (hwf : d_wf base E n) {s : Nat} (hs : s < 2 ^ n) : d_w E s ≤ 108 := d_wt_le (d_wf_w hwf) hs 12
theorem d_may {I : q_I} {P : q_P} {b : Option Nat} {req ch op : Nat} (hcw : d_cw I P w n Ru no Of Os base E C N) (hwf : d_wf base E n) (hb : d_bst I mg E b) (hreq : I mg 2 = nI req) (hr : req < 2 ^ n) (hch : ch < 2 ^ n) (hop : op < 2 ^ n) (hbs : ∀ s, b = some s → s < 2 ^ n) :
    ∃ v, f_Mg_mayBeBetter I mg w (nI ch) (nI op) = some v ∧ (v = 0 ∨ v = 1) ∧ (v = 0 ↔ w_nd req (ch ||| op) ≠ 0 ∨ ¬ w_bw (d_w E) b < (d_w E (ch ||| op) : Int)) := by
  have hn12 : n ≤ 12 := hwf.2.2.2.2.2.2.2.2
  have h12 : (2 : Nat) ^ n ≤ 2 ^ 12 := Nat.pow_le_pow_right (by decide) hn12
  have hall : ch ||| op < 2 ^ n := Nat.or_lt_two_pow hch hop
  have hwl := d_w_le hwf hall
  unfold f_Mg_mayBeBetter
  rw [dn_or (by omega) (by omega), d_l, hreq, dn_nd (by omega) (by omega)]
  by_cases hz : w_nd req (ch ||| op) = 0
  · rw [hz, if_pos (show nI 0 = 0 from rfl), d_wei hcw.2.2.2 hn12 (d_wf_w hwf) hall, d_b1]
    have cmp : (nI (d_w E (ch ||| op)) ≤ I mg 4) ↔ ¬ w_bw (d_w E) b < (d_w E (ch ||| op) : Int) := by
      cases b with
      | none =>
        rw [hb.2, Int32.le_iff_toInt_le, nI_toInt (by omega), show ((-1 : Int32)).toInt = -1 from rfl]
        show _ ↔ ¬ (-1 : Int) < _
        omega
      | some s =>
        have hsl := d_w_le hwf (hbs s rfl)
        rw [hb.2, nI_leI (by omega) (by omega)]
        show _ ↔ ¬ (d_w E s : Int) < _
        omega
    by_cases hc : nI (d_w E (ch ||| op)) ≤ I mg 4
    · rw [if_pos hc]
      exact ⟨0, rfl, Or.inl rfl, fun _ => Or.inr (cmp.mp hc), fun _ => rfl⟩
    · rw [if_neg hc]
      refine ⟨1, rfl, Or.inr rfl, fun q => absurd q (by decide), fun q => ?_⟩
      rcases q with q | q
      · exact absurd rfl q
      · exact absurd (cmp.mpr q) hc
  · have : w_nd req (ch ||| op) < 2 ^ n := dn_ndlt hr
    rw [if_neg (d_n0 (by omega) hz)]
    exact ⟨0, rfl, Or.inl rfl, fun _ => Or.inl hz, fun _ => rfl⟩
theorem d_srchC (hwf : d_wf base E n) (hM : ∀ k, k < 24 → cM (mg + 1 + 2 + k) = true) (hd : w + 50 ≤ mg ∨ mg + 30 ≤ w) {req : Nat} (hr : req < 2 ^ n) :
    ∀ (fu dep : Nat) (I : q_I) (J : q_J) (P : q_P) (b : Option Nat) (ch op : Nat), dep + fu = 14 → dep ≤ 12 → (∀ i, w_in op i → dep ≤ i) → ch < 2 ^ n → op < 2 ^ n → d_cw I P w n Ru no Of Os base E C N → d_bst I mg E b → (∀ s, b = some s → s < 2 ^ n) → I mg 2 = nI req → d_inj P (mg + 2) 24 →
      ∃ I' J' P', f_Mg_search fu I J P mg w (nI dep) (nI ch) (nI op) = some (I', J', P') ∧ d_bst I' mg E (w_srch req (d_w E) (d_clN n E) (d_neN n E) (d_fitB Ru no Of Os base E) dn_low fu b ch op) ∧ (∀ s, w_srch req (d_w E) (d_clN n E) (d_neN n E) (d_fitB Ru no Of Os base E) dn_low fu b ch op = some s → s < 2 ^ n) ∧ d_sf mg I I' J J' P P' := by
  have hn12 : n ≤ 12 := hwf.2.2.2.2.2.2.2.2
  have h12 : (2 : Nat) ^ n ≤ 2 ^ 12 := Nat.pow_le_pow_right (by decide) hn12
  intro fu
  induction fu with
  | zero => intro dep I J P b ch op h1 h2; omega
  | succ fu ih =>
    intro dep I J P b ch op hdf hdep hbit hch hop hcw hb hbs hreq hi
    obtain ⟨v1, e1, g1, g2⟩ := d_may (mg := mg) hcw hwf hb hreq hr hch hop hbs
    show ∃ I' J' P', f_Mg_search (fu + 1) I J P mg w (nI dep) (nI ch) (nI op) = some (I', J', P') ∧ d_bst I' mg E (if w_nd req (ch ||| op) ≠ 0 ∨ ¬ w_bw (d_w E) b < (d_w E (ch ||| op) : Int) then b else if d_fitB Ru no Of Os base E ch op = false then b else if op = 0 then some ch else w_srch req (d_w E) (d_clN n E) (d_neN n E) (d_fitB Ru no Of Os base E) dn_low fu (w_srch req (d_w E) (d_clN n E) (d_neN n E) (d_fitB Ru no Of Os base E) dn_low fu b (ch ||| 2 ^ dn_low op) (w_nd (w_nd op (2 ^ dn_low op)) (d_clN n E (dn_low op)))) ch (w_nd (w_nd op (2 ^ dn_low op)) (d_neN n E (dn_low op)))) ∧ (∀ s, (if w_nd req (ch ||| op) ≠ 0 ∨ ¬ w_bw (d_w E) b < (d_w E (ch ||| op) : Int) then b else if d_fitB Ru no Of Os base E ch op = false then b else if op = 0 then some ch else w_srch req (d_w E) (d_clN n E) (d_neN n E) (d_fitB Ru no Of Os base E) dn_low fu (w_srch req (d_w E) (d_clN n E) (d_neN n E) (d_fitB Ru no Of Os base E) dn_low fu b (ch ||| 2 ^ dn_low op) (w_nd (w_nd op (2 ^ dn_low op)) (d_clN n E (dn_low op)))) ch (w_nd (w_nd op (2 ^ dn_low op)) (d_neN n E (dn_low op)))) = some s → s < 2 ^ n) ∧ d_sf mg I I' J J' P P'
    unfold f_Mg_search
    rw [if_neg (show ¬ (12 : Int32) < nI dep from nI_nlt (b := dep) (a := 12) hdep (by decide)), e1, d_b1]
    rcases g1 with rfl | rfl
    · rw [if_pos rfl, if_pos (g2.mp rfl)]
      exact ⟨I, J, P, rfl, hb, hbs, fun _ _ => rfl, fun _ _ _ => rfl, d_jf_rf, fun _ _ => rfl, hi⟩
    · rw [if_neg (show ¬ (1 : Int32) = 0 by decide), if_neg (fun q => absurd (g2.mpr q) (by decide))]
      obtain ⟨v2, I1, J1, P1, e2, g3, g4, f1, p1, j1, i1⟩ := d_fits (J := J) hcw hwf hi hM hd hch hop
      have sf1 : d_sf mg I I1 J J1 P P1 := ⟨fun o ho => f1 o (by omega), fun f _ _ => by rw [f1 mg (by omega)], j1, p1, i1⟩
      rw [e2, d_b4]
      rcases g3 with rfl | rfl
      · have hff : d_fitB Ru no Of Os base E ch op = false := d_dec_f.mpr (fun q => absurd (g4.mpr q) (by decide))
        rw [if_pos rfl, if_pos hff]
        exact ⟨I1, J1, P1, rfl, by
          unfold d_bst at hb ⊢
          rw [f1 mg (by omega)]
          exact hb, hbs, sf1⟩
      · have hfit : d_fitB Ru no Of Os base E ch op = true := d_dec_t.mpr (g4.mp rfl)
        rw [if_neg (show ¬ (1 : Int32) = 0 by decide), if_neg (show ¬ d_fitB Ru no Of Os base E ch op = false by rw [hfit]; decide)]
        have hcw1 : d_cw I1 P1 w n Ru no Of Os base E C N := d_cw_fr hcw hn12 (fun o h1 h2 => f1 o (by omega)) (p1 _ (by omega))
        by_cases h0 : op = 0
        · subst h0
          rw [if_pos (show nI 0 = 0 from rfl), if_pos rfl, d_l]
          have hcw2 : d_cw (q_ui I1 mg 3 (nI ch)) P1 w n Ru no Of Os base E C N := d_cw_fr hcw1 hn12 (fun o h1 h2 => by unfold q_ui; rw [if_neg (by omega)]) rfl
          rw [d_wei hcw2.2.2.2 hn12 (d_wf_w hwf) hch, d_b1, d_l]
          refine ⟨_, _, _, rfl, ⟨?_, ?_⟩, fun s hs => by cases hs; exact hch, d_sf_tr sf1 ⟨fun o ho => ?_, fun f q1 q2 => ?_, d_jf_rf, fun _ _ => rfl, i1⟩⟩
          · unfold q_ui
            rw [if_pos rfl, if_pos rfl, pk_un (by decide), pk_us]
          · unfold q_ui
            rw [if_pos rfl, pk_us]
          · unfold q_ui
            rw [if_neg (by omega), if_neg (by omega)]
          · unfold q_ui
            rw [if_pos rfl, if_pos rfl, pk_un q2, pk_un q1]
        · rw [if_neg (d_n0 (by omega) h0), if_neg h0]
          obtain ⟨hl1, hl2⟩ := dn_low_ok h0 (show op < 4096 by omega)
          rw [dn_tz op (by omega) h0, d_b1]
          generalize dn_low op = x at hl1 hl2 ⊢
          have hxn : x < n := w_lt hop hl1
          have hdx := hbit x hl1
          have h2x : (2 : Nat) ^ x < 2 ^ n := dn_2lt hxn
          have hsubop : ∀ c, w_sub (w_nd (w_nd op (2 ^ x)) c) op := fun c i hi => (w_in_nd.mp (w_in_nd.mp hi).1).1
          have hopl : ∀ c, w_nd (w_nd op (2 ^ x)) c < 2 ^ n := fun c => w_sub_lt (hsubop c) hop
          have hopb : ∀ c i, w_in (w_nd (w_nd op (2 ^ x)) c) i → dep + 1 ≤ i := fun c i hi => by
            have q1 := w_in_nd.mp (w_in_nd.mp hi).1
            have q2 := hl2 i q1.1
            have q3 : i ≠ x := fun e => q1.2 (w_in_2.mpr e)
            omega
          obtain ⟨c1, e3, k1, k2⟩ := d_clash hcw1.2.2.2 hn12 hxn
          have ec1 : w_nd (w_nd op (2 ^ x)) c1 = w_nd (w_nd op (2 ^ x)) (d_clN n E x) := d_nd_eq (fun i hi => (w_in_nd.mp hi).1) hop (fun j hj => by
            rw [k2 j hj]
            unfold d_clN
            rw [d_bs_in]
            unfold d_K
            rw [d_dec_t]
            exact ⟨fun q => ⟨hj, q⟩, fun q => q.2⟩)
          rw [dn_pos (by omega), d_l, e3, d_b1, dn_or (by omega) (by omega), dn_nd (by omega) (by omega), dn_nd (Nat.lt_trans (dn_ndlt hop) (by omega)) (by omega), ec1, nI_1]
          have hch1 : ch ||| 2 ^ x < 2 ^ n := Nat.or_lt_two_pow hch h2x
          obtain ⟨I2, J2, P2, e4, b2, s2, sf2⟩ := ih (dep + 1) I1 J1 P1 b (ch ||| 2 ^ x) (w_nd (w_nd op (2 ^ x)) (d_clN n E x)) (by omega) (by omega) (hopb _) hch1 (hopl _) hcw1 (by
            unfold d_bst at hb ⊢
            rw [f1 mg (by omega)]
            exact hb) hbs (by rw [f1 mg (by omega)]; exact hreq) i1
          rw [e4, d_b3]
          have hcw2 : d_cw I2 P2 w n Ru no Of Os base E C N := d_cw_fr hcw1 hn12 (fun o h1 h2 => sf2.1 o (by omega)) (sf2.2.2.2.1 _ (by omega))
          obtain ⟨c2, e5, k3, k4⟩ := d_need hcw2.2.2.2 hn12 hxn
          have ec2 : w_nd (w_nd op (2 ^ x)) c2 = w_nd (w_nd op (2 ^ x)) (d_neN n E x) := d_nd_eq (fun i hi => (w_in_nd.mp hi).1) hop (fun j hj => by
            rw [k4 j hj]
            unfold d_neN
            rw [d_bs_in]
            exact ⟨fun q => ⟨hj, q⟩, fun q => q.2⟩)
          rw [e5, d_b1, dn_nd (Nat.lt_trans (dn_ndlt hop) (by omega)) (by omega), ec2]
          generalize w_srch req (d_w E) (d_clN n E) (d_neN n E) (d_fitB Ru no Of Os base E) dn_low fu b (ch ||| 2 ^ x) (w_nd (w_nd op (2 ^ x)) (d_clN n E x)) = b1 at b2 s2 ⊢
          obtain ⟨I3, J3, P3, e6, b3, s3, sf3⟩ := ih (dep + 1) I2 J2 P2 b1 ch (w_nd (w_nd op (2 ^ x)) (d_neN n E x)) (by omega) (by omega) (hopb _) hch (hopl _) hcw2 b2 s2 (by rw [sf2.2.1 2 (by decide) (by decide), f1 mg (by omega)]; exact hreq) sf2.2.2.2.2
          rw [e6, d_b3]
          exact ⟨I3, J3, P3, rfl, b3, s3, d_sf_tr sf1 (d_sf_tr sf2 sf3)⟩
/-! what the search must know, of the edits of a world -/
theorem d_wf_create (hwf : d_wf base E n) {i k : Nat} (hi : i < n) (h : d_nn E k i) : E k 4 = E k 0 ∧ E i 3 ≠ 0 ∧ (∀ m, m ∈ base → m 0 ≠ E i 4) ∧ w_in (E i 6) k ∧ ∀ k', d_nn E k' i → k' = k := by
  obtain ⟨w1, w2, w3, w4, w5, w6, w7, w8, w9⟩ := hwf
  obtain ⟨h1, h2, h3⟩ := h
  have ek := w4 k (by omega)
  have ei := w4 i hi
  unfold d_eok at ek ei
  have hk4 : E k 4 = E k 0 := (ek.2.2.2.2.2.2.2.2.1 h2).1
  have hi3 : E i 3 ≠ 0 := fun e => by
    have := (ei.2.2.2.2.2.2.2.2.1 e).1
    have := w6 k i h1 hi
    omega
  have hnb : ∀ m, m ∈ base → m 0 ≠ E i 4 := fun m hm e => by
    have := w5 k (by omega) m hm
    omega
  have un : ∀ k', k' < i → E k' 3 = 0 → E k' 0 = E i 4 → k' = k := by
    intro k' a1 a2 a3
    rcases Nat.lt_trichotomy k' k with q | q | q
    · have := w6 k' k q (by omega)
      omega
    · exact q
    · have := w6 k k' q (by omega)
      omega
  refine ⟨hk4, hi3, hnb, ?_, fun k' hk' => ?_⟩
  · rcases w7 i hi hi3 with ⟨m, hm, he⟩ | ⟨k', a1, a2, a3, a4⟩
    · exact absurd he (hnb m hm)
    · rw [un k' a1 a2 a3] at a4
      exact a4
  · have ek' := w4 k' (by have := hk'.1; omega)
    unfold d_eok at ek'
    have := (ek'.2.2.2.2.2.2.2.2.1 hk'.2.1).1
    exact un k' hk'.1 hk'.2.1 (by have := hk'.2.2; omega)
theorem d_hyp (hwf : d_wf base E n) {U req : Nat} (hU : U < 2 ^ n) : w_hyp U req (d_w E) (d_K E) (d_N E) (d_clN n E) (d_neN n E) (d_fitB Ru no Of Os base E) (d_val Ru no Of Os base E) dn_low := by
  have hn12 : n ≤ 12 := hwf.2.2.2.2.2.2.2.2
  have h12 : (2 : Nat) ^ n ≤ 2 ^ 12 := Nat.pow_le_pow_right (by decide) hn12
  have nocl : ∀ i k j, i < n → d_nn E k i → j < n → d_K E k j = false := by
    intro i k j hi hk hj
    have hc := d_wf_create hwf hi hk
    have hwf' := hwf
    obtain ⟨w1, w2, w3, w4, w5, w6, w7, w8, w9⟩ := hwf'
    have hki := hk.1
    unfold d_K
    rw [d_dec_f]
    rintro (⟨h1, h2⟩ | ⟨h1, h2⟩)
    · have hj' := d_wf_create hwf hj ⟨h1, hk.2.1, h2.1⟩
      rcases h2.2 with q | q
      · have := hk.2.1
        omega
      · exact q.1 hj'.2.2.2.1
    · have ej := w4 j hj
      unfold d_eok at ej
      have h4 : E j 4 = E k 0 := h2.1.trans hc.1
      by_cases h30 : E j 3 = 0
      · have := (ej.2.2.2.2.2.2.2.2.1 h30).1
        have := w6 j k h1 (by omega)
        omega
      · rcases w7 j hj h30 with ⟨m, hm, he⟩ | ⟨k', a1, a2, a3, a4⟩
        · have := w5 k (by omega) m hm
          omega
        · have := w6 k' k (by omega) (by omega)
          omega
  refine ⟨fun i j => ?_, fun i => ?_, fun i j hi hj => ?_, fun i j hi hj => ?_, fun i k hi hk => ?_, fun i k j hi hk hj => ?_, fun i k m hi hk => ?_, fun s t h _ => d_wt_mono h 12, fun ch op s hs h1 h2 hsub => ?_, fun ch hch hadm hf => ?_, fun op h0 hop => dn_low_ok h0 hop, by omega⟩
  · unfold d_K
    by_cases h : (i < j ∧ d_cl E i j) ∨ (j < i ∧ d_cl E j i)
    · rw [d_dec_t.mpr h, d_dec_t.mpr h.symm]
    · rw [d_dec_f.mpr h, d_dec_f.mpr (fun q => h q.symm)]
  · unfold d_K
    exact d_dec_f.mpr (fun q => by rcases q with q | q <;> omega)
  · have hb := d_bs_in (Q := fun j => d_K E i j = true) n j
    have hjn := w_lt hU hj
    unfold d_clN
    unfold w_in at hb
    cases h : d_K E i j with
    | true => exact hb.mpr ⟨hjn, h⟩
    | false =>
      cases h2 : (d_bs (fun j => d_K E i j = true) n).testBit j with
      | false => rfl
      | true =>
        have := (hb.mp h2).2
        rw [h] at this
        cases this
  · have hb := d_bs_in (Q := fun j => d_nn E i j) n j
    have hjn := w_lt hU hj
    unfold d_neN d_N
    unfold w_in at hb
    by_cases h : d_nn E i j
    · rw [d_dec_t.mpr h]
      exact hb.mpr ⟨hjn, h⟩
    · rw [d_dec_f.mpr h]
      cases h2 : (d_bs (fun j => d_nn E i j) n).testBit j with
      | false => rfl
      | true => exact absurd (hb.mp h2).2 h
  · exact (d_dec_t.mp hk).1
  · exact nocl i k j (w_lt hU hi) (d_dec_t.mp hk) (w_lt hU hj)
  · refine d_dec_f.mpr (fun q => ?_)
    have hk' := d_dec_t.mp hk
    have hin := w_lt hU hi
    exact (d_wf_create hwf (show k < n by have := hk'.1; omega) q).2.1 hk'.2.1
  · have hsn : s < 2 ^ n := w_sub_lt (fun i hi => hsub i (h2 i hi)) hU
    exact d_dec_t.mpr (d_prune hwf hsn h1 h2 hs.2.2)
  · have := d_dec_t.mp hf
    rw [d_kp_z] at this
    exact this
/-- an admissible set -/
def d_adm (Ru : Nat → Nat → Nat) (no : Nat) (Of Os : Nat → Int32) (base : List (Nat → Nat)) (E : Nat → Nat → Nat) : Nat → Prop := w_adm (d_K E) (d_N E) (d_val Ru no Of Os base E)
/-- the set that is accepted of what is known, among those that have certain edits -/
def d_acc1 (Ru : Nat → Nat → Nat) (no : Nat) (Of Os : Nat → Int32) (base : List (Nat → Nat)) (E : Nat → Nat → Nat) (kn req : Nat) (b : Option Nat) : Prop := ∃ U, d_us E kn U ∧ w_best req U (d_w E) (d_adm Ru no Of Os base E) b
theorem d_heav {I : q_I} {J : q_J} {P : q_P} {kn req : Nat} (hcw : d_cw I P w n Ru no Of Os base E C N) (hwf : d_wf base E n) (hM : ∀ k, k < 24 → cM (mg + 1 + 2 + k) = true) (hd : w + 50 ≤ mg ∨ mg + 30 ≤ w) (hi : d_inj P (mg + 2) 24) (hk : kn < 2 ^ n) (hr : req < 2 ^ n) (hbv : d_valid Ru no Of Os base) :
    ∃ v I' J' P' b, f_Mg_heaviest I J P mg w (nI kn) (nI req) = some (v, I', J', P') ∧ d_acc1 Ru no Of Os base E kn req b ∧ (match b with
      | none => v = -4
      | some s => v = nI s ∧ s < 2 ^ n) ∧ (∀ o, o < mg ∨ mg + 27 ≤ o → I' o = I o) ∧ d_jf (mg + 27) J J' ∧ d_pr (mg + 2) P P' ∧ d_inj P' (mg + 2) 24 := by
  have hn12 : n ≤ 12 := hwf.2.2.2.2.2.2.2.2
  have h12 : (2 : Nat) ^ n ≤ 2 ^ 12 := Nat.pow_le_pow_right (by decide) hn12
  have h2n : 1 ≤ (2 : Nat) ^ n := Nat.one_le_two_pow
  obtain ⟨I3, eI3, hb3, hr3, hfr3⟩ : ∃ I3, f_Mg_heaviest I J P mg w (nI kn) (nI req) = q_b1 (f_Wo_usable I3 w (nI kn)) (fun v1 => q_b3 (f_Mg_search 14 I3 J P mg w 0 0 v1) (fun I4 J1 P1 => some ((I4 mg 3), I4, J1, P1))) ∧ d_bst I3 mg E (if req = 0 then some 0 else none) ∧ I3 mg 2 = nI req ∧ ∀ o, o ≠ mg → I3 o = I o := by
    have e2 : ∀ f v, q_ui I mg f v mg f = v := fun f v => by unfold q_ui; rw [if_pos rfl]; exact pk_us
    unfold f_Mg_heaviest
    rw [d_l, e2]
    by_cases h0 : req = 0
    · subst h0
      have e3 : q_ui (q_ui I mg 2 (nI 0)) mg 3 0 mg 2 = nI 0 := by
        unfold q_ui
        simp only [if_true]
        rfl
      rw [if_pos (show nI 0 = 0 from rfl), if_pos rfl, d_b1, d_l, e3, if_pos (show nI 0 = 0 from rfl)]
      refine ⟨_, rfl, ⟨?_, ?_⟩, ?_, fun o ho => ?_⟩
      · unfold q_ui
        simp only [if_true]
        rfl
      · have : d_w E 0 = 0 := d_wt_0 12
        rw [this]
        unfold q_ui
        simp only [if_true]
        rfl
      · unfold q_ui
        simp only [if_true]
        rfl
      · unfold q_ui
        simp only [if_neg ho]
    · rw [if_neg (d_n0 (by omega) h0), if_neg h0]
      have e3 : q_ui (q_ui I mg 2 (nI req)) mg 3 (-4) mg 2 = nI req := by
        unfold q_ui
        simp only [if_true]
        rfl
      rw [d_b1, d_l, e3, if_neg (d_n0 (by omega) h0)]
      refine ⟨_, rfl, ⟨?_, ?_⟩, ?_, fun o ho => ?_⟩
      · unfold q_ui
        simp only [if_true]
        rfl
      · unfold q_ui
        simp only [if_true]
        rfl
      · unfold q_ui
        simp only [if_true]
        rfl
      · unfold q_ui
        simp only [if_neg ho]
  have hcw3 : d_cw I3 P w n Ru no Of Os base E C N := d_cw_fr hcw hn12 (fun o h1 h2 => hfr3 o (by omega)) rfl
  obtain ⟨U, eU, hUn, hU⟩ := d_use hcw3.2.2.2 hn12 hk
  obtain ⟨I', J', P', e, hb, hbs, sf⟩ := d_srchC hwf hM hd hr 14 0 I3 J P (if req = 0 then some 0 else none) 0 U (by omega) (by omega) (fun i _ => Nat.zero_le _) (by omega) hUn hcw3 hb3 (fun s hs => by
    split at hs
    · cases hs; omega
    · cases hs) hr3 hi
  have top := w_top (d_hyp (Ru := Ru) (no := no) (Of := Of) (Os := Os) hwf (req := req) hUn) (fun i k hi hk => ?_) (fun _ => ?_) (fun t ht h0 => ?_)
  · rw [eI3, eU, d_b1]
    have e' : f_Mg_search 14 I3 J P mg w 0 0 (nI U) = some (I', J', P') := e
    rw [e', d_b3]
    refine ⟨I' mg 3, I', J', P', _, rfl, ⟨U, hU, top⟩, ?_, fun o ho => (sf.1 o ho).trans (hfr3 o (by omega)), sf.2.2.1, sf.2.2.2.1, sf.2.2.2.2⟩
    generalize w_srch req (d_w E) (d_clN n E) (d_neN n E) (d_fitB Ru no Of Os base E) dn_low 14 (if req = 0 then some 0 else none) 0 U = b at hb hbs
    cases b with
    | none => exact hb.1
    | some s => exact ⟨hb.1, hbs s rfl⟩
  · have hk' := d_dec_t.mp hk
    refine (hU k).mpr ⟨((hU i).mp hi).2 k hk', fun k' hk2 => ?_⟩
    have := (d_wf_create hwf (show k < n by have := hk'.1; have := w_lt hUn hi; omega) hk2).2.1
    exact absurd hk'.2.1 this
  · refine ⟨fun i j hi => absurd hi w_in_0, fun i k hi => absurd hi w_in_0, ?_⟩
    show d_valid Ru no Of Os (d_fm base E 0 12)
    rw [d_fm_0]
    exact hbv
  · have htn : t < 2 ^ n := w_sub_lt ht hUn
    rw [show d_w E 0 = 0 from d_wt_0 12] at h0
    rw [w_zero]
    intro i hi
    exact d_wt_pos (fun i hi => by
      have := hwf.2.2.2.1 i hi
      unfold d_eok at this
      omega) htn 12 h0 i (by have := w_lt htn hi; omega) hi
end DS
