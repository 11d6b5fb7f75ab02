/-! a start that all have -/
theorem d_endCP {I : q_I} {a : Nat} {m : Nat → Nat} (hr : ∀ f, 1 ≤ f → f < 7 → I a f = nI (m f)) (hm : d_mp m) : f_Me_end I a = some (nI (d_end m)) := by
  unfold f_Me_end d_end
  unfold d_mp at hm
  rw [hr 1 (by omega) (by omega), hr 2 (by omega) (by omega), hr 5 (by omega) (by omega), hr 6 (by omega) (by omega), show (1 : Int32) = nI 1 from rfl, pk_sub (by omega), pk_mul, nI_add, nI_add]
theorem d_rowsCP {I : q_I} {b : Nat} {m : Nat → Nat} (hr : ∀ f, 1 ≤ f → f < 7 → I b f = nI (m f)) (hm : d_mp m) : f_Me_rows I b = some (nI (d_rows m)) := by
  have hm' := hm
  unfold d_mp at hm'
  have e3 : (2 : Nat) ^ m 3 < 2 ^ 10 := dn_2lt (by omega)
  unfold f_Me_rows d_rows
  rw [hr 3 (by omega) (by omega), hr 4 (by omega) (by omega), dn_pos (by omega), pk_shlN (4 &&& 31) 4 (by decide) (by omega), dn_or (by omega) (by omega)]
theorem d_allowsP {I : q_I} {r0 b : Nat} {m : Nat → Nat} {Ru : Nat → Nat → Nat} (hru : d_ru I r0 Ru) (hr : ∀ f, 1 ≤ f → f < 7 → I b f = nI (m f)) (hm : d_mp m) : ∃ v, f_Ru_allows I r0 b = some v ∧ (v = 0 ∨ v = 1) ∧ (v = 1 ↔ d_ok1 Ru m) := by
  have hm' := hm
  unfold d_mp at hm'
  have he := d_end_leP hm
  have hx := hru.1 (m 3) (by omega)
  have hv := hru.2.2.1 (m 3) (by omega)
  have hc := d_cnt0 (m 4) (by omega)
  have hcl := dn_cnt_le (s := m 4)
  unfold f_Ru_allows
  rw [hr 3 (by omega) (by omega), dn_within, show f_Mo_in (nI (m 3)) 0 3 = some 1 by rw [show (0 : Int32) = nI 0 from rfl, show (3 : Int32) = nI 3 from rfl, dn_inE (by omega) (by omega) (by omega), if_pos (by omega)], d_b1, if_neg (show ¬ (1 : Int32) = 0 by decide), hr 1 (by omega) (by omega), if_neg (nI_pos (by omega)), d_endCP hr hm, d_b1]
  unfold d_ok1
  by_cases h1 : d_end m ≤ 96
  · rw [if_pos (show nI (d_end m) ≤ 96 from nI_le (b := 96) h1 (by decide)), hr 4 (by omega) (by omega), dn_bc _ (by omega), d_b1, d_ix (by omega) (by decide), hx.1, dn_within, show (1 : Int32) = nI 1 from rfl, dn_inE (by omega) (by omega) (by omega), d_b1]
    unfold q_jj
    dsimp only
    rw [hr 6 (by omega) (by omega), hr 2 (by omega) (by omega), hr 5 (by omega) (by omega)]
    have fin : ∃ v, some ((if 1 ≤ dn_cnt (m 4) ∧ dn_cnt (m 4) ≤ Ru 0 (m 3) then (1 : Int32) else 0) &&& nI 1) = some v ∧ (v = 0 ∨ v = nI 1) ∧ (v = nI 1 ↔ m 4 ≠ 0 ∧ dn_cnt (m 4) ≤ Ru 0 (m 3)) := by
      by_cases hq : 1 ≤ dn_cnt (m 4) ∧ dn_cnt (m 4) ≤ Ru 0 (m 3)
      · rw [if_pos hq]
        exact ⟨1, rfl, Or.inr rfl, fun _ => ⟨hc.mp hq.1, hq.2⟩, fun _ => rfl⟩
      · rw [if_neg hq]
        exact ⟨0, rfl, Or.inl rfl, fun q => absurd q (by decide), fun q => absurd ⟨hc.mpr q.1, q.2⟩ hq⟩
    obtain ⟨v, e, g1, g2⟩ := fin
    by_cases h2 : m 6 ≤ 1
    · rw [if_pos (nI_le h2 (by omega))]
      exact ⟨v, e, g1, g2.trans ⟨fun q => ⟨h1, Or.inl h2, q⟩, fun q => q.2.2⟩⟩
    · rw [if_neg (nI_ge (by omega) (by omega))]
      by_cases h3 : m 2 ≤ m 5
      · rw [if_pos (nI_le h3 (by omega))]
        exact ⟨v, e, g1, g2.trans ⟨fun q => ⟨h1, Or.inr h3, q⟩, fun q => q.2.2⟩⟩
      · rw [if_neg (nI_ge (by omega) (by omega))]
        exact ⟨0, rfl, Or.inl rfl, fun q => absurd q (by decide), fun q => by omega⟩
  · rw [if_neg (show ¬ nI (d_end m) ≤ 96 from nI_ge (a := 96) (by omega) (by omega))]
    exact ⟨0, rfl, Or.inl rfl, fun q => absurd q (by decide), fun q => absurd q.1 h1⟩
def d_mk (x dur q ps : Nat) : Nat → Nat := fun f => if f = 0 then 4294967295 else if f = 1 then x else if f = 2 then dur else if f = 3 then q else if f = 4 then ps else if f = 5 then 0 else if f = 6 then 1 else 0
theorem d_mk_S {x dur q ps i : Nat} : d_S (d_mk x dur q ps) i ↔ d_rg x (x + dur) i := by
  unfold d_S d_sl d_occ
  show (∃ t, t < 1 ∧ d_rg (x + t * 0) (x + t * 0 + dur) i) ↔ _
  constructor
  · rintro ⟨t, h1, h2⟩
    rw [Nat.mul_zero, Nat.add_zero] at h2
    exact h2
  · intro h
    exact ⟨0, by decide, by rw [Nat.mul_zero, Nat.add_zero]; exact h⟩
theorem d_find_app {m : Nat → Nat} {x : Int32} (h : nI (m 0) ≠ x) : ∀ L : List (Nat → Nat), d_find (L ++ [m]) x = d_find L x := by
  intro L
  induction L with
  | nil =>
    show (if nI (m 0) = x then some 0 else (d_find [] x).map (fun j => j + 1)) = none
    rw [if_neg h]
    rfl
  | cons a L ih =>
    show (if nI (a 0) = x then some 0 else (d_find (L ++ [m]) x).map (fun j => j + 1)) = (if nI (a 0) = x then some 0 else (d_find L x).map (fun j => j + 1))
    rw [ih]
theorem d_keeps_app {m : Nat → Nat} {x y : Int32} (hx : nI (m 0) ≠ x) (hy : nI (m 0) ≠ y) {L : List (Nat → Nat)} (h : d_keeps L x y) : d_keeps (L ++ [m]) x y := by
  intro i j a b h1 h2 h3 h4
  rw [d_find_app hx] at h1
  rw [d_find_app hy] at h2
  rw [List.getElem?_append_left (d_find_lt h1)] at h3
  rw [List.getElem?_append_left (d_find_lt h2)] at h4
  exact h i j a b h1 h2 h3 h4
def d_CT (Ru : Nat → Nat → Nat) (L : List (Nat → Nat)) (x dur q ps : Nat) : Prop := d_well Ru (d_mk x dur q ps) ∧ ∀ m, m ∈ L → d_dis m (d_mk x dur q ps)
section DC
variable {n no dur ps : Nat} {M1 : q_I} {Ru : Nat → Nat → Nat} {Of Os : Nat → Int32} {base : List (Nat → Nat)} {E : Nat → Nat → Nat} {L : List (Nat → Nat)}
theorem d_CT_val {x q : Nat} (hL : d_valid Ru no Of Os L) (hng : ∀ o, o < no → ¬ Of o < 0 ∧ ¬ Os o < 0) : d_valid Ru no Of Os (L ++ [d_mk x dur q ps]) ↔ d_CT Ru L x dur q ps := by
  have hneg : ∀ y : Int32, ¬ y < 0 → nI (d_mk x dur q ps 0) ≠ y := fun y hy z => hy (by rw [← z]; show nI 4294967295 < 0; decide)
  constructor
  · intro h
    have hp := List.pairwise_append.mp h.1.2
    exact ⟨h.1.1 _ (List.mem_append_right _ (List.mem_singleton.mpr rfl)), fun m hm => hp.2.2 m hm _ (List.mem_singleton.mpr rfl)⟩
  · intro h
    refine ⟨⟨fun m hm => ?_, List.pairwise_append.mpr ⟨hL.1.2, List.pairwise_singleton _ _, fun a ha b hb => ?_⟩⟩, fun o ho => d_keeps_app (hneg _ (hng o ho).1) (hneg _ (hng o ho).2) (hL.2 o ho)⟩
    · rcases List.mem_append.mp hm with q | q
      · exact hL.1.1 m q
      · rw [List.mem_singleton.mp q]
        exact h.1
    · rw [List.mem_singleton.mp hb]
      exact h.2 a ha
theorem d_mk_mp {x q : Nat} (hx : x ≤ 95) (hd : 1 ≤ dur ∧ dur ≤ 8) (hq : q ≤ 3) (hps : ps ≤ 63) : d_mp (d_mk x dur q ps) := ⟨hx, hd, hq, hps, Nat.zero_le 99, Nat.le_refl 1, show 1 ≤ 4 by decide⟩
theorem d_comT {I1 I2 : q_I} {J1 : q_J} {x q : Nat} (hru : d_ru I1 2 Ru) (h : d_tt J1 109 (d_R Ru L)) (hx : x ≤ 95) (hd : 1 ≤ dur ∧ dur ≤ 8) (hq : q ≤ 3) (hps : ps ≤ 63) (hI : ∀ o, o ≠ 112 → I2 o = I1 o) :
    ∃ I4, f_Me_fill I2 112 (nI x) (nI dur) (nI q) (nI ps) 0 1 = some I4 ∧ (∀ o, o ≠ 112 → I4 o = I1 o) ∧ ((d_CT Ru L x dur q ps ∧ f_Ru_allows I4 2 112 = some 1 ∧ ∃ v6, f_Me_rows I4 112 = some v6 ∧ f_TT_isFree J1 109 v6 (nI x) (nI (x + dur)) = some 1) ∨ (¬ d_CT Ru L x dur q ps ∧ (f_Ru_allows I4 2 112 = some 0 ∨ (f_Ru_allows I4 2 112 = some 1 ∧ ∃ v6, f_Me_rows I4 112 = some v6 ∧ f_TT_isFree J1 109 v6 (nI x) (nI (x + dur)) = some 0)))) := by
  unfold f_Me_fill
  rw [d_l, d_l, d_l, d_l, d_l, d_l]
  refine ⟨_, rfl, fun o ho => by rw [d_ui_o ho, d_ui_o ho, d_ui_o ho, d_ui_o ho, d_ui_o ho, d_ui_o ho, hI o ho], ?_⟩
  obtain ⟨I4, eI, -⟩ : ∃ I4, I4 = q_ui (q_ui (q_ui (q_ui (q_ui (q_ui I2 112 1 (nI x)) 112 2 (nI dur)) 112 3 (nI q)) 112 4 (nI ps)) 112 5 0) 112 6 1 ∧ True := ⟨_, rfl, trivial⟩
  have ho : ∀ o, o ≠ 112 → I4 o = I1 o := fun o ho => by rw [eI, d_ui_o ho, d_ui_o ho, d_ui_o ho, d_ui_o ho, d_ui_o ho, d_ui_o ho, hI o ho]
  have hr : ∀ f, 1 ≤ f → f < 7 → I4 112 f = nI (d_mk x dur q ps f) := fun f h1 h7 => by
    rw [eI]
    have hf' : f = 1 ∨ f = 2 ∨ f = 3 ∨ f = 4 ∨ f = 5 ∨ f = 6 := by omega
    rcases hf' with rfl | rfl | rfl | rfl | rfl | rfl <;> simp (disch := omega) only [d_ui_s, d_ui_n] <;> rfl
  rw [← eI]
  have hmp := d_mk_mp hx hd hq hps
  have hru4 : d_ru I4 2 Ru := d_ru_fr hru (fun o q1 q2 => ho o (by omega))
  obtain ⟨v, e1, g1, g2⟩ := d_allowsP hru4 hr hmp
  have e2 := d_rowsCP hr hmp
  have hlt : d_rows (d_mk x dur q ps) < 2 ^ 31 := w_bound (fun i hi => by
    rcases d_rows_in.mp hi with z | ⟨z1, z2⟩
    · have : i = q := z
      omega
    · have z3 : w_in ps (i - 4) := z2
      have := w_lt (n := 6) (by omega) z3
      omega)
  obtain ⟨v7, e3, g3, g4⟩ := d_free (rows := d_rows (d_mk x dur q ps)) (f := x) (t := x + dur) hlt (by omega) (by omega) h
  have key : d_CT Ru L x dur q ps ↔ v = 1 ∧ v7 = 1 := by
    rw [g2, g4]
    unfold d_CT d_well d_R
    constructor
    · rintro ⟨⟨q1, q2⟩, q3⟩
      refine ⟨q1, fun r hr hin i hi z => ?_⟩
      rcases z.1 with z1 | ⟨m, z1, z2, z3⟩
      · exact q2 r hr hin i hi ⟨z1, d_mk_S.mpr z.2⟩
      · exact q3 m z1 r hr z2 hin i hi ⟨z3, d_mk_S.mpr z.2⟩
    · rintro ⟨q1, q2⟩
      exact ⟨⟨q1, fun r hr hin i hi z => q2 r hr hin i hi ⟨Or.inl z.1, d_mk_S.mp z.2⟩⟩, fun m hm r hr h1 h2 i hi z => q2 r hr h2 i hi ⟨Or.inr ⟨m, hm, h1, z.1⟩, d_mk_S.mp z.2⟩⟩
  rw [e1]
  rcases g1 with rfl | rfl
  · exact Or.inr ⟨fun q => absurd (key.mp q).1 (by decide), Or.inl rfl⟩
  · rcases g3 with rfl | rfl
    · exact Or.inr ⟨fun q => absurd (key.mp q).2 (by decide), Or.inr ⟨rfl, _, e2, e3⟩⟩
    · exact Or.inl ⟨key.mpr ⟨rfl, rfl⟩, rfl, _, e2, e3⟩
def d_cmM (L : List (Nat → Nat)) (dur ps : Nat) (M1 M9 : q_I) : Prop := (∀ o, o ≠ 0 → o ≠ 6 → M9 o = M1 o) ∧ (∀ f, f ≠ 7 → M9 0 f = M1 0 f) ∧ M9 0 7 = nI (L.length + 1) ∧ (∀ k m, L[k]? = some m → ∀ f, f < 7 → M9 6 (7 * k + f) = nI (m f)) ∧ M9 6 (7 * L.length + 0) = -1 ∧ M9 6 (7 * L.length + 2) = nI dur ∧ M9 6 (7 * L.length + 4) = nI ps ∧ M9 6 (7 * L.length + 5) = 0 ∧ M9 6 (7 * L.length + 6) = 1
theorem d_comM {M9 : q_I} {J : q_J} {x q : Nat} (hm1 : d_mw (M1 1) n Ru no Of Os base E) (hL24 : L.length ≤ 24) (hmt : ∀ m, m ∈ L → d_mt m) (hLv : d_valid Ru no Of Os L) (hng : ∀ o, o < no → ¬ Of o < 0 ∧ ¬ Os o < 0) (hx : x ≤ 95) (hd : 1 ≤ dur ∧ dur ≤ 8) (hq : q ≤ 3) (hps : ps ≤ 63) (hc : d_cmM L dur ps M1 M9) :
    ∃ v J', f_Mo_isValid (q_ui (q_ui M9 6 (7 * L.length + 1) (nI x)) 6 (7 * L.length + 3) (nI q)) J = some (v, J') ∧ (v = 0 ∨ v = 1) ∧ (v = 1 ↔ d_CT Ru L x dur q ps) ∧ d_cmM L dur ps M1 (q_ui (q_ui M9 6 (7 * L.length + 1) (nI x)) 6 (7 * L.length + 3) (nI q)) := by
  obtain ⟨c1, c2, c3, c4, c5, c6, c7, c8, c9⟩ := hc
  obtain ⟨M11, eM, -⟩ : ∃ M11, M11 = q_ui (q_ui M9 6 (7 * L.length + 1) (nI x)) 6 (7 * L.length + 3) (nI q) ∧ True := ⟨_, rfl, trivial⟩
  have hO : ∀ o, o ≠ 6 → M11 o = M9 o := fun o ho => by rw [eM, d_ui_o ho, d_ui_o ho]
  have hX : ∀ f, f ≠ 7 * L.length + 1 → f ≠ 7 * L.length + 3 → M11 6 f = M9 6 f := fun f q1 q2 => by rw [eM, d_ui_n q2, d_ui_n q1]
  have h1 : M11 6 (7 * L.length + 1) = nI x := by rw [eM, d_ui_n (by omega), d_ui_s]
  have h3 : M11 6 (7 * L.length + 3) = nI q := by rw [eM, d_ui_s]
  rw [← eM]
  have hLm : ∀ k m, L[k]? = some m → ∀ f, f < 7 → M11 6 (7 * k + f) = nI (m f) := fun k m hk f hf => by
    have := d_get_lt hk
    rw [hX _ (by omega) (by omega)]
    exact c4 k m hk f hf
  have hcm : d_cmM L dur ps M1 M11 := ⟨fun o q1 q2 => by rw [hO o q2, c1 o q1 q2], fun f hf => by rw [hO 0 (by decide), c2 f hf], by rw [hO 0 (by decide), c3], hLm, by rw [hX _ (by omega) (by omega), c5], by rw [hX _ (by omega) (by omega), c6], by rw [hX _ (by omega) (by omega), c7], by rw [hX _ (by omega) (by omega), c8], by rw [hX _ (by omega) (by omega), c9]⟩
  have hmc : d_mc M11 (L ++ [d_mk x dur q ps]) := by
    refine ⟨?_, ?_, fun k m hk f hf => ?_⟩
    · rw [hcm.2.2.1, List.length_append]
      rfl
    · rw [List.length_append]
      show L.length + 1 ≤ 25
      omega
    · by_cases hkl : k < L.length
      · rw [List.getElem?_append_left hkl] at hk
        exact hLm k m hk f hf
      · have hk' := d_get_lt hk
        rw [List.length_append] at hk'
        have hke : k = L.length := by
          have : k < L.length + 1 := hk'
          omega
        subst hke
        rw [List.getElem?_append_right (Nat.le_refl _), Nat.sub_self] at hk
        cases hk
        have hf' : f = 0 ∨ f = 1 ∨ f = 2 ∨ f = 3 ∨ f = 4 ∨ f = 5 ∨ f = 6 := by omega
        rcases hf' with rfl | rfl | rfl | rfl | rfl | rfl | rfl
        · exact hcm.2.2.2.2.1
        · exact h1
        · exact hcm.2.2.2.2.2.1
        · exact h3
        · exact hcm.2.2.2.2.2.2.1
        · exact hcm.2.2.2.2.2.2.2.1
        · exact hcm.2.2.2.2.2.2.2.2
  obtain ⟨v, J', e, g1, g2⟩ := d_isValidP (J := J) (n := n) (Ru := Ru) (no := no) (Of := Of) (Os := Os) (base := base) (E := E) hmc (fun m hm => by
    rcases List.mem_append.mp hm with z | z
    · exact d_mp_of (hmt m z)
    · rw [List.mem_singleton.mp z]
      exact d_mk_mp hx hd hq hps) (by rw [hcm.1 1 (by decide) (by decide)]; exact hm1)
  exact ⟨v, J', e, g1, g2.trans (d_CT_val hLv hng), hcm⟩
end DC
