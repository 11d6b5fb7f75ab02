/-! making an edit -/
section DN
variable {t n : Nat} {I : q_I} {P : q_P} {M : q_I} {Ru : Nat → Nat → Nat} {no : Nat} {Of Os : Nat → Int32} {base : List (Nat → Nat)} {E : Nat → Nat → Nat} {kn : Nat → Nat} {nx : Nat} {ac : Nat → Nat}
theorem d_acsub (ha : d_ab t n Ru no Of Os base E kn nx ac) {r : Nat} (hr : r < 3) : w_sub (ac r) (kn r) := by
  obtain ⟨U, h1, h2, h3, h4, h5⟩ := (ha.2.2.2.2.2.1 r hr).2.2
  exact fun i hi => d_us_sub h1 i (h4 i hi)
theorem d_E4 (ha : d_ab t n Ru no Of Os base E kn nx ac) {i : Nat} (hi : i < n) : E i 4 < nx := by
  obtain ⟨w1, w2, w3, w4, w5, w6, w7, w8, w9⟩ := ha.1
  by_cases h3 : E i 3 = 0
  · have := (w4 i hi).2.2.2.2.2.2.2.2.1 h3
    rw [this.1]
    exact ha.2.2.2.1 i hi
  · rcases w7 i hi h3 with ⟨m, h1, h2⟩ | ⟨k, h1, h2, h4, h5⟩
    · rw [← h2]; exact ha.2.2.1 m h1
    · rw [← h4]; exact ha.2.2.2.1 k (by omega)
/-- what may be said of a new edit -/
def d_nw (n nx r k : Nat) (e : Nat → Nat) (L : List (Nat → Nat)) : Prop := e 0 = nx ∧ e 1 = r ∧ e 6 = k ∧ d_eok e ∧ (e 3 ≠ 0 → ∃ m, m ∈ L ∧ m 0 = e 4)
variable {r : Nat} {e : Nat → Nat}
theorem d_wf_up (ha : d_ab t n Ru no Of Os base E kn nx ac) (hn : n < 12) (hr : r < 3) (he : d_nw n nx r (kn r) e (d_fm base E (ac r) 12)) : d_wf base (d_up E n e) (n + 1) := by
  obtain ⟨w1, w2, w3, w4, w5, w6, w7, w8, w9⟩ := ha.1
  obtain ⟨e0, e1, e6, ok, par⟩ := he
  have hk := (ha.2.2.2.2.2.1 r hr).1
  refine ⟨w1, w2, w3, fun i hi => ?_, fun i hi m hm => ?_, fun i j hij hj => ?_, fun i hi h3 => ?_, fun i hi => ?_, by omega⟩
  · by_cases q : i = n
    · subst q; rw [d_up_s]; exact ok
    · rw [d_up_n q]; exact w4 i (by omega)
  · by_cases q : i = n
    · subst q; rw [d_up_s, e0]; exact ha.2.2.1 m hm
    · rw [d_up_n q]; exact w5 i (by omega) m hm
  · rw [d_up_n (show i ≠ n by omega)]
    by_cases q : j = n
    · subst q; rw [d_up_s, e0]; exact ha.2.2.2.1 i hij
    · rw [d_up_n q]; exact w6 i j hij (by omega)
  · by_cases q : i = n
    · subst q
      rw [d_up_s] at h3 ⊢
      obtain ⟨m, hm, hm4⟩ := par h3
      rcases d_fm_num 12 m hm with ⟨b, z1, z2⟩ | ⟨k, z1, z2, z3, z4⟩
      · exact Or.inl ⟨b, z1, by rw [← z2]; exact hm4⟩
      · have hki := w_lt (ha.2.2.2.2.2.1 r hr).2.1 z2
        refine Or.inr ⟨k, hki, ?_, ?_, ?_⟩
        · rw [d_up_n (by omega)]; exact z3
        · rw [d_up_n (by omega), ← z4]; exact hm4
        · rw [e6]; exact d_acsub ha hr k z2
    · rw [d_up_n q] at h3 ⊢
      rcases w7 i (by omega) h3 with z | ⟨k, z1, z2, z3, z4⟩
      · exact Or.inl z
      · refine Or.inr ⟨k, z1, ?_, ?_, z4⟩
        · rw [d_up_n (by omega)]; exact z2
        · rw [d_up_n (by omega)]; exact z3
  · by_cases q : i = n
    · subst q; rw [d_up_s, e6]; exact hk
    · rw [d_up_n q]; exact w8 i (by omega)
theorem d_cw_up {I4 : q_I} {C N : Nat → Nat} {c m : Nat} (hcw : d_cw I P 1 n Ru no Of Os base E C N) (hn : n < 12) (hI : ∀ o, o ≠ 27 + 2 * n → o ≠ 28 + 2 * n → I4 o = I o) (hed : d_ed I4 (27 + 2 * n) e) (h6 : I4 (27 + 2 * n) 6 = nI c) (hc : c < 4096) (hcj : ∀ j, w_in c j ↔ j < n ∧ d_cl (d_up E n e) j n) (h7 : I4 (27 + 2 * n) 7 = nI m) (hm : m < 4096) (hmj : ∀ j, w_in m j ↔ j < n ∧ d_nn (d_up E n e) j n) :
    d_cw I4 P 1 (n + 1) Ru no Of Os base (d_up E n e) (fun j => if j = n then c else C j) (fun j => if j = n then m else N j) ∧ d_cw I4 P 1 n Ru no Of Os base E (fun j => if j = n then c else C j) (fun j => if j = n then m else N j) := by
  obtain ⟨g1, g2, g3, g4, g5⟩ := hcw
  have a1 : d_ru I4 (1 + 1) Ru := d_ru_fr g1 (fun o q1 q2 => hI o (by omega) (by omega))
  have a2 : d_or I4 (1 + 1) no Of Os := d_or_fr g2 (fun o q1 q2 => hI o (by omega) (by omega))
  have a3 : d_cal I4 P (1 + 9) 12 base := d_cal_eq g3 (fun o q1 q2 => hI o (by omega) (by omega)) rfl
  have a4 : ∀ j, j < 12 → I4 (1 + 26 + 2 * j) 6 = nI (if j = n then c else C j) ∧ I4 (1 + 26 + 2 * j) 7 = nI (if j = n then m else N j) ∧ (if j = n then c else C j) < 4096 ∧ (if j = n then m else N j) < 4096 := fun j hj => by
    by_cases q : j = n
    · subst q
      rw [if_pos rfl, if_pos rfl]
      exact ⟨h6, h7, hc, hm⟩
    · rw [if_neg q, if_neg q, hI _ (by omega) (by omega)]
      exact g4 j hj
  have old : ∀ j, j < n → d_ed I4 (1 + 26 + 2 * j) (E j) ∧ (∀ i, w_in (if j = n then c else C j) i ↔ i < j ∧ d_cl E i j) ∧ (∀ i, w_in (if j = n then m else N j) i ↔ d_nn E i j) := fun j hj => by
    rw [if_neg (by omega), if_neg (by omega)]
    obtain ⟨z1, z2⟩ := g5 j hj
    exact ⟨d_ed_fr z1 (hI _ (by omega) (by omega)) (hI _ (by omega) (by omega)), z2⟩
  refine ⟨⟨a1, a2, a3, a4, fun j hj => ?_⟩, ⟨a1, a2, a3, a4, old⟩⟩
  by_cases q : j = n
  · subst q
    dsimp only
    rw [if_pos rfl, if_pos rfl, d_up_s]
    refine ⟨?_, hcj, fun i => (hmj i).trans ⟨fun z => z.2, fun z => ⟨z.1, z⟩⟩⟩
    rw [show 1 + 26 + 2 * j = 27 + 2 * j by omega]
    exact hed
  · have hjn : j < n := by omega
    obtain ⟨z1, z2, z3⟩ := old j hjn
    rw [d_up_n q]
    refine ⟨z1, fun i => (z2 i).trans ⟨fun z => ⟨z.1, (d_cl_x d_up_lt (by omega) hjn).mpr z.2⟩, fun z => ⟨z.1, (d_cl_x d_up_lt (by omega) hjn).mp z.2⟩⟩, fun i => (z3 i).trans (d_nn_x d_up_lt hjn).symm⟩
/-- the edit is written into the next row -/
theorem d_draft (hc4 : I 1 4 = nI nx) (hn : n < 12) (e0 : e 0 = nx) (e1 : e 1 = r) (hpl : e 3 = 0 → ∀ f, 1 ≤ f → f < 7 → I 112 f = nI (e (6 + f))) (K : q_I → Option (Int32 × q_I × q_J × q_P)) :
    ∃ I3, q_b1 (f_Ed_fill I (1 + 26 + 2 * n) (I 1 4) (nI r) (nI (e 2)) (nI (e 3)) (nI (e 4)) (nI (e 5))) (fun I1 => q_b1 (f_Me_copyFrom I1 (1 + 26 + 2 * n + 1) 112) (fun I2 => q_l (q_ui I2 (1 + 26 + 2 * n + 1) 0 (I2 1 4)) (fun I3 => K I3))) = K I3 ∧ d_ed I3 (27 + 2 * n) e ∧ ∀ o, o ≠ 27 + 2 * n → o ≠ 28 + 2 * n → I3 o = I o := by
  have eb : 1 + 26 + 2 * n = 27 + 2 * n := by omega
  rw [eb]
  unfold f_Ed_fill
  rw [d_l, d_l, d_l, d_l, d_l, d_l, d_b1]
  obtain ⟨I1, rI, g0⟩ : ∃ I1, I1 = q_ui (q_ui (q_ui (q_ui (q_ui (q_ui I (27 + 2 * n) 0 (I 1 4)) (27 + 2 * n) 1 (nI r)) (27 + 2 * n) 2 (nI (e 2))) (27 + 2 * n) 3 (nI (e 3))) (27 + 2 * n) 4 (nI (e 4))) (27 + 2 * n) 5 (nI (e 5)) ∧ True := ⟨_, rfl, trivial⟩
  have g1 : ∀ o, o ≠ 27 + 2 * n → I1 o = I o := fun o ho => by rw [rI, d_ui_o ho, d_ui_o ho, d_ui_o ho, d_ui_o ho, d_ui_o ho, d_ui_o ho]
  have g2 : ∀ f, f < 6 → I1 (27 + 2 * n) f = nI (e f) := fun f hf => by
    rw [rI]
    have hf' : f = 0 ∨ f = 1 ∨ f = 2 ∨ f = 3 ∨ f = 4 ∨ f = 5 := by omega
    rcases hf' with rfl | rfl | rfl | rfl | rfl | rfl
    · simp (disch := omega) only [d_ui_s, d_ui_n]
      rw [hc4, e0]
    · simp (disch := omega) only [d_ui_s, d_ui_n]
      rw [e1]
    all_goals simp (disch := omega) only [d_ui_s, d_ui_n]
  rw [← rI]
  obtain ⟨I2, x1, x2, x3⟩ := d_cp (I := I1) (a := 27 + 2 * n + 1) (b := 112) (by omega)
  rw [x1, d_b1, d_l]
  refine ⟨_, rfl, ⟨fun f hf => ?_, fun h3 f hf => ?_⟩, fun o h1 h2 => ?_⟩
  · rw [d_ui_o (by omega), x2 _ (by omega)]
    exact g2 f hf
  · unfold d_new
    by_cases f0 : f = 0
    · subst f0
      rw [d_ui_s, x2 1 (by omega), g1 1 (by omega), hc4, if_pos rfl, e0]
    · rw [d_ui_n f0, x3 f hf, g1 112 (by omega), if_neg f0, if_pos hf]
      exact hpl h3 f (by omega) hf
  · rw [d_ui_o (by omega), x2 o (by omega), g1 o h1]
theorem d_make12 {J : q_J} {a1 a2 a3 a4 a5 : Int32} (hc2 : I 1 3 = nI 12) : f_CR_make I J P a1 a2 a3 a4 a5 = some (-2, I, J, P) := by
  unfold f_CR_make
  rw [hc2, d_eatn (n := 12) hc2 (by decide) (fun k h1 h2 z => by
    have := (nI_eq (a := 12) (b := k) (by decide) (by omega)).mp z
    omega), d_b1]
  rfl
theorem d_makeC {J : q_J} (ha : d_ab t n Ru no Of Os base E kn nx ac) (hc : d_cl1 I P 1 n Ru no Of Os base E kn nx ac) (h3 : d_inj P 55 24) (h4 : d_inj P 84 24) (hn : n < 12) (hr : r < 3) (he : d_nw n nx r (kn r) e (d_fm base E (ac r) 12)) (hpl : e 3 = 0 → ∀ f, 1 ≤ f → f < 7 → I 112 f = nI (e (6 + f))) :
    ∃ v I' J' P' s, f_CR_make I J P (nI r) (nI (e 3)) (nI (e 4)) (nI (e 5)) (nI (e 2)) = some (v, I', J', P') ∧ d_acc1 Ru no Of Os base (d_up E n e) (kn r ||| 2 ^ n) 0 (some s) ∧ s < 2 ^ (n + 1) ∧ (s = ac r ||| 2 ^ n → v = nI nx ∧ d_cl1 I' P' 1 (n + 1) Ru no Of Os base (d_up E n e) (fun q => if q = r then kn r ||| 2 ^ n else kn q) (nx + 1) (fun q => if q = r then s else ac q)) ∧ (s ≠ ac r ||| 2 ^ n → v = -3 ∧ d_cl1 I' P' 1 n Ru no Of Os base E kn nx ac) ∧ d_cs2 I I' P P' := by
  have hwf' := d_wf_up ha hn hr he
  have h12 : (2 : Nat) ^ (n + 1) ≤ 2 ^ 12 := Nat.pow_le_pow_right (by decide) (by omega)
  have hpn : (2 : Nat) ^ (n + 1) = 2 ^ n * 2 := Nat.pow_succ 2 n
  obtain ⟨⟨C, N, hcw⟩, hc2, hc3, hc4⟩ := hc
  have h24 : ∀ q, q < 3 → I 25 q = nI (kn q) := fun q hq => (hc4 q hq).1
  have h25 : ∀ q, q < 3 → I 26 q = nI (ac q) := fun q hq => (hc4 q hq).2
  have hk := (ha.2.2.2.2.2.1 r hr).1
  have hac := (ha.2.2.2.2.2.1 r hr).2.1
  have he' := he
  obtain ⟨e0, e1, e6, ok, par⟩ := he'
  have hE4 : ∀ i, i < n → E i 4 < nx := fun i hi => d_E4 ha hi
  have hnx : nx ≤ 100000 := by have := ok.2.2.1; omega
  unfold f_CR_make
  rw [hc2, d_eat hc2 (by omega) (Nat.le_refl _) hn, d_b1]
  simp only [Option.elim_some]
  unfold q_ck
  rw [if_pos (cE27 n hn)]
  obtain ⟨I3, x1, x2, x3⟩ := d_draft (I := I) (n := n) (r := r) (e := e) hc3 hn e0 e1 hpl (fun I3 => q_ix (nI r) 3 (fun j1 => q_b1 (f_Wo_relate I3 1 (1 + 26 + 2 * n) (I3 25 j1)) (fun I4 => q_l ((1 : Int32) <<< ((I4 1 3) &&& 31) : Int32) (fun x1 => q_ix (nI r) 3 (fun j2 => q_b4 (f_Mg_heaviest I4 J P 53 1 ((I4 25 j2) ||| x1) 0) (fun v1 I5 J1 P1 => q_ix (nI r) 3 (fun j3 => if v1 = ((I5 26 j3) ||| x1) then (q_ix (nI r) 3 (fun j4 => q_ix (nI r) 3 (fun j5 => q_l (q_ui I5 25 j5 ((I5 25 j4) ||| x1)) (fun I6 => q_ix (nI r) 3 (fun j6 => q_l (q_ui I6 26 j6 v1) (fun I7 => q_l (q_ui I7 1 3 ((I7 1 3) + 1)) (fun I8 => q_l (q_ui I8 1 4 ((I8 1 4) + 1)) (fun I9 => some ((I9 (1 + 26 + 2 * n) 0), I9, J1, P1))))))))) else (some ((-3), I5, J1, P1)))))))))
  rw [x1, d_ix hr (by decide), x3 25 (by omega) (by omega), h24 r hr]
  have eb : 1 + 26 + 2 * n = 27 + 2 * n := by omega
  obtain ⟨I4, c, m, y1, y2, y3, y4, y5, y6, y7, y8, y9⟩ := d_relL (n := n) (kr := kn r) (b := 27 + 2 * n) (E := E) (e := e) rfl hn hk e6 ok (fun i hi => ha.1.2.2.2.1 i hi) (fun i hi => by have := hE4 i hi; omega) (fun h0 i hi z => by
    have := (ok.2.2.2.2.2.2.2.2.1 h0).1
    have := hE4 i hi
    omega) (fun i j hi hj zi zj => by
    unfold d_nn at zi zj
    rw [d_up_s] at zi zj
    rw [d_up_n (by omega)] at zi zj
    have oi := ((ha.1.2.2.2.1 i hi).2.2.2.2.2.2.2.2.1 zi.2.1).1
    have oj := ((ha.1.2.2.2.1 j hj).2.2.2.2.2.2.2.2.1 zj.2.1).1
    have z1 := zi.2.2
    have z2 := zj.2.2
    have mono := ha.1.2.2.2.2.2.1
    rcases Nat.lt_trichotomy i j with q | q | q
    · have := mono i j q hj
      omega
    · exact q
    · have := mono j i q hi
      omega) n 0 q_fu (q_ui (q_ui I3 (27 + 2 * n) 6 0) (27 + 2 * n) 7 0) 0 0 (by omega) (d_q (by omega)) (by
    rw [d_ui_o (by omega), d_ui_o (by omega), x3 1 (by omega) (by omega)]
    exact hc2) (fun i hi f hf => by
    rw [d_ui_o (by omega), d_ui_o (by omega), x3 _ (by omega) (by omega)]
    exact (hcw.2.2.2.2 i hi).1.1 f hf) (fun f hf => by
    rw [d_ui_n (by omega), d_ui_n (by omega)]
    exact x2.1 f hf) (by rw [d_ui_n (by decide), d_ui_s]; rfl) (by decide) (fun j => ⟨fun z => absurd z w_in_0, fun z => by omega⟩) (by rw [d_ui_s]; rfl) (by decide) (fun j => ⟨fun z => absurd z w_in_0, fun z => by omega⟩)
  have eR : f_Wo_relate I3 1 (1 + 26 + 2 * n) (nI (kn r)) = some I4 := by
    unfold f_Wo_relate
    rw [d_l, d_l, eb]
    exact y1
  have fI : ∀ o, o ≠ 27 + 2 * n → o ≠ 28 + 2 * n → I4 o = I o := fun o q1 q2 => by rw [y8 o q1, d_ui_o q1, d_ui_o q1, x3 o q1 q2]
  have hed : d_ed I4 (27 + 2 * n) e := ⟨fun f hf => by
    rw [y9 f hf, d_ui_n (by omega), d_ui_n (by omega)]
    exact x2.1 f hf, fun h0 => by
    rw [y8 _ (by omega), d_ui_o (by omega), d_ui_o (by omega)]
    exact x2.2 h0⟩
  obtain ⟨w1, w2⟩ := d_cw_up hcw hn fI hed y2 y3 y4 y5 y6 y7
  have h2n : 2 ^ n < 2 ^ (n + 1) := dn_2lt (by omega)
  have hk' : kn r ||| 2 ^ n < 2 ^ (n + 1) := dn_orlt (by omega) h2n
  have hac' : ac r ||| 2 ^ n < 2 ^ (n + 1) := dn_orlt (by omega) h2n
  obtain ⟨I5, J1, P1, s, k1, k2, k3, k4, k5, k6⟩ := d_mrg (J := J) hwf' ha.2.1 w1 h3 hk'
  rw [eR, d_b1, fI 1 (by omega) (by omega), hc2, dn_pos (by omega), d_l, d_ix hr (by decide), fI 25 (by omega) (by omega), h24 r hr, dn_or (by omega) (by omega), k1, d_b4, d_ix hr (by decide), k4 26 (by decide), fI 26 (by omega) (by omega), h25 r hr, dn_or (by omega) (by omega)]
  have i84 : d_inj P1 84 24 := by
    unfold d_inj
    rw [k5 84 (by decide)]
    exact h4
  have f5 : ∀ o, (o < 53 ∨ 80 ≤ o) → o ≠ 27 + 2 * n → o ≠ 28 + 2 * n → I5 o = I o := fun o q1 q2 q3 => by rw [k4 o q1, fI o q2 q3]
  by_cases hs : s = ac r ||| 2 ^ n
  · rw [if_pos (congrArg nI hs), d_ix hr (by decide), d_ix hr (by decide), f5 25 (by decide) (by omega) (by omega), h24 r hr, dn_or (by omega) (by omega), d_l, d_ix hr (by decide), d_l, d_ui_o (by decide), d_ui_o (by decide), f5 1 (by decide) (by omega) (by omega), hc2, nI_1, d_l, d_ui_n (by decide), d_ui_o (by decide), d_ui_o (by decide), f5 1 (by decide) (by omega) (by omega), hc3, nI_1, d_l, eb]
    have e0' : I5 (27 + 2 * n) 0 = nI nx := by rw [k4 _ (by omega), hed.1 0 (by decide), e0]
    rw [d_ui_o (by omega), d_ui_o (by omega), d_ui_o (by omega), d_ui_o (by omega), e0']
    refine ⟨_, _, _, _, s, rfl, k3, k2, fun _ => ⟨rfl, ⟨⟨_, _, d_cw_fr2 w1 (by omega) (fun o q1 q2 q3 q4 => ?_) (k5 _ (by decide))⟩, ?_, ?_, fun q hq => ?_⟩⟩, fun z => absurd hs z, ⟨fun o ho => ?_, fun a z => k5 a (by omega), k6, i84⟩⟩
    · rw [d_ui_o (by omega), d_ui_o (by omega), d_ui_o (by omega), d_ui_o (by omega), k4 o (by omega)]
    · rw [d_ui_n (by decide), d_ui_s]
    · rw [d_ui_s]
    · show q_ui (q_ui (q_ui (q_ui I5 25 r (nI (kn r ||| 2 ^ n))) 26 r (nI s)) 1 3 (nI (n + 1))) 1 4 (nI (nx + 1)) 25 q = nI (if q = r then kn r ||| 2 ^ n else kn q) ∧ q_ui (q_ui (q_ui (q_ui I5 25 r (nI (kn r ||| 2 ^ n))) 26 r (nI s)) 1 3 (nI (n + 1))) 1 4 (nI (nx + 1)) 26 q = nI (if q = r then s else ac q)
      by_cases hqr : q = r
      · subst hqr
        rw [if_pos rfl, if_pos rfl]
        simp (disch := omega) only [d_ui_s, d_ui_n, d_ui_o, and_self]
      · rw [if_neg hqr, if_neg hqr]
        simp (disch := omega) only [d_ui_s, d_ui_n, d_ui_o]
        rw [f5 25 (by decide) (by omega) (by omega), f5 26 (by decide) (by omega) (by omega)]
        exact ⟨h24 q hq, h25 q hq⟩
    · rw [d_ui_o (by omega), d_ui_o (by omega), d_ui_o (by omega), d_ui_o (by omega), f5 o (by omega) (by omega) (by omega)]
  · rw [if_neg (fun z => hs ((nI_eq (by omega) (by omega)).mp z))]
    refine ⟨_, _, _, _, s, rfl, k3, k2, fun z => absurd z hs, fun _ => ⟨rfl, ⟨⟨_, _, d_cw_fr2 w2 (by omega) (fun o q1 q2 q3 q4 => k4 o (by omega)) (k5 _ (by decide))⟩, ?_, ?_, fun q hq => ?_⟩⟩, ⟨fun o ho => f5 o (by omega) (by omega) (by omega), fun a z => k5 a (by omega), k6, i84⟩⟩
    · rw [f5 1 (by decide) (by omega) (by omega)]; exact hc2
    · rw [f5 1 (by decide) (by omega) (by omega)]; exact hc3
    · rw [f5 (1 + 24) (by decide) (by omega) (by omega), f5 (1 + 25) (by decide) (by omega) (by omega)]
      exact hc4 q hq
end DN
