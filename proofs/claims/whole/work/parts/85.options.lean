section DQ
variable {I0 M0 I M : q_I} {p len : Nat}
theorem d_sk_pt {I I' : q_I} (h : d_sk I I') {o g : Nat} (hg : ¬ (o = 113 ∧ g = 3)) : I' o g = I o g := by
  by_cases ho : o = 113
  · rw [ho, h.2 g (fun q => hg ⟨ho, q⟩)]
  · rw [h.1 o ho]
/-- a digit is read into a field -/
theorem d_dfield (hb : d_bu I0 M0 114 4 4 len) (hl : len ≤ 60) (h : d_pf I0 M0 I M p) {o fo fr lo hi : Nat} (ho : (o = 113 ∧ fo = 2) ∨ o = 113 + 3) (hfr : 11 ≤ fr ∧ fr < 18) (hlo : lo < 10) (hhi : hi < 10) :
    ∃ v I' M' p', (v = 0 ∨ v = 1) ∧ q_b2 (f_Des_readDigit I 113 (nI lo) (nI hi)) (fun v4 I3 => q_l (q_ui I3 o fo v4) (fun I4 => if (I4 o fo) < 0 then (some ((0 : Int32), I4)) else (some (1, I4)))) = some (v, I') ∧ q_b1 (f_Mo_here M) (fun v2 => q_l (q_ui M 0 fr (v2 - 48)) (fun I2 => q_b1 (f_Mo_in (I2 0 fr) (nI lo) (nI hi)) (fun v3 => q_b1 (if v3 = 0 then ((some (0))) else ((some (1))) : Option (Int32)) (fun (x1 : Int32) => q_l (q_ui I2 0 18 ((I2 0 18) + x1)) (fun I3 => q_b1 (f_Mo_in (I3 0 fr) (nI lo) (nI hi)) (fun v4 => some ((v4 &&& 1), I3))))))) = some (v, M') ∧ d_pf I0 M0 I' M' p' ∧ (∀ o' g, ¬ (o' = 113 ∧ g = 3) → ¬ (o' = o ∧ g = fo) → I' o' g = I o' g) ∧ (∀ g, g ≠ 18 → g ≠ fr → M' 0 g = M 0 g) ∧ (v = 1 → ∃ z, lo ≤ z ∧ z ≤ hi ∧ I' o fo = nI z ∧ M' 0 fr = nI z) := by
  obtain ⟨c, c1, c2, c3⟩ := d_rdig hb hl h hlo hhi
  have hor : ¬ (113 = o ∧ 3 = fo) := by omega
  have fin : ∀ (I3 : q_I) (x : Int32) (v4 : Int32) (p' : Nat), d_sk I I3 → I3 113 3 = nI p' → nI p + x = nI p' → p' ≤ 60 → d_pf I0 M0 (q_ui I3 o fo v4) (q_ui (q_ui M 0 fr (nI c - 48)) 0 18 (nI p + x)) p' ∧ (∀ o' g, ¬ (o' = 113 ∧ g = 3) → ¬ (o' = o ∧ g = fo) → q_ui I3 o fo v4 o' g = I o' g) ∧ (∀ g, g ≠ 18 → g ≠ fr → q_ui (q_ui M 0 fr (nI c - 48)) 0 18 (nI p + x) 0 g = M 0 g) := by
    intro I3 x v4 p' hsk h3 hx hp
    have pt : ∀ o' g, ¬ (o' = o ∧ g = fo) → q_ui I3 o fo v4 o' g = I3 o' g := fun o' g hg => by
      by_cases q : o' = o
      · rw [q, d_ui_n (fun z => hg ⟨q, z⟩)]
      · rw [d_ui_o q]
    refine ⟨⟨fun o' q1 q2 => ?_, fun o' q => by rw [d_ui_o q, d_ui_o q, h.2.1 o' q], fun f hf => by rw [d_ui_n (by omega), d_ui_n (by omega), h.2.2.1 f hf], by rw [pt 113 3 hor]; exact h3, by rw [d_ui_s]; exact hx, hp⟩, fun o' g q1 q2 => by rw [pt o' g q2]; exact d_sk_pt hsk q1, fun g q1 q2 => by rw [d_ui_n q1, d_ui_n q2]⟩
    rw [d_ui_o (by omega), hsk.1 o' q1, h.1 o' q1 q2]
  rw [c2, d_b1, d_l, d_ui_s, d_in48 c c1 lo hlo hi hhi, d_b1, d_ui_n (by omega), h.2.2.2.2.1]
  rcases c3 with ⟨q1, q2, q3, q4⟩ | ⟨q1, q2⟩
  · obtain ⟨f1, f2, f3⟩ := fin (q_ui I 113 3 (nI (p + 1))) 1 (nI (c - 48)) (p + 1) d_sk_u d_ui_s (nI_1 p) q4.2.2.2.2.2
    rw [q3, d_b2, d_l, d_ui_s, if_neg (nI_pos (by omega)), if_pos (show 48 + lo ≤ c ∧ c ≤ 48 + hi from ⟨q1, q2⟩), if_neg (show ¬ (1 : Int32) = 0 by decide), d_b1, d_l, d_ui_n (by omega), d_ui_s, d_in48 c c1 lo hlo hi hhi, if_pos (show 48 + lo ≤ c ∧ c ≤ 48 + hi from ⟨q1, q2⟩), d_b1]
    exact ⟨1, _, _, p + 1, Or.inr rfl, rfl, rfl, f1, f2, f3, fun _ => ⟨c - 48, by omega, by omega, d_ui_s, by rw [d_ui_n (by omega), d_ui_s]; exact d_c48 c c1 (by omega)⟩⟩
  · obtain ⟨f1, f2, f3⟩ := fin I 0 (-4) p d_sk_rf h.2.2.2.1 (Int32.add_zero _) h.2.2.2.2.2
    rw [q2, d_b2, d_l, d_ui_s, if_pos (show (-4 : Int32) < 0 by decide), if_neg q1, if_pos rfl, d_b1, d_l, d_ui_n (by omega), d_ui_s, d_in48 c c1 lo hlo hi hhi, if_neg q1, d_b1]
    exact ⟨0, _, _, p, Or.inl rfl, rfl, rfl, f1, f2, f3, fun z => absurd z (by decide)⟩
theorem d_rperN (hb : d_bu I0 M0 114 4 4 len) (hl : len ≤ 60) (h : d_pf I0 M0 I M p) {c : Nat} (hc : f_Mo_here M = some (nI c)) (c1 : c < 127) (hn : ¬ (48 ≤ c ∧ c ≤ 53)) : ∀ (d x fu : Nat), x + d = 6 → d < fu → f_Des_readPersons_L1 113 fu 0 (nI x) I = some (0, I) := by
  intro d
  induction d with
  | zero =>
    intro x fu hx hf
    obtain ⟨fu, rfl, -⟩ := d_fuel hf
    have : x = 6 := by omega
    subst this
    unfold f_Des_readPersons_L1
    rw [if_pos (by decide)]
  | succ d ih =>
    intro x fu hx hf
    obtain ⟨fu, rfl, hf⟩ := d_fuel hf
    obtain ⟨e, e1, e2, e3⟩ := d_rdig hb hl h (a := x) (b := x) (by omega) (by omega)
    rw [hc] at e2
    have : c = e := (nI_eq (by omega) (by omega)).mp (Option.some.inj e2)
    subst this
    unfold f_Des_readPersons_L1
    rw [if_neg (d_g6 (by omega))]
    rcases e3 with ⟨q1, q2, -⟩ | ⟨q1, q2⟩
    · omega
    · rw [q2, d_b2, if_pos (show (-4 : Int32) < 0 by decide), nI_1]
      exact ih (x + 1) fu (by omega) (by omega)
def d_vl (I M : q_I) (rm ps w per cnt : Nat) : Prop := (I (113 + 3) 3 = nI rm ∧ M 0 13 = nI rm) ∧ (I (113 + 3) 4 = nI ps ∧ M 0 14 = nI ps) ∧ (I 113 2 = nI w ∧ M 0 15 = nI w) ∧ (I (113 + 3) 5 = nI per ∧ M 0 16 = nI per) ∧ (I (113 + 3) 6 = nI cnt ∧ M 0 17 = nI cnt) ∧ rm ≤ 3 ∧ (1 ≤ ps ∧ ps ≤ 63) ∧ (1 ≤ w ∧ w ≤ 9) ∧ per ≤ 99 ∧ 1 ≤ cnt ∧ cnt ≤ 4
def d_same (I I' M M' : q_I) : Prop := I' 113 4 = I 113 4 ∧ I' (113 + 3) 1 = I (113 + 3) 1 ∧ I' (113 + 3) 2 = I (113 + 3) 2 ∧ M' 0 11 = M 0 11 ∧ M' 0 12 = M 0 12
/-- an option's own part -/
def d_oC (I2 : q_I) (v2 : Int32) : Option (Int32 × q_I) := if v2 = 0 then (q_b2 (f_Des_readDigit I2 113 0 3) (fun v4 I3 => q_l (q_ui I3 (113 + 3) 3 v4) (fun I4 => if (I4 (113 + 3) 3) < 0 then (some (0, I4)) else (some (1, I4))))) else (if v2 = 1 then (q_b2 (f_Des_readPersons I2 113) (fun v5 I5 => q_l (q_ui I5 (113 + 3) 4 v5) (fun I6 => if (I6 (113 + 3) 4) = 0 then (some (0, I6)) else (some (1, I6))))) else (if v2 = 2 then (q_b2 (f_Des_readDigit I2 113 1 9) (fun v6 I7 => q_l (q_ui I7 113 2 v6) (fun I8 => if (I8 113 2) < 0 then (some (0, I8)) else (some (1, I8))))) else (q_b2 (f_Des_readPeriod I2 113) (fun v7 I9 => some ((v7 &&& 1), I9)))))
theorem d_opt1 (hb : d_bu I0 M0 114 4 4 len) (hl : len ≤ 60) (h : d_pf I0 M0 I M p) {rm ps w per cnt : Nat} (hv : d_vl I M rm ps w per cnt) : ∀ i, i < 4 → ∀ a1 : Int32, (i = 0 → a1 = 114) → (i = 1 → a1 = 112) → (i = 2 → a1 = 119) → (i = 3 → a1 = 101) → ∃ v I' M' p', (v = 0 ∨ v = 1) ∧ d_oC I (nI i) = some (v, I') ∧ f_Mo_isOption M a1 = some (v, M') ∧ d_pf I0 M0 I' M' p' ∧ d_same I I' M M' ∧ (v = 1 → ∃ rm ps w per cnt, d_vl I' M' rm ps w per cnt) := by
  intro i hi a1 ha0 ha1 ha2 ha3
  have hi' : i = 0 ∨ i = 1 ∨ i = 2 ∨ i = 3 := by omega
  unfold d_oC f_Mo_isOption
  rcases hi' with rfl | rfl | rfl | rfl
  · rw [ha0 rfl, if_pos (show nI 0 = 0 from rfl), if_neg (show ¬ (114 : Int32) = 112 by decide), if_pos rfl]
    obtain ⟨v, I', M', p', g1, g2, g3, g4, g5, g6, g7⟩ := d_dfield hb hl h (o := 113 + 3) (fo := 3) (fr := 13) (lo := 0) (hi := 3) (Or.inr rfl) (by decide) (by decide) (by decide)
    refine ⟨v, I', M', p', g1, g2, g3, g4, ⟨g5 _ _ (by omega) (by omega), g5 _ _ (by omega) (by omega), g5 _ _ (by omega) (by omega), g6 _ (by omega) (by omega), g6 _ (by omega) (by omega)⟩, fun hv1 => ?_⟩
    obtain ⟨z, z1, z2, z3, z4⟩ := g7 hv1
    obtain ⟨v1, v2, v3, v4, v5, v6, v7⟩ := hv
    refine ⟨z, ps, w, per, cnt, ⟨z3, z4⟩, ?_, ?_, ?_, ?_, by omega, v7⟩
    · rw [g5 _ _ (by omega) (by omega), g6 _ (by omega) (by omega)]; exact v2
    · rw [g5 _ _ (by omega) (by omega), g6 _ (by omega) (by omega)]; exact v3
    · rw [g5 _ _ (by omega) (by omega), g6 _ (by omega) (by omega)]; exact v4
    · rw [g5 _ _ (by omega) (by omega), g6 _ (by omega) (by omega)]; exact v5
  · rw [ha1 rfl, if_neg (show ¬ nI 1 = 0 by decide), if_pos (show nI 1 = 1 from rfl), if_pos rfl]
    obtain ⟨c, c1, c2, c3, c4⟩ := d_here hb hl h
    unfold f_Des_readPersons f_Mo_areToldPersons
    have hin : f_Mo_in (nI c) 48 53 = some (if 48 ≤ c ∧ c ≤ 53 then 1 else 0) := dn_inE (a := 48) (b := 53) (by omega) (by decide) (by decide)
    have hpf : d_pf I0 M0 I (q_ui M 0 14 0) p := ⟨h.1, fun o q => by rw [d_ui_o q, h.2.1 o q], fun f hf => by rw [d_ui_n (by omega), h.2.2.1 f hf], h.2.2.2.1, by rw [d_ui_n (by decide)]; exact h.2.2.2.2.1, h.2.2.2.2.2⟩
    by_cases hr : 48 ≤ c ∧ c ≤ 53
    · obtain ⟨I', M', p', a', z1, z2, z3, z4, z5, z6, z7, z8, z9⟩ := d_rperL hb hl 6 0 q_fu q_fu I (q_ui M 0 14 0) p 0 (-1) 0 (by omega) (d_q (by decide)) (d_q (by decide)) hpf (by decide) d_ui_s (Or.inl ⟨rfl, rfl⟩) (Nat.le_refl _) (fun e _ _ q => by omega)
      have z1' : f_Des_readPersons_L1 113 q_fu 0 0 I = some (nI a', I') := z1
      have hsame : d_same I (q_ui I' (113 + 3) 4 (nI a')) M M' := ⟨by rw [d_ui_o (by decide)]; exact z4.2 4 (by decide), by rw [d_ui_n (by decide), z4.1 _ (by decide)], by rw [d_ui_n (by decide), z4.1 _ (by decide)], by rw [z5.2 _ (by decide) (by decide), d_ui_n (by decide)], by rw [z5.2 _ (by decide) (by decide), d_ui_n (by decide)]⟩
      rw [z1', d_b2, d_l, d_ui_s, c4, d_b1, hin, d_b1]
      have hne : a' ≠ 0 := z9 ⟨c, by
        have : f_Mo_here (q_ui M 0 14 0) = f_Mo_here M := by
          unfold f_Mo_here
          rw [d_ui_n (by decide), d_ui_n (by decide), d_ui_o (by decide)]
        rw [this]
        exact c4, c1, by omega, hr.2⟩
      rw [if_neg (d_n0 (by omega) hne), if_pos hr, if_neg (show ¬ (1 : Int32) = 0 by decide), d_l, z2, d_b2]
      obtain ⟨v1, v2, v3, v4, v5, v6, v7, v8⟩ := hv
      refine ⟨1, _, M', p', Or.inr rfl, rfl, rfl, ⟨fun o q1 q2 => by rw [d_ui_o (by omega)]; exact z3.1 o q1 q2, z3.2.1, z3.2.2.1, by rw [d_ui_o (by decide)]; exact z3.2.2.2.1, z3.2.2.2.2⟩, hsame, fun _ => ⟨rm, a', w, per, cnt, ?_, ⟨d_ui_s, z6⟩, ?_, ?_, ?_, v6, ⟨by omega, by omega⟩, v8⟩⟩
      · rw [d_ui_n (by decide), z4.1 _ (by decide), z5.2 _ (by decide) (by decide), d_ui_n (by decide)]; exact v1
      · rw [d_ui_o (by decide), z4.2 2 (by decide), z5.2 _ (by decide) (by decide), d_ui_n (by decide)]; exact v3
      · rw [d_ui_n (by decide), z4.1 _ (by decide), z5.2 _ (by decide) (by decide), d_ui_n (by decide)]; exact v4
      · rw [d_ui_n (by decide), z4.1 _ (by decide), z5.2 _ (by decide) (by decide), d_ui_n (by decide)]; exact v5
    · have z1 : f_Des_readPersons_L1 113 q_fu 0 0 I = some (0, I) := d_rperN hb hl h c4 c1 hr 6 0 q_fu (by omega) (d_q (by decide))
      rw [z1, d_b2, d_l, d_ui_s, if_pos rfl, c4, d_b1, hin, d_b1, if_neg hr, if_pos rfl, d_b2]
      exact ⟨0, _, M, p, Or.inl rfl, rfl, rfl, ⟨fun o q1 q2 => by rw [d_ui_o (by omega)]; exact h.1 o q1 q2, h.2.1, h.2.2.1, by rw [d_ui_o (by decide)]; exact h.2.2.2.1, h.2.2.2.2⟩, ⟨by rw [d_ui_o (by decide)], by rw [d_ui_n (by decide)], by rw [d_ui_n (by decide)], rfl, rfl⟩, fun z => absurd z (by decide)⟩
  · rw [ha2 rfl, if_neg (show ¬ nI 2 = 0 by decide), if_neg (show ¬ nI 2 = 1 by decide), if_pos (show nI 2 = 2 from rfl), if_neg (show ¬ (119 : Int32) = 112 by decide), if_neg (show ¬ (119 : Int32) = 114 by decide), if_pos rfl]
    obtain ⟨v, I', M', p', g1, g2, g3, g4, g5, g6, g7⟩ := d_dfield hb hl h (o := 113) (fo := 2) (fr := 15) (lo := 1) (hi := 9) (Or.inl ⟨rfl, rfl⟩) (by decide) (by decide) (by decide)
    refine ⟨v, I', M', p', g1, g2, g3, g4, ⟨g5 _ _ (by omega) (by omega), g5 _ _ (by omega) (by omega), g5 _ _ (by omega) (by omega), g6 _ (by omega) (by omega), g6 _ (by omega) (by omega)⟩, fun hv1 => ?_⟩
    obtain ⟨z, z1, z2, z3, z4⟩ := g7 hv1
    obtain ⟨v1, v2, v3, v4, v5, v6, v7, v8, v9⟩ := hv
    refine ⟨rm, ps, z, per, cnt, ?_, ?_, ⟨z3, z4⟩, ?_, ?_, v6, v7, ⟨z1, z2⟩, v9⟩
    · rw [g5 _ _ (by omega) (by omega), g6 _ (by omega) (by omega)]; exact v1
    · rw [g5 _ _ (by omega) (by omega), g6 _ (by omega) (by omega)]; exact v2
    · rw [g5 _ _ (by omega) (by omega), g6 _ (by omega) (by omega)]; exact v4
    · rw [g5 _ _ (by omega) (by omega), g6 _ (by omega) (by omega)]; exact v5
  · rw [ha3 rfl, if_neg (show ¬ nI 3 = 0 by decide), if_neg (show ¬ nI 3 = 1 by decide), if_neg (show ¬ nI 3 = 2 by decide), if_neg (show ¬ (101 : Int32) = 112 by decide), if_neg (show ¬ (101 : Int32) = 114 by decide), if_neg (show ¬ (101 : Int32) = 119 by decide)]
    unfold f_Des_readPeriod
    have set5 : ∀ (I1 M1 : q_I) (p1 : Nat) (x y : Int32), d_pf I0 M0 I1 M1 p1 → d_sk I I1 → d_sm M M1 → d_pf I0 M0 (q_ui I1 (113 + 3) 5 x) (q_ui M1 0 16 y) p1 ∧ d_same I (q_ui I1 (113 + 3) 5 x) M (q_ui M1 0 16 y) := fun I1 M1 p1 x y r1 r2 r3 => ⟨⟨fun o q1 q2 => by rw [d_ui_o (by omega)]; exact r1.1 o q1 q2, fun o q => by rw [d_ui_o q]; exact r1.2.1 o q, fun f hf => by rw [d_ui_n (by omega)]; exact r1.2.2.1 f hf, by rw [d_ui_o (by decide)]; exact r1.2.2.2.1, by rw [d_ui_n (by decide)]; exact r1.2.2.2.2.1, r1.2.2.2.2.2⟩, ⟨by rw [d_ui_o (by decide)]; exact r2.2 4 (by decide), by rw [d_ui_n (by decide), r2.1 _ (by decide)], by rw [d_ui_n (by decide), r2.1 _ (by decide)], by rw [d_ui_n (by decide), r3.2 _ (by decide)], by rw [d_ui_n (by decide), r3.2 _ (by decide)]⟩⟩
    obtain ⟨I1, M1, p1, r1, r2, r3, ⟨r4, r5⟩ | ⟨n1, r6, r4, r5⟩⟩ := d_rnum hb hl h
    · rw [r4, d_b2, d_l, d_ui_s, if_pos (show (-4 : Int32) < 0 by decide), d_b2, r5, d_b2, d_l, d_ui_s, if_pos (show (-1 : Int32) < 0 by decide)]
      have := set5 I1 M1 p1 (-4) (-1) r1 r2 r3
      exact ⟨0, _, _, p1, Or.inl rfl, rfl, rfl, this.1, this.2, fun z => absurd z (by decide)⟩
    · have st := set5 I1 M1 p1 (nI n1) (nI n1) r1 r2 r3
      rw [r4, d_b2, d_l, d_ui_s, if_neg (nI_pos (by omega)), r5, d_b2, d_l, d_ui_s, if_neg (nI_pos (by omega))]
      have old : ∀ g, g ≠ 5 → (q_ui I1 (113 + 3) 5 (nI n1)) (113 + 3) g = I (113 + 3) g := fun g hg => by rw [d_ui_n hg, r2.1 _ (by decide)]
      have old2 : (q_ui I1 (113 + 3) 5 (nI n1)) 113 2 = I 113 2 := by rw [d_ui_o (by decide), r2.2 2 (by decide)]
      have oldM : ∀ g, g ≠ 18 → g ≠ 16 → (q_ui M1 0 16 (nI n1)) 0 g = M 0 g := fun g h1 h2 => by rw [d_ui_n h2, r3.2 g h1]
      have n5 : (q_ui I1 (113 + 3) 5 (nI n1)) (113 + 3) 5 = nI n1 := d_ui_s
      have n16 : (q_ui M1 0 16 (nI n1)) 0 16 = nI n1 := d_ui_s
      generalize q_ui I1 (113 + 3) 5 (nI n1) = I2 at st old old2 n5 ⊢
      generalize q_ui M1 0 16 (nI n1) = M2 at st oldM n16 ⊢
      obtain ⟨I3, M3, p3, v3, k1, k2, k3, k4, k5, k6⟩ := d_rskip hb hl st.1 (k := 120) (by decide)
      have k5' : f_Des_skip I2 113 120 = some (v3, I3) := k5
      have k6' : f_Mo_takes M2 120 = some (v3, M3) := k6
      have same3 : d_same I I3 M M3 := ⟨by rw [k2.2 4 (by decide)]; exact st.2.1, by rw [k2.1 _ (by decide)]; exact st.2.2.1, by rw [k2.1 _ (by decide)]; exact st.2.2.2.1, by rw [k3.2 _ (by decide)]; exact st.2.2.2.2.1, by rw [k3.2 _ (by decide)]; exact st.2.2.2.2.2⟩
      rw [k5', d_b2, k6', d_b2]
      rcases k4 with rfl | rfl
      · rw [if_pos rfl, if_pos rfl, d_b2]
        exact ⟨0, _, _, p3, Or.inl rfl, rfl, rfl, k1, same3, fun z => absurd z (by decide)⟩
      · rw [if_neg (show ¬ (1 : Int32) = 0 by decide), if_neg (show ¬ (1 : Int32) = 0 by decide)]
        obtain ⟨v, I', M', p', g1, g2, g3, g4, g5, g6, g7⟩ := d_dfield hb hl k1 (o := 113 + 3) (fo := 6) (fr := 17) (lo := 1) (hi := 4) (Or.inr rfl) (by decide) (by decide) (by decide)
        have g2' : q_b2 (f_Des_readDigit I3 113 1 4) (fun v3 I4 => q_l (q_ui I4 (113 + 3) 6 v3) (fun I5 => if (I5 (113 + 3) 6) < 0 then (some (0, I5)) else (some (1, I5)))) = some (v, I') := g2
        rw [g2', d_b2, d_a1 g1]
        refine ⟨v, I', M', p', g1, rfl, g3, g4, ⟨by rw [g5 _ _ (by omega) (by omega)]; exact same3.1, by rw [g5 _ _ (by omega) (by omega)]; exact same3.2.1, by rw [g5 _ _ (by omega) (by omega)]; exact same3.2.2.1, by rw [g6 _ (by omega) (by omega)]; exact same3.2.2.2.1, by rw [g6 _ (by omega) (by omega)]; exact same3.2.2.2.2⟩, fun hv1 => ?_⟩
        obtain ⟨z, z1, z2, z3, z4⟩ := g7 hv1
        obtain ⟨v1, v2, v3, v4, v5, v6, v7, v8, v9, v10⟩ := hv
        refine ⟨rm, ps, w, n1, z, ?_, ?_, ?_, ?_, ⟨z3, z4⟩, v6, v7, v8, r6, z1, z2⟩
        · rw [g5 _ _ (by omega) (by omega), k2.1 _ (by decide), old _ (by decide), g6 _ (by omega) (by omega), k3.2 _ (by decide), oldM _ (by decide) (by decide)]; exact v1
        · rw [g5 _ _ (by omega) (by omega), k2.1 _ (by decide), old _ (by decide), g6 _ (by omega) (by omega), k3.2 _ (by decide), oldM _ (by decide) (by decide)]; exact v2
        · rw [g5 _ _ (by omega) (by omega), k2.2 _ (by decide), old2, g6 _ (by omega) (by omega), k3.2 _ (by decide), oldM _ (by decide) (by decide)]; exact v3
        · rw [g5 _ _ (by omega) (by omega), k2.1 _ (by decide), n5, g6 _ (by omega) (by omega), k3.2 _ (by decide), n16]; exact ⟨rfl, rfl⟩
end DQ
