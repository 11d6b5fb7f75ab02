theorem d_o1 : ∀ r, r < 16 → ∀ i, i < 4 → (nI (15 - r) &&& nI (2 ^ i) = 0 ↔ r.testBit i = true) ∧ nI (15 - r) ||| nI (2 ^ i) = nI (15 - w_nd r (2 ^ i)) ∧ w_nd r (2 ^ i) < 16 ∧ (r.testBit i = true → dn_cnt (w_nd r (2 ^ i)) + 1 = dn_cnt r) := by decide +kernel
theorem d_o2 : ∀ r, r < 16 → (dn_cnt r = 0 ↔ r = 0) ∧ dn_cnt r ≤ 4 := by decide +kernel
theorem d_o3 : ∀ c, c < 127 → (∃ i, i < 4 ∧ f_JS_indexOf (nI c) = some (nI i) ∧ (if nI c = 114 then ((some (1))) else (if nI c = 112 then ((some (2))) else (if nI c = 119 then ((some (4))) else (if nI c = 101 then ((some (8))) else ((some (0)))))) : Option (Int32)) = some (nI (2 ^ i)) ∧ (i = 0 → nI c = 114) ∧ (i = 1 → nI c = 112) ∧ (i = 2 → nI c = 119) ∧ (i = 3 → nI c = 101) ∧ c ≠ 0) ∨ (f_JS_indexOf (nI c) = some (-1) ∧ (if nI c = 114 then ((some (1))) else (if nI c = 112 then ((some (2))) else (if nI c = 119 then ((some (4))) else (if nI c = 101 then ((some (8))) else ((some (0)))))) : Option (Int32)) = some 0) := by
  intro c hc
  by_cases h1 : c = 114
  · subst h1; exact Or.inl ⟨0, by decide, rfl, rfl, fun _ => rfl, fun q => absurd q (by decide), fun q => absurd q (by decide), fun q => absurd q (by decide), by decide⟩
  by_cases h2 : c = 112
  · subst h2; exact Or.inl ⟨1, by decide, rfl, rfl, fun q => absurd q (by decide), fun _ => rfl, fun q => absurd q (by decide), fun q => absurd q (by decide), by decide⟩
  by_cases h3 : c = 119
  · subst h3; exact Or.inl ⟨2, by decide, rfl, rfl, fun q => absurd q (by decide), fun q => absurd q (by decide), fun _ => rfl, fun q => absurd q (by decide), by decide⟩
  by_cases h4 : c = 101
  · subst h4; exact Or.inl ⟨3, by decide, rfl, rfl, fun q => absurd q (by decide), fun q => absurd q (by decide), fun q => absurd q (by decide), fun _ => rfl, by decide⟩
  have n1 : ¬ nI c = 114 := fun q => h1 ((nI_eq (b := 114) (by omega) (by decide)).mp q)
  have n2 : ¬ nI c = 112 := fun q => h2 ((nI_eq (b := 112) (by omega) (by decide)).mp q)
  have n3 : ¬ nI c = 119 := fun q => h3 ((nI_eq (b := 119) (by omega) (by decide)).mp q)
  have n4 : ¬ nI c = 101 := fun q => h4 ((nI_eq (b := 101) (by omega) (by decide)).mp q)
  unfold f_JS_indexOf
  rw [if_neg n1, if_neg n2, if_neg n3, if_neg n4, if_neg n1, if_neg n2, if_neg n3, if_neg n4]
  exact Or.inr ⟨rfl, rfl⟩
section DQ
variable {I0 M0 : q_I} {len : Nat}
theorem d_same_tr {I I1 I2 M M1 M2 : q_I} (h1 : d_same I I1 M M1) (h2 : d_same I1 I2 M1 M2) : d_same I I2 M M2 := ⟨h2.1.trans h1.1, h2.2.1.trans h1.2.1, h2.2.2.1.trans h1.2.2.1, h2.2.2.2.1.trans h1.2.2.2.1, h2.2.2.2.2.trans h1.2.2.2.2⟩
def d_tm (I I' M M' : q_I) : Prop := I' (113 + 3) 1 = I (113 + 3) 1 ∧ I' (113 + 3) 2 = I (113 + 3) 2 ∧ M' 0 11 = M 0 11 ∧ M' 0 12 = M 0 12
theorem d_optL (hb : d_bu I0 M0 114 4 4 len) (hl : len ≤ 60) : ∀ (d k fu fu2 rem : Nat) (I M : q_I) (p rm ps w per cnt : Nat), k + d = 4 → rem < 16 → dn_cnt rem = d → d < fu → d + 1 < fu2 → d_pf I0 M0 I M p → I 113 4 = nI rem → d_vl I M rm ps w per cnt →
    ∃ v I' M' p', (v = 0 ∨ v = 1) ∧ f_Des_readOptions_L1 113 (fun (I4 : q_I) => q_b1 (f_Des_isAtEnd I4 113) (fun v5 => some ((v5 &&& 1), I4))) fu (nI k) I = some (v, I') ∧ f_Mo_areOptions_L1 fu2 (nI (15 - rem)) 1 M = some (v, M') ∧ d_pf I0 M0 I' M' p' ∧ (v = 1 → d_tm I I' M M' ∧ ∃ rm ps w per cnt, d_vl I' M' rm ps w per cnt) := by
  have c10 : ¬ (1 : Int32) = 0 := by decide
  intro d
  induction d with
  | zero =>
    intro k fu fu2 rem I M p rm ps w per cnt hk hr hd hf hf2 h h4 hv
    obtain ⟨fu, rfl, -⟩ := d_fuel hf
    obtain ⟨fu2, rfl, -⟩ := d_fuel hf2
    have hk4 : k = 4 := by omega
    subst hk4
    have hr0 := (d_o2 rem hr).1.mp hd
    subst hr0
    obtain ⟨e1, e2⟩ := d_atEnd hb h hl
    unfold f_Des_readOptions_L1 f_Mo_areOptions_L1 f_JS_length
    rw [d_b1, if_pos (show (4 : Int32) ≤ nI 4 by decide), e1, d_b1, if_neg c10]
    by_cases hp : p < len
    · rw [if_pos hp, if_neg (fun q => (e2.mp q) hp), if_pos (show (15 : Int32) ≤ nI (15 - 0) by decide), d_b2, if_pos rfl]
      obtain ⟨fu2, rfl, -⟩ := d_fuel (n := fu2) (d := 0) (by omega)
      unfold f_Mo_areOptions_L1
      rw [if_pos rfl]
      exact ⟨0, I, M, p, Or.inl rfl, rfl, rfl, h, fun z => absurd z (by decide)⟩
    · rw [if_neg hp, if_pos (e2.mpr hp)]
      exact ⟨1, I, M, p, Or.inr rfl, rfl, rfl, h, fun _ => ⟨⟨rfl, rfl, rfl, rfl⟩, rm, ps, w, per, cnt, hv⟩⟩
  | succ d ih =>
    intro k fu fu2 rem I M p rm ps w per cnt hk hr hd hf hf2 h h4 hv
    obtain ⟨fu, rfl, hf⟩ := d_fuel hf
    obtain ⟨fu2, rfl, hf2⟩ := d_fuel hf2
    obtain ⟨e1, e2⟩ := d_atEnd hb h hl
    have hrne : rem ≠ 0 := fun q => by
      have := (d_o2 rem hr).1.mpr q
      omega
    have ref0 : ∀ (x : Int32) (M' : q_I), f_Mo_areOptions_L1 fu2 x 0 M' = some (0, M') := fun x M' => by
      obtain ⟨fu3, rfl, -⟩ := d_fuel (n := fu2) (d := 0) (by omega)
      unfold f_Mo_areOptions_L1
      rw [if_pos rfl]
      rfl
    unfold f_Des_readOptions_L1 f_Mo_areOptions_L1 f_JS_length
    rw [d_b1, if_neg (d_g4 (by omega)), e1, d_b1, if_neg c10]
    by_cases hp : p < len
    · obtain ⟨I2, M2, p2, v3, k1, k2, k3, k4, k5, k6⟩ := d_rskip hb hl h (k := 32) (by decide)
      have k5' : f_Des_skip I 113 32 = some (v3, I2) := k5
      have k6' : f_Mo_takes M 32 = some (v3, M2) := k6
      rw [if_pos hp, if_pos rfl, if_neg (fun q => (e2.mp q) hp), if_neg (show ¬ (15 : Int32) ≤ nI (15 - rem) from nI_ge (b := 15) (by omega) (by decide)), k5', d_b2, k6', d_b2]
      rcases k4 with rfl | rfl
      · rw [if_pos rfl, if_pos rfl, d_b2, if_pos rfl, ref0]
        exact ⟨0, I2, M2, p2, Or.inl rfl, rfl, rfl, k1, fun z => absurd z (by decide)⟩
      · rw [if_neg c10, if_neg c10, d_b2, if_neg c10]
        obtain ⟨c, c1, c2, c3, c4⟩ := d_here hb hl k1
        unfold f_Des_readOption
        rw [c3, d_b1, c4, d_b1]
        rcases d_o3 c c1 with ⟨i, i4, j1, j2, j3, j4, j5, j6, j7⟩ | ⟨j1, j2⟩
        · obtain ⟨o1, o2, o3, o4⟩ := d_o1 rem hr i i4
          have h24 : I2 113 4 = nI rem := by rw [k2.2 4 (by decide)]; exact h4
          have h2i := dn_2lt (i := i) (n := 4) i4
          rw [j1, d_b1, if_neg (nI_pos (by omega)), h24, dn_has (by omega) (by omega), d_b1, j2, d_b1, if_neg (show ¬ nI (2 ^ i) ≤ 0 from nI_nle (Nat.two_pow_pos i) (by omega))]
          by_cases hin : w_in rem i
          · have hp2 := c2 j7
            rw [if_pos hin, if_neg c10, if_pos (o1.mpr hin), d_b1, if_neg c10, dn_pos (by omega), dn_nd (by omega) (by omega), d_l, d_ui_n (by decide), k1.2.2.2.1, nI_1, d_l, o2, d_l, k1.2.2.2.2.1, nI_1, nI_1, d_l]
            have hpf : d_pf I0 M0 (q_ui (q_ui I2 113 4 (nI (w_nd rem (2 ^ i)))) 113 3 (nI (p2 + 1))) (q_ui M2 0 18 (nI (p2 + 1))) (p2 + 1) := ⟨fun o q1 q2 => by rw [d_ui_o q1, d_ui_o q1]; exact k1.1 o q1 q2, fun o q => by rw [d_ui_o q]; exact k1.2.1 o q, fun f hf => by rw [d_ui_n (by omega)]; exact k1.2.2.1 f hf, d_ui_s, d_ui_s, by omega⟩
            obtain ⟨⟨v1, v1'⟩, ⟨v2, v2'⟩, ⟨v3, v3'⟩, ⟨v4, v4'⟩, ⟨v5, v5'⟩, v6⟩ := hv
            have hvl : d_vl (q_ui (q_ui I2 113 4 (nI (w_nd rem (2 ^ i)))) 113 3 (nI (p2 + 1))) (q_ui M2 0 18 (nI (p2 + 1))) rm ps w per cnt := by
              refine ⟨⟨?_, ?_⟩, ⟨?_, ?_⟩, ⟨?_, ?_⟩, ⟨?_, ?_⟩, ⟨?_, ?_⟩, v6⟩
              · rw [d_ui_o (by decide), d_ui_o (by decide), k2.1 _ (by decide)]; exact v1
              · rw [d_ui_n (by decide), k3.2 _ (by decide)]; exact v1'
              · rw [d_ui_o (by decide), d_ui_o (by decide), k2.1 _ (by decide)]; exact v2
              · rw [d_ui_n (by decide), k3.2 _ (by decide)]; exact v2'
              · rw [d_ui_n (by decide), d_ui_n (by decide), k2.2 _ (by decide)]; exact v3
              · rw [d_ui_n (by decide), k3.2 _ (by decide)]; exact v3'
              · rw [d_ui_o (by decide), d_ui_o (by decide), k2.1 _ (by decide)]; exact v4
              · rw [d_ui_n (by decide), k3.2 _ (by decide)]; exact v4'
              · rw [d_ui_o (by decide), d_ui_o (by decide), k2.1 _ (by decide)]; exact v5
              · rw [d_ui_n (by decide), k3.2 _ (by decide)]; exact v5'
            have hsame : d_tm I (q_ui (q_ui I2 113 4 (nI (w_nd rem (2 ^ i)))) 113 3 (nI (p2 + 1))) M (q_ui M2 0 18 (nI (p2 + 1))) := ⟨by rw [d_ui_o (by decide), d_ui_o (by decide), k2.1 _ (by decide)], by rw [d_ui_o (by decide), d_ui_o (by decide), k2.1 _ (by decide)], by rw [d_ui_n (by decide), k3.2 _ (by decide)], by rw [d_ui_n (by decide), k3.2 _ (by decide)]⟩
            have h4n : q_ui (q_ui I2 113 4 (nI (w_nd rem (2 ^ i)))) 113 3 (nI (p2 + 1)) 113 4 = nI (w_nd rem (2 ^ i)) := by rw [d_ui_n (by decide), d_ui_s]
            generalize q_ui (q_ui I2 113 4 (nI (w_nd rem (2 ^ i)))) 113 3 (nI (p2 + 1)) = I3 at hpf hvl hsame h4n ⊢
            generalize q_ui M2 0 18 (nI (p2 + 1)) = M3 at hpf hvl hsame ⊢
            obtain ⟨v, I', M', p', g1, g2, g3, g4, g5, g6⟩ := d_opt1 hb hl hpf hvl i i4 (nI c) j3 j4 j5 j6
            unfold d_oC at g2
            rw [g2, d_b2, g3, d_b2]
            rcases g1 with rfl | rfl
            · rw [if_pos rfl, ref0]
              exact ⟨0, I', M', p', Or.inl rfl, rfl, rfl, g4, fun z => absurd z (by decide)⟩
            · obtain ⟨rm', ps', w', per', cnt', gv⟩ := g6 rfl
              have hcnt := o4 hin
              rw [if_neg c10]
              obtain ⟨v, I4, M4, p4, w1, w2, w3, w4, w5⟩ := ih (k + 1) fu fu2 (w_nd rem (2 ^ i)) I' M' p' rm' ps' w' per' cnt' (by omega) o3 (by omega) (by omega) (by omega) g4 (by rw [g5.1]; exact h4n) gv
              refine ⟨v, I4, M4, p4, w1, w2, w3, w4, fun z => ⟨?_, (w5 z).2⟩⟩
              obtain ⟨⟨t1, t2, t3, t4⟩, -⟩ := w5 z
              exact ⟨t1.trans (g5.2.1.trans hsame.1), t2.trans (g5.2.2.1.trans hsame.2.1), t3.trans (g5.2.2.2.1.trans hsame.2.2.1), t4.trans (g5.2.2.2.2.trans hsame.2.2.2)⟩
          · rw [if_neg hin, if_pos rfl, d_b2, if_pos rfl, if_neg (fun q => hin (o1.mp q)), d_b1, if_pos rfl, ref0]
            exact ⟨0, I2, M2, p2, Or.inl rfl, rfl, rfl, k1, fun z => absurd z (by decide)⟩
        · rw [j1, d_b1, if_pos (show (-1 : Int32) < 0 by decide), d_b2, if_pos rfl, j2, d_b1, if_pos (show (0 : Int32) ≤ 0 by decide), d_b1, if_pos rfl, ref0]
          exact ⟨0, I2, M2, p2, Or.inl rfl, rfl, rfl, k1, fun z => absurd z (by decide)⟩
    · rw [if_neg hp, if_neg c10, if_pos (e2.mpr hp), d_b1]
      exact ⟨1, I, M, p, Or.inr rfl, rfl, rfl, h, fun _ => ⟨⟨rfl, rfl, rfl, rfl⟩, rm, ps, w, per, cnt, hv⟩⟩
end DQ
