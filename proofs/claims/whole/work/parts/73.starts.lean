/-! another start -/
def d_stE (E : Nat → Nat → Nat) (i z : Nat) : Nat → Nat → Nat := fun j => if j = i then (fun f => if f = (if E i 3 = 0 then 7 else 5) then z else E i f) else E j
def d_ca (oc fc : Nat) (I I1 : q_I) (P P1 : q_P) : Prop := (∀ o, d_rel o → o ≠ oc → I1 o = I o) ∧ (∀ f, f ≠ fc → I1 oc f = I oc f) ∧ (∀ a, a ≠ 55 → a ≠ 84 → P1 a = P a) ∧ d_inj P1 55 24 ∧ d_inj P1 84 24
def d_mb (c2 : Nat) (M M1 : q_I) : Prop := (∀ o, o ≠ 0 → o ≠ 6 → o ≠ 1 → M1 o = M o) ∧ (∀ f, f ≠ 7 → M1 0 f = M 0 f) ∧ ∀ x, x ≠ c2 → M1 1 x = M 1 x
section DT
variable {t n i S : Nat} {I : q_I} {P : q_P} {M : q_I} {Ru : Nat → Nat → Nat} {no : Nat} {Of Os : Nat → Int32} {base : List (Nat → Nat)} {E : Nat → Nat → Nat} {C N : Nat → Nat}
theorem d_stE_n {z j : Nat} (h : j ≠ i) : d_stE E i z j = E j := if_neg h
theorem d_stE_f {z j f : Nat} (h5 : f ≠ 5) (h7 : f ≠ 7) : d_stE E i z j f = E j f := by
  unfold d_stE
  by_cases hj : j = i
  · rw [if_pos hj]
    by_cases h3 : E i 3 = 0
    · rw [if_pos h3, if_neg h7, hj]
    · rw [if_neg h3, if_neg h5, hj]
  · rw [if_neg hj]
theorem d_stE_5 {z j : Nat} (hk : E i 3 = 0 ∨ E i 3 = 1) (h : E j 3 ≠ 1) : d_stE E i z j 5 = E j 5 := by
  unfold d_stE
  by_cases hj : j = i
  · subst hj
    have h3 : E j 3 = 0 := hk.elim id (fun z => absurd z h)
    rw [if_pos rfl, if_pos h3, if_neg (by decide)]
  · rw [if_neg hj]
theorem d_stE_s {z : Nat} : d_stE E i z i (if E i 3 = 0 then 7 else 5) = z := by
  unfold d_stE
  rw [if_pos rfl, if_pos rfl]
theorem d_stE_o {z f : Nat} (h : f ≠ (if E i 3 = 0 then 7 else 5)) : d_stE E i z i f = E i f := by
  unfold d_stE
  rw [if_pos rfl, if_neg h]
theorem d_stE_nn {z a b : Nat} : d_nn (d_stE E i z) a b ↔ d_nn E a b := by
  unfold d_nn
  rw [d_stE_f (by decide) (by decide), d_stE_f (by decide) (by decide), d_stE_f (by decide) (by decide)]
theorem d_stE_cl {z a b : Nat} (hk : E i 3 = 0 ∨ E i 3 = 1) : d_cl (d_stE E i z) a b ↔ d_cl E a b := by
  unfold d_cl
  rw [d_stE_f (f := 4) (by decide) (by decide), d_stE_f (f := 4) (by decide) (by decide), d_stE_f (f := 3) (by decide) (by decide), d_stE_f (f := 3) (by decide) (by decide), d_stE_f (f := 6) (by decide) (by decide)]
  have key : (E a 3 = 4 ∨ E a 3 = 5) ∧ (E b 3 = 4 ∨ E b 3 = 5) ∧ d_stE E i z a 5 = d_stE E i z b 5 ↔ (E a 3 = 4 ∨ E a 3 = 5) ∧ (E b 3 = 4 ∨ E b 3 = 5) ∧ E a 5 = E b 5 := by
    constructor
    · rintro ⟨h1, h2, h3⟩
      rw [d_stE_5 hk (by omega), d_stE_5 hk (by omega)] at h3
      exact ⟨h1, h2, h3⟩
    · rintro ⟨h1, h2, h3⟩
      rw [d_stE_5 hk (by omega), d_stE_5 hk (by omega)]
      exact ⟨h1, h2, h3⟩
  rw [key]
theorem d_stE_wf {z : Nat} (hwf : d_wf base E n) (hk : E i 3 = 0 ∨ E i 3 = 1) (hz : z ≤ 95) : d_wf base (d_stE E i z) n := by
  obtain ⟨w1, w2, w3, w4, w5, w6, w7, w8, w9⟩ := hwf
  refine ⟨w1, w2, w3, fun j hj => ?_, fun j hj m hm => ?_, fun a b hab hb => ?_, fun j hj h3 => ?_, fun j hj => ?_, w9⟩
  · have ok := w4 j hj
    by_cases hji : j = i
    · subst hji
      obtain ⟨z0, z1, z2, z3, z4, z5, z6, z7, z8, z9⟩ := ok
      unfold d_eok
      rw [d_stE_f (f := 3) (by decide) (by decide), d_stE_f (f := 2) (by decide) (by decide), d_stE_f (f := 0) (by decide) (by decide), d_stE_f (f := 4) (by decide) (by decide), d_stE_f (f := 1) (by decide) (by decide)]
      have h5 : d_stE E j z j 5 ≤ 95 := by
        unfold d_stE
        rw [if_pos rfl]
        by_cases h3 : E j 3 = 0
        · rw [if_pos h3, if_neg (by decide)]; exact z4
        · rw [if_neg h3, if_pos rfl]; exact hz
      refine ⟨z0, z1, z2, z3, h5, fun q => by omega, fun q => by omega, fun q => by omega, fun q => ?_, z9⟩
      obtain ⟨q1, q2, q3, q4, q5, q6, q7, q8⟩ := z8 q
      refine ⟨q1, ?_, ?_, ?_, ?_, ?_, ?_, ?_⟩
      · show d_stE E j z j 7 ≤ 95
        unfold d_stE
        rw [if_pos rfl, if_pos q, if_pos rfl]
        exact hz
      · show 1 ≤ d_stE E j z j 8 ∧ d_stE E j z j 8 ≤ 8
        rw [d_stE_f (f := 8) (by decide) (by decide)]; exact q3
      · show d_stE E j z j 9 ≤ 3
        rw [d_stE_f (f := 9) (by decide) (by decide)]; exact q4
      · show d_stE E j z j 10 ≤ 63
        rw [d_stE_f (f := 10) (by decide) (by decide)]; exact q5
      · show d_stE E j z j 11 ≤ 99
        rw [d_stE_f (f := 11) (by decide) (by decide)]; exact q6
      · show 1 ≤ d_stE E j z j 12 ∧ d_stE E j z j 12 ≤ 4
        rw [d_stE_f (f := 12) (by decide) (by decide)]; exact q7
      · show d_stE E j z j 0 ≤ 100000
        rw [d_stE_f (f := 0) (by decide) (by decide)]; exact q8
    · rw [d_stE_n hji]; exact ok
  · rw [d_stE_f (by decide) (by decide)]; exact w5 j hj m hm
  · rw [d_stE_f (by decide) (by decide), d_stE_f (by decide) (by decide)]; exact w6 a b hab hb
  · rw [d_stE_f (by decide) (by decide)] at h3 ⊢
    rcases w7 j hj h3 with q | ⟨k, q1, q2, q3, q4⟩
    · exact Or.inl q
    · refine Or.inr ⟨k, q1, ?_, ?_, ?_⟩
      · rw [d_stE_f (by decide) (by decide)]; exact q2
      · rw [d_stE_f (by decide) (by decide)]; exact q3
      · rw [d_stE_f (by decide) (by decide)]; exact q4
  · rw [d_stE_f (by decide) (by decide)]; exact w8 j hj
abbrev d_oc (E : Nat → Nat → Nat) (i : Nat) : Nat := if E i 3 = 0 then 28 + 2 * i else 27 + 2 * i
abbrev d_fc (E : Nat → Nat → Nat) (i : Nat) : Nat := if E i 3 = 0 then 1 else 5
abbrev d_c2 (E : Nat → Nat → Nat) (i : Nat) : Nat := if E i 3 = 0 then 124 + 13 * i + 7 else 124 + 13 * i + 5
theorem d_oc_le (hi : i < 12) : 27 + 2 * i ≤ d_oc E i ∧ d_oc E i ≤ 28 + 2 * i := by
  unfold d_oc
  by_cases h : E i 3 = 0
  · rw [if_pos h]; omega
  · rw [if_neg h]; omega
theorem d_stC {I1 : q_I} {P1 : q_P} {z : Nat} (hcw : d_cw I P 1 n Ru no Of Os base E C N) (hn : n ≤ 12) (hi : i < n) (hk : E i 3 = 0 ∨ E i 3 = 1) (hc : d_ca (d_oc E i) (d_fc E i) I I1 P P1) (hz : I1 (d_oc E i) (d_fc E i) = nI z) : d_cw I1 P1 1 n Ru no Of Os base (d_stE E i z) C N := by
  obtain ⟨g1, g2, g3, g4, g5⟩ := hcw
  have hle := d_oc_le (E := E) (i := i) (by omega)
  have hI : ∀ o, 1 ≤ o → o ≤ 50 → o ≠ d_oc E i → I1 o = I o := fun o q1 q2 q3 => hc.1 o (Or.inl ⟨q1, q2⟩) q3
  refine ⟨d_ru_fr g1 (fun o q1 q2 => hI o (by omega) (by omega) (by omega)), d_or_fr g2 (fun o q1 q2 => hI o (by omega) (by omega) (by omega)), d_cal_eq g3 (fun o q1 q2 => hI o (by omega) (by omega) (by omega)) (hc.2.2.1 _ (by decide) (by decide)), fun j hj => ?_, fun j hj => ?_⟩
  · have := g4 j hj
    by_cases ho : 1 + 26 + 2 * j = d_oc E i
    · have hf : d_fc E i ≠ 6 ∧ d_fc E i ≠ 7 := by
        unfold d_fc
        by_cases h : E i 3 = 0
        · rw [if_pos h]; decide
        · rw [if_neg h]; decide
      rw [ho] at this ⊢
      rw [hc.2.1 6 (fun q => hf.1 q.symm), hc.2.1 7 (fun q => hf.2 q.symm)]
      exact this
    · rw [hI _ (by omega) (by omega) ho]
      exact this
  · obtain ⟨q1, q2, q3⟩ := g5 j hj
    refine ⟨?_, fun a => (q2 a).trans ⟨fun z => ⟨z.1, (d_stE_cl hk).mpr z.2⟩, fun z => ⟨z.1, (d_stE_cl hk).mp z.2⟩⟩, fun a => (q3 a).trans d_stE_nn.symm⟩
    by_cases hji : j = i
    · subst hji
      rcases hk with h3 | h3
      · have eo : d_oc E j = 28 + 2 * j := if_pos h3
        have ef : d_fc E j = 1 := if_pos h3
        rw [eo] at hz hI
        rw [ef] at hz
        have hc21 := hc.2.1
        rw [eo, ef] at hc21
        refine ⟨fun f hf => ?_, fun _ f hf => ?_⟩
        · rw [hI _ (by omega) (by omega) (by omega), d_stE_o (by rw [if_pos h3]; omega)]
          exact q1.1 f hf
        · show I1 (1 + 26 + 2 * j + 1) f = _
          rw [show 1 + 26 + 2 * j + 1 = 28 + 2 * j by omega]
          have old := q1.2 h3 f hf
          rw [show 1 + 26 + 2 * j + 1 = 28 + 2 * j by omega] at old
          by_cases f1 : f = 1
          · subst f1
            rw [hz]
            show nI z = nI (d_stE E j z j 7)
            unfold d_stE
            rw [if_pos rfl, if_pos h3, if_pos rfl]
          · rw [hc21 f f1, old]
            unfold d_new
            by_cases f0 : f = 0
            · subst f0
              rw [if_pos rfl, if_pos rfl, d_stE_f (by decide) (by decide)]
            · rw [if_neg f0, if_neg f0, if_pos hf, if_pos hf, d_stE_f (by omega) (by omega)]
      · have h30 : E j 3 ≠ 0 := by omega
        have eo : d_oc E j = 27 + 2 * j := if_neg h30
        have ef : d_fc E j = 5 := if_neg h30
        rw [eo] at hz hI
        rw [ef] at hz
        have hc21 := hc.2.1
        rw [eo, ef] at hc21
        refine ⟨fun f hf => ?_, fun q => ?_⟩
        · rw [show 1 + 26 + 2 * j = 27 + 2 * j by omega]
          have old := q1.1 f hf
          rw [show 1 + 26 + 2 * j = 27 + 2 * j by omega] at old
          by_cases f5 : f = 5
          · subst f5
            rw [hz]
            unfold d_stE
            rw [if_pos rfl, if_neg h30, if_pos rfl]
          · rw [hc21 f f5, old, d_stE_o (by rw [if_neg h30]; omega)]
        · rw [d_stE_f (by decide) (by decide)] at q
          exact absurd q h30
    · rw [d_stE_n hji]
      exact d_ed_fr q1 (hI _ (by omega) (by omega) (by omega)) (hI _ (by omega) (by omega) (by omega))
theorem d_stM {M1 : q_I} {z : Nat} (hm : d_mw (M 1) n Ru no Of Os base E) (hb : base.length ≤ 12) (hk : E i 3 = 0 ∨ E i 3 = 1) (hc : d_mb (d_c2 E i) M M1) (hz : M1 1 (d_c2 E i) = nI z) : d_mw (M1 1) n Ru no Of Os base (d_stE E i z) := by
  obtain ⟨g1, g2, g3, g4, g5, g6, g7, g8, g9⟩ := hm
  have hle : 124 + 13 * i + 5 ≤ d_c2 E i ∧ d_c2 E i ≤ 124 + 13 * i + 7 := by
    unfold d_c2
    by_cases h : E i 3 = 0
    · rw [if_pos h]; omega
    · rw [if_neg h]; omega
  have hv : ∀ x, x ≠ d_c2 E i → M1 1 x = M 1 x := hc.2.2
  refine ⟨?_, ?_, ⟨?_, g3.2⟩, fun x hx => ?_, fun x hx => ?_, fun o ho => ?_, fun k m hk f hf => ?_, fun j hj => ?_, g9⟩
  · rw [hv 0 (by omega)]; exact g1
  · rw [hv 2 (by omega)]; exact g2
  · rw [hv 3 (by omega)]; exact g3.1
  · rw [hv _ (by omega), hv _ (by omega), hv _ (by omega)]; exact g4 x hx
  · rw [hv _ (by omega), hv _ (by omega)]; exact g5 x hx
  · have := g3.2
    rw [hv _ (by omega), hv _ (by omega)]; exact g6 o ho
  · have := d_get_lt hk
    rw [hv _ (by omega)]; exact g7 k m hk f hf
  · obtain ⟨q1, q2⟩ := g8 j hj
    by_cases hji : j = i
    · subst hji
      have ec : d_c2 E j = 124 + 13 * j + (if E j 3 = 0 then 7 else 5) := by
        unfold d_c2
        by_cases h : E j 3 = 0
        · rw [if_pos h, if_pos h]
        · rw [if_neg h, if_neg h]
      have gen : ∀ f, M 1 (124 + 13 * j + f) = nI (E j f) → M1 1 (124 + 13 * j + f) = nI (d_stE E j z j f) := fun f old => by
        by_cases hf : f = (if E j 3 = 0 then 7 else 5)
        · rw [hf, ← ec, hz, d_stE_s]
        · rw [hv _ (by omega), old, d_stE_o hf]
      refine ⟨fun f hf => gen f (q1 f hf), fun h3 f h7 hf => gen f (q2 ?_ f h7 hf)⟩
      rw [d_stE_f (by decide) (by decide)] at h3
      exact h3
    · rw [d_stE_n hji]
      exact ⟨fun f hf => by rw [hv _ (by omega)]; exact q1 f hf, fun h3 f h7 hf => by rw [hv _ (by omega)]; exact q2 h3 f h7 hf⟩
end DT
