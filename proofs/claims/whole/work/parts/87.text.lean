/-! the text as a whole -/
section DQ
variable {I0 M0 : q_I} {len : Nat}
theorem d_rtime (hb : d_bu I0 M0 114 4 4 len) (hl : len ≤ 60) {I M : q_I} {p : Nat} (h : d_pf I0 M0 I M p) (K : q_I → Option (Int32 × q_I)) :
    ∃ I' M' p', d_pf I0 M0 I' M' p' ∧ ((f_Des_readTime I 113 = some (0, I') ∧ q_b2 (f_Mo_number M) (fun v1 I7 => q_l (q_ui I7 0 11 v1) (fun I8 => if (I8 0 11) < 0 then (some (0, I8)) else (q_b2 (f_Mo_takes I8 43) (fun v2 I9 => if v2 = 0 then (some (0, I9)) else (q_b2 (f_Mo_number I9) (fun v3 I10 => q_l (q_ui I10 0 12 v3) (fun I11 => if (I11 0 12) < 0 then (some (0, I11)) else K I11))))))) = some (0, M')) ∨ (f_Des_readTime I 113 = some (1, I') ∧ q_b2 (f_Mo_number M) (fun v1 I7 => q_l (q_ui I7 0 11 v1) (fun I8 => if (I8 0 11) < 0 then (some (0, I8)) else (q_b2 (f_Mo_takes I8 43) (fun v2 I9 => if v2 = 0 then (some (0, I9)) else (q_b2 (f_Mo_number I9) (fun v3 I10 => q_l (q_ui I10 0 12 v3) (fun I11 => if (I11 0 12) < 0 then (some (0, I11)) else K I11))))))) = K M' ∧ (∃ s d, s ≤ 99 ∧ d ≤ 99 ∧ I' (113 + 3) 1 = nI s ∧ M' 0 11 = nI s ∧ I' (113 + 3) 2 = nI d ∧ M' 0 12 = nI d) ∧ (∀ g, g ≠ 3 → I' 113 g = I 113 g) ∧ (∀ g, 3 ≤ g → I' (113 + 3) g = I (113 + 3) g) ∧ (∀ g, g ≠ 18 → g ≠ 11 → g ≠ 12 → M' 0 g = M 0 g))) := by
  have c10 : ¬ (1 : Int32) = 0 := by decide
  have setf : ∀ (I1 M1 : q_I) (p1 f fr : Nat) (x y : Int32), 11 ≤ fr → fr < 18 → d_pf I0 M0 I1 M1 p1 → d_pf I0 M0 (q_ui I1 (113 + 3) f x) (q_ui M1 0 fr y) p1 := fun I1 M1 p1 f fr x y f1 f2 r1 => ⟨fun o q1 q2 => by rw [d_ui_o (by omega)]; exact r1.1 o q1 q2, fun o q => by rw [d_ui_o q]; exact r1.2.1 o q, fun g hg => by rw [d_ui_n (by omega)]; exact r1.2.2.1 g hg, by rw [d_ui_o (by decide)]; exact r1.2.2.2.1, by rw [d_ui_n (by omega)]; exact r1.2.2.2.2.1, r1.2.2.2.2.2⟩
  unfold f_Des_readTime
  obtain ⟨I1, M1, p1, r1, r2, r3, ⟨r4, r5⟩ | ⟨n1, r6, r4, r5⟩⟩ := d_rnum hb hl h
  · rw [r4, d_b2, d_l, d_ui_s, if_pos (show (-4 : Int32) < 0 by decide), r5, d_b2, d_l, d_ui_s, if_pos (show (-1 : Int32) < 0 by decide)]
    exact ⟨_, _, p1, setf I1 M1 p1 1 11 (-4) (-1) (by decide) (by decide) r1, Or.inl ⟨rfl, rfl⟩⟩
  · have st := setf I1 M1 p1 1 11 (nI n1) (nI n1) (by decide) (by decide) r1
    rw [r4, d_b2, d_l, d_ui_s, if_neg (nI_pos (by omega)), r5, d_b2, d_l, d_ui_s, if_neg (nI_pos (by omega))]
    obtain ⟨I3, M3, p3, v3, k1, k2, k3, k4, k5, k6⟩ := d_rskip hb hl st (k := 43) (by decide)
    have k5' : f_Des_skip (q_ui I1 (113 + 3) 1 (nI n1)) 113 43 = some (v3, I3) := k5
    have k6' : f_Mo_takes (q_ui M1 0 11 (nI n1)) 43 = some (v3, M3) := k6
    rw [k5', d_b2, k6', d_b2]
    rcases k4 with rfl | rfl
    · rw [if_pos rfl, if_pos rfl]
      exact ⟨I3, M3, p3, k1, Or.inl ⟨rfl, rfl⟩⟩
    · rw [if_neg c10, if_neg c10]
      obtain ⟨I4, M4, p4, t1, t2, t3, ⟨t4, t5⟩ | ⟨n2, t6, t4, t5⟩⟩ := d_rnum hb hl k1
      · rw [t4, d_b2, d_l, d_ui_s, if_pos (show (-4 : Int32) < 0 by decide), t5, d_b2, d_l, d_ui_s, if_pos (show (-1 : Int32) < 0 by decide)]
        exact ⟨_, _, p4, setf I4 M4 p4 2 12 (-4) (-1) (by decide) (by decide) t1, Or.inl ⟨rfl, rfl⟩⟩
      · rw [t4, d_b2, d_l, d_ui_s, if_neg (nI_pos (by omega)), t5, d_b2, d_l, d_ui_s, if_neg (nI_pos (by omega))]
        refine ⟨_, _, p4, setf I4 M4 p4 2 12 (nI n2) (nI n2) (by decide) (by decide) t1, Or.inr ⟨rfl, rfl, ⟨n1, n2, r6, t6, ?_, ?_, d_ui_s, d_ui_s⟩, fun g hg => ?_, fun g hg => ?_, fun g q1 q2 q3 => ?_⟩⟩
        · rw [d_ui_n (by decide), t2.1 _ (by decide), k2.1 _ (by decide), d_ui_s]
        · rw [d_ui_n (by decide), t3.2 _ (by decide), k3.2 _ (by decide), d_ui_s]
        · rw [d_ui_o (by decide), t2.2 g hg, k2.2 g hg, d_ui_o (by decide), r2.2 g hg]
        · rw [d_ui_n (by omega), t2.1 _ (by decide), k2.1 _ (by decide), d_ui_n (by omega), r2.1 _ (by decide)]
        · rw [d_ui_n q3, t3.2 g q1, k3.2 g q1, d_ui_n q2, r3.2 g q1]
end DQ
theorem d_read {I M : q_I} {len : Nat} (hb : d_bu I M 114 4 4 len) (hl : len ≤ 60) : ∃ I' M' p, d_pf I M I' M' p ∧ ((f_Des_read I 113 = some (nI p, I') ∧ f_Mo_isText M = some (0, M')) ∨ (f_Des_read I 113 = some (-4, I') ∧ f_Mo_isText M = some (1, M') ∧ ∃ s d rm ps w per cnt, s ≤ 99 ∧ d ≤ 99 ∧ I' (113 + 3) 1 = nI s ∧ M' 0 11 = nI s ∧ I' (113 + 3) 2 = nI d ∧ M' 0 12 = nI d ∧ d_vl I' M' rm ps w per cnt)) := by
  have c10 : ¬ (1 : Int32) = 0 := by decide
  unfold f_Des_read f_Mo_isText f_JS_length f_Me_fill
  rw [d_l, d_b1, d_l, d_l, d_l, d_l, d_l, d_l, d_l, d_b1, d_l, d_l, d_l, d_l, d_l, d_l, d_l]
  obtain ⟨I4, eI, -⟩ : ∃ I4, I4 = q_ui (q_ui (q_ui (q_ui (q_ui (q_ui (q_ui (q_ui (q_ui I 113 3 0) 113 4 ((1 : Int32) <<< ((4 : Int32) &&& 31) - 1)) (113 + 3) 1 0) (113 + 3) 2 0) (113 + 3) 3 0) (113 + 3) 4 1) (113 + 3) 5 0) (113 + 3) 6 1) 113 2 1 ∧ True := ⟨_, rfl, trivial⟩
  obtain ⟨M6, eM, -⟩ : ∃ M6, M6 = q_ui (q_ui (q_ui (q_ui (q_ui (q_ui M 0 18 0) 0 13 0) 0 14 1) 0 15 1) 0 16 0) 0 17 1 ∧ True := ⟨_, rfl, trivial⟩
  rw [← eI, ← eM]
  have hpf : d_pf I M I4 M6 0 := by
    refine ⟨fun o q1 q2 => ?_, fun o q => ?_, fun f hf => ?_, ?_, ?_, by decide⟩
    · rw [eI]; simp (disch := omega) only [d_ui_o]
    · rw [eM]; simp (disch := omega) only [d_ui_o]
    · rw [eM]; simp (disch := omega) only [d_ui_n]
    · rw [eI]; simp (disch := omega) only [d_ui_o, d_ui_n, d_ui_s]; rfl
    · rw [eM]; simp (disch := omega) only [d_ui_n, d_ui_s]; rfl
  have h4 : I4 113 4 = nI 15 := by
    rw [eI]; simp (disch := omega) only [d_ui_o, d_ui_n, d_ui_s]; decide
  have hv : d_vl I4 M6 0 1 1 0 1 := by
    refine ⟨⟨?_, ?_⟩, ⟨?_, ?_⟩, ⟨?_, ?_⟩, ⟨?_, ?_⟩, ⟨?_, ?_⟩, by decide, by decide, by decide, by decide, by decide⟩
    · rw [eI]; simp (disch := omega) only [d_ui_o, d_ui_n, d_ui_s]; rfl
    · rw [eM]; simp (disch := omega) only [d_ui_n, d_ui_s]; rfl
    · rw [eI]; simp (disch := omega) only [d_ui_o, d_ui_n, d_ui_s]; rfl
    · rw [eM]; simp (disch := omega) only [d_ui_n, d_ui_s]; rfl
    · rw [eI]; simp (disch := omega) only [d_ui_o, d_ui_n, d_ui_s]; rfl
    · rw [eM]; simp (disch := omega) only [d_ui_n, d_ui_s]; rfl
    · rw [eI]; simp (disch := omega) only [d_ui_o, d_ui_n, d_ui_s]; rfl
    · rw [eM]; simp (disch := omega) only [d_ui_n, d_ui_s]; rfl
    · rw [eI]; simp (disch := omega) only [d_ui_o, d_ui_n, d_ui_s]; rfl
    · rw [eM]; simp (disch := omega) only [d_ui_n, d_ui_s]; rfl
  clear eI eM
  obtain ⟨I5, M5, p5, g1, ⟨g2, g3⟩ | ⟨g2, g3, ⟨s, d, g4, g5, g6, g7, g8, g9⟩, g10, g11, g12⟩⟩ := d_rtime hb hl hpf (fun (I11 : q_I) => (q_b2 (f_Mo_areOptions I11) (fun v4 I12 => if v4 = 0 then (some (0, I12)) else (some (1, I12)))))
  · rw [g2, d_b2, d_jj, if_pos rfl, g3]
    refine ⟨I5, M5, p5, g1, Or.inl ⟨?_, rfl⟩⟩
    show some (I5 113 3, I5) = _
    rw [g1.2.2.2.1]
  · obtain ⟨⟨v1, v1'⟩, ⟨v2, v2'⟩, ⟨v3, v3'⟩, ⟨v4, v4'⟩, ⟨v5, v5'⟩, v6⟩ := hv
    have hv5 : d_vl I5 M5 0 1 1 0 1 := ⟨⟨by rw [g11 3 (by decide)]; exact v1, by rw [g12 13 (by decide) (by decide) (by decide)]; exact v1'⟩, ⟨by rw [g11 4 (by decide)]; exact v2, by rw [g12 14 (by decide) (by decide) (by decide)]; exact v2'⟩, ⟨by rw [g10 2 (by decide)]; exact v3, by rw [g12 15 (by decide) (by decide) (by decide)]; exact v3'⟩, ⟨by rw [g11 5 (by decide)]; exact v4, by rw [g12 16 (by decide) (by decide) (by decide)]; exact v4'⟩, ⟨by rw [g11 6 (by decide)]; exact v5, by rw [g12 17 (by decide) (by decide) (by decide)]; exact v5'⟩, v6⟩
    obtain ⟨v, I7, M7, p7, k1, k2, k3, k4, k5⟩ := d_optL hb hl 4 0 q_fu q_fu 15 I5 M5 p5 0 1 1 0 1 (by omega) (by decide) (by decide +kernel) (d_q (by decide)) (d_q (by decide)) g1 (by rw [g10 4 (by decide)]; exact h4) hv5
    have k2' : f_Des_readOptions I5 113 = some (v, I7) := k2
    have k3' : f_Mo_areOptions M5 = some (v, M7) := k3
    rw [g2, d_b2, d_jj, if_neg c10, k2', d_b2, g3, k3', d_b2]
    rcases k1 with rfl | rfl
    · rw [if_pos rfl, if_pos rfl]
      refine ⟨I7, M7, p7, k4, Or.inl ⟨?_, rfl⟩⟩
      show some (I7 113 3, I7) = _
      rw [k4.2.2.2.1]
    · obtain ⟨⟨t1, t2, t3, t4⟩, rm, ps, w, per, cnt, gv⟩ := k5 rfl
      rw [if_neg c10, if_neg c10]
      exact ⟨I7, M7, p7, k4, Or.inr ⟨rfl, rfl, s, d, rm, ps, w, per, cnt, g4, g5, t1.trans g6, t3.trans g7, t2.trans g8, t4.trans g9, gv⟩⟩
theorem d_Z_rd {t t' : Nat} {I I' : q_I} {P : q_P} {M M' : q_I} {p : Nat} (h : d_Z t I P M) (ht : t ≤ t') (hp : d_pf I M I' M' p) : d_Z t' I' P M' := by
  refine d_Z_fr h ht ⟨fun o ho => hp.1 o ?_ ?_, fun _ _ _ => rfl, h.2.2.1, h.2.2.2.1⟩ ⟨fun o q1 q2 => hp.2.1 o (by omega), hp.2.2.1 4 (by decide), hp.2.2.1 6 (by decide)⟩
  · unfold d_rel at ho; omega
  · unfold d_rel at ho; omega
theorem y2_faultPosition {t : Nat} {I : q_I} {P : q_P} {M : q_I} (h : d_Z t I P M) : ∃ v I' M', f_CR_faultPosition I = some (v, I') ∧ f_Mo_faultPosition M = some (v, M') ∧ d_Z (t + 1) I' P M' := by
  obtain ⟨len, hl, hb⟩ := h.2.2.2.2.1
  unfold f_CR_faultPosition f_Mo_faultPosition
  obtain ⟨I', M', p, g1, ⟨g2, g3⟩ | ⟨g2, g3, -⟩⟩ := d_read (I := I) (M := M) hb hl
  · rw [g2, d_b2, g3, d_b2, if_pos rfl, g1.2.2.2.2.1]
    exact ⟨_, _, _, rfl, rfl, d_Z_rd h (by omega) g1⟩
  · rw [g2, d_b2, g3, d_b2, if_neg (show ¬ (1 : Int32) = 0 by decide)]
    exact ⟨_, _, _, rfl, rfl, d_Z_rd h (by omega) g1⟩
theorem y2_createFromText {t : Nat} {I : q_I} {J J2 : q_J} {P : q_P} {M : q_I} (h : d_Z t I P M) (ht : t ≤ 100000) (a1 : Int32) : ∃ v I' J' P' M' J2', f_CR_createFromText I J P a1 = some (v, I', J', P') ∧ f_Mo_createFromText M J2 a1 = some (v, M', J2') ∧ d_Z (t + 1) I' P' M' := by
  have hz := d_Zt h (show t ≤ t + 1 by omega)
  have c10 : ¬ (1 : Int32) = 0 := by decide
  obtain ⟨len, hl, hb⟩ := h.2.2.2.2.1
  unfold f_CR_createFromText f_Mo_createFromText
  rw [d_repC]
  rcases d_rep a1 with ⟨e1, -⟩ | ⟨r, hr, rfl, e1⟩
  · rw [e1, d_b1, d_b1, if_pos rfl, if_pos rfl]
    exact ⟨_, _, _, _, _, _, rfl, rfl, hz⟩
  rw [e1, d_b1, d_b1, if_neg c10, if_neg c10]
  obtain ⟨I1, M1, p, g1, ⟨g2, g3⟩ | ⟨g2, g3, s, d, rm, ps, w, per, cnt, s9, d9, i1, m1, i2, m2, ⟨i3, m3⟩, ⟨i4, m4⟩, ⟨i5, m5⟩, ⟨i6, m6⟩, ⟨i7, m7⟩, b1, b2, b3, b4, b5, b6⟩⟩ := d_read (I := I) (M := M) hb hl
  · have hz1 := d_Z_rd h (show t ≤ t + 1 by omega) g1
    have hp := g1.2.2.2.2.2
    rw [g2, d_b2, g3, d_b2, if_pos rfl, if_neg (fun q : nI p = -4 => by
      have h1 := nI_pos (n := p) (by omega)
      rw [q] at h1
      exact h1 (by decide))]
    exact ⟨_, _, _, _, _, _, rfl, rfl, hz1⟩
  · have hz1 := d_Z_rd h (show t ≤ t + 1 by omega) g1
    have i1' : I1 116 1 = nI s := i1
    have i2' : I1 116 2 = nI d := i2
    have i3' : I1 116 3 = nI rm := i3
    have i4' : I1 116 4 = nI ps := i4
    have i6' : I1 116 5 = nI per := i6
    have i7' : I1 116 6 = nI cnt := i7
    have es : f_Mo_in (nI s) 0 95 = some (if 0 ≤ s ∧ s ≤ 95 then 1 else 0) := dn_inE (a := 0) (b := 95) (by omega) (by decide) (by decide)
    have ed : f_Mo_in (nI d) 1 8 = some (if 1 ≤ d ∧ d ≤ 8 then 1 else 0) := dn_inE (a := 1) (b := 8) (by omega) (by decide) (by decide)
    have ep : f_Mo_in (nI per) 0 48 = some (if 0 ≤ per ∧ per ≤ 48 then 1 else 0) := dn_inE (a := 0) (b := 48) (by omega) (by decide) (by decide)
    have hC : f_CR_hasPlainValues I1 116 = some (if s ≤ 95 ∧ (1 ≤ d ∧ d ≤ 8) ∧ per ≤ 48 then 1 else 0) := by
      unfold f_CR_hasPlainValues
      rw [d_startE, d_durE, dn_within, i1', i2', i6', es, ed, ep, d_b1]
      by_cases hs : s ≤ 95
      · rw [if_pos (show 0 ≤ s ∧ s ≤ 95 from ⟨Nat.zero_le _, hs⟩), if_neg c10, d_b1]
        by_cases hd : 1 ≤ d ∧ d ≤ 8
        · rw [if_pos hd, if_neg c10, d_b1]
          by_cases hp : per ≤ 48
          · rw [if_pos (show 0 ≤ per ∧ per ≤ 48 from ⟨Nat.zero_le _, hp⟩), if_neg c10, if_pos (show s ≤ 95 ∧ (1 ≤ d ∧ d ≤ 8) ∧ per ≤ 48 from ⟨hs, hd, hp⟩)]
          · rw [if_neg (show ¬ (0 ≤ per ∧ per ≤ 48) by omega), if_pos rfl, if_neg (fun q => hp q.2.2)]
        · rw [if_neg hd, if_pos rfl, if_neg (fun q => hd q.2.1)]
      · rw [if_neg (show ¬ (0 ≤ s ∧ s ≤ 95) by omega), if_pos rfl, if_neg (fun q => hs q.1)]
    rw [g2, d_b2, g3, d_b2, if_neg c10, if_pos rfl, hC, d_b1, m1, m2, m6, ed]
    by_cases hs : s ≤ 95
    · rw [if_neg (show ¬ (95 : Int32) < nI s from nI_nlt (a := 95) hs (by decide)), d_b1]
      by_cases hd : 1 ≤ d ∧ d ≤ 8
      · rw [if_pos hd, if_neg c10]
        by_cases hp : per ≤ 48
        · rw [if_pos (show s ≤ 95 ∧ (1 ≤ d ∧ d ≤ 8) ∧ per ≤ 48 from ⟨hs, hd, hp⟩), if_neg c10, if_pos (show nI per ≤ 48 from nI_le (b := 48) hp (by decide))]
          obtain ⟨I2, x1, x2, x3⟩ := d_cp (I := I1) (a := 112) (b := 116) (by decide)
          have hz2 : d_Z t I2 P M1 := by
            refine d_Z_fr (d_Z_rd h (Nat.le_refl t) g1) (Nat.le_refl _) ⟨fun o ho => x2 o ?_, fun _ _ _ => rfl, h.2.2.1, h.2.2.2.1⟩ d_ms_rf
            unfold d_rel at ho; omega
          obtain ⟨v, I', J', P', M', J2', y1, y2, y3⟩ := d_creates (J := J) (J2 := J2) hz2 ht hr hs hd b1 b2.2 b4 ⟨b5, b6⟩ b3 (by rw [x3 1 (by decide)]; exact i1') (by rw [x3 2 (by decide)]; exact i2') (by rw [x3 3 (by decide)]; exact i3') (by rw [x3 4 (by decide)]; exact i4') (by rw [x3 5 (by decide)]; exact i6') (by rw [x3 6 (by decide)]; exact i7') m6 m7
          rw [x1, d_b1, x2 113 (by decide), i5, y1, d_b4, m3, m4, m5, y2, d_b3]
          exact ⟨_, _, _, _, _, _, rfl, rfl, y3⟩
        · rw [if_neg (show ¬ (s ≤ 95 ∧ (1 ≤ d ∧ d ≤ 8) ∧ per ≤ 48) from fun q => hp q.2.2), if_pos rfl, if_neg (show ¬ nI per ≤ 48 from nI_ge (a := 48) (by omega) (by omega))]
          exact ⟨_, _, _, _, _, _, rfl, rfl, hz1⟩
      · rw [if_neg hd, if_neg (show ¬ (s ≤ 95 ∧ (1 ≤ d ∧ d ≤ 8) ∧ per ≤ 48) from fun q => hd q.2.1), if_pos rfl, if_pos rfl]
        exact ⟨_, _, _, _, _, _, rfl, rfl, hz1⟩
    · rw [if_neg (show ¬ (s ≤ 95 ∧ (1 ≤ d ∧ d ≤ 8) ∧ per ≤ 48) from fun q => hs q.1), if_pos rfl, if_pos (show (95 : Int32) < nI s from nI_lt (a := 95) (by omega) (by omega))]
      exact ⟨_, _, _, _, _, _, rfl, rfl, hz1⟩
