def f_Ed_applyTo (I : q_I) (a0 : Nat) (a1 : Nat) : Option (q_I) :=
  if (I a0 3) = 1 then (q_l (q_ui I a1 1 (I a0 5)) (fun I1 => some (I1))) else (if (I a0 3) = 2 then (q_l (q_ui I a1 3 (I a0 5)) (fun I2 => some (I2))) else (if (I a0 3) = 3 then (q_l (q_ui I a1 2 (I a0 5)) (fun I3 => some (I3))) else (if (I a0 3) = 4 then (q_l (q_ui I a1 4 ((I a1 4) ||| (1 <<< ((I a0 5) &&& 31)))) (fun I4 => some (I4))) else (if (I a0 3) = 5 then (q_l (q_ui I a1 4 ((I a1 4) &&& ((1 <<< ((I a0 5) &&& 31)) ^^^ (-1)))) (fun I5 => some (I5))) else (some (I))))))
def y_Ed_applyTo : MethodName := ⟨"CalendarReplicas$Edit", "applyTo", "(LCalendarReplicas$Meeting;)V"⟩
def m_Ed_applyTo : q_M := (prog_4_method_8_code, 2, "CalendarReplicas$Edit", { frames := 0, cells := 0, slots := 0, locals := 0 }, (none : Option FieldType))
theorem yv_Ed_applyTo : q_Y y_Ed_applyTo m_Ed_applyTo 1 := ⟨rfl, ⟨by decide, by decide⟩, by decide +kernel, tw_2_225, tw_1_7⟩
set_option maxRecDepth 100000 in
set_option maxHeartbeats 4000000 in
theorem c_Ed_applyTo (l : Launch) (D : va_G) (tc : Nat → ClassId) (x0 y : Nat) (ad : Nat → Nat) (I : q_I) (J : q_J) (P : q_P) {a0 : Nat} {a1 : Nat} (h0 : isEd a0) (h1 : isMe a1) : q_Ct l (cG D tc x0 y ad) y_Ed_applyTo m_Ed_applyTo [q_r (cG D tc x0 y ad) a0, q_r (cG D tc x0 y ad) a1] (I, J, P) (f_Ed_applyTo I a0 a1) (fun r : q_I => (none, (r, J, P))) := by
  refine q_Ct_of (cIn D tc x0 y ad) (by decide) rfl (Nat.le_of_ble_eq_true rfl) rfl (fun X hX => ?_)
  subst hX
  unfold f_Ed_applyTo
  refine q_aload_n 0 0 1 rfl (by decide +kernel) rfl ?_
  refine q_geti (f := 3) 4 rfl (by decide +kernel) (cC_Ed D tc x0 y ad) h0.1 (by decide) rfl tw_1_173 ?_
  refine q_case (fun g1 => ?_) (fun g1 => ?_)
  · refine q_tableInE (dflt := 107) (lo := 1) (hi := 5) (offs := #[36, 47, 58, 69, 87]) (len := 36) (c := 1) (off := 36) g1 40 (by decide +kernel) (by decide) (by decide) rfl (by decide) ?_
    refine q_aload_n 1 1 41 rfl (by decide +kernel) rfl ?_
    refine q_aload_n 0 0 42 rfl (by decide +kernel) rfl ?_
    refine q_geti (f := 5) 45 rfl (by decide +kernel) (cC_Ed D tc x0 y ad) h0.1 (by decide) rfl tw_1_179 ?_
    refine q_puti (f := 1) 48 rfl (by decide +kernel) (cC_Me D tc x0 y ad) h1 (by decide) rfl rfl rfl tw_1_101 ?_
    refine q_letI (fun I1 => ?_)
    refine q_goto (off := 63) 111 (by decide +kernel) rfl ?_
    exact q_vret (by decide +kernel) rfl rfl (Nat.le_of_ble_eq_true rfl) (Nat.le_of_ble_eq_true rfl)
  refine q_case (fun g2 => ?_) (fun g2 => ?_)
  · refine q_tableInE (dflt := 107) (lo := 1) (hi := 5) (offs := #[36, 47, 58, 69, 87]) (len := 36) (c := 2) (off := 47) g2 51 (by decide +kernel) (by decide) (by decide) rfl (by decide) ?_
    refine q_aload_n 1 1 52 rfl (by decide +kernel) rfl ?_
    refine q_aload_n 0 0 53 rfl (by decide +kernel) rfl ?_
    refine q_geti (f := 5) 56 rfl (by decide +kernel) (cC_Ed D tc x0 y ad) h0.1 (by decide) rfl tw_1_179 ?_
    refine q_puti (f := 3) 59 rfl (by decide +kernel) (cC_Me D tc x0 y ad) h1 (by decide) rfl rfl rfl tw_1_114 ?_
    refine q_letI (fun I2 => ?_)
    refine q_goto (off := 52) 111 (by decide +kernel) rfl ?_
    exact q_vret (by decide +kernel) rfl rfl (Nat.le_of_ble_eq_true rfl) (Nat.le_of_ble_eq_true rfl)
  refine q_case (fun g3 => ?_) (fun g3 => ?_)
  · refine q_tableInE (dflt := 107) (lo := 1) (hi := 5) (offs := #[36, 47, 58, 69, 87]) (len := 36) (c := 3) (off := 58) g3 62 (by decide +kernel) (by decide) (by decide) rfl (by decide) ?_
    refine q_aload_n 1 1 63 rfl (by decide +kernel) rfl ?_
    refine q_aload_n 0 0 64 rfl (by decide +kernel) rfl ?_
    refine q_geti (f := 5) 67 rfl (by decide +kernel) (cC_Ed D tc x0 y ad) h0.1 (by decide) rfl tw_1_179 ?_
    refine q_puti (f := 2) 70 rfl (by decide +kernel) (cC_Me D tc x0 y ad) h1 (by decide) rfl rfl rfl tw_1_109 ?_
    refine q_letI (fun I3 => ?_)
    refine q_goto (off := 41) 111 (by decide +kernel) rfl ?_
    exact q_vret (by decide +kernel) rfl rfl (Nat.le_of_ble_eq_true rfl) (Nat.le_of_ble_eq_true rfl)
  refine q_case (fun g4 => ?_) (fun g4 => ?_)
  · refine q_tableInE (dflt := 107) (lo := 1) (hi := 5) (offs := #[36, 47, 58, 69, 87]) (len := 36) (c := 4) (off := 69) g4 73 (by decide +kernel) (by decide) (by decide) rfl (by decide) ?_
    refine q_aload_n 1 1 74 rfl (by decide +kernel) rfl ?_
    refine q_dup 75 rfl (by decide +kernel) rfl ?_
    refine q_geti (f := 4) 78 rfl (by decide +kernel) (cC_Me D tc x0 y ad) h1 (by decide) rfl tw_1_119 ?_
    refine q_iconst 1 (c := 1) 79 rfl (by decide +kernel) rfl ?_
    refine q_aload_n 0 0 80 rfl (by decide +kernel) rfl ?_
    refine q_geti (f := 5) 83 rfl (by decide +kernel) (cC_Ed D tc x0 y ad) h0.1 (by decide) rfl tw_1_179 ?_
    refine q_ishl 84 rfl (by decide +kernel) ?_
    refine q_ior 85 rfl (by decide +kernel) ?_
    refine q_puti (f := 4) 88 rfl (by decide +kernel) (cC_Me D tc x0 y ad) h1 (by decide) rfl rfl rfl tw_1_119 ?_
    refine q_letI (fun I4 => ?_)
    refine q_goto (off := 23) 111 (by decide +kernel) rfl ?_
    exact q_vret (by decide +kernel) rfl rfl (Nat.le_of_ble_eq_true rfl) (Nat.le_of_ble_eq_true rfl)
  refine q_case (fun g5 => ?_) (fun g5 => ?_)
  · refine q_tableInE (dflt := 107) (lo := 1) (hi := 5) (offs := #[36, 47, 58, 69, 87]) (len := 36) (c := 5) (off := 87) g5 91 (by decide +kernel) (by decide) (by decide) rfl (by decide) ?_
    refine q_aload_n 1 1 92 rfl (by decide +kernel) rfl ?_
    refine q_dup 93 rfl (by decide +kernel) rfl ?_
    refine q_geti (f := 4) 96 rfl (by decide +kernel) (cC_Me D tc x0 y ad) h1 (by decide) rfl tw_1_119 ?_
    refine q_iconst 1 (c := 1) 97 rfl (by decide +kernel) rfl ?_
    refine q_aload_n 0 0 98 rfl (by decide +kernel) rfl ?_
    refine q_geti (f := 5) 101 rfl (by decide +kernel) (cC_Ed D tc x0 y ad) h0.1 (by decide) rfl tw_1_179 ?_
    refine q_ishl 102 rfl (by decide +kernel) ?_
    refine q_iconst (-1) (c := -1) 103 rfl (by decide +kernel) rfl ?_
    refine q_ixor 104 rfl (by decide +kernel) ?_
    refine q_iand 105 rfl (by decide +kernel) ?_
    refine q_puti (f := 4) 108 rfl (by decide +kernel) (cC_Me D tc x0 y ad) h1 (by decide) rfl rfl rfl tw_1_119 ?_
    refine q_letI (fun I5 => ?_)
    refine q_goto (off := 3) 111 (by decide +kernel) rfl ?_
    exact q_vret (by decide +kernel) rfl rfl (Nat.le_of_ble_eq_true rfl) (Nat.le_of_ble_eq_true rfl)
  have eg1 := q_neI (z := 1) (by decide) g1
  have eg2 := q_neI (z := 2) (by decide) g2
  have eg3 := q_neI (z := 3) (by decide) g3
  have eg4 := q_neI (z := 4) (by decide) g4
  have eg5 := q_neI (z := 5) (by decide) g5
  refine q_tableOut (dflt := 107) (lo := 1) (hi := 5) (offs := #[36, 47, 58, 69, 87]) (len := 36) 111 (by decide +kernel) (by omega) (by decide) ?_
  exact q_vret (by decide +kernel) rfl rfl (Nat.le_of_ble_eq_true rfl) (Nat.le_of_ble_eq_true rfl)
def f_Ru_copyFrom (I : q_I) (a0 : Nat) (a1 : Nat) : Option (q_I) :=
  q_l (q_uI I (a0 + 1) (va_cpy (I (a1 + 1)) (I (a0 + 1)) 0 0 4)) (fun I1 => q_l (q_uI I1 (a0 + 2) (va_cpy (I1 (a1 + 2)) (I1 (a0 + 2)) 0 0 4)) (fun I2 => q_l (q_uI I2 (a0 + 3) (va_cpy (I2 (a1 + 3)) (I2 (a0 + 3)) 0 0 4)) (fun I3 => q_l (q_uI I3 (a0 + 4) (va_cpy (I3 (a1 + 4)) (I3 (a0 + 4)) 0 0 6)) (fun I4 => q_l (q_uI I4 (a0 + 5) (va_cpy (I4 (a1 + 5)) (I4 (a0 + 5)) 0 0 6)) (fun I5 => q_l (q_uI I5 (a0 + 6) (va_cpy (I5 (a1 + 6)) (I5 (a0 + 6)) 0 0 4)) (fun I6 => q_l (q_uI I6 (a0 + 7) (va_cpy (I6 (a1 + 7)) (I6 (a0 + 7)) 0 0 4)) (fun I7 => q_l (q_ui I7 a0 7 (I7 a1 7)) (fun I8 => some (I8)))))))))
def y_Ru_copyFrom : MethodName := ⟨"CalendarReplicas$Rules", "copyFrom", "(LCalendarReplicas$Rules;)V"⟩
def m_Ru_copyFrom : q_M := (prog_7_method_2_code, 2, "CalendarReplicas$Rules", { frames := 1, cells := 0, slots := 0, locals := 100 }, (none : Option FieldType))
theorem yv_Ru_copyFrom : q_Y y_Ru_copyFrom m_Ru_copyFrom 1 := ⟨rfl, ⟨by decide, by decide⟩, by decide +kernel, tw_5_170, tw_1_3⟩
set_option maxRecDepth 100000 in
set_option maxHeartbeats 4000000 in
theorem c_Ru_copyFrom (l : Launch) (D : va_G) (tc : Nat → ClassId) (x0 y : Nat) (ad : Nat → Nat) (I : q_I) (J : q_J) (P : q_P) {a0 : Nat} {a1 : Nat} (h0 : isRu a0) (h1 : isRu a1) : q_Ct l (cG D tc x0 y ad) y_Ru_copyFrom m_Ru_copyFrom [q_r (cG D tc x0 y ad) a0, q_r (cG D tc x0 y ad) a1] (I, J, P) (f_Ru_copyFrom I a0 a1) (fun r : q_I => (none, (r, J, P))) := by
  refine q_Ct_of (cIn D tc x0 y ad) (by decide) rfl (Nat.le_of_ble_eq_true rfl) rfl (fun X hX => ?_)
  subst hX
  unfold f_Ru_copyFrom
  refine q_aload_n 1 1 1 rfl (by decide +kernel) rfl ?_
  refine q_getr (f := 0) (a1 + 1) 4 rfl (by decide +kernel) (cC_Ru D tc x0 y ad) h1.1 (by decide) rfl rfl tw_1_43 ?_
  refine q_iconst 0 (c := 0) 5 rfl (by decide +kernel) rfl ?_
  refine q_aload_n 0 0 6 rfl (by decide +kernel) rfl ?_
  refine q_getr (f := 0) (a0 + 1) 9 rfl (by decide +kernel) (cC_Ru D tc x0 y ad) h0.1 (by decide) rfl rfl tw_1_43 ?_
  refine q_iconst 0 (c := 0) 10 rfl (by decide +kernel) rfl ?_
  refine q_iconst 4 (c := 4) 11 rfl (by decide +kernel) rfl ?_
  refine q_acopy (W9 := 8) 14 rfl (by decide +kernel) h1.2.1 h0.2.1 rfl tw_5_171 tw_5_26 tw_5_25 tw_1_22 (by decide) (by decide) (by decide) (Nat.le_of_ble_eq_true rfl) (Nat.le_of_ble_eq_true rfl) (Nat.le_of_ble_eq_true rfl) ?_
  refine q_letI (fun I1 => ?_)
  refine q_aload_n 1 1 15 rfl (by decide +kernel) rfl ?_
  refine q_getr (f := 1) (a1 + 2) 18 rfl (by decide +kernel) (cC_Ru D tc x0 y ad) h1.1 (by decide) rfl rfl tw_1_45 ?_
  refine q_iconst 0 (c := 0) 19 rfl (by decide +kernel) rfl ?_
  refine q_aload_n 0 0 20 rfl (by decide +kernel) rfl ?_
  refine q_getr (f := 1) (a0 + 2) 23 rfl (by decide +kernel) (cC_Ru D tc x0 y ad) h0.1 (by decide) rfl rfl tw_1_45 ?_
  refine q_iconst 0 (c := 0) 24 rfl (by decide +kernel) rfl ?_
  refine q_iconst 4 (c := 4) 25 rfl (by decide +kernel) rfl ?_
  refine q_acopy (W9 := 8) 28 rfl (by decide +kernel) h1.2.2.1 h0.2.2.1 rfl tw_5_171 tw_5_26 tw_5_25 tw_1_22 (by decide) (by decide) (by decide) (Nat.le_of_ble_eq_true rfl) (Nat.le_of_ble_eq_true rfl) (Nat.le_of_ble_eq_true rfl) ?_
  refine q_letI (fun I2 => ?_)
  refine q_aload_n 1 1 29 rfl (by decide +kernel) rfl ?_
  refine q_getr (f := 2) (a1 + 3) 32 rfl (by decide +kernel) (cC_Ru D tc x0 y ad) h1.1 (by decide) rfl rfl tw_1_48 ?_
  refine q_iconst 0 (c := 0) 33 rfl (by decide +kernel) rfl ?_
  refine q_aload_n 0 0 34 rfl (by decide +kernel) rfl ?_
  refine q_getr (f := 2) (a0 + 3) 37 rfl (by decide +kernel) (cC_Ru D tc x0 y ad) h0.1 (by decide) rfl rfl tw_1_48 ?_
  refine q_iconst 0 (c := 0) 38 rfl (by decide +kernel) rfl ?_
  refine q_iconst 4 (c := 4) 39 rfl (by decide +kernel) rfl ?_
  refine q_acopy (W9 := 8) 42 rfl (by decide +kernel) h1.2.2.2.1 h0.2.2.2.1 rfl tw_5_171 tw_5_26 tw_5_25 tw_1_22 (by decide) (by decide) (by decide) (Nat.le_of_ble_eq_true rfl) (Nat.le_of_ble_eq_true rfl) (Nat.le_of_ble_eq_true rfl) ?_
  refine q_letI (fun I3 => ?_)
  refine q_aload_n 1 1 43 rfl (by decide +kernel) rfl ?_
  refine q_getr (f := 3) (a1 + 4) 46 rfl (by decide +kernel) (cC_Ru D tc x0 y ad) h1.1 (by decide) rfl rfl tw_1_51 ?_
  refine q_iconst 0 (c := 0) 47 rfl (by decide +kernel) rfl ?_
  refine q_aload_n 0 0 48 rfl (by decide +kernel) rfl ?_
  refine q_getr (f := 3) (a0 + 4) 51 rfl (by decide +kernel) (cC_Ru D tc x0 y ad) h0.1 (by decide) rfl rfl tw_1_51 ?_
  refine q_iconst 0 (c := 0) 52 rfl (by decide +kernel) rfl ?_
  refine q_bipush 6 (c := 6) 54 rfl (by decide +kernel) rfl ?_
  refine q_acopy (W9 := 8) 57 rfl (by decide +kernel) h1.2.2.2.2.1 h0.2.2.2.2.1 rfl tw_5_171 tw_5_26 tw_5_25 tw_1_22 (by decide) (by decide) (by decide) (Nat.le_of_ble_eq_true rfl) (Nat.le_of_ble_eq_true rfl) (Nat.le_of_ble_eq_true rfl) ?_
  refine q_letI (fun I4 => ?_)
  refine q_aload_n 1 1 58 rfl (by decide +kernel) rfl ?_
  refine q_getr (f := 4) (a1 + 5) 61 rfl (by decide +kernel) (cC_Ru D tc x0 y ad) h1.1 (by decide) rfl rfl tw_1_54 ?_
  refine q_iconst 0 (c := 0) 62 rfl (by decide +kernel) rfl ?_
  refine q_aload_n 0 0 63 rfl (by decide +kernel) rfl ?_
  refine q_getr (f := 4) (a0 + 5) 66 rfl (by decide +kernel) (cC_Ru D tc x0 y ad) h0.1 (by decide) rfl rfl tw_1_54 ?_
  refine q_iconst 0 (c := 0) 67 rfl (by decide +kernel) rfl ?_
  refine q_bipush 6 (c := 6) 69 rfl (by decide +kernel) rfl ?_
  refine q_acopy (W9 := 8) 72 rfl (by decide +kernel) h1.2.2.2.2.2.1 h0.2.2.2.2.2.1 rfl tw_5_171 tw_5_26 tw_5_25 tw_1_22 (by decide) (by decide) (by decide) (Nat.le_of_ble_eq_true rfl) (Nat.le_of_ble_eq_true rfl) (Nat.le_of_ble_eq_true rfl) ?_
  refine q_letI (fun I5 => ?_)
  refine q_aload_n 1 1 73 rfl (by decide +kernel) rfl ?_
  refine q_getr (f := 5) (a1 + 6) 76 rfl (by decide +kernel) (cC_Ru D tc x0 y ad) h1.1 (by decide) rfl rfl tw_1_57 ?_
  refine q_iconst 0 (c := 0) 77 rfl (by decide +kernel) rfl ?_
  refine q_aload_n 0 0 78 rfl (by decide +kernel) rfl ?_
  refine q_getr (f := 5) (a0 + 6) 81 rfl (by decide +kernel) (cC_Ru D tc x0 y ad) h0.1 (by decide) rfl rfl tw_1_57 ?_
  refine q_iconst 0 (c := 0) 82 rfl (by decide +kernel) rfl ?_
  refine q_iconst 4 (c := 4) 83 rfl (by decide +kernel) rfl ?_
  refine q_acopy (W9 := 8) 86 rfl (by decide +kernel) h1.2.2.2.2.2.2.1 h0.2.2.2.2.2.2.1 rfl tw_5_171 tw_5_26 tw_5_25 tw_1_22 (by decide) (by decide) (by decide) (Nat.le_of_ble_eq_true rfl) (Nat.le_of_ble_eq_true rfl) (Nat.le_of_ble_eq_true rfl) ?_
  refine q_letI (fun I6 => ?_)
  refine q_aload_n 1 1 87 rfl (by decide +kernel) rfl ?_
  refine q_getr (f := 6) (a1 + 7) 90 rfl (by decide +kernel) (cC_Ru D tc x0 y ad) h1.1 (by decide) rfl rfl tw_1_58 ?_
  refine q_iconst 0 (c := 0) 91 rfl (by decide +kernel) rfl ?_
  refine q_aload_n 0 0 92 rfl (by decide +kernel) rfl ?_
  refine q_getr (f := 6) (a0 + 7) 95 rfl (by decide +kernel) (cC_Ru D tc x0 y ad) h0.1 (by decide) rfl rfl tw_1_58 ?_
  refine q_iconst 0 (c := 0) 96 rfl (by decide +kernel) rfl ?_
  refine q_iconst 4 (c := 4) 97 rfl (by decide +kernel) rfl ?_
  refine q_acopy (W9 := 8) 100 rfl (by decide +kernel) h1.2.2.2.2.2.2.2 h0.2.2.2.2.2.2.2 rfl tw_5_171 tw_5_26 tw_5_25 tw_1_22 (by decide) (by decide) (by decide) (Nat.le_of_ble_eq_true rfl) (Nat.le_of_ble_eq_true rfl) (Nat.le_of_ble_eq_true rfl) ?_
  refine q_letI (fun I7 => ?_)
  refine q_aload_n 0 0 101 rfl (by decide +kernel) rfl ?_
  refine q_aload_n 1 1 102 rfl (by decide +kernel) rfl ?_
  refine q_geti (f := 7) 105 rfl (by decide +kernel) (cC_Ru D tc x0 y ad) h1.1 (by decide) rfl tw_1_59 ?_
  refine q_puti (f := 7) 108 rfl (by decide +kernel) (cC_Ru D tc x0 y ad) h0.1 (by decide) rfl rfl rfl tw_1_59 ?_
  refine q_letI (fun I8 => ?_)
  exact q_vret (by decide +kernel) rfl rfl (Nat.le_of_ble_eq_true rfl) (Nat.le_of_ble_eq_true rfl)
def f_Ru_putOrder (I : q_I) (a0 : Nat) (a1 : Int32) (a2 : Int32) : Option (q_I) :=
  if (I a0 7) < 0 then (some (I)) else (if (4 : Int32) ≤ (I a0 7) then (some (I)) else (q_ix (I a0 7) 4 (fun j1 => q_l (q_ui I (a0 + 6) j1 a1) (fun I1 => q_ix (I1 a0 7) 4 (fun j2 => q_l (q_ui I1 (a0 + 7) j2 a2) (fun I2 => q_l (q_ui I2 a0 7 ((I2 a0 7) + 1)) (fun I3 => some (I3))))))))
def y_Ru_putOrder : MethodName := ⟨"CalendarReplicas$Rules", "putOrde\x72", "(II)V"⟩
def m_Ru_putOrder : q_M := (prog_7_method_3_code, 3, "CalendarReplicas$Rules", { frames := 0, cells := 0, slots := 0, locals := 0 }, (none : Option FieldType))
theorem yv_Ru_putOrder : q_Y y_Ru_putOrder m_Ru_putOrder 2 := ⟨rfl, ⟨by decide, by decide⟩, by decide +kernel, tw_2_167, tw_1_3⟩
set_option maxRecDepth 100000 in
set_option maxHeartbeats 4000000 in
theorem c_Ru_putOrder (l : Launch) (D : va_G) (tc : Nat → ClassId) (x0 y : Nat) (ad : Nat → Nat) (I : q_I) (J : q_J) (P : q_P) {a0 : Nat} (h0 : isRu a0) (a1 : Int32) (a2 : Int32) : q_Ct l (cG D tc x0 y ad) y_Ru_putOrder m_Ru_putOrder [q_r (cG D tc x0 y ad) a0, .int a1, .int a2] (I, J, P) (f_Ru_putOrder I a0 a1 a2) (fun r : q_I => (none, (r, J, P))) := by
  refine q_Ct_of (cIn D tc x0 y ad) (by decide) rfl (Nat.le_of_ble_eq_true rfl) rfl (fun X hX => ?_)
  subst hX
  unfold f_Ru_putOrder
  refine q_aload_n 0 0 1 rfl (by decide +kernel) rfl ?_
  refine q_geti (f := 7) 4 rfl (by decide +kernel) (cC_Ru D tc x0 y ad) h0.1 (by decide) rfl tw_1_59 ?_
  refine q_if_lt 7 rfl 45 (off := 41) (by decide +kernel) rfl (fun g2 => ?_) (fun g2 => ?_)
  · exact q_vret (by decide +kernel) rfl rfl (Nat.le_of_ble_eq_true rfl) (Nat.le_of_ble_eq_true rfl)
  · refine q_aload_n 0 0 8 rfl (by decide +kernel) rfl ?_
    refine q_geti (f := 7) 11 rfl (by decide +kernel) (cC_Ru D tc x0 y ad) h0.1 (by decide) rfl tw_1_59 ?_
    refine q_iconst 4 (c := 4) 12 rfl (by decide +kernel) rfl ?_
    refine q_icmp_ge 15 rfl 45 (off := 33) (by decide +kernel) rfl (fun g1 => ?_) (fun g1 => ?_)
    · exact q_vret (by decide +kernel) rfl rfl (Nat.le_of_ble_eq_true rfl) (Nat.le_of_ble_eq_true rfl)
    · refine q_aload_n 0 0 16 rfl (by decide +kernel) rfl ?_
      refine q_getr (f := 5) (a0 + 6) 19 rfl (by decide +kernel) (cC_Ru D tc x0 y ad) h0.1 (by decide) rfl rfl tw_1_57 ?_
      refine q_aload_n 0 0 20 rfl (by decide +kernel) rfl ?_
      refine q_geti (f := 7) 23 rfl (by decide +kernel) (cC_Ru D tc x0 y ad) h0.1 (by decide) rfl tw_1_59 ?_
      refine q_iload_n 1 1 24 rfl (by decide +kernel) rfl ?_
      refine q_iast (t := 0) 25 rfl (by decide +kernel) h0.2.2.2.2.2.2.1 rfl (fun j1 hj1 => ?_)
      refine q_letI (fun I1 => ?_)
      refine q_aload_n 0 0 26 rfl (by decide +kernel) rfl ?_
      refine q_getr (f := 6) (a0 + 7) 29 rfl (by decide +kernel) (cC_Ru D tc x0 y ad) h0.1 (by decide) rfl rfl tw_1_58 ?_
      refine q_aload_n 0 0 30 rfl (by decide +kernel) rfl ?_
      refine q_geti (f := 7) 33 rfl (by decide +kernel) (cC_Ru D tc x0 y ad) h0.1 (by decide) rfl tw_1_59 ?_
      refine q_iload_n 2 2 34 rfl (by decide +kernel) rfl ?_
      refine q_iast (t := 0) 35 rfl (by decide +kernel) h0.2.2.2.2.2.2.2 rfl (fun j2 hj2 => ?_)
      refine q_letI (fun I2 => ?_)
      refine q_aload_n 0 0 36 rfl (by decide +kernel) rfl ?_
      refine q_dup 37 rfl (by decide +kernel) rfl ?_
      refine q_geti (f := 7) 40 rfl (by decide +kernel) (cC_Ru D tc x0 y ad) h0.1 (by decide) rfl tw_1_59 ?_
      refine q_iconst 1 (c := 1) 41 rfl (by decide +kernel) rfl ?_
      refine q_iadd 42 rfl (by decide +kernel) ?_
      refine q_puti (f := 7) 45 rfl (by decide +kernel) (cC_Ru D tc x0 y ad) h0.1 (by decide) rfl rfl rfl tw_1_59 ?_
      refine q_letI (fun I3 => ?_)
      exact q_vret (by decide +kernel) rfl rfl (Nat.le_of_ble_eq_true rfl) (Nat.le_of_ble_eq_true rfl)
def f_Ru_hasOrders_L1 (I : q_I) (P : q_P) (a0 : Nat) (a1 : Nat) (n1 : Nat) : Nat → Int32 → Option (Int32)
  | 0, _ => none
  | n + 1, x1 => if (I a0 7) ≤ x1 then (some (1)) else (if (4 : Int32) ≤ x1 then (some (1)) else (q_ix x1 4 (fun j1 => q_ix x1 4 (fun j2 => q_b1 (f_Cal_keepsOrder I P a1 n1 (I (a0 + 6) j1) (I (a0 + 7) j2)) (fun v1 => if v1 = 0 then (some (0)) else ((f_Ru_hasOrders_L1 I P a0 a1 n1 n (x1 + 1))))))))
def f_Ru_hasOrders (I : q_I) (P : q_P) (a0 : Nat) (a1 : Nat) (n1 : Nat) : Option (Int32) :=
  f_Ru_hasOrders_L1 I P a0 a1 n1 q_fu 0
def y_Ru_hasOrders : MethodName := ⟨"CalendarReplicas$Rules", "hasOrders", "(LCalendarReplicas$Calendar;)Z"⟩
def m_Ru_hasOrders : q_M := (prog_7_method_4_code, 3, "CalendarReplicas$Rules", { frames := 2, cells := 0, slots := 0, locals := 46 }, (some FieldType.boolean))
theorem yv_Ru_hasOrders : q_Y y_Ru_hasOrders m_Ru_hasOrders 1 := ⟨rfl, ⟨by decide, by decide⟩, by decide +kernel, tw_3_33, tw_1_3⟩
set_option maxRecDepth 100000 in
set_option maxHeartbeats 4000000 in
theorem c_Ru_hasOrders (l : Launch) (D : va_G) (tc : Nat → ClassId) (x0 y : Nat) (ad : Nat → Nat) (I : q_I) (J : q_J) (P : q_P) {a0 : Nat} {a1 : Nat} {n1 : Nat} (h0 : isRu a0) (h1 : isCal a1 n1) : q_Ct l (cG D tc x0 y ad) y_Ru_hasOrders m_Ru_hasOrders [q_r (cG D tc x0 y ad) a0, q_r (cG D tc x0 y ad) a1] (I, J, P) (f_Ru_hasOrders I P a0 a1 n1) (fun r : Int32 => (some (.int r), (I, J, P))) := by
  refine q_Ct_of (cIn D tc x0 y ad) (by decide) rfl (Nat.le_of_ble_eq_true rfl) rfl (fun X hX => ?_)
  subst hX
  unfold f_Ru_hasOrders
  refine q_iconst 0 (c := 0) 1 rfl (by decide +kernel) rfl ?_
  refine q_istore_n 2 2 2 rfl [(2, .int 0), (0, q_r (cG D tc x0 y ad) a0), (1, q_r (cG D tc x0 y ad) a1)] (by decide +kernel) rfl (Nat.le_of_ble_eq_true rfl) rfl ?_
  have hL1 : ∀ (n1_ : Nat) (x1 : Int32), q_V (cG D tc x0 y ad) m_Ru_hasOrders X (fun r : Int32 => (some (.int r), (I, J, P))) 0 0 2 [(0, q_r (cG D tc x0 y ad) a0), (1, q_r (cG D tc x0 y ad) a1), (2, .int x1)] [] I J P (f_Ru_hasOrders_L1 I P a0 a1 n1 n1_ x1) := by
    intro n1_
    induction n1_ with
    | zero => intro x1; exact q_none
    | succ n1_ ih1 =>
      intro x1
      rw [f_Ru_hasOrders_L1]
      refine q_iload_n 2 2 3 rfl (by decide +kernel) rfl ?_
      refine q_aload_n 0 0 4 rfl (by decide +kernel) rfl ?_
      refine q_geti (f := 7) 7 rfl (by decide +kernel) (cC_Ru D tc x0 y ad) h0.1 (by decide) rfl tw_1_59 ?_
      refine q_icmp_ge 10 rfl 42 (off := 35) (by decide +kernel) rfl (fun g3 => ?_) (fun g3 => ?_)
      · refine q_iconst 1 (c := 1) 43 rfl (by decide +kernel) rfl ?_
        exact q_zret (w := 1) (by decide +kernel) rfl rfl rfl (Nat.le_of_ble_eq_true rfl) (Nat.le_of_ble_eq_true rfl)
      · refine q_iload_n 2 2 11 rfl (by decide +kernel) rfl ?_
        refine q_iconst 4 (c := 4) 12 rfl (by decide +kernel) rfl ?_
        refine q_icmp_ge 15 rfl 42 (off := 30) (by decide +kernel) rfl (fun g2 => ?_) (fun g2 => ?_)
        · refine q_iconst 1 (c := 1) 43 rfl (by decide +kernel) rfl ?_
          exact q_zret (w := 1) (by decide +kernel) rfl rfl rfl (Nat.le_of_ble_eq_true rfl) (Nat.le_of_ble_eq_true rfl)
        · refine q_aload_n 1 1 16 rfl (by decide +kernel) rfl ?_
          refine q_aload_n 0 0 17 rfl (by decide +kernel) rfl ?_
          refine q_getr (f := 5) (a0 + 6) 20 rfl (by decide +kernel) (cC_Ru D tc x0 y ad) h0.1 (by decide) rfl rfl tw_1_57 ?_
          refine q_iload_n 2 2 21 rfl (by decide +kernel) rfl ?_
          refine q_iald (t := 0) 22 rfl (by decide +kernel) h0.2.2.2.2.2.2.1 rfl (fun j1 hj1 => ?_)
          refine q_aload_n 0 0 23 rfl (by decide +kernel) rfl ?_
          refine q_getr (f := 6) (a0 + 7) 26 rfl (by decide +kernel) (cC_Ru D tc x0 y ad) h0.1 (by decide) rfl rfl tw_1_58 ?_
          refine q_iload_n 2 2 27 rfl (by decide +kernel) rfl ?_
          refine q_iald (t := 0) 28 rfl (by decide +kernel) h0.2.2.2.2.2.2.2 rfl (fun j2 hj2 => ?_)
          refine q_callV_i 31 rfl (av := [.int (I (a0 + 6) j1), .int (I (a0 + 7) j2)]) (o := a1) (st := []) (c_Cal_keepsOrder X.1 D tc x0 y ad I J P h1 (I (a0 + 6) j1) (I (a0 + 7) j2)) yv_Cal_keepsOrder tw_3_34 tw_2_153 tw_2_154 (cC_Cal D tc x0 y ad) h1.1 rfl (Nat.le_of_ble_eq_true rfl) (by decide +kernel) ⟨Nat.le_of_ble_eq_true rfl, Nat.le_of_ble_eq_true rfl⟩ ⟨Nat.le_of_ble_eq_true rfl, Nat.le_of_ble_eq_true rfl⟩ rfl rfl (fun v1 => ?_)
          refine q_if_ne 34 rfl 36 (off := 5) (by decide +kernel) rfl (fun g1 => ?_) (fun g1 => ?_)
          · refine q_iinc (x1 + 1) (c := 1) 2 2 39 rfl [(2, .int (x1 + 1)), (0, q_r (cG D tc x0 y ad) a0), (1, q_r (cG D tc x0 y ad) a1)] (by decide +kernel) rfl rfl (Nat.le_of_ble_eq_true rfl) rfl ?_
            refine q_goto (off := -37) 2 (by decide +kernel) rfl ?_
            refine q_sub [1, 2, 0] rfl ?_
            exact ih1 (x1 + 1)
          · refine q_iconst 0 (c := 0) 35 rfl (by decide +kernel) rfl ?_
            exact q_zret (w := 0) (by decide +kernel) rfl rfl rfl (Nat.le_of_ble_eq_true rfl) (Nat.le_of_ble_eq_true rfl)
  refine q_sub [1, 2, 0] rfl ?_
  exact hL1 _ _
def f_CR_within (a0 : Int32) (a1 : Int32) (a2 : Int32) : Option (Int32) :=
  if a0 < a1 then (some (0)) else (if a2 < a0 then (some (0)) else (some (1)))
def y_CR_within : MethodName := ⟨"CalendarReplicas", "within", "(III)Z"⟩
def m_CR_within : q_M := (prog_1_method_64_code, 3, "CalendarReplicas", { frames := 0, cells := 0, slots := 0, locals := 0 }, (some FieldType.boolean))
theorem yv_CR_within : q_Y y_CR_within m_CR_within 3 := ⟨rfl, ⟨by decide, by decide⟩, by decide +kernel, tw_2_136, tw_1_1⟩
set_option maxRecDepth 100000 in
set_option maxHeartbeats 4000000 in
theorem c_CR_within (l : Launch) (D : va_G) (tc : Nat → ClassId) (x0 y : Nat) (ad : Nat → Nat) (I : q_I) (J : q_J) (P : q_P) (a0 : Int32) (a1 : Int32) (a2 : Int32) : q_Ct l (cG D tc x0 y ad) y_CR_within m_CR_within [.int a0, .int a1, .int a2] (I, J, P) (f_CR_within a0 a1 a2) (fun r : Int32 => (some (.int r), (I, J, P))) := by
  refine q_Ct_of (cIn D tc x0 y ad) (by decide) rfl (Nat.le_of_ble_eq_true rfl) rfl (fun X hX => ?_)
  subst hX
  unfold f_CR_within
  refine q_iload_n 0 0 1 rfl (by decide +kernel) rfl ?_
  refine q_iload_n 1 1 2 rfl (by decide +kernel) rfl ?_
  refine q_icmp_lt 5 rfl 14 (off := 12) (by decide +kernel) rfl (fun g2 => ?_) (fun g2 => ?_)
  · refine q_iconst 0 (c := 0) 15 rfl (by decide +kernel) rfl ?_
    exact q_zret (w := 0) (by decide +kernel) rfl rfl rfl (Nat.le_of_ble_eq_true rfl) (Nat.le_of_ble_eq_true rfl)
  · refine q_iload_n 0 0 6 rfl (by decide +kernel) rfl ?_
    refine q_iload_n 2 2 7 rfl (by decide +kernel) rfl ?_
    refine q_icmp_gt 10 rfl 14 (off := 7) (by decide +kernel) rfl (fun g1 => ?_) (fun g1 => ?_)
    · refine q_iconst 0 (c := 0) 15 rfl (by decide +kernel) rfl ?_
      exact q_zret (w := 0) (by decide +kernel) rfl rfl rfl (Nat.le_of_ble_eq_true rfl) (Nat.le_of_ble_eq_true rfl)
    · refine q_iconst 1 (c := 1) 11 rfl (by decide +kernel) rfl ?_
      refine q_goto (off := 4) 15 (by decide +kernel) rfl ?_
      exact q_zret (w := 1) (by decide +kernel) rfl rfl rfl (Nat.le_of_ble_eq_true rfl) (Nat.le_of_ble_eq_true rfl)
def f_JI_bitCount (a0 : Int32) : Option (Int32) :=
  q_l (a0 - (((a0.toUInt32 >>> ((1 : Int32).toUInt32 &&& Int32.toUInt32 31)).toInt32) &&& 1431655765) : Int32) (fun x1 => q_l ((x1 &&& 858993459) + (((x1.toUInt32 >>> ((2 : Int32).toUInt32 &&& Int32.toUInt32 31)).toInt32) &&& 858993459) : Int32) (fun x2 => q_l ((x2 + ((x2.toUInt32 >>> ((4 : Int32).toUInt32 &&& Int32.toUInt32 31)).toInt32)) &&& 252645135 : Int32) (fun x3 => q_l (x3 + ((x3.toUInt32 >>> ((8 : Int32).toUInt32 &&& Int32.toUInt32 31)).toInt32) : Int32) (fun x4 => q_l (x4 + ((x4.toUInt32 >>> ((16 : Int32).toUInt32 &&& Int32.toUInt32 31)).toInt32) : Int32) (fun x5 => some ((x5 &&& 63)))))))
def y_JI_bitCount : MethodName := ⟨"java/lang/Intege\x72", "bitCount", "(I)I"⟩
def m_JI_bitCount : q_M := (prog_15_method_49_code, 1, "java/lang/Intege\x72", { frames := 0, cells := 0, slots := 0, locals := 0 }, (some FieldType.int))
theorem yv_JI_bitCount : q_Y y_JI_bitCount m_JI_bitCount 1 := ⟨rfl, ⟨by decide, by decide⟩, by decide +kernel, tw_3_14, tw_1_16⟩
set_option maxRecDepth 100000 in
set_option maxHeartbeats 4000000 in
theorem c_JI_bitCount (l : Launch) (D : va_G) (tc : Nat → ClassId) (x0 y : Nat) (ad : Nat → Nat) (I : q_I) (J : q_J) (P : q_P) (a0 : Int32) : q_Ct l (cG D tc x0 y ad) y_JI_bitCount m_JI_bitCount [.int a0] (I, J, P) (f_JI_bitCount a0) (fun r : Int32 => (some (.int r), (I, J, P))) := by
  refine q_Ct_of (cIn D tc x0 y ad) (by decide) rfl (Nat.le_of_ble_eq_true rfl) rfl (fun X hX => ?_)
  subst hX
  unfold f_JI_bitCount
  refine q_iload_n 0 0 1 rfl (by decide +kernel) rfl ?_
  refine q_iload_n 0 0 2 rfl (by decide +kernel) rfl ?_
  refine q_iconst 1 (c := 1) 3 rfl (by decide +kernel) rfl ?_
  refine q_iushr 4 rfl (by decide +kernel) ?_
  refine q_ldcw (v := 1431655765) (i := 265) 7 rfl (by decide +kernel) tw_3_15 ?_
  refine q_iand 8 rfl (by decide +kernel) ?_
  refine q_isub 9 rfl (by decide +kernel) ?_
  refine q_leti (fun x1 => ?_)
  refine q_istore_n 0 0 10 rfl [(0, .int x1)] (by decide +kernel) rfl (Nat.le_of_ble_eq_true rfl) rfl ?_
  refine q_iload_n 0 0 11 rfl (by decide +kernel) rfl ?_
  refine q_ldcw (v := 858993459) (i := 266) 14 rfl (by decide +kernel) tw_3_16 ?_
  refine q_iand 15 rfl (by decide +kernel) ?_
  refine q_iload_n 0 0 16 rfl (by decide +kernel) rfl ?_
  refine q_iconst 2 (c := 2) 17 rfl (by decide +kernel) rfl ?_
  refine q_iushr 18 rfl (by decide +kernel) ?_
  refine q_ldcw (v := 858993459) (i := 266) 21 rfl (by decide +kernel) tw_3_16 ?_
  refine q_iand 22 rfl (by decide +kernel) ?_
  refine q_iadd 23 rfl (by decide +kernel) ?_
  refine q_leti (fun x2 => ?_)
  refine q_istore_n 0 0 24 rfl [(0, .int x2)] (by decide +kernel) rfl (Nat.le_of_ble_eq_true rfl) rfl ?_
  refine q_iload_n 0 0 25 rfl (by decide +kernel) rfl ?_
  refine q_iload_n 0 0 26 rfl (by decide +kernel) rfl ?_
  refine q_iconst 4 (c := 4) 27 rfl (by decide +kernel) rfl ?_
  refine q_iushr 28 rfl (by decide +kernel) ?_
  refine q_iadd 29 rfl (by decide +kernel) ?_
  refine q_ldcw (v := 252645135) (i := 267) 32 rfl (by decide +kernel) tw_3_17 ?_
  refine q_iand 33 rfl (by decide +kernel) ?_
  refine q_leti (fun x3 => ?_)
  refine q_istore_n 0 0 34 rfl [(0, .int x3)] (by decide +kernel) rfl (Nat.le_of_ble_eq_true rfl) rfl ?_
  refine q_iload_n 0 0 35 rfl (by decide +kernel) rfl ?_
  refine q_iload_n 0 0 36 rfl (by decide +kernel) rfl ?_
  refine q_bipush 8 (c := 8) 38 rfl (by decide +kernel) rfl ?_
  refine q_iushr 39 rfl (by decide +kernel) ?_
  refine q_iadd 40 rfl (by decide +kernel) ?_
  refine q_leti (fun x4 => ?_)
  refine q_istore_n 0 0 41 rfl [(0, .int x4)] (by decide +kernel) rfl (Nat.le_of_ble_eq_true rfl) rfl ?_
  refine q_iload_n 0 0 42 rfl (by decide +kernel) rfl ?_
  refine q_iload_n 0 0 43 rfl (by decide +kernel) rfl ?_
  refine q_bipush 16 (c := 16) 45 rfl (by decide +kernel) rfl ?_
  refine q_iushr 46 rfl (by decide +kernel) ?_
  refine q_iadd 47 rfl (by decide +kernel) ?_
  refine q_leti (fun x5 => ?_)
  refine q_istore_n 0 0 48 rfl [(0, .int x5)] (by decide +kernel) rfl (Nat.le_of_ble_eq_true rfl) rfl ?_
  refine q_iload_n 0 0 49 rfl (by decide +kernel) rfl ?_
  refine q_bipush 63 (c := 63) 51 rfl (by decide +kernel) rfl ?_
  refine q_iand 52 rfl (by decide +kernel) ?_
  exact q_iret (by decide +kernel) rfl rfl (Nat.le_of_ble_eq_true rfl) (Nat.le_of_ble_eq_true rfl)
def f_Ru_allows (I : q_I) (a0 : Nat) (a1 : Nat) : Option (Int32) :=
  q_b1 (f_CR_within (I a1 3) 0 3) (fun v1 => if v1 = 0 then (some (0)) else (if (I a1 1) < 0 then (some (0)) else (q_b1 (f_Me_end I a1) (fun v2 => if v2 ≤ 96 then (q_jj (q_b1 (f_JI_bitCount (I a1 4)) (fun v3 => q_ix (I a1 3) 4 (fun j1 => q_b1 (f_CR_within v3 1 (I (a0 + 1) j1)) (fun v4 => some ((v4 &&& 1)))))) (fun (jk1 : Option (Int32)) => if (I a1 6) ≤ 1 then (jk1) else (if (I a1 2) ≤ (I a1 5) then (jk1) else (some (0))))) else (some (0))))))
def y_Ru_allows : MethodName := ⟨"CalendarReplicas$Rules", "allows", "(LCalendarReplicas$Meeting;)Z"⟩
def m_Ru_allows : q_M := (prog_7_method_5_code, 2, "CalendarReplicas$Rules", { frames := 1, cells := 0, slots := 0, locals := 22 }, (some FieldType.boolean))
theorem yv_Ru_allows : q_Y y_Ru_allows m_Ru_allows 1 := ⟨rfl, ⟨by decide, by decide⟩, by decide +kernel, tw_3_9, tw_1_3⟩
set_option maxRecDepth 100000 in
set_option maxHeartbeats 4000000 in
theorem c_Ru_allows (l : Launch) (D : va_G) (tc : Nat → ClassId) (x0 y : Nat) (ad : Nat → Nat) (I : q_I) (J : q_J) (P : q_P) {a0 : Nat} {a1 : Nat} (h0 : isRu a0) (h1 : isMe a1) : q_Ct l (cG D tc x0 y ad) y_Ru_allows m_Ru_allows [q_r (cG D tc x0 y ad) a0, q_r (cG D tc x0 y ad) a1] (I, J, P) (f_Ru_allows I a0 a1) (fun r : Int32 => (some (.int r), (I, J, P))) := by
  refine q_Ct_of (cIn D tc x0 y ad) (by decide) rfl (Nat.le_of_ble_eq_true rfl) rfl (fun X hX => ?_)
  subst hX
  unfold f_Ru_allows
  refine q_aload_n 1 1 1 rfl (by decide +kernel) rfl ?_
  refine q_geti (f := 3) 4 rfl (by decide +kernel) (cC_Me D tc x0 y ad) h1 (by decide) rfl tw_1_112 ?_
  refine q_iconst 0 (c := 0) 5 rfl (by decide +kernel) rfl ?_
  refine q_iconst 3 (c := 3) 6 rfl (by decide +kernel) rfl ?_
  refine q_callN_i 9 rfl (av := [.int (I a1 3), .int 0, .int 3]) (st := []) (c_CR_within X.1 D tc x0 y ad I J P (I a1 3) 0 3) yv_CR_within tw_3_10 tw_2_135 rfl (Nat.le_of_ble_eq_true rfl) (by decide +kernel) ⟨Nat.le_of_ble_eq_true rfl, Nat.le_of_ble_eq_true rfl⟩ ⟨Nat.le_of_ble_eq_true rfl, Nat.le_of_ble_eq_true rfl⟩ rfl rfl (fun v1 => ?_)
  refine q_if_eq 12 rfl 28 (off := 19) (by decide +kernel) rfl (fun g5 => ?_) (fun g5 => ?_)
  · refine q_iconst 0 (c := 0) 29 rfl (by decide +kernel) rfl ?_
    exact q_zret (w := 0) (by decide +kernel) rfl rfl rfl (Nat.le_of_ble_eq_true rfl) (Nat.le_of_ble_eq_true rfl)
  · refine q_aload_n 1 1 13 rfl (by decide +kernel) rfl ?_
    refine q_geti (f := 1) 16 rfl (by decide +kernel) (cC_Me D tc x0 y ad) h1 (by decide) rfl tw_1_102 ?_
    refine q_if_lt 19 rfl 28 (off := 12) (by decide +kernel) rfl (fun g4 => ?_) (fun g4 => ?_)
    · refine q_iconst 0 (c := 0) 29 rfl (by decide +kernel) rfl ?_
      exact q_zret (w := 0) (by decide +kernel) rfl rfl rfl (Nat.le_of_ble_eq_true rfl) (Nat.le_of_ble_eq_true rfl)
    · refine q_aload_n 1 1 20 rfl (by decide +kernel) rfl ?_
      refine q_callV_i 23 rfl (av := []) (o := a1) (st := []) (c_Me_end X.1 D tc x0 y ad I J P h1) yv_Me_end tw_3_11 tw_2_161 tw_2_162 (cC_Me D tc x0 y ad) h1 rfl (Nat.le_of_ble_eq_true rfl) (by decide +kernel) ⟨Nat.le_of_ble_eq_true rfl, Nat.le_of_ble_eq_true rfl⟩ ⟨Nat.le_of_ble_eq_true rfl, Nat.le_of_ble_eq_true rfl⟩ rfl rfl (fun v2 => ?_)
      refine q_bipush 96 (c := 96) 25 rfl (by decide +kernel) rfl ?_
      refine q_icmp_le 28 rfl 30 (off := 5) (by decide +kernel) rfl (fun g3 => ?_) (fun g3 => ?_)
      · refine q_aload_n 1 1 31 rfl (by decide +kernel) rfl ?_
        refine q_geti (f := 6) 34 rfl (by decide +kernel) (cC_Me D tc x0 y ad) h1 (by decide) rfl tw_1_128 ?_
        refine q_iconst 1 (c := 1) 35 rfl (by decide +kernel) rfl ?_
        refine q_jj0 51 ([(0, q_r (cG D tc x0 y ad) a0), (1, q_r (cG D tc x0 y ad) a1)]) ([]) (I) (J) (P) ?_ ?_
        · refine q_aload_n 1 1 52 rfl (by decide +kernel) rfl ?_
          refine q_geti (f := 4) 55 rfl (by decide +kernel) (cC_Me D tc x0 y ad) h1 (by decide) rfl tw_1_117 ?_
          refine q_callS_i 58 rfl (av := [.int (I a1 4)]) (st := []) (c_JI_bitCount X.1 D tc x0 y ad I J P (I a1 4)) yv_JI_bitCount tw_3_12 tw_3_13 rfl (Nat.le_of_ble_eq_true rfl) (by decide +kernel) ⟨Nat.le_of_ble_eq_true rfl, Nat.le_of_ble_eq_true rfl⟩ ⟨Nat.le_of_ble_eq_true rfl, Nat.le_of_ble_eq_true rfl⟩ rfl rfl (fun v3 => ?_)
          refine q_iconst 1 (c := 1) 59 rfl (by decide +kernel) rfl ?_
          refine q_aload_n 0 0 60 rfl (by decide +kernel) rfl ?_
          refine q_getr (f := 0) (a0 + 1) 63 rfl (by decide +kernel) (cC_Ru D tc x0 y ad) h0.1 (by decide) rfl rfl tw_1_43 ?_
          refine q_aload_n 1 1 64 rfl (by decide +kernel) rfl ?_
          refine q_geti (f := 3) 67 rfl (by decide +kernel) (cC_Me D tc x0 y ad) h1 (by decide) rfl tw_1_112 ?_
          refine q_iald (t := 0) 68 rfl (by decide +kernel) h0.2.1 rfl (fun j1 hj1 => ?_)
          refine q_callN_i 71 rfl (av := [.int v3, .int 1, .int (I (a0 + 1) j1)]) (st := []) (c_CR_within X.1 D tc x0 y ad I J P v3 1 (I (a0 + 1) j1)) yv_CR_within tw_3_10 tw_2_135 rfl (Nat.le_of_ble_eq_true rfl) (by decide +kernel) ⟨Nat.le_of_ble_eq_true rfl, Nat.le_of_ble_eq_true rfl⟩ ⟨Nat.le_of_ble_eq_true rfl, Nat.le_of_ble_eq_true rfl⟩ rfl rfl (fun v4 => ?_)
          exact q_zret (w := (v4 &&& 1)) (by decide +kernel) rfl rfl rfl (Nat.le_of_ble_eq_true rfl) (Nat.le_of_ble_eq_true rfl)
        · intro jk1 hq1
          refine q_icmp_le 38 rfl 51 (off := 16) (by decide +kernel) rfl (fun g2 => ?_) (fun g2 => ?_)
          · exact hq1
          · refine q_aload_n 1 1 39 rfl (by decide +kernel) rfl ?_
            refine q_geti (f := 5) 42 rfl (by decide +kernel) (cC_Me D tc x0 y ad) h1 (by decide) rfl tw_1_123 ?_
            refine q_aload_n 1 1 43 rfl (by decide +kernel) rfl ?_
            refine q_geti (f := 2) 46 rfl (by decide +kernel) (cC_Me D tc x0 y ad) h1 (by decide) rfl tw_1_108 ?_
            refine q_icmp_ge 49 rfl 51 (off := 5) (by decide +kernel) rfl (fun g1 => ?_) (fun g1 => ?_)
            · exact hq1
            · refine q_iconst 0 (c := 0) 50 rfl (by decide +kernel) rfl ?_
              exact q_zret (w := 0) (by decide +kernel) rfl rfl rfl (Nat.le_of_ble_eq_true rfl) (Nat.le_of_ble_eq_true rfl)
      · refine q_iconst 0 (c := 0) 29 rfl (by decide +kernel) rfl ?_
        exact q_zret (w := 0) (by decide +kernel) rfl rfl rfl (Nat.le_of_ble_eq_true rfl) (Nat.le_of_ble_eq_true rfl)
def f_TT_bits (a0 : Int32) (a1 : Int32) : Option (Int64) :=
  q_b1 (if (0 : Int32) ≤ a0 then ((some (a0))) else ((some (0))) : Option (Int32)) (fun (x1 : Int32) => q_b1 (if a1 ≤ 48 then ((some (a1))) else ((some (48))) : Option (Int32)) (fun (x2 : Int32) => if x2 ≤ x1 then (some (0)) else (some ((((1 : Int64) <<< (x2.toInt64 &&& 63)) - ((1 : Int64) <<< (x1.toInt64 &&& 63)))))))
def y_TT_bits : MethodName := ⟨"CalendarReplicas$Timetable", "bits", "(II)J"⟩
def m_TT_bits : q_M := (prog_8_method_6_code, 4, "CalendarReplicas$Timetable", { frames := 0, cells := 0, slots := 0, locals := 0 }, (some FieldType.long))
theorem yv_TT_bits : q_Y y_TT_bits m_TT_bits 2 := ⟨rfl, ⟨by decide, by decide⟩, by decide +kernel, tw_3_0, tw_1_9⟩
set_option maxRecDepth 100000 in
set_option maxHeartbeats 4000000 in
theorem c_TT_bits (l : Launch) (D : va_G) (tc : Nat → ClassId) (x0 y : Nat) (ad : Nat → Nat) (I : q_I) (J : q_J) (P : q_P) (a0 : Int32) (a1 : Int32) : q_Ct l (cG D tc x0 y ad) y_TT_bits m_TT_bits [.int a0, .int a1] (I, J, P) (f_TT_bits a0 a1) (fun r : Int64 => (some (.long r), (I, J, P))) := by
  refine q_Ct_of (cIn D tc x0 y ad) (by decide) rfl (Nat.le_of_ble_eq_true rfl) rfl (fun X hX => ?_)
  subst hX
  unfold f_TT_bits
  refine q_iload_n 0 0 1 rfl (by decide +kernel) rfl ?_
  refine q_jn1 9 (fun x1 => [(1, .int a1)]) (fun x1 => [.int x1]) (fun x1 => I) (fun x1 => J) (fun x1 => P) (fun jk1 => if (0 : Int32) ≤ a0 then ((jk1 (a0))) else ((jk1 (0)))) (by intro jk1; simp only [q_b1_if, q_b1_s, q_b1_n, q_b1_ix, q_b1_b1, q_b1_b2, q_b1_b3, q_b1_l, q_b1_ck, q_b1_el, q_b1_b4]) ?_ ?_
  · intro x1
    refine q_istore_n 2 2 10 rfl [(2, .int x1), (1, .int a1)] (by decide +kernel) rfl (Nat.le_of_ble_eq_true rfl) rfl ?_
    refine q_iload_n 1 1 11 rfl (by decide +kernel) rfl ?_
    refine q_bipush 48 (c := 48) 13 rfl (by decide +kernel) rfl ?_
    refine q_jn1 22 (fun x2 => [(2, .int x1)]) (fun x2 => [.int x2]) (fun x2 => I) (fun x2 => J) (fun x2 => P) (fun jk2 => if a1 ≤ 48 then ((jk2 (a1))) else ((jk2 (48)))) (by intro jk2; simp only [q_b1_if, q_b1_s, q_b1_n, q_b1_ix, q_b1_b1, q_b1_b2, q_b1_b3, q_b1_l, q_b1_ck, q_b1_el, q_b1_b4]) ?_ ?_
    · intro x2
      refine q_istore_n 3 3 23 rfl [(3, .int x2), (2, .int x1)] (by decide +kernel) rfl (Nat.le_of_ble_eq_true rfl) rfl ?_
      refine q_iload_n 0 3 24 rfl (by decide +kernel) rfl ?_
      refine q_iload_n 1 2 25 rfl (by decide +kernel) rfl ?_
      refine q_icmp_le 28 rfl 38 (off := 13) (by decide +kernel) rfl (fun g1 => ?_) (fun g1 => ?_)
      · refine q_lconst 0 (c := 0) 39 rfl (by decide +kernel) rfl ?_
        exact q_lret (by decide +kernel) rfl rfl (Nat.le_of_ble_eq_true rfl) (Nat.le_of_ble_eq_true rfl)
      · refine q_lconst 1 (c := 1) 29 rfl (by decide +kernel) rfl ?_
        refine q_iload_n 0 3 30 rfl (by decide +kernel) rfl ?_
        refine q_lshl 31 rfl (by decide +kernel) ?_
        refine q_lconst 1 (c := 1) 32 rfl (by decide +kernel) rfl ?_
        refine q_iload_n 1 2 33 rfl (by decide +kernel) rfl ?_
        refine q_lshl 34 rfl (by decide +kernel) ?_
        refine q_lsub 35 rfl (by decide +kernel) ?_
        refine q_goto (off := 4) 39 (by decide +kernel) rfl ?_
        exact q_lret (by decide +kernel) rfl rfl (Nat.le_of_ble_eq_true rfl) (Nat.le_of_ble_eq_true rfl)
    · intro jk2 hq2
      refine q_icmp_le 16 rfl 21 (off := 8) (by decide +kernel) rfl (fun g2 => ?_) (fun g2 => ?_)
      · refine q_iload_n 1 1 22 rfl (by decide +kernel) rfl ?_
        refine q_sub [0] rfl ?_
        exact hq2 a1
      · refine q_bipush 48 (c := 48) 18 rfl (by decide +kernel) rfl ?_
        refine q_goto (off := 4) 22 (by decide +kernel) rfl ?_
        refine q_sub [0] rfl ?_
        exact hq2 48
  · intro jk1 hq1
    refine q_if_ge 4 rfl 8 (off := 7) (by decide +kernel) rfl (fun g3 => ?_) (fun g3 => ?_)
    · refine q_iload_n 0 0 9 rfl (by decide +kernel) rfl ?_
      refine q_sub [1] rfl ?_
      exact hq1 a0
    · refine q_iconst 0 (c := 0) 5 rfl (by decide +kernel) rfl ?_
      refine q_goto (off := 4) 9 (by decide +kernel) rfl ?_
      refine q_sub [1] rfl ?_
      exact hq1 0
def f_CR_contains (a0 : Int32) (a1 : Int32) : Option (Int32) :=
  if ((a0 >>> (a1 &&& 31)) &&& 1) = 0 then (some (0)) else (some (1))
def y_CR_contains : MethodName := ⟨"CalendarReplicas", "contains", "(II)Z"⟩
def m_CR_contains : q_M := (prog_1_method_72_code, 2, "CalendarReplicas", { frames := 0, cells := 0, slots := 0, locals := 0 }, (some FieldType.boolean))
theorem yv_CR_contains : q_Y y_CR_contains m_CR_contains 2 := ⟨rfl, ⟨by decide, by decide⟩, by decide +kernel, tw_2_182, tw_1_1⟩
set_option maxRecDepth 100000 in
set_option maxHeartbeats 4000000 in
theorem c_CR_contains (l : Launch) (D : va_G) (tc : Nat → ClassId) (x0 y : Nat) (ad : Nat → Nat) (I : q_I) (J : q_J) (P : q_P) (a0 : Int32) (a1 : Int32) : q_Ct l (cG D tc x0 y ad) y_CR_contains m_CR_contains [.int a0, .int a1] (I, J, P) (f_CR_contains a0 a1) (fun r : Int32 => (some (.int r), (I, J, P))) := by
  refine q_Ct_of (cIn D tc x0 y ad) (by decide) rfl (Nat.le_of_ble_eq_true rfl) rfl (fun X hX => ?_)
  subst hX
  unfold f_CR_contains
  refine q_iload_n 0 0 1 rfl (by decide +kernel) rfl ?_
  refine q_iload_n 1 1 2 rfl (by decide +kernel) rfl ?_
  refine q_ishr 3 rfl (by decide +kernel) ?_
  refine q_iconst 1 (c := 1) 4 rfl (by decide +kernel) rfl ?_
  refine q_iand 5 rfl (by decide +kernel) ?_
  refine q_if_eq 8 rfl 12 (off := 7) (by decide +kernel) rfl (fun g1 => ?_) (fun g1 => ?_)
  · refine q_iconst 0 (c := 0) 13 rfl (by decide +kernel) rfl ?_
    exact q_zret (w := 0) (by decide +kernel) rfl rfl rfl (Nat.le_of_ble_eq_true rfl) (Nat.le_of_ble_eq_true rfl)
  · refine q_iconst 1 (c := 1) 9 rfl (by decide +kernel) rfl ?_
    refine q_goto (off := 4) 13 (by decide +kernel) rfl ?_
    exact q_zret (w := 1) (by decide +kernel) rfl rfl rfl (Nat.le_of_ble_eq_true rfl) (Nat.le_of_ble_eq_true rfl)
def f_TT_take_L1 (a0 : Nat) (a1 : Int32) (w1 : Int64) (w2 : Int64) : Nat → Int32 → q_J → Option (q_J)
  | 0, _, _ => none
  | n + 1, x1, J1 => if (10 : Int32) ≤ x1 then (some (J1)) else (q_b1 (f_CR_contains a1 x1) (fun v1 => if v1 = 0 then ((f_TT_take_L1 a0 a1 w1 w2 n (x1 + 1) J1)) else (q_ix x1 10 (fun j1 => q_ix x1 10 (fun j2 => q_l (q_uj J1 (a0 + 1) j2 ((J1 (a0 + 1) j1) ||| w1)) (fun J2 => q_ix x1 10 (fun j3 => q_ix x1 10 (fun j4 => q_l (q_uj J2 (a0 + 2) j4 ((J2 (a0 + 2) j3) ||| w2)) (fun J3 => (f_TT_take_L1 a0 a1 w1 w2 n (x1 + 1) J3))))))))))
def f_TT_take (J : q_J) (a0 : Nat) (a1 : Int32) (a2 : Int32) (a3 : Int32) : Option (q_J) :=
  q_b1 (f_TT_bits a2 a3) (fun w1 => q_b1 (f_TT_bits (a2 - 48) (a3 - 48)) (fun w2 => f_TT_take_L1 a0 a1 w1 w2 q_fu 0 J))
def y_TT_take : MethodName := ⟨"CalendarReplicas$Timetable", "take", "(III)V"⟩
def m_TT_take : q_M := (prog_8_method_5_code, 9, "CalendarReplicas$Timetable", { frames := 1, cells := 0, slots := 0, locals := 23 }, (none : Option FieldType))
theorem yv_TT_take : q_Y y_TT_take m_TT_take 3 := ⟨rfl, ⟨by decide, by decide⟩, by decide +kernel, tw_2_237, tw_1_9⟩
set_option maxRecDepth 100000 in
set_option maxHeartbeats 4000000 in
theorem c_TT_take (l : Launch) (D : va_G) (tc : Nat → ClassId) (x0 y : Nat) (ad : Nat → Nat) (I : q_I) (J : q_J) (P : q_P) {a0 : Nat} (h0 : isTT a0) (a1 : Int32) (a2 : Int32) (a3 : Int32) : q_Ct l (cG D tc x0 y ad) y_TT_take m_TT_take [q_r (cG D tc x0 y ad) a0, .int a1, .int a2, .int a3] (I, J, P) (f_TT_take J a0 a1 a2 a3) (fun r : q_J => (none, (I, r, P))) := by
  refine q_Ct_of (cIn D tc x0 y ad) (by decide) rfl (Nat.le_of_ble_eq_true rfl) rfl (fun X hX => ?_)
  subst hX
  unfold f_TT_take
  refine q_iload_n 2 2 1 rfl (by decide +kernel) rfl ?_
  refine q_iload_n 3 3 2 rfl (by decide +kernel) rfl ?_
  refine q_callS_l 5 rfl (av := [.int a2, .int a3]) (st := []) (c_TT_bits X.1 D tc x0 y ad I J P a2 a3) yv_TT_bits tw_2_238 tw_2_239 rfl (Nat.le_of_ble_eq_true rfl) (by decide +kernel) ⟨Nat.le_of_ble_eq_true rfl, Nat.le_of_ble_eq_true rfl⟩ ⟨Nat.le_of_ble_eq_true rfl, Nat.le_of_ble_eq_true rfl⟩ rfl rfl (fun w1 => ?_)
  refine q_lstore 4 7 rfl [(4, .long w1), (0, q_r (cG D tc x0 y ad) a0), (1, .int a1), (2, .int a2), (3, .int a3)] (by decide +kernel) (Nat.le_of_ble_eq_true rfl) rfl ?_
  refine q_iload_n 3 2 8 rfl (by decide +kernel) rfl ?_
  refine q_bipush 48 (c := 48) 10 rfl (by decide +kernel) rfl ?_
  refine q_isub 11 rfl (by decide +kernel) ?_
  refine q_iload_n 4 3 12 rfl (by decide +kernel) rfl ?_
  refine q_bipush 48 (c := 48) 14 rfl (by decide +kernel) rfl ?_
  refine q_isub 15 rfl (by decide +kernel) ?_
  refine q_callS_l 18 rfl (av := [.int (a2 - 48), .int (a3 - 48)]) (st := []) (c_TT_bits X.1 D tc x0 y ad I J P (a2 - 48) (a3 - 48)) yv_TT_bits tw_2_238 tw_2_239 rfl (Nat.le_of_ble_eq_true rfl) (by decide +kernel) ⟨Nat.le_of_ble_eq_true rfl, Nat.le_of_ble_eq_true rfl⟩ ⟨Nat.le_of_ble_eq_true rfl, Nat.le_of_ble_eq_true rfl⟩ rfl rfl (fun w2 => ?_)
  refine q_lstore 6 20 rfl [(6, .long w2), (4, .long w1), (0, q_r (cG D tc x0 y ad) a0), (1, .int a1), (2, .int a2), (3, .int a3)] (by decide +kernel) (Nat.le_of_ble_eq_true rfl) rfl ?_
  refine q_iconst 0 (c := 0) 21 rfl (by decide +kernel) rfl ?_
  refine q_istore 8 23 rfl [(8, .int 0), (6, .long w2), (4, .long w1), (0, q_r (cG D tc x0 y ad) a0), (1, .int a1), (2, .int a2), (3, .int a3)] (by decide +kernel) (Nat.le_of_ble_eq_true rfl) rfl ?_
  have hL1 : ∀ (n1_ : Nat) (x1 : Int32) (J1 : q_J), q_V (cG D tc x0 y ad) m_TT_take X (fun r : q_J => (none, (I, r, P))) 0 0 23 [(0, q_r (cG D tc x0 y ad) a0), (1, .int a1), (4, .long w1), (6, .long w2), (8, .int x1)] [] I J1 P (f_TT_take_L1 a0 a1 w1 w2 n1_ x1 J1) := by
    intro n1_
    induction n1_ with
    | zero => intro x1 J1; exact q_none
    | succ n1_ ih1 =>
      intro x1 J1
      rw [f_TT_take_L1]
      refine q_iload 4 8 25 rfl (by decide +kernel) rfl ?_
      refine q_bipush 10 (c := 10) 27 rfl (by decide +kernel) rfl ?_
      refine q_icmp_ge 30 rfl 69 (off := 42) (by decide +kernel) rfl (fun g2 => ?_) (fun g2 => ?_)
      · exact q_vret (by decide +kernel) rfl rfl (Nat.le_of_ble_eq_true rfl) (Nat.le_of_ble_eq_true rfl)
      · refine q_iload_n 1 1 31 rfl (by decide +kernel) rfl ?_
        refine q_iload 4 8 33 rfl (by decide +kernel) rfl ?_
        refine q_callN_i 36 rfl (av := [.int a1, .int x1]) (st := []) (c_CR_contains X.1 D tc x0 y ad I J1 P a1 x1) yv_CR_contains tw_3_1 tw_2_181 rfl (Nat.le_of_ble_eq_true rfl) (by decide +kernel) ⟨Nat.le_of_ble_eq_true rfl, Nat.le_of_ble_eq_true rfl⟩ ⟨Nat.le_of_ble_eq_true rfl, Nat.le_of_ble_eq_true rfl⟩ rfl rfl (fun v1 => ?_)
        refine q_if_eq 39 rfl 63 (off := 27) (by decide +kernel) rfl (fun g1 => ?_) (fun g1 => ?_)
        · refine q_iinc (x1 + 1) (c := 1) 8 4 66 rfl [(8, .int (x1 + 1)), (0, q_r (cG D tc x0 y ad) a0), (1, .int a1), (4, .long w1), (6, .long w2)] (by decide +kernel) rfl rfl (Nat.le_of_ble_eq_true rfl) rfl ?_
          refine q_goto (off := -43) 23 (by decide +kernel) rfl ?_
          refine q_sub [1, 2, 3, 4, 0] rfl ?_
          exact ih1 (x1 + 1) J1
        · refine q_aload_n 0 0 40 rfl (by decide +kernel) rfl ?_
          refine q_getr (f := 0) (a0 + 1) 43 rfl (by decide +kernel) (cC_TT D tc x0 y ad) h0.1 (by decide) rfl rfl tw_2_10 ?_
          refine q_iload 4 8 45 rfl (by decide +kernel) rfl ?_
          refine q_dup2 46 rfl (by decide +kernel) rfl rfl ?_
          refine q_lald (t := 2) 47 rfl (by decide +kernel) h0.2.1 rfl (fun j1 hj1 => ?_)
          refine q_lload 2 4 49 rfl (by decide +kernel) rfl ?_
          refine q_lor 50 rfl (by decide +kernel) ?_
          refine q_last (t := 2) 51 rfl (by decide +kernel) h0.2.1 rfl (fun j2 hj2 => ?_)
          refine q_letJ (fun J2 => ?_)
          refine q_aload_n 0 0 52 rfl (by decide +kernel) rfl ?_
          refine q_getr (f := 1) (a0 + 2) 55 rfl (by decide +kernel) (cC_TT D tc x0 y ad) h0.1 (by decide) rfl rfl tw_2_11 ?_
          refine q_iload 4 8 57 rfl (by decide +kernel) rfl ?_
          refine q_dup2 58 rfl (by decide +kernel) rfl rfl ?_
          refine q_lald (t := 2) 59 rfl (by decide +kernel) h0.2.2 rfl (fun j3 hj3 => ?_)
          refine q_lload 3 6 61 rfl (by decide +kernel) rfl ?_
          refine q_lor 62 rfl (by decide +kernel) ?_
          refine q_last (t := 2) 63 rfl (by decide +kernel) h0.2.2 rfl (fun j4 hj4 => ?_)
          refine q_letJ (fun J3 => ?_)
          refine q_iinc (x1 + 1) (c := 1) 8 4 66 rfl [(8, .int (x1 + 1)), (0, q_r (cG D tc x0 y ad) a0), (1, .int a1), (4, .long w1), (6, .long w2)] (by decide +kernel) rfl rfl (Nat.le_of_ble_eq_true rfl) rfl ?_
          refine q_goto (off := -43) 23 (by decide +kernel) rfl ?_
          refine q_sub [1, 2, 3, 4, 0] rfl ?_
          exact ih1 (x1 + 1) J3
  refine q_sub [3, 4, 2, 1, 0] rfl ?_
  exact hL1 _ _ _
def f_TT_begin_L1 (a0 : Nat) (K : q_J → Option (q_J)) : Nat → Int32 → q_J → Option (q_J)
  | 0, _, _ => none
  | n + 1, x1, J1 => if (10 : Int32) ≤ x1 then ((K J1)) else (q_ix x1 10 (fun j1 => q_l (q_uj J1 (a0 + 1) j1 0) (fun J2 => q_ix x1 10 (fun j2 => q_l (q_uj J2 (a0 + 2) j2 0) (fun J3 => (f_TT_begin_L1 a0 K n (x1 + 1) J3))))))
def f_TT_begin_L2 (I : q_I) (a0 : Nat) (a1 : Nat) (K : q_J → Option (q_J)) : Nat → Int32 → q_J → Option (q_J)
  | 0, _, _ => none
  | n + 1, x2, J5 => if (4 : Int32) ≤ x2 then ((K J5)) else (q_ix x2 4 (fun j3 => q_ix x2 4 (fun j4 => q_b1 (f_TT_take J5 a0 (1 <<< (x2 &&& 31)) (I (a1 + 2) j3) (I (a1 + 3) j4)) (fun J6 => (f_TT_begin_L2 I a0 a1 K n (x2 + 1) J6)))))
def f_TT_begin_L3 (I : q_I) (a0 : Nat) (a1 : Nat) : Nat → Int32 → q_J → Option (q_J)
  | 0, _, _ => none
  | n + 1, x3, J8 => if (6 : Int32) ≤ x3 then (some (J8)) else (q_ix x3 6 (fun j5 => q_ix x3 6 (fun j6 => q_b1 (f_TT_take J8 a0 (1 <<< ((4 + x3) &&& 31)) (I (a1 + 4) j5) (I (a1 + 5) j6)) (fun J9 => (f_TT_begin_L3 I a0 a1 n (x3 + 1) J9)))))
def f_TT_begin (I : q_I) (J : q_J) (a0 : Nat) (a1 : Nat) : Option (q_J) :=
  f_TT_begin_L1 a0 (fun (J4 : q_J) => f_TT_begin_L2 I a0 a1 (fun (J7 : q_J) => f_TT_begin_L3 I a0 a1 q_fu 0 J7) q_fu 0 J4) q_fu 0 J
def y_TT_begin : MethodName := ⟨"CalendarReplicas$Timetable", "begin", "(LCalendarReplicas$Rules;)V"⟩
def m_TT_begin : q_M := (prog_8_method_2_code, 3, "CalendarReplicas$Timetable", { frames := 2, cells := 0, slots := 0, locals := 51 }, (none : Option FieldType))
theorem yv_TT_begin : q_Y y_TT_begin m_TT_begin 1 := ⟨rfl, ⟨by decide, by decide⟩, by decide +kernel, tw_2_233, tw_1_9⟩
set_option maxRecDepth 100000 in
set_option maxHeartbeats 4000000 in
theorem c_TT_begin (l : Launch) (D : va_G) (tc : Nat → ClassId) (x0 y : Nat) (ad : Nat → Nat) (I : q_I) (J : q_J) (P : q_P) {a0 : Nat} {a1 : Nat} (h0 : isTT a0) (h1 : isRu a1) : q_Ct l (cG D tc x0 y ad) y_TT_begin m_TT_begin [q_r (cG D tc x0 y ad) a0, q_r (cG D tc x0 y ad) a1] (I, J, P) (f_TT_begin I J a0 a1) (fun r : q_J => (none, (I, r, P))) := by
  refine q_Ct_of (cIn D tc x0 y ad) (by decide) rfl (Nat.le_of_ble_eq_true rfl) rfl (fun X hX => ?_)
  subst hX
  unfold f_TT_begin
  refine q_iconst 0 (c := 0) 1 rfl (by decide +kernel) rfl ?_
  refine q_istore_n 2 2 2 rfl [(2, .int 0), (0, q_r (cG D tc x0 y ad) a0), (1, q_r (cG D tc x0 y ad) a1)] (by decide +kernel) rfl (Nat.le_of_ble_eq_true rfl) rfl ?_
  have hL1 : ∀ (K1 : q_J → Option (q_J)) (hK1 : ∀ (J4 : q_J), q_V (cG D tc x0 y ad) m_TT_begin X (fun r : q_J => (none, (I, r, P))) 0 0 28 [(0, q_r (cG D tc x0 y ad) a0), (1, q_r (cG D tc x0 y ad) a1)] [] I J4 P (K1 J4)) (n1_ : Nat) (x1 : Int32) (J1 : q_J), q_V (cG D tc x0 y ad) m_TT_begin X (fun r : q_J => (none, (I, r, P))) 0 0 2 [(0, q_r (cG D tc x0 y ad) a0), (1, q_r (cG D tc x0 y ad) a1), (2, .int x1)] [] I J1 P (f_TT_begin_L1 a0 K1 n1_ x1 J1) := by
    intro K1 hK1 n1_
    induction n1_ with
    | zero => intro x1 J1; exact q_none
    | succ n1_ ih1 =>
      intro x1 J1
      rw [f_TT_begin_L1]
      refine q_iload_n 2 2 3 rfl (by decide +kernel) rfl ?_
      refine q_bipush 10 (c := 10) 5 rfl (by decide +kernel) rfl ?_
      refine q_icmp_ge 8 rfl 28 (off := 23) (by decide +kernel) rfl (fun g1 => ?_) (fun g1 => ?_)
      · refine q_sub [0, 1] rfl ?_
        exact hK1 J1
      · refine q_aload_n 0 0 9 rfl (by decide +kernel) rfl ?_
        refine q_getr (f := 0) (a0 + 1) 12 rfl (by decide +kernel) (cC_TT D tc x0 y ad) h0.1 (by decide) rfl rfl tw_2_10 ?_
        refine q_iload_n 2 2 13 rfl (by decide +kernel) rfl ?_
        refine q_lconst 0 (c := 0) 14 rfl (by decide +kernel) rfl ?_
        refine q_last (t := 2) 15 rfl (by decide +kernel) h0.2.1 rfl (fun j1 hj1 => ?_)
        refine q_letJ (fun J2 => ?_)
        refine q_aload_n 0 0 16 rfl (by decide +kernel) rfl ?_
        refine q_getr (f := 1) (a0 + 2) 19 rfl (by decide +kernel) (cC_TT D tc x0 y ad) h0.1 (by decide) rfl rfl tw_2_11 ?_
        refine q_iload_n 2 2 20 rfl (by decide +kernel) rfl ?_
        refine q_lconst 0 (c := 0) 21 rfl (by decide +kernel) rfl ?_
        refine q_last (t := 2) 22 rfl (by decide +kernel) h0.2.2 rfl (fun j2 hj2 => ?_)
        refine q_letJ (fun J3 => ?_)
        refine q_iinc (x1 + 1) (c := 1) 2 2 25 rfl [(2, .int (x1 + 1)), (0, q_r (cG D tc x0 y ad) a0), (1, q_r (cG D tc x0 y ad) a1)] (by decide +kernel) rfl rfl (Nat.le_of_ble_eq_true rfl) rfl ?_
        refine q_goto (off := -23) 2 (by decide +kernel) rfl ?_
        refine q_sub [1, 2, 0] rfl ?_
        exact ih1 (x1 + 1) J3
  refine q_sub [1, 2, 0] rfl ?_
  refine hL1 _ (fun J4 => ?_) _ _ _
  refine q_iconst 0 (c := 0) 29 rfl (by decide +kernel) rfl ?_
  refine q_istore_n 2 2 30 rfl [(2, .int 0), (0, q_r (cG D tc x0 y ad) a0), (1, q_r (cG D tc x0 y ad) a1)] (by decide +kernel) rfl (Nat.le_of_ble_eq_true rfl) rfl ?_
  have hL2 : ∀ (K2 : q_J → Option (q_J)) (hK2 : ∀ (J7 : q_J), q_V (cG D tc x0 y ad) m_TT_begin X (fun r : q_J => (none, (I, r, P))) 0 0 60 [(0, q_r (cG D tc x0 y ad) a0), (1, q_r (cG D tc x0 y ad) a1)] [] I J7 P (K2 J7)) (n2_ : Nat) (x2 : Int32) (J5 : q_J), q_V (cG D tc x0 y ad) m_TT_begin X (fun r : q_J => (none, (I, r, P))) 0 0 30 [(0, q_r (cG D tc x0 y ad) a0), (1, q_r (cG D tc x0 y ad) a1), (2, .int x2)] [] I J5 P (f_TT_begin_L2 I a0 a1 K2 n2_ x2 J5) := by
    intro K2 hK2 n2_
    induction n2_ with
    | zero => intro x2 J5; exact q_none
    | succ n2_ ih2 =>
      intro x2 J5
      rw [f_TT_begin_L2]
      refine q_iload_n 2 2 31 rfl (by decide +kernel) rfl ?_
      refine q_iconst 4 (c := 4) 32 rfl (by decide +kernel) rfl ?_
      refine q_icmp_ge 35 rfl 60 (off := 28) (by decide +kernel) rfl (fun g2 => ?_) (fun g2 => ?_)
      · refine q_sub [0, 1] rfl ?_
        exact hK2 J5
      · refine q_aload_n 0 0 36 rfl (by decide +kernel) rfl ?_
        refine q_iconst 1 (c := 1) 37 rfl (by decide +kernel) rfl ?_
        refine q_iload_n 2 2 38 rfl (by decide +kernel) rfl ?_
        refine q_ishl 39 rfl (by decide +kernel) ?_
        refine q_aload_n 1 1 40 rfl (by decide +kernel) rfl ?_
        refine q_getr (f := 1) (a1 + 2) 43 rfl (by decide +kernel) (cC_Ru D tc x0 y ad) h1.1 (by decide) rfl rfl tw_1_46 ?_
        refine q_iload_n 2 2 44 rfl (by decide +kernel) rfl ?_
        refine q_iald (t := 0) 45 rfl (by decide +kernel) h1.2.2.1 rfl (fun j3 hj3 => ?_)
        refine q_aload_n 1 1 46 rfl (by decide +kernel) rfl ?_
        refine q_getr (f := 2) (a1 + 3) 49 rfl (by decide +kernel) (cC_Ru D tc x0 y ad) h1.1 (by decide) rfl rfl tw_1_49 ?_
        refine q_iload_n 2 2 50 rfl (by decide +kernel) rfl ?_
        refine q_iald (t := 0) 51 rfl (by decide +kernel) h1.2.2.2.1 rfl (fun j4 hj4 => ?_)
        refine q_callV_vJ 54 rfl (av := [.int (1 <<< (x2 &&& 31)), .int (I (a1 + 2) j3), .int (I (a1 + 3) j4)]) (o := a0) (st := []) (c_TT_take X.1 D tc x0 y ad I J5 P h0 (1 <<< (x2 &&& 31)) (I (a1 + 2) j3) (I (a1 + 3) j4)) yv_TT_take tw_2_234 tw_2_236 sw_3 (cC_TT D tc x0 y ad) h0.1 rfl (Nat.le_of_ble_eq_true rfl) (by decide +kernel) ⟨Nat.le_of_ble_eq_true rfl, Nat.le_of_ble_eq_true rfl⟩ ⟨Nat.le_of_ble_eq_true rfl, Nat.le_of_ble_eq_true rfl⟩ rfl rfl (fun J6 => ?_)
        refine q_iinc (x2 + 1) (c := 1) 2 2 57 rfl [(2, .int (x2 + 1)), (0, q_r (cG D tc x0 y ad) a0), (1, q_r (cG D tc x0 y ad) a1)] (by decide +kernel) rfl rfl (Nat.le_of_ble_eq_true rfl) rfl ?_
        refine q_goto (off := -27) 30 (by decide +kernel) rfl ?_
        refine q_sub [1, 2, 0] rfl ?_
        exact ih2 (x2 + 1) J6
  refine q_sub [1, 2, 0] rfl ?_
  refine hL2 _ (fun J7 => ?_) _ _ _
  refine q_iconst 0 (c := 0) 61 rfl (by decide +kernel) rfl ?_
  refine q_istore_n 2 2 62 rfl [(2, .int 0), (0, q_r (cG D tc x0 y ad) a0), (1, q_r (cG D tc x0 y ad) a1)] (by decide +kernel) rfl (Nat.le_of_ble_eq_true rfl) rfl ?_
  have hL3 : ∀ (n3_ : Nat) (x3 : Int32) (J8 : q_J), q_V (cG D tc x0 y ad) m_TT_begin X (fun r : q_J => (none, (I, r, P))) 0 0 62 [(0, q_r (cG D tc x0 y ad) a0), (1, q_r (cG D tc x0 y ad) a1), (2, .int x3)] [] I J8 P (f_TT_begin_L3 I a0 a1 n3_ x3 J8) := by
    intro n3_
    induction n3_ with
    | zero => intro x3 J8; exact q_none
    | succ n3_ ih3 =>
      intro x3 J8
      rw [f_TT_begin_L3]
      refine q_iload_n 2 2 63 rfl (by decide +kernel) rfl ?_
      refine q_bipush 6 (c := 6) 65 rfl (by decide +kernel) rfl ?_
      refine q_icmp_ge 68 rfl 95 (off := 30) (by decide +kernel) rfl (fun g3 => ?_) (fun g3 => ?_)
      · exact q_vret (by decide +kernel) rfl rfl (Nat.le_of_ble_eq_true rfl) (Nat.le_of_ble_eq_true rfl)
      · refine q_aload_n 0 0 69 rfl (by decide +kernel) rfl ?_
        refine q_iconst 1 (c := 1) 70 rfl (by decide +kernel) rfl ?_
        refine q_iconst 4 (c := 4) 71 rfl (by decide +kernel) rfl ?_
        refine q_iload_n 2 2 72 rfl (by decide +kernel) rfl ?_
        refine q_iadd 73 rfl (by decide +kernel) ?_
        refine q_ishl 74 rfl (by decide +kernel) ?_
        refine q_aload_n 1 1 75 rfl (by decide +kernel) rfl ?_
        refine q_getr (f := 3) (a1 + 4) 78 rfl (by decide +kernel) (cC_Ru D tc x0 y ad) h1.1 (by decide) rfl rfl tw_1_52 ?_
        refine q_iload_n 2 2 79 rfl (by decide +kernel) rfl ?_
        refine q_iald (t := 0) 80 rfl (by decide +kernel) h1.2.2.2.2.1 rfl (fun j5 hj5 => ?_)
        refine q_aload_n 1 1 81 rfl (by decide +kernel) rfl ?_
        refine q_getr (f := 4) (a1 + 5) 84 rfl (by decide +kernel) (cC_Ru D tc x0 y ad) h1.1 (by decide) rfl rfl tw_1_55 ?_
        refine q_iload_n 2 2 85 rfl (by decide +kernel) rfl ?_
        refine q_iald (t := 0) 86 rfl (by decide +kernel) h1.2.2.2.2.2.1 rfl (fun j6 hj6 => ?_)
        refine q_callV_vJ 89 rfl (av := [.int (1 <<< ((4 + x3) &&& 31)), .int (I (a1 + 4) j5), .int (I (a1 + 5) j6)]) (o := a0) (st := []) (c_TT_take X.1 D tc x0 y ad I J8 P h0 (1 <<< ((4 + x3) &&& 31)) (I (a1 + 4) j5) (I (a1 + 5) j6)) yv_TT_take tw_2_234 tw_2_236 sw_3 (cC_TT D tc x0 y ad) h0.1 rfl (Nat.le_of_ble_eq_true rfl) (by decide +kernel) ⟨Nat.le_of_ble_eq_true rfl, Nat.le_of_ble_eq_true rfl⟩ ⟨Nat.le_of_ble_eq_true rfl, Nat.le_of_ble_eq_true rfl⟩ rfl rfl (fun J9 => ?_)
        refine q_iinc (x3 + 1) (c := 1) 2 2 92 rfl [(2, .int (x3 + 1)), (0, q_r (cG D tc x0 y ad) a0), (1, q_r (cG D tc x0 y ad) a1)] (by decide +kernel) rfl rfl (Nat.le_of_ble_eq_true rfl) rfl ?_
        refine q_goto (off := -30) 62 (by decide +kernel) rfl ?_
        refine q_sub [1, 2, 0] rfl ?_
        exact ih3 (x3 + 1) J9
  refine q_sub [1, 2, 0] rfl ?_
  exact hL3 _ _ _
def f_TT_isFree_L1 (J : q_J) (a0 : Nat) (a1 : Int32) (w1 : Int64) (w2 : Int64) : Nat → Int32 → Option (Int32)
  | 0, _ => none
  | n + 1, x1 => if (10 : Int32) ≤ x1 then (some (1)) else (q_b1 (f_CR_contains a1 x1) (fun v1 => if v1 = 0 then ((f_TT_isFree_L1 J a0 a1 w1 w2 n (x1 + 1))) else (q_ix x1 10 (fun j1 => if (lg_cmp ((J (a0 + 1) j1) &&& w1) 0) = 0 then (q_ix x1 10 (fun j2 => if (lg_cmp ((J (a0 + 2) j2) &&& w2) 0) = 0 then ((f_TT_isFree_L1 J a0 a1 w1 w2 n (x1 + 1))) else (some (0)))) else (some (0))))))
def f_TT_isFree (J : q_J) (a0 : Nat) (a1 : Int32) (a2 : Int32) (a3 : Int32) : Option (Int32) :=
  q_b1 (f_TT_bits a2 a3) (fun w1 => q_b1 (f_TT_bits (a2 - 48) (a3 - 48)) (fun w2 => f_TT_isFree_L1 J a0 a1 w1 w2 q_fu 0))
def y_TT_isFree : MethodName := ⟨"CalendarReplicas$Timetable", "isFree", "(III)Z"⟩
def m_TT_isFree : q_M := (prog_8_method_4_code, 9, "CalendarReplicas$Timetable", { frames := 1, cells := 0, slots := 0, locals := 23 }, (some FieldType.boolean))
theorem yv_TT_isFree : q_Y y_TT_isFree m_TT_isFree 3 := ⟨rfl, ⟨by decide, by decide⟩, by decide +kernel, tw_3_29, tw_1_9⟩
set_option maxRecDepth 100000 in
set_option maxHeartbeats 4000000 in
theorem c_TT_isFree (l : Launch) (D : va_G) (tc : Nat → ClassId) (x0 y : Nat) (ad : Nat → Nat) (I : q_I) (J : q_J) (P : q_P) {a0 : Nat} (h0 : isTT a0) (a1 : Int32) (a2 : Int32) (a3 : Int32) : q_Ct l (cG D tc x0 y ad) y_TT_isFree m_TT_isFree [q_r (cG D tc x0 y ad) a0, .int a1, .int a2, .int a3] (I, J, P) (f_TT_isFree J a0 a1 a2 a3) (fun r : Int32 => (some (.int r), (I, J, P))) := by
  refine q_Ct_of (cIn D tc x0 y ad) (by decide) rfl (Nat.le_of_ble_eq_true rfl) rfl (fun X hX => ?_)
  subst hX
  unfold f_TT_isFree
  refine q_iload_n 2 2 1 rfl (by decide +kernel) rfl ?_
  refine q_iload_n 3 3 2 rfl (by decide +kernel) rfl ?_
  refine q_callS_l 5 rfl (av := [.int a2, .int a3]) (st := []) (c_TT_bits X.1 D tc x0 y ad I J P a2 a3) yv_TT_bits tw_2_238 tw_2_239 rfl (Nat.le_of_ble_eq_true rfl) (by decide +kernel) ⟨Nat.le_of_ble_eq_true rfl, Nat.le_of_ble_eq_true rfl⟩ ⟨Nat.le_of_ble_eq_true rfl, Nat.le_of_ble_eq_true rfl⟩ rfl rfl (fun w1 => ?_)
  refine q_lstore 4 7 rfl [(4, .long w1), (0, q_r (cG D tc x0 y ad) a0), (1, .int a1), (2, .int a2), (3, .int a3)] (by decide +kernel) (Nat.le_of_ble_eq_true rfl) rfl ?_
  refine q_iload_n 3 2 8 rfl (by decide +kernel) rfl ?_
  refine q_bipush 48 (c := 48) 10 rfl (by decide +kernel) rfl ?_
  refine q_isub 11 rfl (by decide +kernel) ?_
  refine q_iload_n 4 3 12 rfl (by decide +kernel) rfl ?_
  refine q_bipush 48 (c := 48) 14 rfl (by decide +kernel) rfl ?_
  refine q_isub 15 rfl (by decide +kernel) ?_
  refine q_callS_l 18 rfl (av := [.int (a2 - 48), .int (a3 - 48)]) (st := []) (c_TT_bits X.1 D tc x0 y ad I J P (a2 - 48) (a3 - 48)) yv_TT_bits tw_2_238 tw_2_239 rfl (Nat.le_of_ble_eq_true rfl) (by decide +kernel) ⟨Nat.le_of_ble_eq_true rfl, Nat.le_of_ble_eq_true rfl⟩ ⟨Nat.le_of_ble_eq_true rfl, Nat.le_of_ble_eq_true rfl⟩ rfl rfl (fun w2 => ?_)
  refine q_lstore 6 20 rfl [(6, .long w2), (4, .long w1), (0, q_r (cG D tc x0 y ad) a0), (1, .int a1), (2, .int a2), (3, .int a3)] (by decide +kernel) (Nat.le_of_ble_eq_true rfl) rfl ?_
  refine q_iconst 0 (c := 0) 21 rfl (by decide +kernel) rfl ?_
  refine q_istore 8 23 rfl [(8, .int 0), (6, .long w2), (4, .long w1), (0, q_r (cG D tc x0 y ad) a0), (1, .int a1), (2, .int a2), (3, .int a3)] (by decide +kernel) (Nat.le_of_ble_eq_true rfl) rfl ?_
  have hL1 : ∀ (n1_ : Nat) (x1 : Int32), q_V (cG D tc x0 y ad) m_TT_isFree X (fun r : Int32 => (some (.int r), (I, J, P))) 0 0 23 [(0, q_r (cG D tc x0 y ad) a0), (1, .int a1), (4, .long w1), (6, .long w2), (8, .int x1)] [] I J P (f_TT_isFree_L1 J a0 a1 w1 w2 n1_ x1) := by
    intro n1_
    induction n1_ with
    | zero => intro x1; exact q_none
    | succ n1_ ih1 =>
      intro x1
      rw [f_TT_isFree_L1]
      refine q_iload 4 8 25 rfl (by decide +kernel) rfl ?_
      refine q_bipush 10 (c := 10) 27 rfl (by decide +kernel) rfl ?_
      refine q_icmp_ge 30 rfl 77 (off := 50) (by decide +kernel) rfl (fun g4 => ?_) (fun g4 => ?_)
      · refine q_iconst 1 (c := 1) 78 rfl (by decide +kernel) rfl ?_
        exact q_zret (w := 1) (by decide +kernel) rfl rfl rfl (Nat.le_of_ble_eq_true rfl) (Nat.le_of_ble_eq_true rfl)
      · refine q_iload_n 1 1 31 rfl (by decide +kernel) rfl ?_
        refine q_iload 4 8 33 rfl (by decide +kernel) rfl ?_
        refine q_callN_i 36 rfl (av := [.int a1, .int x1]) (st := []) (c_CR_contains X.1 D tc x0 y ad I J P a1 x1) yv_CR_contains tw_3_1 tw_2_181 rfl (Nat.le_of_ble_eq_true rfl) (by decide +kernel) ⟨Nat.le_of_ble_eq_true rfl, Nat.le_of_ble_eq_true rfl⟩ ⟨Nat.le_of_ble_eq_true rfl, Nat.le_of_ble_eq_true rfl⟩ rfl rfl (fun v1 => ?_)
        refine q_if_eq 39 rfl 71 (off := 35) (by decide +kernel) rfl (fun g3 => ?_) (fun g3 => ?_)
        · refine q_iinc (x1 + 1) (c := 1) 8 4 74 rfl [(8, .int (x1 + 1)), (0, q_r (cG D tc x0 y ad) a0), (1, .int a1), (4, .long w1), (6, .long w2)] (by decide +kernel) rfl rfl (Nat.le_of_ble_eq_true rfl) rfl ?_
          refine q_goto (off := -51) 23 (by decide +kernel) rfl ?_
          refine q_sub [1, 2, 3, 4, 0] rfl ?_
          exact ih1 (x1 + 1)
        · refine q_aload_n 0 0 40 rfl (by decide +kernel) rfl ?_
          refine q_getr (f := 0) (a0 + 1) 43 rfl (by decide +kernel) (cC_TT D tc x0 y ad) h0.1 (by decide) rfl rfl tw_2_10 ?_
          refine q_iload 4 8 45 rfl (by decide +kernel) rfl ?_
          refine q_lald (t := 2) 46 rfl (by decide +kernel) h0.2.1 rfl (fun j1 hj1 => ?_)
          refine q_lload 2 4 48 rfl (by decide +kernel) rfl ?_
          refine q_land 49 rfl (by decide +kernel) ?_
          refine q_lconst 0 (c := 0) 50 rfl (by decide +kernel) rfl ?_
          refine q_lcmp 51 rfl (by decide +kernel) ?_
          refine q_if_ne 54 rfl 69 (off := 18) (by decide +kernel) rfl (fun g2 => ?_) (fun g2 => ?_)
          · refine q_iconst 0 (c := 0) 70 rfl (by decide +kernel) rfl ?_
            exact q_zret (w := 0) (by decide +kernel) rfl rfl rfl (Nat.le_of_ble_eq_true rfl) (Nat.le_of_ble_eq_true rfl)
          · refine q_aload_n 0 0 55 rfl (by decide +kernel) rfl ?_
            refine q_getr (f := 1) (a0 + 2) 58 rfl (by decide +kernel) (cC_TT D tc x0 y ad) h0.1 (by decide) rfl rfl tw_2_11 ?_
            refine q_iload 4 8 60 rfl (by decide +kernel) rfl ?_
            refine q_lald (t := 2) 61 rfl (by decide +kernel) h0.2.2 rfl (fun j2 hj2 => ?_)
            refine q_lload 3 6 63 rfl (by decide +kernel) rfl ?_
            refine q_land 64 rfl (by decide +kernel) ?_
            refine q_lconst 0 (c := 0) 65 rfl (by decide +kernel) rfl ?_
            refine q_lcmp 66 rfl (by decide +kernel) ?_
            refine q_if_eq 69 rfl 71 (off := 5) (by decide +kernel) rfl (fun g1 => ?_) (fun g1 => ?_)
            · refine q_iinc (x1 + 1) (c := 1) 8 4 74 rfl [(8, .int (x1 + 1)), (0, q_r (cG D tc x0 y ad) a0), (1, .int a1), (4, .long w1), (6, .long w2)] (by decide +kernel) rfl rfl (Nat.le_of_ble_eq_true rfl) rfl ?_
              refine q_goto (off := -51) 23 (by decide +kernel) rfl ?_
              refine q_sub [1, 2, 3, 4, 0] rfl ?_
              exact ih1 (x1 + 1)
            · refine q_iconst 0 (c := 0) 70 rfl (by decide +kernel) rfl ?_
              exact q_zret (w := 0) (by decide +kernel) rfl rfl rfl (Nat.le_of_ble_eq_true rfl) (Nat.le_of_ble_eq_true rfl)
  refine q_sub [3, 4, 2, 1, 0] rfl ?_
  exact hL1 _ _
def f_TT_book_L1 (I : q_I) (a0 : Nat) (a1 : Nat) (v1 : Int32) : Nat → Int32 → q_J → Option (Int32 × q_J)
  | 0, _, _ => none
  | n + 1, x1, J1 => if (I a1 6) ≤ x1 then (some (1, J1)) else (q_l ((I a1 1) + (x1 * (I a1 5)) : Int32) (fun x2 => q_b1 (f_TT_isFree J1 a0 v1 x2 (x2 + (I a1 2))) (fun v2 => if v2 = 0 then (some (0, J1)) else (q_b1 (f_TT_take J1 a0 v1 x2 (x2 + (I a1 2))) (fun J2 => (f_TT_book_L1 I a0 a1 v1 n (x1 + 1) J2))))))
def f_TT_book (I : q_I) (J : q_J) (a0 : Nat) (a1 : Nat) : Option (Int32 × q_J) :=
  q_b1 (f_Me_rows I a1) (fun v1 => f_TT_book_L1 I a0 a1 v1 q_fu 0 J)
def y_TT_book : MethodName := ⟨"CalendarReplicas$Timetable", "book", "(LCalendarReplicas$Meeting;)Z"⟩
def m_TT_book : q_M := (prog_8_method_3_code, 5, "CalendarReplicas$Timetable", { frames := 2, cells := 0, slots := 0, locals := 51 }, (some FieldType.boolean))
theorem yv_TT_book : q_Y y_TT_book m_TT_book 1 := ⟨rfl, ⟨by decide, by decide⟩, by decide +kernel, tw_3_21, tw_1_9⟩
set_option maxRecDepth 100000 in
set_option maxHeartbeats 4000000 in
theorem c_TT_book (l : Launch) (D : va_G) (tc : Nat → ClassId) (x0 y : Nat) (ad : Nat → Nat) (I : q_I) (J : q_J) (P : q_P) {a0 : Nat} {a1 : Nat} (h0 : isTT a0) (h1 : isMe a1) : q_Ct l (cG D tc x0 y ad) y_TT_book m_TT_book [q_r (cG D tc x0 y ad) a0, q_r (cG D tc x0 y ad) a1] (I, J, P) (f_TT_book I J a0 a1) (fun r : Int32 × q_J => (some (.int r.1), (I, r.2, P))) := by
  refine q_Ct_of (cIn D tc x0 y ad) (by decide) rfl (Nat.le_of_ble_eq_true rfl) rfl (fun X hX => ?_)
  subst hX
  unfold f_TT_book
  refine q_aload_n 1 1 1 rfl (by decide +kernel) rfl ?_
  refine q_callV_i 4 rfl (av := []) (o := a1) (st := []) (c_Me_rows X.1 D tc x0 y ad I J P h1) yv_Me_rows tw_3_22 tw_3_23 tw_3_24 (cC_Me D tc x0 y ad) h1 rfl (Nat.le_of_ble_eq_true rfl) (by decide +kernel) ⟨Nat.le_of_ble_eq_true rfl, Nat.le_of_ble_eq_true rfl⟩ ⟨Nat.le_of_ble_eq_true rfl, Nat.le_of_ble_eq_true rfl⟩ rfl rfl (fun v1 => ?_)
  refine q_istore_n 2 2 5 rfl [(2, .int v1), (0, q_r (cG D tc x0 y ad) a0), (1, q_r (cG D tc x0 y ad) a1)] (by decide +kernel) rfl (Nat.le_of_ble_eq_true rfl) rfl ?_
  refine q_iconst 0 (c := 0) 6 rfl (by decide +kernel) rfl ?_
  refine q_istore_n 3 3 7 rfl [(3, .int 0), (2, .int v1), (0, q_r (cG D tc x0 y ad) a0), (1, q_r (cG D tc x0 y ad) a1)] (by decide +kernel) rfl (Nat.le_of_ble_eq_true rfl) rfl ?_
  have hL1 : ∀ (n1_ : Nat) (x1 : Int32) (J1 : q_J), q_V (cG D tc x0 y ad) m_TT_book X (fun r : Int32 × q_J => (some (.int r.1), (I, r.2, P))) 0 0 7 [(0, q_r (cG D tc x0 y ad) a0), (1, q_r (cG D tc x0 y ad) a1), (2, .int v1), (3, .int x1)] [] I J1 P (f_TT_book_L1 I a0 a1 v1 n1_ x1 J1) := by
    intro n1_
    induction n1_ with
    | zero => intro x1 J1; exact q_none
    | succ n1_ ih1 =>
      intro x1 J1
      rw [f_TT_book_L1]
      refine q_iload_n 3 3 8 rfl (by decide +kernel) rfl ?_
      refine q_aload_n 1 1 9 rfl (by decide +kernel) rfl ?_
      refine q_geti (f := 6) 12 rfl (by decide +kernel) (cC_Me D tc x0 y ad) h1 (by decide) rfl tw_1_127 ?_
      refine q_icmp_ge 15 rfl 67 (off := 55) (by decide +kernel) rfl (fun g2 => ?_) (fun g2 => ?_)
      · refine q_iconst 1 (c := 1) 68 rfl (by decide +kernel) rfl ?_
        exact q_zret (w := 1) (by decide +kernel) rfl rfl rfl (Nat.le_of_ble_eq_true rfl) (Nat.le_of_ble_eq_true rfl)
      · refine q_aload_n 1 1 16 rfl (by decide +kernel) rfl ?_
        refine q_geti (f := 1) 19 rfl (by decide +kernel) (cC_Me D tc x0 y ad) h1 (by decide) rfl tw_1_100 ?_
        refine q_iload_n 3 3 20 rfl (by decide +kernel) rfl ?_
        refine q_aload_n 1 1 21 rfl (by decide +kernel) rfl ?_
        refine q_geti (f := 5) 24 rfl (by decide +kernel) (cC_Me D tc x0 y ad) h1 (by decide) rfl tw_1_122 ?_
        refine q_imul 25 rfl (by decide +kernel) ?_
        refine q_iadd 26 rfl (by decide +kernel) ?_
        refine q_leti (fun x2 => ?_)
        refine q_istore 4 28 rfl [(4, .int x2), (0, q_r (cG D tc x0 y ad) a0), (1, q_r (cG D tc x0 y ad) a1), (2, .int v1), (3, .int x1)] (by decide +kernel) (Nat.le_of_ble_eq_true rfl) rfl ?_
        refine q_aload_n 1 0 29 rfl (by decide +kernel) rfl ?_
        refine q_iload_n 3 2 30 rfl (by decide +kernel) rfl ?_
        refine q_iload 0 4 32 rfl (by decide +kernel) rfl ?_
        refine q_iload 0 4 34 rfl (by decide +kernel) rfl ?_
        refine q_aload_n 2 1 35 rfl (by decide +kernel) rfl ?_
        refine q_geti (f := 2) 38 rfl (by decide +kernel) (cC_Me D tc x0 y ad) h1 (by decide) rfl tw_1_106 ?_
        refine q_iadd 39 rfl (by decide +kernel) ?_
        refine q_callV_i 42 rfl (av := [.int v1, .int x2, .int (x2 + (I a1 2))]) (o := a0) (st := []) (c_TT_isFree X.1 D tc x0 y ad I J1 P h0 v1 x2 (x2 + (I a1 2))) yv_TT_isFree tw_3_26 tw_3_27 tw_3_28 (cC_TT D tc x0 y ad) h0.1 rfl (Nat.le_of_ble_eq_true rfl) (by decide +kernel) ⟨Nat.le_of_ble_eq_true rfl, Nat.le_of_ble_eq_true rfl⟩ ⟨Nat.le_of_ble_eq_true rfl, Nat.le_of_ble_eq_true rfl⟩ rfl rfl (fun v2 => ?_)
        refine q_if_ne 45 rfl 47 (off := 5) (by decide +kernel) rfl (fun g1 => ?_) (fun g1 => ?_)
        · refine q_aload_n 1 0 48 rfl (by decide +kernel) rfl ?_
          refine q_iload_n 3 2 49 rfl (by decide +kernel) rfl ?_
          refine q_iload 0 4 51 rfl (by decide +kernel) rfl ?_
          refine q_iload 0 4 53 rfl (by decide +kernel) rfl ?_
          refine q_aload_n 2 1 54 rfl (by decide +kernel) rfl ?_
          refine q_geti (f := 2) 57 rfl (by decide +kernel) (cC_Me D tc x0 y ad) h1 (by decide) rfl tw_1_106 ?_
          refine q_iadd 58 rfl (by decide +kernel) ?_
          refine q_callV_vJ 61 rfl (av := [.int v1, .int x2, .int (x2 + (I a1 2))]) (o := a0) (st := []) (c_TT_take X.1 D tc x0 y ad I J1 P h0 v1 x2 (x2 + (I a1 2))) yv_TT_take tw_2_234 tw_2_236 sw_3 (cC_TT D tc x0 y ad) h0.1 rfl (Nat.le_of_ble_eq_true rfl) (by decide +kernel) ⟨Nat.le_of_ble_eq_true rfl, Nat.le_of_ble_eq_true rfl⟩ ⟨Nat.le_of_ble_eq_true rfl, Nat.le_of_ble_eq_true rfl⟩ rfl rfl (fun J2 => ?_)
          refine q_iinc (x1 + 1) (c := 1) 3 4 64 rfl [(3, .int (x1 + 1)), (4, .int x2), (0, q_r (cG D tc x0 y ad) a0), (1, q_r (cG D tc x0 y ad) a1), (2, .int v1)] (by decide +kernel) rfl rfl (Nat.le_of_ble_eq_true rfl) rfl ?_
          refine q_goto (off := -57) 7 (by decide +kernel) rfl ?_
          refine q_sub [2, 3, 4, 0] rfl ?_
          exact ih1 (x1 + 1) J2
        · refine q_iconst 0 (c := 0) 46 rfl (by decide +kernel) rfl ?_
          exact q_zret (w := 0) (by decide +kernel) rfl rfl rfl (Nat.le_of_ble_eq_true rfl) (Nat.le_of_ble_eq_true rfl)
  refine q_sub [2, 3, 1, 0] rfl ?_
  exact hL1 _ _ _
def f_Wo_copyFrom_L1 (a0 : Nat) (a1 : Nat) (K : q_I → Option (q_I)) : Nat → Int32 → q_I → Option (q_I)
  | 0, _, _ => none
  | n + 1, x1, I5 => if (I5 a0 3) ≤ x1 then ((K I5)) else (q_ix x1 12 (fun j1 => q_ix x1 12 (fun j2 => q_b1 (f_Ed_copyFrom I5 ((a0 + 26) + 2 * j1) ((a1 + 26) + 2 * j2)) (fun I6 => (f_Wo_copyFrom_L1 a0 a1 K n (x1 + 1) I6)))))
def f_Wo_copyFrom (I : q_I) (P : q_P) (a0 : Nat) (a1 : Nat) : Option (q_I) :=
  q_b1 (f_Ru_copyFrom I (a0 + 1) (a1 + 1)) (fun I1 => q_b1 (f_Cal_copyFrom I1 P (a0 + 9) 12 (a1 + 9) 12) (fun I2 => q_l (q_ui I2 a0 3 (if (12 : Int32) < (I2 a1 3) then (12 : Int32) else (I2 a1 3))) (fun I3 => q_l (q_ui I3 a0 4 (I3 a1 4)) (fun I4 => f_Wo_copyFrom_L1 a0 a1 (fun (I7 : q_I) => q_l (q_uI I7 (a0 + 24) (va_cpy (I7 (a1 + 24)) (I7 (a0 + 24)) 0 0 3)) (fun I8 => q_l (q_uI I8 (a0 + 25) (va_cpy (I8 (a1 + 25)) (I8 (a0 + 25)) 0 0 3)) (fun I9 => some (I9)))) q_fu 0 I4))))
def y_Wo_copyFrom : MethodName := ⟨"CalendarReplicas$World", "copyFrom", "(LCalendarReplicas$World;)V"⟩
def m_Wo_copyFrom : q_M := (prog_9_method_2_code, 3, "CalendarReplicas$World", { frames := 2, cells := 0, slots := 0, locals := 121 }, (none : Option FieldType))
theorem yv_Wo_copyFrom : q_Y y_Wo_copyFrom m_Wo_copyFrom 1 := ⟨rfl, ⟨by decide, by decide⟩, by decide +kernel, tw_5_166, tw_1_2⟩
set_option maxRecDepth 100000 in
set_option maxHeartbeats 4000000 in
theorem c_Wo_copyFrom (l : Launch) (D : va_G) (tc : Nat → ClassId) (x0 y : Nat) (ad : Nat → Nat) (I : q_I) (J : q_J) (P : q_P) {a0 : Nat} {a1 : Nat} (h0 : isWo a0) (h1 : isWo a1) : q_Ct l (cG D tc x0 y ad) y_Wo_copyFrom m_Wo_copyFrom [q_r (cG D tc x0 y ad) a0, q_r (cG D tc x0 y ad) a1] (I, J, P) (f_Wo_copyFrom I P a0 a1) (fun r : q_I => (none, (r, J, P))) := by
  refine q_Ct_of (cIn D tc x0 y ad) (by decide) rfl (Nat.le_of_ble_eq_true rfl) rfl (fun X hX => ?_)
  subst hX
  unfold f_Wo_copyFrom
  refine q_aload_n 0 0 1 rfl (by decide +kernel) rfl ?_
  refine q_getr (f := 0) (a0 + 1) 4 rfl (by decide +kernel) (cC_Wo D tc x0 y ad) h0.1 (by decide) rfl rfl tw_1_206 ?_
  refine q_aload_n 1 1 5 rfl (by decide +kernel) rfl ?_
  refine q_getr (f := 0) (a1 + 1) 8 rfl (by decide +kernel) (cC_Wo D tc x0 y ad) h1.1 (by decide) rfl rfl tw_1_206 ?_
  refine q_callV_vI 11 rfl (av := [q_r (cG D tc x0 y ad) (a1 + 1)]) (o := (a0 + 1)) (st := []) (c_Ru_copyFrom X.1 D tc x0 y ad I J P h0.2.1 h1.2.1) yv_Ru_copyFrom tw_5_167 tw_5_168 tw_5_169 (cC_Ru D tc x0 y ad) h0.2.1.1 rfl (Nat.le_of_ble_eq_true rfl) (by decide +kernel) ⟨Nat.le_of_ble_eq_true rfl, Nat.le_of_ble_eq_true rfl⟩ ⟨Nat.le_of_ble_eq_true rfl, Nat.le_of_ble_eq_true rfl⟩ rfl rfl (fun I1 => ?_)
  refine q_aload_n 0 0 12 rfl (by decide +kernel) rfl ?_
  refine q_getr (f := 1) (a0 + 9) 15 rfl (by decide +kernel) (cC_Wo D tc x0 y ad) h0.1 (by decide) rfl rfl tw_1_209 ?_
  refine q_aload_n 1 1 16 rfl (by decide +kernel) rfl ?_
  refine q_getr (f := 1) (a1 + 9) 19 rfl (by decide +kernel) (cC_Wo D tc x0 y ad) h1.1 (by decide) rfl rfl tw_1_209 ?_
  refine q_callV_vI 22 rfl (av := [q_r (cG D tc x0 y ad) (a1 + 9)]) (o := (a0 + 9)) (st := []) (c_Cal_copyFrom X.1 D tc x0 y ad I1 J P h0.2.2.1 h1.2.2.1) yv_Cal_copyFrom tw_2_202 tw_2_203 tw_2_204 (cC_Cal D tc x0 y ad) h0.2.2.1.1 rfl (Nat.le_of_ble_eq_true rfl) (by decide +kernel) ⟨Nat.le_of_ble_eq_true rfl, Nat.le_of_ble_eq_true rfl⟩ ⟨Nat.le_of_ble_eq_true rfl, Nat.le_of_ble_eq_true rfl⟩ rfl rfl (fun I2 => ?_)
  refine q_aload_n 0 0 23 rfl (by decide +kernel) rfl ?_
  refine q_aload_n 1 1 24 rfl (by decide +kernel) rfl ?_
  refine q_geti (f := 3) 27 rfl (by decide +kernel) (cC_Wo D tc x0 y ad) h1.1 (by decide) rfl tw_1_212 ?_
  refine q_bipush 12 (c := 12) 29 rfl (by decide +kernel) rfl ?_
  refine q_mmin (idx := 52) 32 rfl (by decide +kernel) tw_5_172 tw_2_207 tw_1_5 tw_2_208 (Nat.le_of_ble_eq_true rfl) (Nat.le_of_ble_eq_true rfl) (Nat.le_of_ble_eq_true rfl) (Nat.le_of_ble_eq_true rfl) ?_
  refine q_puti (f := 3) 35 rfl (by decide +kernel) (cC_Wo D tc x0 y ad) h0.1 (by decide) rfl rfl rfl tw_1_212 ?_
  refine q_letI (fun I3 => ?_)
  refine q_aload_n 0 0 36 rfl (by decide +kernel) rfl ?_
  refine q_aload_n 1 1 37 rfl (by decide +kernel) rfl ?_
  refine q_geti (f := 4) 40 rfl (by decide +kernel) (cC_Wo D tc x0 y ad) h1.1 (by decide) rfl tw_1_214 ?_
  refine q_puti (f := 4) 43 rfl (by decide +kernel) (cC_Wo D tc x0 y ad) h0.1 (by decide) rfl rfl rfl tw_1_214 ?_
  refine q_letI (fun I4 => ?_)
  refine q_iconst 0 (c := 0) 44 rfl (by decide +kernel) rfl ?_
  refine q_istore_n 2 2 45 rfl [(2, .int 0), (0, q_r (cG D tc x0 y ad) a0), (1, q_r (cG D tc x0 y ad) a1)] (by decide +kernel) rfl (Nat.le_of_ble_eq_true rfl) rfl ?_
  have hL1 : ∀ (K1 : q_I → Option (q_I)) (hK1 : ∀ (I7 : q_I), q_V (cG D tc x0 y ad) m_Wo_copyFrom X (fun r : q_I => (none, (r, J, P))) 0 0 74 [(0, q_r (cG D tc x0 y ad) a0), (1, q_r (cG D tc x0 y ad) a1)] [] I7 J P (K1 I7)) (n1_ : Nat) (x1 : Int32) (I5 : q_I), q_V (cG D tc x0 y ad) m_Wo_copyFrom X (fun r : q_I => (none, (r, J, P))) 0 0 45 [(0, q_r (cG D tc x0 y ad) a0), (1, q_r (cG D tc x0 y ad) a1), (2, .int x1)] [] I5 J P (f_Wo_copyFrom_L1 a0 a1 K1 n1_ x1 I5) := by
    intro K1 hK1 n1_
    induction n1_ with
    | zero => intro x1 I5; exact q_none
    | succ n1_ ih1 =>
      intro x1 I5
      rw [f_Wo_copyFrom_L1]
      refine q_iload_n 2 2 46 rfl (by decide +kernel) rfl ?_
      refine q_aload_n 0 0 47 rfl (by decide +kernel) rfl ?_
      refine q_geti (f := 3) 50 rfl (by decide +kernel) (cC_Wo D tc x0 y ad) h0.1 (by decide) rfl tw_1_212 ?_
      refine q_icmp_ge 53 rfl 74 (off := 24) (by decide +kernel) rfl (fun g1 => ?_) (fun g1 => ?_)
      · refine q_sub [0, 1] rfl ?_
        exact hK1 I5
      · refine q_aload_n 0 0 54 rfl (by decide +kernel) rfl ?_
        refine q_getr (f := 2) (a0 + 23) 57 rfl (by decide +kernel) (cC_Wo D tc x0 y ad) h0.1 (by decide) rfl rfl tw_1_211 ?_
        refine q_iload_n 2 2 58 rfl (by decide +kernel) rfl ?_
        refine q_aldc 59 rfl (by decide +kernel) h0.2.2.2.1 rfl (fun j1 hj1 => ?_)
        refine q_aload_n 1 1 60 rfl (by decide +kernel) rfl ?_
        refine q_getr (f := 2) (a1 + 23) 63 rfl (by decide +kernel) (cC_Wo D tc x0 y ad) h1.1 (by decide) rfl rfl tw_1_211 ?_
        refine q_iload_n 2 2 64 rfl (by decide +kernel) rfl ?_
        refine q_aldc 65 rfl (by decide +kernel) h1.2.2.2.1 rfl (fun j2 hj2 => ?_)
        refine q_callV_vI 68 rfl (av := [q_r (cG D tc x0 y ad) ((a1 + 26) + 2 * j2)]) (o := ((a0 + 26) + 2 * j1)) (st := []) (c_Ed_copyFrom X.1 D tc x0 y ad I5 J P (h0.2.2.2.2.2.2 _ hj1) (h1.2.2.2.2.2.2 _ hj2)) yv_Ed_copyFrom tw_5_173 tw_5_174 tw_5_175 (cC_Ed D tc x0 y ad) (h0.2.2.2.2.2.2 _ hj1).1 rfl (Nat.le_of_ble_eq_true rfl) (by decide +kernel) ⟨Nat.le_of_ble_eq_true rfl, Nat.le_of_ble_eq_true rfl⟩ ⟨Nat.le_of_ble_eq_true rfl, Nat.le_of_ble_eq_true rfl⟩ rfl rfl (fun I6 => ?_)
        refine q_iinc (x1 + 1) (c := 1) 2 2 71 rfl [(2, .int (x1 + 1)), (0, q_r (cG D tc x0 y ad) a0), (1, q_r (cG D tc x0 y ad) a1)] (by decide +kernel) rfl rfl (Nat.le_of_ble_eq_true rfl) rfl ?_
        refine q_goto (off := -26) 45 (by decide +kernel) rfl ?_
        refine q_sub [1, 2, 0] rfl ?_
        exact ih1 (x1 + 1) I6
  refine q_sub [1, 2, 0] rfl ?_
  refine hL1 _ (fun I7 => ?_) _ _ _
  refine q_aload_n 1 1 75 rfl (by decide +kernel) rfl ?_
  refine q_getr (f := 5) (a1 + 24) 78 rfl (by decide +kernel) (cC_Wo D tc x0 y ad) h1.1 (by decide) rfl rfl tw_1_216 ?_
  refine q_iconst 0 (c := 0) 79 rfl (by decide +kernel) rfl ?_
  refine q_aload_n 0 0 80 rfl (by decide +kernel) rfl ?_
  refine q_getr (f := 5) (a0 + 24) 83 rfl (by decide +kernel) (cC_Wo D tc x0 y ad) h0.1 (by decide) rfl rfl tw_1_216 ?_
  refine q_iconst 0 (c := 0) 84 rfl (by decide +kernel) rfl ?_
  refine q_iconst 3 (c := 3) 85 rfl (by decide +kernel) rfl ?_
  refine q_acopy (W9 := 8) 88 rfl (by decide +kernel) h1.2.2.2.2.1 h0.2.2.2.2.1 rfl tw_5_179 tw_5_26 tw_5_25 tw_1_22 (by decide) (by decide) (by decide) (Nat.le_of_ble_eq_true rfl) (Nat.le_of_ble_eq_true rfl) (Nat.le_of_ble_eq_true rfl) ?_
  refine q_letI (fun I8 => ?_)
  refine q_aload_n 1 1 89 rfl (by decide +kernel) rfl ?_
  refine q_getr (f := 6) (a1 + 25) 92 rfl (by decide +kernel) (cC_Wo D tc x0 y ad) h1.1 (by decide) rfl rfl tw_1_218 ?_
  refine q_iconst 0 (c := 0) 93 rfl (by decide +kernel) rfl ?_
  refine q_aload_n 0 0 94 rfl (by decide +kernel) rfl ?_
  refine q_getr (f := 6) (a0 + 25) 97 rfl (by decide +kernel) (cC_Wo D tc x0 y ad) h0.1 (by decide) rfl rfl tw_1_218 ?_
  refine q_iconst 0 (c := 0) 98 rfl (by decide +kernel) rfl ?_
  refine q_iconst 3 (c := 3) 99 rfl (by decide +kernel) rfl ?_
  refine q_acopy (W9 := 8) 102 rfl (by decide +kernel) h1.2.2.2.2.2.1 h0.2.2.2.2.2.1 rfl tw_5_179 tw_5_26 tw_5_25 tw_1_22 (by decide) (by decide) (by decide) (Nat.le_of_ble_eq_true rfl) (Nat.le_of_ble_eq_true rfl) (Nat.le_of_ble_eq_true rfl) ?_
  refine q_letI (fun I9 => ?_)
  exact q_vret (by decide +kernel) rfl rfl (Nat.le_of_ble_eq_true rfl) (Nat.le_of_ble_eq_true rfl)
def f_Wo_startFrom_L1 (a0 : Nat) : Nat → Int32 → q_I → Option (q_I)
  | 0, _, _ => none
  | n + 1, x1, I3 => if (3 : Int32) ≤ x1 then (some (I3)) else (q_ix x1 3 (fun j1 => q_l (q_ui I3 (a0 + 24) j1 0) (fun I4 => q_ix x1 3 (fun j2 => q_l (q_ui I4 (a0 + 25) j2 0) (fun I5 => (f_Wo_startFrom_L1 a0 n (x1 + 1) I5))))))
def f_Wo_startFrom (I : q_I) (P : q_P) (a0 : Nat) (a1 : Nat) (n1 : Nat) : Option (q_I) :=
  q_b1 (f_Cal_copyFrom I P (a0 + 9) 12 a1 n1) (fun I1 => q_l (q_ui I1 a0 3 0) (fun I2 => f_Wo_startFrom_L1 a0 q_fu 0 I2))
def y_Wo_startFrom : MethodName := ⟨"CalendarReplicas$World", "startFrom", "(LCalendarReplicas$Calendar;)V"⟩
def m_Wo_startFrom : q_M := (prog_9_method_3_code, 3, "CalendarReplicas$World", { frames := 2, cells := 0, slots := 0, locals := 62 }, (none : Option FieldType))
theorem yv_Wo_startFrom : q_Y y_Wo_startFrom m_Wo_startFrom 1 := ⟨rfl, ⟨by decide, by decide⟩, by decide +kernel, tw_4_81, tw_1_2⟩
set_option maxRecDepth 100000 in
set_option maxHeartbeats 4000000 in
theorem c_Wo_startFrom (l : Launch) (D : va_G) (tc : Nat → ClassId) (x0 y : Nat) (ad : Nat → Nat) (I : q_I) (J : q_J) (P : q_P) {a0 : Nat} {a1 : Nat} {n1 : Nat} (h0 : isWo a0) (h1 : isCal a1 n1) : q_Ct l (cG D tc x0 y ad) y_Wo_startFrom m_Wo_startFrom [q_r (cG D tc x0 y ad) a0, q_r (cG D tc x0 y ad) a1] (I, J, P) (f_Wo_startFrom I P a0 a1 n1) (fun r : q_I => (none, (r, J, P))) := by
  refine q_Ct_of (cIn D tc x0 y ad) (by decide) rfl (Nat.le_of_ble_eq_true rfl) rfl (fun X hX => ?_)
  subst hX
  unfold f_Wo_startFrom
  refine q_aload_n 0 0 1 rfl (by decide +kernel) rfl ?_
  refine q_getr (f := 1) (a0 + 9) 4 rfl (by decide +kernel) (cC_Wo D tc x0 y ad) h0.1 (by decide) rfl rfl tw_1_209 ?_
  refine q_aload_n 1 1 5 rfl (by decide +kernel) rfl ?_
  refine q_callV_vI 8 rfl (av := [q_r (cG D tc x0 y ad) a1]) (o := (a0 + 9)) (st := []) (c_Cal_copyFrom X.1 D tc x0 y ad I J P h0.2.2.1 h1) yv_Cal_copyFrom tw_2_202 tw_2_203 tw_2_204 (cC_Cal D tc x0 y ad) h0.2.2.1.1 rfl (Nat.le_of_ble_eq_true rfl) (by decide +kernel) ⟨Nat.le_of_ble_eq_true rfl, Nat.le_of_ble_eq_true rfl⟩ ⟨Nat.le_of_ble_eq_true rfl, Nat.le_of_ble_eq_true rfl⟩ rfl rfl (fun I1 => ?_)
  refine q_aload_n 0 0 9 rfl (by decide +kernel) rfl ?_
  refine q_iconst 0 (c := 0) 10 rfl (by decide +kernel) rfl ?_
  refine q_puti (f := 3) 13 rfl (by decide +kernel) (cC_Wo D tc x0 y ad) h0.1 (by decide) rfl rfl rfl tw_1_212 ?_
  refine q_letI (fun I2 => ?_)
  refine q_iconst 0 (c := 0) 14 rfl (by decide +kernel) rfl ?_
  refine q_istore_n 2 2 15 rfl [(2, .int 0), (0, q_r (cG D tc x0 y ad) a0), (1, q_r (cG D tc x0 y ad) a1)] (by decide +kernel) rfl (Nat.le_of_ble_eq_true rfl) rfl ?_
  have hL1 : ∀ (n1_ : Nat) (x1 : Int32) (I3 : q_I), q_V (cG D tc x0 y ad) m_Wo_startFrom X (fun r : q_I => (none, (r, J, P))) 0 0 15 [(0, q_r (cG D tc x0 y ad) a0), (2, .int x1)] [] I3 J P (f_Wo_startFrom_L1 a0 n1_ x1 I3) := by
    intro n1_
    induction n1_ with
    | zero => intro x1 I3; exact q_none
    | succ n1_ ih1 =>
      intro x1 I3
      rw [f_Wo_startFrom_L1]
      refine q_iload_n 1 2 16 rfl (by decide +kernel) rfl ?_
      refine q_iconst 3 (c := 3) 17 rfl (by decide +kernel) rfl ?_
      refine q_icmp_ge 20 rfl 40 (off := 23) (by decide +kernel) rfl (fun g1 => ?_) (fun g1 => ?_)
      · exact q_vret (by decide +kernel) rfl rfl (Nat.le_of_ble_eq_true rfl) (Nat.le_of_ble_eq_true rfl)
      · refine q_aload_n 0 0 21 rfl (by decide +kernel) rfl ?_
        refine q_getr (f := 5) (a0 + 24) 24 rfl (by decide +kernel) (cC_Wo D tc x0 y ad) h0.1 (by decide) rfl rfl tw_1_216 ?_
        refine q_iload_n 1 2 25 rfl (by decide +kernel) rfl ?_
        refine q_iconst 0 (c := 0) 26 rfl (by decide +kernel) rfl ?_
        refine q_iast (t := 0) 27 rfl (by decide +kernel) h0.2.2.2.2.1 rfl (fun j1 hj1 => ?_)
        refine q_letI (fun I4 => ?_)
        refine q_aload_n 0 0 28 rfl (by decide +kernel) rfl ?_
        refine q_getr (f := 6) (a0 + 25) 31 rfl (by decide +kernel) (cC_Wo D tc x0 y ad) h0.1 (by decide) rfl rfl tw_1_218 ?_
        refine q_iload_n 1 2 32 rfl (by decide +kernel) rfl ?_
        refine q_iconst 0 (c := 0) 33 rfl (by decide +kernel) rfl ?_
        refine q_iast (t := 0) 34 rfl (by decide +kernel) h0.2.2.2.2.2.1 rfl (fun j2 hj2 => ?_)
        refine q_letI (fun I5 => ?_)
        refine q_iinc (x1 + 1) (c := 1) 2 1 37 rfl [(2, .int (x1 + 1)), (0, q_r (cG D tc x0 y ad) a0)] (by decide +kernel) rfl rfl (Nat.le_of_ble_eq_true rfl) rfl ?_
        refine q_goto (off := -22) 15 (by decide +kernel) rfl ?_
        refine q_sub [1, 0] rfl ?_
        exact ih1 (x1 + 1) I5
  refine q_sub [1, 0] rfl ?_
  exact hL1 _ _ _
def f_Wo_isBlank (I : q_I) (a0 : Nat) : Option (Int32) :=
  if (I (a0 + 9) 1) = 0 then (if (I a0 3) = 0 then (some (1)) else (some (0))) else (some (0))
def y_Wo_isBlank : MethodName := ⟨"CalendarReplicas$World", "isBlank", "()Z"⟩
def m_Wo_isBlank : q_M := (prog_9_method_4_code, 1, "CalendarReplicas$World", { frames := 0, cells := 0, slots := 0, locals := 0 }, (some FieldType.boolean))
theorem yv_Wo_isBlank : q_Y y_Wo_isBlank m_Wo_isBlank 0 := ⟨rfl, ⟨by decide, by decide⟩, by decide +kernel, tw_2_143, tw_1_2⟩
set_option maxRecDepth 100000 in
set_option maxHeartbeats 4000000 in
theorem c_Wo_isBlank (l : Launch) (D : va_G) (tc : Nat → ClassId) (x0 y : Nat) (ad : Nat → Nat) (I : q_I) (J : q_J) (P : q_P) {a0 : Nat} (h0 : isWo a0) : q_Ct l (cG D tc x0 y ad) y_Wo_isBlank m_Wo_isBlank [q_r (cG D tc x0 y ad) a0] (I, J, P) (f_Wo_isBlank I a0) (fun r : Int32 => (some (.int r), (I, J, P))) := by
  refine q_Ct_of (cIn D tc x0 y ad) (by decide) rfl (Nat.le_of_ble_eq_true rfl) rfl (fun X hX => ?_)
  subst hX
  unfold f_Wo_isBlank
  refine q_aload_n 0 0 1 rfl (by decide +kernel) rfl ?_
  refine q_getr (f := 1) (a0 + 9) 4 rfl (by decide +kernel) (cC_Wo D tc x0 y ad) h0.1 (by decide) rfl rfl tw_1_209 ?_
  refine q_geti (f := 1) 7 rfl (by decide +kernel) (cC_Cal D tc x0 y ad) h0.2.2.1.1 (by decide) rfl tw_1_148 ?_
  refine q_if_ne 10 rfl 21 (off := 14) (by decide +kernel) rfl (fun g2 => ?_) (fun g2 => ?_)
  · refine q_iconst 0 (c := 0) 22 rfl (by decide +kernel) rfl ?_
    exact q_zret (w := 0) (by decide +kernel) rfl rfl rfl (Nat.le_of_ble_eq_true rfl) (Nat.le_of_ble_eq_true rfl)
  · refine q_aload_n 0 0 11 rfl (by decide +kernel) rfl ?_
    refine q_geti (f := 3) 14 rfl (by decide +kernel) (cC_Wo D tc x0 y ad) h0.1 (by decide) rfl tw_1_212 ?_
    refine q_if_ne 17 rfl 21 (off := 7) (by decide +kernel) rfl (fun g1 => ?_) (fun g1 => ?_)
    · refine q_iconst 0 (c := 0) 22 rfl (by decide +kernel) rfl ?_
      exact q_zret (w := 0) (by decide +kernel) rfl rfl rfl (Nat.le_of_ble_eq_true rfl) (Nat.le_of_ble_eq_true rfl)
    · refine q_iconst 1 (c := 1) 18 rfl (by decide +kernel) rfl ?_
      refine q_goto (off := 4) 22 (by decide +kernel) rfl ?_
      exact q_zret (w := 1) (by decide +kernel) rfl rfl rfl (Nat.le_of_ble_eq_true rfl) (Nat.le_of_ble_eq_true rfl)
