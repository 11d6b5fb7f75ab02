def f_Me_fill (I : q_I) (a0 : Nat) (a1 : Int32) (a2 : Int32) (a3 : Int32) (a4 : Int32) (a5 : Int32) (a6 : Int32) : Option (q_I) :=
  q_l (q_ui I a0 1 a1) (fun I1 => q_l (q_ui I1 a0 2 a2) (fun I2 => q_l (q_ui I2 a0 3 a3) (fun I3 => q_l (q_ui I3 a0 4 a4) (fun I4 => q_l (q_ui I4 a0 5 a5) (fun I5 => q_l (q_ui I5 a0 6 a6) (fun I6 => some (I6)))))))
def y_Me_fill : MethodName := ⟨"CalendarReplicas$Meeting", "fill", "(IIIIII)V"⟩
def m_Me_fill : q_M := (prog_5_method_2_code, 7, "CalendarReplicas$Meeting", { frames := 0, cells := 0, slots := 0, locals := 0 }, (none : Option FieldType))
theorem yv_Me_fill : q_Y y_Me_fill m_Me_fill 6 := ⟨rfl, ⟨by decide, by decide⟩, by decide +kernel, tw_3_70, tw_1_6⟩
set_option maxRecDepth 100000 in
set_option maxHeartbeats 4000000 in
theorem c_Me_fill (l : Launch) (D : va_G) (tc : Nat → ClassId) (x0 y : Nat) (ad : Nat → Nat) (I : q_I) (J : q_J) (P : q_P) {a0 : Nat} (h0 : isMe a0) (a1 : Int32) (a2 : Int32) (a3 : Int32) (a4 : Int32) (a5 : Int32) (a6 : Int32) : q_Ct l (cG D tc x0 y ad) y_Me_fill m_Me_fill [q_r (cG D tc x0 y ad) a0, .int a1, .int a2, .int a3, .int a4, .int a5, .int a6] (I, J, P) (f_Me_fill I a0 a1 a2 a3 a4 a5 a6) (fun r : q_I => (none, (r, J, P))) := by
  refine q_Ct_of (cIn D tc x0 y ad) (by decide) rfl (Nat.le_of_ble_eq_true rfl) rfl (fun X hX => ?_)
  subst hX
  unfold f_Me_fill
  refine q_aload_n 0 0 1 rfl (by decide +kernel) rfl ?_
  refine q_iload_n 1 1 2 rfl (by decide +kernel) rfl ?_
  refine q_puti (f := 1) 5 rfl (by decide +kernel) (cC_Me D tc x0 y ad) h0 (by decide) rfl rfl rfl tw_1_98 ?_
  refine q_letI (fun I1 => ?_)
  refine q_aload_n 0 0 6 rfl (by decide +kernel) rfl ?_
  refine q_iload_n 2 2 7 rfl (by decide +kernel) rfl ?_
  refine q_puti (f := 2) 10 rfl (by decide +kernel) (cC_Me D tc x0 y ad) h0 (by decide) rfl rfl rfl tw_1_105 ?_
  refine q_letI (fun I2 => ?_)
  refine q_aload_n 0 0 11 rfl (by decide +kernel) rfl ?_
  refine q_iload_n 3 3 12 rfl (by decide +kernel) rfl ?_
  refine q_puti (f := 3) 15 rfl (by decide +kernel) (cC_Me D tc x0 y ad) h0 (by decide) rfl rfl rfl tw_1_111 ?_
  refine q_letI (fun I3 => ?_)
  refine q_aload_n 0 0 16 rfl (by decide +kernel) rfl ?_
  refine q_iload 4 4 18 rfl (by decide +kernel) rfl ?_
  refine q_puti (f := 4) 21 rfl (by decide +kernel) (cC_Me D tc x0 y ad) h0 (by decide) rfl rfl rfl tw_1_116 ?_
  refine q_letI (fun I4 => ?_)
  refine q_aload_n 0 0 22 rfl (by decide +kernel) rfl ?_
  refine q_iload 5 5 24 rfl (by decide +kernel) rfl ?_
  refine q_puti (f := 5) 27 rfl (by decide +kernel) (cC_Me D tc x0 y ad) h0 (by decide) rfl rfl rfl tw_1_121 ?_
  refine q_letI (fun I5 => ?_)
  refine q_aload_n 0 0 28 rfl (by decide +kernel) rfl ?_
  refine q_iload 6 6 30 rfl (by decide +kernel) rfl ?_
  refine q_puti (f := 6) 33 rfl (by decide +kernel) (cC_Me D tc x0 y ad) h0 (by decide) rfl rfl rfl tw_1_126 ?_
  refine q_letI (fun I6 => ?_)
  exact q_vret (by decide +kernel) rfl rfl (Nat.le_of_ble_eq_true rfl) (Nat.le_of_ble_eq_true rfl)
def f_Me_copyFrom (I : q_I) (a0 : Nat) (a1 : Nat) : Option (q_I) :=
  q_l (q_ui I a0 0 (I a1 0)) (fun I1 => q_l (q_ui I1 a0 1 (I1 a1 1)) (fun I2 => q_l (q_ui I2 a0 2 (I2 a1 2)) (fun I3 => q_l (q_ui I3 a0 3 (I3 a1 3)) (fun I4 => q_l (q_ui I4 a0 4 (I4 a1 4)) (fun I5 => q_l (q_ui I5 a0 5 (I5 a1 5)) (fun I6 => q_l (q_ui I6 a0 6 (I6 a1 6)) (fun I7 => some (I7))))))))
def y_Me_copyFrom : MethodName := ⟨"CalendarReplicas$Meeting", "copyFrom", "(LCalendarReplicas$Meeting;)V"⟩
def m_Me_copyFrom : q_M := (prog_5_method_3_code, 2, "CalendarReplicas$Meeting", { frames := 0, cells := 0, slots := 0, locals := 0 }, (none : Option FieldType))
theorem yv_Me_copyFrom : q_Y y_Me_copyFrom m_Me_copyFrom 1 := ⟨rfl, ⟨by decide, by decide⟩, by decide +kernel, tw_2_212, tw_1_6⟩
set_option maxRecDepth 100000 in
set_option maxHeartbeats 4000000 in
theorem c_Me_copyFrom (l : Launch) (D : va_G) (tc : Nat → ClassId) (x0 y : Nat) (ad : Nat → Nat) (I : q_I) (J : q_J) (P : q_P) {a0 : Nat} {a1 : Nat} (h0 : isMe a0) (h1 : isMe a1) : q_Ct l (cG D tc x0 y ad) y_Me_copyFrom m_Me_copyFrom [q_r (cG D tc x0 y ad) a0, q_r (cG D tc x0 y ad) a1] (I, J, P) (f_Me_copyFrom I a0 a1) (fun r : q_I => (none, (r, J, P))) := by
  refine q_Ct_of (cIn D tc x0 y ad) (by decide) rfl (Nat.le_of_ble_eq_true rfl) rfl (fun X hX => ?_)
  subst hX
  unfold f_Me_copyFrom
  refine q_aload_n 0 0 1 rfl (by decide +kernel) rfl ?_
  refine q_aload_n 1 1 2 rfl (by decide +kernel) rfl ?_
  refine q_geti (f := 0) 5 rfl (by decide +kernel) (cC_Me D tc x0 y ad) h1 (by decide) rfl tw_1_95 ?_
  refine q_puti (f := 0) 8 rfl (by decide +kernel) (cC_Me D tc x0 y ad) h0 (by decide) rfl rfl rfl tw_1_95 ?_
  refine q_letI (fun I1 => ?_)
  refine q_aload_n 0 0 9 rfl (by decide +kernel) rfl ?_
  refine q_aload_n 1 1 10 rfl (by decide +kernel) rfl ?_
  refine q_geti (f := 1) 13 rfl (by decide +kernel) (cC_Me D tc x0 y ad) h1 (by decide) rfl tw_1_98 ?_
  refine q_puti (f := 1) 16 rfl (by decide +kernel) (cC_Me D tc x0 y ad) h0 (by decide) rfl rfl rfl tw_1_98 ?_
  refine q_letI (fun I2 => ?_)
  refine q_aload_n 0 0 17 rfl (by decide +kernel) rfl ?_
  refine q_aload_n 1 1 18 rfl (by decide +kernel) rfl ?_
  refine q_geti (f := 2) 21 rfl (by decide +kernel) (cC_Me D tc x0 y ad) h1 (by decide) rfl tw_1_105 ?_
  refine q_puti (f := 2) 24 rfl (by decide +kernel) (cC_Me D tc x0 y ad) h0 (by decide) rfl rfl rfl tw_1_105 ?_
  refine q_letI (fun I3 => ?_)
  refine q_aload_n 0 0 25 rfl (by decide +kernel) rfl ?_
  refine q_aload_n 1 1 26 rfl (by decide +kernel) rfl ?_
  refine q_geti (f := 3) 29 rfl (by decide +kernel) (cC_Me D tc x0 y ad) h1 (by decide) rfl tw_1_111 ?_
  refine q_puti (f := 3) 32 rfl (by decide +kernel) (cC_Me D tc x0 y ad) h0 (by decide) rfl rfl rfl tw_1_111 ?_
  refine q_letI (fun I4 => ?_)
  refine q_aload_n 0 0 33 rfl (by decide +kernel) rfl ?_
  refine q_aload_n 1 1 34 rfl (by decide +kernel) rfl ?_
  refine q_geti (f := 4) 37 rfl (by decide +kernel) (cC_Me D tc x0 y ad) h1 (by decide) rfl tw_1_116 ?_
  refine q_puti (f := 4) 40 rfl (by decide +kernel) (cC_Me D tc x0 y ad) h0 (by decide) rfl rfl rfl tw_1_116 ?_
  refine q_letI (fun I5 => ?_)
  refine q_aload_n 0 0 41 rfl (by decide +kernel) rfl ?_
  refine q_aload_n 1 1 42 rfl (by decide +kernel) rfl ?_
  refine q_geti (f := 5) 45 rfl (by decide +kernel) (cC_Me D tc x0 y ad) h1 (by decide) rfl tw_1_121 ?_
  refine q_puti (f := 5) 48 rfl (by decide +kernel) (cC_Me D tc x0 y ad) h0 (by decide) rfl rfl rfl tw_1_121 ?_
  refine q_letI (fun I6 => ?_)
  refine q_aload_n 0 0 49 rfl (by decide +kernel) rfl ?_
  refine q_aload_n 1 1 50 rfl (by decide +kernel) rfl ?_
  refine q_geti (f := 6) 53 rfl (by decide +kernel) (cC_Me D tc x0 y ad) h1 (by decide) rfl tw_1_126 ?_
  refine q_puti (f := 6) 56 rfl (by decide +kernel) (cC_Me D tc x0 y ad) h0 (by decide) rfl rfl rfl tw_1_126 ?_
  refine q_letI (fun I7 => ?_)
  exact q_vret (by decide +kernel) rfl rfl (Nat.le_of_ble_eq_true rfl) (Nat.le_of_ble_eq_true rfl)
def f_Me_end (I : q_I) (a0 : Nat) : Option (Int32) :=
  some ((((I a0 1) + (((I a0 6) - 1) * (I a0 5))) + (I a0 2)))
def y_Me_end : MethodName := ⟨"CalendarReplicas$Meeting", "end", "()I"⟩
def m_Me_end : q_M := (prog_5_method_4_code, 1, "CalendarReplicas$Meeting", { frames := 0, cells := 0, slots := 0, locals := 0 }, (some FieldType.int))
theorem yv_Me_end : q_Y y_Me_end m_Me_end 0 := ⟨rfl, ⟨by decide, by decide⟩, by decide +kernel, tw_2_163, tw_1_6⟩
set_option maxRecDepth 100000 in
set_option maxHeartbeats 4000000 in
theorem c_Me_end (l : Launch) (D : va_G) (tc : Nat → ClassId) (x0 y : Nat) (ad : Nat → Nat) (I : q_I) (J : q_J) (P : q_P) {a0 : Nat} (h0 : isMe a0) : q_Ct l (cG D tc x0 y ad) y_Me_end m_Me_end [q_r (cG D tc x0 y ad) a0] (I, J, P) (f_Me_end I a0) (fun r : Int32 => (some (.int r), (I, J, P))) := by
  refine q_Ct_of (cIn D tc x0 y ad) (by decide) rfl (Nat.le_of_ble_eq_true rfl) rfl (fun X hX => ?_)
  subst hX
  unfold f_Me_end
  refine q_aload_n 0 0 1 rfl (by decide +kernel) rfl ?_
  refine q_geti (f := 1) 4 rfl (by decide +kernel) (cC_Me D tc x0 y ad) h0 (by decide) rfl tw_1_98 ?_
  refine q_aload_n 0 0 5 rfl (by decide +kernel) rfl ?_
  refine q_geti (f := 6) 8 rfl (by decide +kernel) (cC_Me D tc x0 y ad) h0 (by decide) rfl tw_1_126 ?_
  refine q_iconst 1 (c := 1) 9 rfl (by decide +kernel) rfl ?_
  refine q_isub 10 rfl (by decide +kernel) ?_
  refine q_aload_n 0 0 11 rfl (by decide +kernel) rfl ?_
  refine q_geti (f := 5) 14 rfl (by decide +kernel) (cC_Me D tc x0 y ad) h0 (by decide) rfl tw_1_121 ?_
  refine q_imul 15 rfl (by decide +kernel) ?_
  refine q_iadd 16 rfl (by decide +kernel) ?_
  refine q_aload_n 0 0 17 rfl (by decide +kernel) rfl ?_
  refine q_geti (f := 2) 20 rfl (by decide +kernel) (cC_Me D tc x0 y ad) h0 (by decide) rfl tw_1_105 ?_
  refine q_iadd 21 rfl (by decide +kernel) ?_
  exact q_iret (by decide +kernel) rfl rfl (Nat.le_of_ble_eq_true rfl) (Nat.le_of_ble_eq_true rfl)
def f_Me_rows (I : q_I) (a0 : Nat) : Option (Int32) :=
  some (((1 <<< ((I a0 3) &&& 31)) ||| ((I a0 4) <<< (4 &&& 31))))
def y_Me_rows : MethodName := ⟨"CalendarReplicas$Meeting", "rows", "()I"⟩
def m_Me_rows : q_M := (prog_5_method_5_code, 1, "CalendarReplicas$Meeting", { frames := 0, cells := 0, slots := 0, locals := 0 }, (some FieldType.int))
theorem yv_Me_rows : q_Y y_Me_rows m_Me_rows 0 := ⟨rfl, ⟨by decide, by decide⟩, by decide +kernel, tw_3_25, tw_1_6⟩
set_option maxRecDepth 100000 in
set_option maxHeartbeats 4000000 in
theorem c_Me_rows (l : Launch) (D : va_G) (tc : Nat → ClassId) (x0 y : Nat) (ad : Nat → Nat) (I : q_I) (J : q_J) (P : q_P) {a0 : Nat} (h0 : isMe a0) : q_Ct l (cG D tc x0 y ad) y_Me_rows m_Me_rows [q_r (cG D tc x0 y ad) a0] (I, J, P) (f_Me_rows I a0) (fun r : Int32 => (some (.int r), (I, J, P))) := by
  refine q_Ct_of (cIn D tc x0 y ad) (by decide) rfl (Nat.le_of_ble_eq_true rfl) rfl (fun X hX => ?_)
  subst hX
  unfold f_Me_rows
  refine q_iconst 1 (c := 1) 1 rfl (by decide +kernel) rfl ?_
  refine q_aload_n 0 0 2 rfl (by decide +kernel) rfl ?_
  refine q_geti (f := 3) 5 rfl (by decide +kernel) (cC_Me D tc x0 y ad) h0 (by decide) rfl tw_1_111 ?_
  refine q_ishl 6 rfl (by decide +kernel) ?_
  refine q_aload_n 0 0 7 rfl (by decide +kernel) rfl ?_
  refine q_geti (f := 4) 10 rfl (by decide +kernel) (cC_Me D tc x0 y ad) h0 (by decide) rfl tw_1_116 ?_
  refine q_iconst 4 (c := 4) 11 rfl (by decide +kernel) rfl ?_
  refine q_ishl 12 rfl (by decide +kernel) ?_
  refine q_ior 13 rfl (by decide +kernel) ?_
  exact q_iret (by decide +kernel) rfl rfl (Nat.le_of_ble_eq_true rfl) (Nat.le_of_ble_eq_true rfl)
def f_Cal_row (I : q_I) (P : q_P) (a0 : Nat) (n0 : Nat) (a1 : Int32) : Option (Option Nat) :=
  if a1 < 0 then (some ((none : Option Nat))) else (if (I a0 1) ≤ a1 then (some ((none : Option Nat))) else (if (nI n0) ≤ a1 then (some ((none : Option Nat))) else (q_ix a1 n0 (fun j1 => some ((some ((a0 + 2) + P (a0 + 1) j1) : Option Nat))))))
def y_Cal_row : MethodName := ⟨"CalendarReplicas$Calenda\x72", "row", "(I)LCalendarReplicas$Meeting;"⟩
def m_Cal_row : q_M := (prog_2_method_2_code, 2, "CalendarReplicas$Calenda\x72", { frames := 0, cells := 0, slots := 0, locals := 0 }, (Option.some (FieldType.object "CalendarReplicas$Meeting")))
theorem yv_Cal_row : q_Y y_Cal_row m_Cal_row 1 := ⟨rfl, ⟨by decide, by decide⟩, by decide +kernel, tw_3_5, tw_1_4⟩
set_option maxRecDepth 100000 in
set_option maxHeartbeats 4000000 in
theorem c_Cal_row (l : Launch) (D : va_G) (tc : Nat → ClassId) (x0 y : Nat) (ad : Nat → Nat) (I : q_I) (J : q_J) (P : q_P) {a0 : Nat} {n0 : Nat} (h0 : isCal a0 n0) (a1 : Int32) : q_Ct l (cG D tc x0 y ad) y_Cal_row m_Cal_row [q_r (cG D tc x0 y ad) a0, .int a1] (I, J, P) (f_Cal_row I P a0 n0 a1) (fun r : Option Nat => (some (q_rn (cG D tc x0 y ad) r), (I, J, P))) := by
  refine q_Ct_of (cIn D tc x0 y ad) (by decide) rfl (Nat.le_of_ble_eq_true rfl) rfl (fun X hX => ?_)
  subst hX
  unfold f_Cal_row
  refine q_iload_n 1 1 1 rfl (by decide +kernel) rfl ?_
  refine q_if_lt 4 rfl 30 (off := 29) (by decide +kernel) rfl (fun g3 => ?_) (fun g3 => ?_)
  · refine q_null 31 rfl (by decide +kernel) ?_
    exact q_aret (x := none) (by decide +kernel) rfl rfl (Nat.le_of_ble_eq_true rfl) (Nat.le_of_ble_eq_true rfl)
  · refine q_iload_n 1 1 5 rfl (by decide +kernel) rfl ?_
    refine q_aload_n 0 0 6 rfl (by decide +kernel) rfl ?_
    refine q_geti (f := 1) 9 rfl (by decide +kernel) (cC_Cal D tc x0 y ad) h0.1 (by decide) rfl tw_1_147 ?_
    refine q_icmp_ge 12 rfl 30 (off := 21) (by decide +kernel) rfl (fun g2 => ?_) (fun g2 => ?_)
    · refine q_null 31 rfl (by decide +kernel) ?_
      exact q_aret (x := none) (by decide +kernel) rfl rfl (Nat.le_of_ble_eq_true rfl) (Nat.le_of_ble_eq_true rfl)
    · refine q_iload_n 1 1 13 rfl (by decide +kernel) rfl ?_
      refine q_aload_n 0 0 14 rfl (by decide +kernel) rfl ?_
      refine q_getr (f := 0) (a0 + 1) 17 rfl (by decide +kernel) (cC_Cal D tc x0 y ad) h0.1 (by decide) rfl rfl tw_1_146 ?_
      refine q_alen (nI n0) 18 rfl (by decide +kernel) h0.2.1 (by simp) rfl rfl ?_
      refine q_icmp_ge 21 rfl 30 (off := 12) (by decide +kernel) rfl (fun g1 => ?_) (fun g1 => ?_)
      · refine q_null 31 rfl (by decide +kernel) ?_
        exact q_aret (x := none) (by decide +kernel) rfl rfl (Nat.le_of_ble_eq_true rfl) (Nat.le_of_ble_eq_true rfl)
      · refine q_aload_n 0 0 22 rfl (by decide +kernel) rfl ?_
        refine q_getr (f := 0) (a0 + 1) 25 rfl (by decide +kernel) (cC_Cal D tc x0 y ad) h0.1 (by decide) rfl rfl tw_1_146 ?_
        refine q_iload_n 1 1 26 rfl (by decide +kernel) rfl ?_
        refine q_aldp 27 rfl (by decide +kernel) h0.2.1 rfl (fun j1 hj1 hPj1 => ?_)
        refine q_goto (off := 4) 31 (by decide +kernel) rfl ?_
        exact q_aret (x := some ((a0 + 2) + P (a0 + 1) j1)) (by decide +kernel) rfl rfl (Nat.le_of_ble_eq_true rfl) (Nat.le_of_ble_eq_true rfl)
def f_Cal_find_L1 (I : q_I) (P : q_P) (a0 : Nat) (n0 : Nat) (a1 : Int32) (K : Int32 → Option (Option Nat)) : Nat → Int32 → Option (Option Nat)
  | 0, _ => none
  | n + 1, x1 => if (I a0 1) ≤ x1 then (some ((none : Option Nat))) else (if (nI n0) ≤ x1 then (some ((none : Option Nat))) else (q_ix x1 n0 (fun j1 => if (I ((a0 + 2) + P (a0 + 1) j1) 0) = a1 then ((K x1)) else ((f_Cal_find_L1 I P a0 n0 a1 K n (x1 + 1))))))
def f_Cal_find (I : q_I) (P : q_P) (a0 : Nat) (n0 : Nat) (a1 : Int32) : Option (Option Nat) :=
  f_Cal_find_L1 I P a0 n0 a1 (fun (x2 : Int32) => q_ix x2 n0 (fun j2 => some ((some ((a0 + 2) + P (a0 + 1) j2) : Option Nat)))) q_fu 0
def y_Cal_find : MethodName := ⟨"CalendarReplicas$Calenda\x72", "find", "(I)LCalendarReplicas$Meeting;"⟩
def m_Cal_find : q_M := (prog_2_method_3_code, 3, "CalendarReplicas$Calenda\x72", { frames := 0, cells := 0, slots := 0, locals := 0 }, (Option.some (FieldType.object "CalendarReplicas$Meeting")))
theorem yv_Cal_find : q_Y y_Cal_find m_Cal_find 1 := ⟨rfl, ⟨by decide, by decide⟩, by decide +kernel, tw_2_159, tw_1_4⟩
set_option maxRecDepth 100000 in
set_option maxHeartbeats 4000000 in
theorem c_Cal_find (l : Launch) (D : va_G) (tc : Nat → ClassId) (x0 y : Nat) (ad : Nat → Nat) (I : q_I) (J : q_J) (P : q_P) {a0 : Nat} {n0 : Nat} (h0 : isCal a0 n0) (a1 : Int32) : q_Ct l (cG D tc x0 y ad) y_Cal_find m_Cal_find [q_r (cG D tc x0 y ad) a0, .int a1] (I, J, P) (f_Cal_find I P a0 n0 a1) (fun r : Option Nat => (some (q_rn (cG D tc x0 y ad) r), (I, J, P))) := by
  refine q_Ct_of (cIn D tc x0 y ad) (by decide) rfl (Nat.le_of_ble_eq_true rfl) rfl (fun X hX => ?_)
  subst hX
  unfold f_Cal_find
  refine q_iconst 0 (c := 0) 1 rfl (by decide +kernel) rfl ?_
  refine q_istore_n 2 2 2 rfl [(2, .int 0), (0, q_r (cG D tc x0 y ad) a0), (1, .int a1)] (by decide +kernel) rfl (Nat.le_of_ble_eq_true rfl) rfl ?_
  have hL1 : ∀ (K1 : Int32 → Option (Option Nat)) (hK1 : ∀ (x2 : Int32), q_V (cG D tc x0 y ad) m_Cal_find X (fun r : Option Nat => (some (q_rn (cG D tc x0 y ad) r), (I, J, P))) 0 0 32 [(0, q_r (cG D tc x0 y ad) a0), (2, .int x2)] [] I J P (K1 x2)) (n1_ : Nat) (x1 : Int32), q_V (cG D tc x0 y ad) m_Cal_find X (fun r : Option Nat => (some (q_rn (cG D tc x0 y ad) r), (I, J, P))) 0 0 2 [(0, q_r (cG D tc x0 y ad) a0), (1, .int a1), (2, .int x1)] [] I J P (f_Cal_find_L1 I P a0 n0 a1 K1 n1_ x1) := by
    intro K1 hK1 n1_
    induction n1_ with
    | zero => intro x1; exact q_none
    | succ n1_ ih1 =>
      intro x1
      rw [f_Cal_find_L1]
      refine q_iload_n 2 2 3 rfl (by decide +kernel) rfl ?_
      refine q_aload_n 0 0 4 rfl (by decide +kernel) rfl ?_
      refine q_geti (f := 1) 7 rfl (by decide +kernel) (cC_Cal D tc x0 y ad) h0.1 (by decide) rfl tw_1_147 ?_
      refine q_icmp_ge 10 rfl 45 (off := 38) (by decide +kernel) rfl (fun g3 => ?_) (fun g3 => ?_)
      · refine q_null 46 rfl (by decide +kernel) ?_
        exact q_aret (x := none) (by decide +kernel) rfl rfl (Nat.le_of_ble_eq_true rfl) (Nat.le_of_ble_eq_true rfl)
      · refine q_iload_n 2 2 11 rfl (by decide +kernel) rfl ?_
        refine q_aload_n 0 0 12 rfl (by decide +kernel) rfl ?_
        refine q_getr (f := 0) (a0 + 1) 15 rfl (by decide +kernel) (cC_Cal D tc x0 y ad) h0.1 (by decide) rfl rfl tw_1_146 ?_
        refine q_alen (nI n0) 16 rfl (by decide +kernel) h0.2.1 (by simp) rfl rfl ?_
        refine q_icmp_ge 19 rfl 45 (off := 29) (by decide +kernel) rfl (fun g2 => ?_) (fun g2 => ?_)
        · refine q_null 46 rfl (by decide +kernel) ?_
          exact q_aret (x := none) (by decide +kernel) rfl rfl (Nat.le_of_ble_eq_true rfl) (Nat.le_of_ble_eq_true rfl)
        · refine q_aload_n 0 0 20 rfl (by decide +kernel) rfl ?_
          refine q_getr (f := 0) (a0 + 1) 23 rfl (by decide +kernel) (cC_Cal D tc x0 y ad) h0.1 (by decide) rfl rfl tw_1_146 ?_
          refine q_iload_n 2 2 24 rfl (by decide +kernel) rfl ?_
          refine q_aldp 25 rfl (by decide +kernel) h0.2.1 rfl (fun j1 hj1 hPj1 => ?_)
          refine q_geti (f := 0) 28 rfl (by decide +kernel) (cC_Me D tc x0 y ad) (h0.2.2 _ hPj1) (by decide) rfl tw_1_96 ?_
          refine q_iload_n 1 1 29 rfl (by decide +kernel) rfl ?_
          refine q_icmp_ne 32 rfl 39 (off := 10) (by decide +kernel) rfl (fun g1 => ?_) (fun g1 => ?_)
          · refine q_iinc (x1 + 1) (c := 1) 2 2 42 rfl [(2, .int (x1 + 1)), (0, q_r (cG D tc x0 y ad) a0), (1, .int a1)] (by decide +kernel) rfl rfl (Nat.le_of_ble_eq_true rfl) rfl ?_
            refine q_goto (off := -40) 2 (by decide +kernel) rfl ?_
            refine q_sub [1, 2, 0] rfl ?_
            exact ih1 (x1 + 1)
          · refine q_sub [0, 2] rfl ?_
            exact hK1 x1
  refine q_sub [1, 2, 0] rfl ?_
  refine hL1 _ (fun x2 => ?_) _ _
  refine q_aload_n 0 0 33 rfl (by decide +kernel) rfl ?_
  refine q_getr (f := 0) (a0 + 1) 36 rfl (by decide +kernel) (cC_Cal D tc x0 y ad) h0.1 (by decide) rfl rfl tw_1_146 ?_
  refine q_iload_n 1 2 37 rfl (by decide +kernel) rfl ?_
  refine q_aldp 38 rfl (by decide +kernel) h0.2.1 rfl (fun j2 hj2 hPj2 => ?_)
  exact q_aret (x := some ((a0 + 2) + P (a0 + 1) j2)) (by decide +kernel) rfl rfl (Nat.le_of_ble_eq_true rfl) (Nat.le_of_ble_eq_true rfl)
def f_Cal_put (I : q_I) (P : q_P) (a0 : Nat) (n0 : Nat) (a1 : Nat) : Option (q_I) :=
  if (nI n0) ≤ (I a0 1) then (some (I)) else (q_ix (I a0 1) n0 (fun j1 => q_b1 (f_Me_copyFrom I ((a0 + 2) + P (a0 + 1) j1) a1) (fun I1 => q_l (q_ui I1 a0 1 ((I1 a0 1) + 1)) (fun I2 => some (I2)))))
def y_Cal_put : MethodName := ⟨"CalendarReplicas$Calenda\x72", "put", "(LCalendarReplicas$Meeting;)V"⟩
def m_Cal_put : q_M := (prog_2_method_4_code, 2, "CalendarReplicas$Calenda\x72", { frames := 1, cells := 0, slots := 0, locals := 21 }, (none : Option FieldType))
theorem yv_Cal_put : q_Y y_Cal_put m_Cal_put 1 := ⟨rfl, ⟨by decide, by decide⟩, by decide +kernel, tw_2_216, tw_1_4⟩
set_option maxRecDepth 100000 in
set_option maxHeartbeats 4000000 in
theorem c_Cal_put (l : Launch) (D : va_G) (tc : Nat → ClassId) (x0 y : Nat) (ad : Nat → Nat) (I : q_I) (J : q_J) (P : q_P) {a0 : Nat} {n0 : Nat} {a1 : Nat} (h0 : isCal a0 n0) (h1 : isMe a1) : q_Ct l (cG D tc x0 y ad) y_Cal_put m_Cal_put [q_r (cG D tc x0 y ad) a0, q_r (cG D tc x0 y ad) a1] (I, J, P) (f_Cal_put I P a0 n0 a1) (fun r : q_I => (none, (r, J, P))) := by
  refine q_Ct_of (cIn D tc x0 y ad) (by decide) rfl (Nat.le_of_ble_eq_true rfl) rfl (fun X hX => ?_)
  subst hX
  unfold f_Cal_put
  refine q_aload_n 0 0 1 rfl (by decide +kernel) rfl ?_
  refine q_geti (f := 1) 4 rfl (by decide +kernel) (cC_Cal D tc x0 y ad) h0.1 (by decide) rfl tw_1_147 ?_
  refine q_aload_n 0 0 5 rfl (by decide +kernel) rfl ?_
  refine q_getr (f := 0) (a0 + 1) 8 rfl (by decide +kernel) (cC_Cal D tc x0 y ad) h0.1 (by decide) rfl rfl tw_1_146 ?_
  refine q_alen (nI n0) 9 rfl (by decide +kernel) h0.2.1 (by simp) rfl rfl ?_
  refine q_icmp_ge 12 rfl 35 (off := 26) (by decide +kernel) rfl (fun g1 => ?_) (fun g1 => ?_)
  · exact q_vret (by decide +kernel) rfl rfl (Nat.le_of_ble_eq_true rfl) (Nat.le_of_ble_eq_true rfl)
  · refine q_aload_n 0 0 13 rfl (by decide +kernel) rfl ?_
    refine q_getr (f := 0) (a0 + 1) 16 rfl (by decide +kernel) (cC_Cal D tc x0 y ad) h0.1 (by decide) rfl rfl tw_1_146 ?_
    refine q_aload_n 0 0 17 rfl (by decide +kernel) rfl ?_
    refine q_geti (f := 1) 20 rfl (by decide +kernel) (cC_Cal D tc x0 y ad) h0.1 (by decide) rfl tw_1_147 ?_
    refine q_aldp 21 rfl (by decide +kernel) h0.2.1 rfl (fun j1 hj1 hPj1 => ?_)
    refine q_aload_n 1 1 22 rfl (by decide +kernel) rfl ?_
    refine q_callV_vI 25 rfl (av := [q_r (cG D tc x0 y ad) a1]) (o := ((a0 + 2) + P (a0 + 1) j1)) (st := []) (c_Me_copyFrom X.1 D tc x0 y ad I J P (h0.2.2 _ hPj1) h1) yv_Me_copyFrom tw_2_209 tw_2_210 tw_2_211 (cC_Me D tc x0 y ad) (h0.2.2 _ hPj1) rfl (Nat.le_of_ble_eq_true rfl) (by decide +kernel) ⟨Nat.le_of_ble_eq_true rfl, Nat.le_of_ble_eq_true rfl⟩ ⟨Nat.le_of_ble_eq_true rfl, Nat.le_of_ble_eq_true rfl⟩ rfl rfl (fun I1 => ?_)
    refine q_aload_n 0 0 26 rfl (by decide +kernel) rfl ?_
    refine q_dup 27 rfl (by decide +kernel) rfl ?_
    refine q_geti (f := 1) 30 rfl (by decide +kernel) (cC_Cal D tc x0 y ad) h0.1 (by decide) rfl tw_1_147 ?_
    refine q_iconst 1 (c := 1) 31 rfl (by decide +kernel) rfl ?_
    refine q_iadd 32 rfl (by decide +kernel) ?_
    refine q_puti (f := 1) 35 rfl (by decide +kernel) (cC_Cal D tc x0 y ad) h0.1 (by decide) rfl rfl rfl tw_1_147 ?_
    refine q_letI (fun I2 => ?_)
    exact q_vret (by decide +kernel) rfl rfl (Nat.le_of_ble_eq_true rfl) (Nat.le_of_ble_eq_true rfl)
def f_Cal_drop_L1 (I : q_I) (a0 : Nat) (n0 : Nat) (a1 : Int32) (K : Int32 → q_P → Option (q_I × q_P)) : Nat → Int32 → Int32 → q_P → Option (q_I × q_P)
  | 0, _, _, _ => none
  | n + 1, x1, x2, P1 => if (I a0 1) ≤ x2 then ((K x1 P1)) else (if (nI n0) ≤ x2 then ((K x1 P1)) else (q_ix x2 n0 (fun j1 => if (I ((a0 + 2) + P1 (a0 + 1) j1) 0) = a1 then ((f_Cal_drop_L1 I a0 n0 a1 K n x1 (x2 + 1) P1)) else (q_ix x1 n0 (fun j2 => q_ix x2 n0 (fun j3 => q_l (q_up P1 (a0 + 1) j3 (P1 (a0 + 1) j2)) (fun P2 => q_ix x1 n0 (fun j4 => q_l (q_up P2 (a0 + 1) j4 (P1 (a0 + 1) j1)) (fun P3 => (f_Cal_drop_L1 I a0 n0 a1 K n (x1 + 1) (x2 + 1) P3))))))))))
def f_Cal_drop (I : q_I) (P : q_P) (a0 : Nat) (n0 : Nat) (a1 : Int32) : Option (q_I × q_P) :=
  f_Cal_drop_L1 I a0 n0 a1 (fun (x3 : Int32) (P4 : q_P) => q_l (q_ui I a0 1 x3) (fun I1 => some (I1, P4))) q_fu 0 0 P
def y_Cal_drop : MethodName := ⟨"CalendarReplicas$Calenda\x72", "drop", "(I)V"⟩
def m_Cal_drop : q_M := (prog_2_method_5_code, 5, "CalendarReplicas$Calenda\x72", { frames := 0, cells := 0, slots := 0, locals := 0 }, (none : Option FieldType))
theorem yv_Cal_drop : q_Y y_Cal_drop m_Cal_drop 1 := ⟨rfl, ⟨by decide, by decide⟩, by decide +kernel, tw_2_220, tw_1_4⟩
set_option maxRecDepth 100000 in
set_option maxHeartbeats 4000000 in
theorem c_Cal_drop (l : Launch) (D : va_G) (tc : Nat → ClassId) (x0 y : Nat) (ad : Nat → Nat) (I : q_I) (J : q_J) (P : q_P) {a0 : Nat} {n0 : Nat} (h0 : isCal a0 n0) (a1 : Int32) : q_Ct l (cG D tc x0 y ad) y_Cal_drop m_Cal_drop [q_r (cG D tc x0 y ad) a0, .int a1] (I, J, P) (f_Cal_drop I P a0 n0 a1) (fun r : q_I × q_P => (none, (r.1, J, r.2))) := by
  refine q_Ct_of (cIn D tc x0 y ad) (by decide) rfl (Nat.le_of_ble_eq_true rfl) rfl (fun X hX => ?_)
  subst hX
  unfold f_Cal_drop
  refine q_iconst 0 (c := 0) 1 rfl (by decide +kernel) rfl ?_
  refine q_istore_n 2 2 2 rfl [(2, .int 0), (0, q_r (cG D tc x0 y ad) a0), (1, .int a1)] (by decide +kernel) rfl (Nat.le_of_ble_eq_true rfl) rfl ?_
  refine q_iconst 0 (c := 0) 3 rfl (by decide +kernel) rfl ?_
  refine q_istore_n 3 3 4 rfl [(3, .int 0), (2, .int 0), (0, q_r (cG D tc x0 y ad) a0), (1, .int a1)] (by decide +kernel) rfl (Nat.le_of_ble_eq_true rfl) rfl ?_
  have hL1 : ∀ (K1 : Int32 → q_P → Option (q_I × q_P)) (hK1 : ∀ (x3 : Int32) (P4 : q_P), q_V (cG D tc x0 y ad) m_Cal_drop X (fun r : q_I × q_P => (none, (r.1, J, r.2))) 0 0 67 [(0, q_r (cG D tc x0 y ad) a0), (2, .int x3)] [] I J P4 (K1 x3 P4)) (n1_ : Nat) (x1 : Int32) (x2 : Int32) (P1 : q_P), q_V (cG D tc x0 y ad) m_Cal_drop X (fun r : q_I × q_P => (none, (r.1, J, r.2))) 0 0 4 [(0, q_r (cG D tc x0 y ad) a0), (1, .int a1), (2, .int x1), (3, .int x2)] [] I J P1 (f_Cal_drop_L1 I a0 n0 a1 K1 n1_ x1 x2 P1) := by
    intro K1 hK1 n1_
    induction n1_ with
    | zero => intro x1 x2 P1; exact q_none
    | succ n1_ ih1 =>
      intro x1 x2 P1
      rw [f_Cal_drop_L1]
      refine q_iload_n 3 3 5 rfl (by decide +kernel) rfl ?_
      refine q_aload_n 0 0 6 rfl (by decide +kernel) rfl ?_
      refine q_geti (f := 1) 9 rfl (by decide +kernel) (cC_Cal D tc x0 y ad) h0.1 (by decide) rfl tw_1_147 ?_
      refine q_icmp_ge 12 rfl 67 (off := 58) (by decide +kernel) rfl (fun g3 => ?_) (fun g3 => ?_)
      · refine q_sub [0, 2] rfl ?_
        exact hK1 x1 P1
      · refine q_iload_n 3 3 13 rfl (by decide +kernel) rfl ?_
        refine q_aload_n 0 0 14 rfl (by decide +kernel) rfl ?_
        refine q_getr (f := 0) (a0 + 1) 17 rfl (by decide +kernel) (cC_Cal D tc x0 y ad) h0.1 (by decide) rfl rfl tw_1_146 ?_
        refine q_alen (nI n0) 18 rfl (by decide +kernel) h0.2.1 (by simp) rfl rfl ?_
        refine q_icmp_ge 21 rfl 67 (off := 49) (by decide +kernel) rfl (fun g2 => ?_) (fun g2 => ?_)
        · refine q_sub [0, 2] rfl ?_
          exact hK1 x1 P1
        · refine q_aload_n 0 0 22 rfl (by decide +kernel) rfl ?_
          refine q_getr (f := 0) (a0 + 1) 25 rfl (by decide +kernel) (cC_Cal D tc x0 y ad) h0.1 (by decide) rfl rfl tw_1_146 ?_
          refine q_iload_n 3 3 26 rfl (by decide +kernel) rfl ?_
          refine q_aldp 27 rfl (by decide +kernel) h0.2.1 rfl (fun j1 hj1 hPj1 => ?_)
          refine q_astore 4 29 rfl [(4, q_r (cG D tc x0 y ad) ((a0 + 2) + P1 (a0 + 1) j1)), (0, q_r (cG D tc x0 y ad) a0), (1, .int a1), (2, .int x1), (3, .int x2)] (by decide +kernel) (Nat.le_of_ble_eq_true rfl) rfl ?_
          refine q_aload 0 4 31 rfl (by decide +kernel) rfl ?_
          refine q_geti (f := 0) 34 rfl (by decide +kernel) (cC_Me D tc x0 y ad) (h0.2.2 _ hPj1) (by decide) rfl tw_1_96 ?_
          refine q_iload_n 2 1 35 rfl (by decide +kernel) rfl ?_
          refine q_icmp_eq 38 rfl 61 (off := 26) (by decide +kernel) rfl (fun g1 => ?_) (fun g1 => ?_)
          · refine q_iinc (x2 + 1) (c := 1) 3 4 64 rfl [(3, .int (x2 + 1)), (4, q_r (cG D tc x0 y ad) ((a0 + 2) + P1 (a0 + 1) j1)), (0, q_r (cG D tc x0 y ad) a0), (1, .int a1), (2, .int x1)] (by decide +kernel) rfl rfl (Nat.le_of_ble_eq_true rfl) rfl ?_
            refine q_goto (off := -60) 4 (by decide +kernel) rfl ?_
            refine q_sub [2, 3, 4, 0] rfl ?_
            exact ih1 x1 (x2 + 1) P1
          · refine q_aload_n 1 0 39 rfl (by decide +kernel) rfl ?_
            refine q_getr (f := 0) (a0 + 1) 42 rfl (by decide +kernel) (cC_Cal D tc x0 y ad) h0.1 (by decide) rfl rfl tw_1_146 ?_
            refine q_iload_n 4 3 43 rfl (by decide +kernel) rfl ?_
            refine q_aload_n 1 0 44 rfl (by decide +kernel) rfl ?_
            refine q_getr (f := 0) (a0 + 1) 47 rfl (by decide +kernel) (cC_Cal D tc x0 y ad) h0.1 (by decide) rfl rfl tw_1_146 ?_
            refine q_iload_n 3 2 48 rfl (by decide +kernel) rfl ?_
            refine q_aldp 49 rfl (by decide +kernel) h0.2.1 rfl (fun j2 hj2 hPj2 => ?_)
            refine q_astp 50 rfl (by decide +kernel) h0.2.1 rfl (cC_Me D tc x0 y ad) hPj2 (h0.2.2 _ hPj2) (fun j3 hj3 => ?_)
            refine q_letP (fun P2 => ?_)
            refine q_aload_n 1 0 51 rfl (by decide +kernel) rfl ?_
            refine q_getr (f := 0) (a0 + 1) 54 rfl (by decide +kernel) (cC_Cal D tc x0 y ad) h0.1 (by decide) rfl rfl tw_1_146 ?_
            refine q_iload_n 3 2 55 rfl (by decide +kernel) rfl ?_
            refine q_aload 0 4 57 rfl (by decide +kernel) rfl ?_
            refine q_astp 58 rfl (by decide +kernel) h0.2.1 rfl (cC_Me D tc x0 y ad) hPj1 (h0.2.2 _ hPj1) (fun j4 hj4 => ?_)
            refine q_letP (fun P3 => ?_)
            refine q_iinc (x1 + 1) (c := 1) 2 3 61 rfl [(2, .int (x1 + 1)), (4, q_r (cG D tc x0 y ad) ((a0 + 2) + P1 (a0 + 1) j1)), (0, q_r (cG D tc x0 y ad) a0), (1, .int a1), (3, .int x2)] (by decide +kernel) rfl rfl (Nat.le_of_ble_eq_true rfl) rfl ?_
            refine q_iinc (x2 + 1) (c := 1) 3 4 64 rfl [(3, .int (x2 + 1)), (2, .int (x1 + 1)), (4, q_r (cG D tc x0 y ad) ((a0 + 2) + P1 (a0 + 1) j1)), (0, q_r (cG D tc x0 y ad) a0), (1, .int a1)] (by decide +kernel) rfl rfl (Nat.le_of_ble_eq_true rfl) rfl ?_
            refine q_goto (off := -60) 4 (by decide +kernel) rfl ?_
            refine q_sub [3, 4, 1, 0] rfl ?_
            exact ih1 (x1 + 1) (x2 + 1) P3
  refine q_sub [2, 3, 1, 0] rfl ?_
  refine hL1 _ (fun x3 P4 => ?_) _ _ _ _
  refine q_aload_n 0 0 68 rfl (by decide +kernel) rfl ?_
  refine q_iload_n 1 2 69 rfl (by decide +kernel) rfl ?_
  refine q_puti (f := 1) 72 rfl (by decide +kernel) (cC_Cal D tc x0 y ad) h0.1 (by decide) rfl rfl rfl tw_1_147 ?_
  refine q_letI (fun I1 => ?_)
  exact q_vret (by decide +kernel) rfl rfl (Nat.le_of_ble_eq_true rfl) (Nat.le_of_ble_eq_true rfl)
def f_Cal_copyFrom_L1 (P : q_P) (a0 : Nat) (n0 : Nat) (a1 : Nat) (n1 : Nat) : Nat → Int32 → q_I → Option (q_I)
  | 0, _, _ => none
  | n + 1, x1, I2 => if (I2 a0 1) ≤ x1 then (some (I2)) else (q_ix x1 n0 (fun j1 => q_ix x1 n1 (fun j2 => q_b1 (f_Me_copyFrom I2 ((a0 + 2) + P (a0 + 1) j1) ((a1 + 2) + P (a1 + 1) j2)) (fun I3 => (f_Cal_copyFrom_L1 P a0 n0 a1 n1 n (x1 + 1) I3)))))
def f_Cal_copyFrom (I : q_I) (P : q_P) (a0 : Nat) (n0 : Nat) (a1 : Nat) (n1 : Nat) : Option (q_I) :=
  q_l (q_ui I a0 1 (if (if (nI n1) < (nI n0) then (nI n1) else (nI n0)) < (I a1 1) then (if (nI n1) < (nI n0) then (nI n1) else (nI n0)) else (I a1 1))) (fun I1 => f_Cal_copyFrom_L1 P a0 n0 a1 n1 q_fu 0 I1)
def y_Cal_copyFrom : MethodName := ⟨"CalendarReplicas$Calenda\x72", "copyFrom", "(LCalendarReplicas$Calendar;)V"⟩
def m_Cal_copyFrom : q_M := (prog_2_method_6_code, 3, "CalendarReplicas$Calenda\x72", { frames := 1, cells := 0, slots := 0, locals := 40 }, (none : Option FieldType))
theorem yv_Cal_copyFrom : q_Y y_Cal_copyFrom m_Cal_copyFrom 1 := ⟨rfl, ⟨by decide, by decide⟩, by decide +kernel, tw_2_205, tw_1_4⟩
set_option maxRecDepth 100000 in
set_option maxHeartbeats 4000000 in
theorem c_Cal_copyFrom (l : Launch) (D : va_G) (tc : Nat → ClassId) (x0 y : Nat) (ad : Nat → Nat) (I : q_I) (J : q_J) (P : q_P) {a0 : Nat} {n0 : Nat} {a1 : Nat} {n1 : Nat} (h0 : isCal a0 n0) (h1 : isCal a1 n1) : q_Ct l (cG D tc x0 y ad) y_Cal_copyFrom m_Cal_copyFrom [q_r (cG D tc x0 y ad) a0, q_r (cG D tc x0 y ad) a1] (I, J, P) (f_Cal_copyFrom I P a0 n0 a1 n1) (fun r : q_I => (none, (r, J, P))) := by
  refine q_Ct_of (cIn D tc x0 y ad) (by decide) rfl (Nat.le_of_ble_eq_true rfl) rfl (fun X hX => ?_)
  subst hX
  unfold f_Cal_copyFrom
  refine q_aload_n 0 0 1 rfl (by decide +kernel) rfl ?_
  refine q_aload_n 1 1 2 rfl (by decide +kernel) rfl ?_
  refine q_geti (f := 1) 5 rfl (by decide +kernel) (cC_Cal D tc x0 y ad) h1.1 (by decide) rfl tw_1_147 ?_
  refine q_aload_n 0 0 6 rfl (by decide +kernel) rfl ?_
  refine q_getr (f := 0) (a0 + 1) 9 rfl (by decide +kernel) (cC_Cal D tc x0 y ad) h0.1 (by decide) rfl rfl tw_1_146 ?_
  refine q_alen (nI n0) 10 rfl (by decide +kernel) h0.2.1 (by simp) rfl rfl ?_
  refine q_aload_n 1 1 11 rfl (by decide +kernel) rfl ?_
  refine q_getr (f := 0) (a1 + 1) 14 rfl (by decide +kernel) (cC_Cal D tc x0 y ad) h1.1 (by decide) rfl rfl tw_1_146 ?_
  refine q_alen (nI n1) 15 rfl (by decide +kernel) h1.2.1 (by simp) rfl rfl ?_
  refine q_mmin (idx := 33) 18 rfl (by decide +kernel) tw_2_206 tw_2_207 tw_1_5 tw_2_208 (Nat.le_of_ble_eq_true rfl) (Nat.le_of_ble_eq_true rfl) (Nat.le_of_ble_eq_true rfl) (Nat.le_of_ble_eq_true rfl) ?_
  refine q_mmin (idx := 33) 21 rfl (by decide +kernel) tw_2_206 tw_2_207 tw_1_5 tw_2_208 (Nat.le_of_ble_eq_true rfl) (Nat.le_of_ble_eq_true rfl) (Nat.le_of_ble_eq_true rfl) (Nat.le_of_ble_eq_true rfl) ?_
  refine q_puti (f := 1) 24 rfl (by decide +kernel) (cC_Cal D tc x0 y ad) h0.1 (by decide) rfl rfl rfl tw_1_147 ?_
  refine q_letI (fun I1 => ?_)
  refine q_iconst 0 (c := 0) 25 rfl (by decide +kernel) rfl ?_
  refine q_istore_n 2 2 26 rfl [(2, .int 0), (0, q_r (cG D tc x0 y ad) a0), (1, q_r (cG D tc x0 y ad) a1)] (by decide +kernel) rfl (Nat.le_of_ble_eq_true rfl) rfl ?_
  have hL1 : ∀ (n1_ : Nat) (x1 : Int32) (I2 : q_I), q_V (cG D tc x0 y ad) m_Cal_copyFrom X (fun r : q_I => (none, (r, J, P))) 0 0 26 [(0, q_r (cG D tc x0 y ad) a0), (1, q_r (cG D tc x0 y ad) a1), (2, .int x1)] [] I2 J P (f_Cal_copyFrom_L1 P a0 n0 a1 n1 n1_ x1 I2) := by
    intro n1_
    induction n1_ with
    | zero => intro x1 I2; exact q_none
    | succ n1_ ih1 =>
      intro x1 I2
      rw [f_Cal_copyFrom_L1]
      refine q_iload_n 2 2 27 rfl (by decide +kernel) rfl ?_
      refine q_aload_n 0 0 28 rfl (by decide +kernel) rfl ?_
      refine q_geti (f := 1) 31 rfl (by decide +kernel) (cC_Cal D tc x0 y ad) h0.1 (by decide) rfl tw_1_147 ?_
      refine q_icmp_ge 34 rfl 55 (off := 24) (by decide +kernel) rfl (fun g1 => ?_) (fun g1 => ?_)
      · exact q_vret (by decide +kernel) rfl rfl (Nat.le_of_ble_eq_true rfl) (Nat.le_of_ble_eq_true rfl)
      · refine q_aload_n 0 0 35 rfl (by decide +kernel) rfl ?_
        refine q_getr (f := 0) (a0 + 1) 38 rfl (by decide +kernel) (cC_Cal D tc x0 y ad) h0.1 (by decide) rfl rfl tw_1_146 ?_
        refine q_iload_n 2 2 39 rfl (by decide +kernel) rfl ?_
        refine q_aldp 40 rfl (by decide +kernel) h0.2.1 rfl (fun j1 hj1 hPj1 => ?_)
        refine q_aload_n 1 1 41 rfl (by decide +kernel) rfl ?_
        refine q_getr (f := 0) (a1 + 1) 44 rfl (by decide +kernel) (cC_Cal D tc x0 y ad) h1.1 (by decide) rfl rfl tw_1_146 ?_
        refine q_iload_n 2 2 45 rfl (by decide +kernel) rfl ?_
        refine q_aldp 46 rfl (by decide +kernel) h1.2.1 rfl (fun j2 hj2 hPj2 => ?_)
        refine q_callV_vI 49 rfl (av := [q_r (cG D tc x0 y ad) ((a1 + 2) + P (a1 + 1) j2)]) (o := ((a0 + 2) + P (a0 + 1) j1)) (st := []) (c_Me_copyFrom X.1 D tc x0 y ad I2 J P (h0.2.2 _ hPj1) (h1.2.2 _ hPj2)) yv_Me_copyFrom tw_2_209 tw_2_210 tw_2_211 (cC_Me D tc x0 y ad) (h0.2.2 _ hPj1) rfl (Nat.le_of_ble_eq_true rfl) (by decide +kernel) ⟨Nat.le_of_ble_eq_true rfl, Nat.le_of_ble_eq_true rfl⟩ ⟨Nat.le_of_ble_eq_true rfl, Nat.le_of_ble_eq_true rfl⟩ rfl rfl (fun I3 => ?_)
        refine q_iinc (x1 + 1) (c := 1) 2 2 52 rfl [(2, .int (x1 + 1)), (0, q_r (cG D tc x0 y ad) a0), (1, q_r (cG D tc x0 y ad) a1)] (by decide +kernel) rfl rfl (Nat.le_of_ble_eq_true rfl) rfl ?_
        refine q_goto (off := -26) 26 (by decide +kernel) rfl ?_
        refine q_sub [1, 2, 0] rfl ?_
        exact ih1 (x1 + 1) I3
  refine q_sub [1, 2, 0] rfl ?_
  exact hL1 _ _ _
def f_Cal_keepsOrder (I : q_I) (P : q_P) (a0 : Nat) (n0 : Nat) (a1 : Int32) (a2 : Int32) : Option (Int32) :=
  q_b1 (f_Cal_find I P a0 n0 a1) (fun r1 => q_b1 (f_Cal_find I P a0 n0 a2) (fun r2 => (r1).elim (some (1)) (fun b1 => q_ck (cM b1) ((r2).elim (some (1)) (fun b2 => q_ck (cM b2) (q_b1 (f_Me_end I b1) (fun v1 => if (I b2 1) < v1 then (some (0)) else (some (1)))))))))
def y_Cal_keepsOrder : MethodName := ⟨"CalendarReplicas$Calenda\x72", "keepsOrde\x72", "(II)Z"⟩
def m_Cal_keepsOrder : q_M := (prog_2_method_7_code, 5, "CalendarReplicas$Calenda\x72", { frames := 1, cells := 0, slots := 0, locals := 22 }, (some FieldType.boolean))
theorem yv_Cal_keepsOrder : q_Y y_Cal_keepsOrder m_Cal_keepsOrder 2 := ⟨rfl, ⟨by decide, by decide⟩, by decide +kernel, tw_2_155, tw_1_4⟩
set_option maxRecDepth 100000 in
set_option maxHeartbeats 4000000 in
theorem c_Cal_keepsOrder (l : Launch) (D : va_G) (tc : Nat → ClassId) (x0 y : Nat) (ad : Nat → Nat) (I : q_I) (J : q_J) (P : q_P) {a0 : Nat} {n0 : Nat} (h0 : isCal a0 n0) (a1 : Int32) (a2 : Int32) : q_Ct l (cG D tc x0 y ad) y_Cal_keepsOrder m_Cal_keepsOrder [q_r (cG D tc x0 y ad) a0, .int a1, .int a2] (I, J, P) (f_Cal_keepsOrder I P a0 n0 a1 a2) (fun r : Int32 => (some (.int r), (I, J, P))) := by
  refine q_Ct_of (cIn D tc x0 y ad) (by decide) rfl (Nat.le_of_ble_eq_true rfl) rfl (fun X hX => ?_)
  subst hX
  unfold f_Cal_keepsOrder
  refine q_aload_n 0 0 1 rfl (by decide +kernel) rfl ?_
  refine q_iload_n 1 1 2 rfl (by decide +kernel) rfl ?_
  refine q_callV_q 5 rfl (av := [.int a1]) (o := a0) (st := []) (c_Cal_find X.1 D tc x0 y ad I J P h0 a1) yv_Cal_find tw_2_156 tw_2_157 tw_2_158 (cC_Cal D tc x0 y ad) h0.1 rfl (Nat.le_of_ble_eq_true rfl) (by decide +kernel) ⟨Nat.le_of_ble_eq_true rfl, Nat.le_of_ble_eq_true rfl⟩ ⟨Nat.le_of_ble_eq_true rfl, Nat.le_of_ble_eq_true rfl⟩ rfl rfl (fun r1 => ?_)
  refine q_astoreq_n 3 3 6 rfl [(3, q_rn (cG D tc x0 y ad) r1), (0, q_r (cG D tc x0 y ad) a0), (1, .int a1), (2, .int a2)] (by decide +kernel) rfl (Nat.le_of_ble_eq_true rfl) rfl ?_
  refine q_aload_n 1 0 7 rfl (by decide +kernel) rfl ?_
  refine q_iload_n 3 2 8 rfl (by decide +kernel) rfl ?_
  refine q_callV_q 11 rfl (av := [.int a2]) (o := a0) (st := []) (c_Cal_find X.1 D tc x0 y ad I J P h0 a2) yv_Cal_find tw_2_156 tw_2_157 tw_2_158 (cC_Cal D tc x0 y ad) h0.1 rfl (Nat.le_of_ble_eq_true rfl) (by decide +kernel) ⟨Nat.le_of_ble_eq_true rfl, Nat.le_of_ble_eq_true rfl⟩ ⟨Nat.le_of_ble_eq_true rfl, Nat.le_of_ble_eq_true rfl⟩ rfl rfl (fun r2 => ?_)
  refine q_astoreq 4 13 rfl [(4, q_rn (cG D tc x0 y ad) r2), (3, q_rn (cG D tc x0 y ad) r1), (0, q_r (cG D tc x0 y ad) a0), (1, .int a1), (2, .int a2)] (by decide +kernel) (Nat.le_of_ble_eq_true rfl) (by simp [q_rn_cat]) ?_
  refine q_aloadq_n 1 3 14 rfl (by decide +kernel) rfl ?_
  refine q_ifnull 17 rfl 34 (off := 20) (by decide +kernel) rfl (fun he_b1 => ?_) (fun b1 he_b1 => ?_)
  · subst he_b1
    refine q_iconst 1 (c := 1) 35 rfl (by decide +kernel) rfl ?_
    refine q_goto (off := 4) 39 (by decide +kernel) rfl ?_
    exact q_zret (w := 1) (by decide +kernel) rfl rfl rfl (Nat.le_of_ble_eq_true rfl) (Nat.le_of_ble_eq_true rfl)
  · subst he_b1
    refine q_ckV (fun hc_b1 => ?_)
    refine q_aloadq 0 4 19 rfl (by decide +kernel) rfl ?_
    refine q_ifnull 22 rfl 34 (off := 15) (by decide +kernel) rfl (fun he_b2 => ?_) (fun b2 he_b2 => ?_)
    · subst he_b2
      refine q_iconst 1 (c := 1) 35 rfl (by decide +kernel) rfl ?_
      refine q_goto (off := 4) 39 (by decide +kernel) rfl ?_
      exact q_zret (w := 1) (by decide +kernel) rfl rfl rfl (Nat.le_of_ble_eq_true rfl) (Nat.le_of_ble_eq_true rfl)
    · subst he_b2
      refine q_ckV (fun hc_b2 => ?_)
      refine q_aload_n 1 3 23 rfl (by decide +kernel) rfl ?_
      refine q_callV_i 26 rfl (av := []) (o := b1) (st := []) (c_Me_end X.1 D tc x0 y ad I J P (cM_of hc_b1)) yv_Me_end tw_2_160 tw_2_161 tw_2_162 (cC_Me D tc x0 y ad) (cM_of hc_b1) rfl (Nat.le_of_ble_eq_true rfl) (by decide +kernel) ⟨Nat.le_of_ble_eq_true rfl, Nat.le_of_ble_eq_true rfl⟩ ⟨Nat.le_of_ble_eq_true rfl, Nat.le_of_ble_eq_true rfl⟩ rfl rfl (fun v1 => ?_)
      refine q_aload 0 4 28 rfl (by decide +kernel) rfl ?_
      refine q_geti (f := 1) 31 rfl (by decide +kernel) (cC_Me D tc x0 y ad) (cM_of hc_b2) (by decide) rfl tw_1_103 ?_
      refine q_icmp_gt 34 rfl 38 (off := 7) (by decide +kernel) rfl (fun g1 => ?_) (fun g1 => ?_)
      · refine q_iconst 0 (c := 0) 39 rfl (by decide +kernel) rfl ?_
        exact q_zret (w := 0) (by decide +kernel) rfl rfl rfl (Nat.le_of_ble_eq_true rfl) (Nat.le_of_ble_eq_true rfl)
      · refine q_iconst 1 (c := 1) 35 rfl (by decide +kernel) rfl ?_
        refine q_goto (off := 4) 39 (by decide +kernel) rfl ?_
        exact q_zret (w := 1) (by decide +kernel) rfl rfl rfl (Nat.le_of_ble_eq_true rfl) (Nat.le_of_ble_eq_true rfl)
def f_Ed_fill (I : q_I) (a0 : Nat) (a1 : Int32) (a2 : Int32) (a3 : Int32) (a4 : Int32) (a5 : Int32) (a6 : Int32) : Option (q_I) :=
  q_l (q_ui I a0 0 a1) (fun I1 => q_l (q_ui I1 a0 1 a2) (fun I2 => q_l (q_ui I2 a0 2 a3) (fun I3 => q_l (q_ui I3 a0 3 a4) (fun I4 => q_l (q_ui I4 a0 4 a5) (fun I5 => q_l (q_ui I5 a0 5 a6) (fun I6 => some (I6)))))))
def y_Ed_fill : MethodName := ⟨"CalendarReplicas$Edit", "fill", "(IIIIII)V"⟩
def m_Ed_fill : q_M := (prog_4_method_2_code, 7, "CalendarReplicas$Edit", { frames := 0, cells := 0, slots := 0, locals := 0 }, (none : Option FieldType))
theorem yv_Ed_fill : q_Y y_Ed_fill m_Ed_fill 6 := ⟨rfl, ⟨by decide, by decide⟩, by decide +kernel, tw_3_82, tw_1_7⟩
set_option maxRecDepth 100000 in
set_option maxHeartbeats 4000000 in
theorem c_Ed_fill (l : Launch) (D : va_G) (tc : Nat → ClassId) (x0 y : Nat) (ad : Nat → Nat) (I : q_I) (J : q_J) (P : q_P) {a0 : Nat} (h0 : isEd a0) (a1 : Int32) (a2 : Int32) (a3 : Int32) (a4 : Int32) (a5 : Int32) (a6 : Int32) : q_Ct l (cG D tc x0 y ad) y_Ed_fill m_Ed_fill [q_r (cG D tc x0 y ad) a0, .int a1, .int a2, .int a3, .int a4, .int a5, .int a6] (I, J, P) (f_Ed_fill I a0 a1 a2 a3 a4 a5 a6) (fun r : q_I => (none, (r, J, P))) := by
  refine q_Ct_of (cIn D tc x0 y ad) (by decide) rfl (Nat.le_of_ble_eq_true rfl) rfl (fun X hX => ?_)
  subst hX
  unfold f_Ed_fill
  refine q_aload_n 0 0 1 rfl (by decide +kernel) rfl ?_
  refine q_iload_n 1 1 2 rfl (by decide +kernel) rfl ?_
  refine q_puti (f := 0) 5 rfl (by decide +kernel) (cC_Ed D tc x0 y ad) h0.1 (by decide) rfl rfl rfl tw_1_165 ?_
  refine q_letI (fun I1 => ?_)
  refine q_aload_n 0 0 6 rfl (by decide +kernel) rfl ?_
  refine q_iload_n 2 2 7 rfl (by decide +kernel) rfl ?_
  refine q_puti (f := 1) 10 rfl (by decide +kernel) (cC_Ed D tc x0 y ad) h0.1 (by decide) rfl rfl rfl tw_1_168 ?_
  refine q_letI (fun I2 => ?_)
  refine q_aload_n 0 0 11 rfl (by decide +kernel) rfl ?_
  refine q_iload_n 3 3 12 rfl (by decide +kernel) rfl ?_
  refine q_puti (f := 2) 15 rfl (by decide +kernel) (cC_Ed D tc x0 y ad) h0.1 (by decide) rfl rfl rfl tw_1_170 ?_
  refine q_letI (fun I3 => ?_)
  refine q_aload_n 0 0 16 rfl (by decide +kernel) rfl ?_
  refine q_iload 4 4 18 rfl (by decide +kernel) rfl ?_
  refine q_puti (f := 3) 21 rfl (by decide +kernel) (cC_Ed D tc x0 y ad) h0.1 (by decide) rfl rfl rfl tw_1_173 ?_
  refine q_letI (fun I4 => ?_)
  refine q_aload_n 0 0 22 rfl (by decide +kernel) rfl ?_
  refine q_iload 5 5 24 rfl (by decide +kernel) rfl ?_
  refine q_puti (f := 4) 27 rfl (by decide +kernel) (cC_Ed D tc x0 y ad) h0.1 (by decide) rfl rfl rfl tw_1_176 ?_
  refine q_letI (fun I5 => ?_)
  refine q_aload_n 0 0 28 rfl (by decide +kernel) rfl ?_
  refine q_iload 6 6 30 rfl (by decide +kernel) rfl ?_
  refine q_puti (f := 5) 33 rfl (by decide +kernel) (cC_Ed D tc x0 y ad) h0.1 (by decide) rfl rfl rfl tw_1_179 ?_
  refine q_letI (fun I6 => ?_)
  exact q_vret (by decide +kernel) rfl rfl (Nat.le_of_ble_eq_true rfl) (Nat.le_of_ble_eq_true rfl)
def f_Ed_copyFrom (I : q_I) (a0 : Nat) (a1 : Nat) : Option (q_I) :=
  q_b1 (f_Ed_fill I a0 (I a1 0) (I a1 1) (I a1 2) (I a1 3) (I a1 4) (I a1 5)) (fun I1 => q_l (q_ui I1 a0 6 (I1 a1 6)) (fun I2 => q_l (q_ui I2 a0 7 (I2 a1 7)) (fun I3 => q_b1 (f_Me_copyFrom I3 (a0 + 1) (a1 + 1)) (fun I4 => some (I4)))))
def y_Ed_copyFrom : MethodName := ⟨"CalendarReplicas$Edit", "copyFrom", "(LCalendarReplicas$Edit;)V"⟩
def m_Ed_copyFrom : q_M := (prog_4_method_3_code, 2, "CalendarReplicas$Edit", { frames := 1, cells := 0, slots := 0, locals := 26 }, (none : Option FieldType))
theorem yv_Ed_copyFrom : q_Y y_Ed_copyFrom m_Ed_copyFrom 1 := ⟨rfl, ⟨by decide, by decide⟩, by decide +kernel, tw_5_176, tw_1_7⟩
set_option maxRecDepth 100000 in
set_option maxHeartbeats 4000000 in
theorem c_Ed_copyFrom (l : Launch) (D : va_G) (tc : Nat → ClassId) (x0 y : Nat) (ad : Nat → Nat) (I : q_I) (J : q_J) (P : q_P) {a0 : Nat} {a1 : Nat} (h0 : isEd a0) (h1 : isEd a1) : q_Ct l (cG D tc x0 y ad) y_Ed_copyFrom m_Ed_copyFrom [q_r (cG D tc x0 y ad) a0, q_r (cG D tc x0 y ad) a1] (I, J, P) (f_Ed_copyFrom I a0 a1) (fun r : q_I => (none, (r, J, P))) := by
  refine q_Ct_of (cIn D tc x0 y ad) (by decide) rfl (Nat.le_of_ble_eq_true rfl) rfl (fun X hX => ?_)
  subst hX
  unfold f_Ed_copyFrom
  refine q_aload_n 0 0 1 rfl (by decide +kernel) rfl ?_
  refine q_aload_n 1 1 2 rfl (by decide +kernel) rfl ?_
  refine q_geti (f := 0) 5 rfl (by decide +kernel) (cC_Ed D tc x0 y ad) h1.1 (by decide) rfl tw_1_165 ?_
  refine q_aload_n 1 1 6 rfl (by decide +kernel) rfl ?_
  refine q_geti (f := 1) 9 rfl (by decide +kernel) (cC_Ed D tc x0 y ad) h1.1 (by decide) rfl tw_1_168 ?_
  refine q_aload_n 1 1 10 rfl (by decide +kernel) rfl ?_
  refine q_geti (f := 2) 13 rfl (by decide +kernel) (cC_Ed D tc x0 y ad) h1.1 (by decide) rfl tw_1_170 ?_
  refine q_aload_n 1 1 14 rfl (by decide +kernel) rfl ?_
  refine q_geti (f := 3) 17 rfl (by decide +kernel) (cC_Ed D tc x0 y ad) h1.1 (by decide) rfl tw_1_173 ?_
  refine q_aload_n 1 1 18 rfl (by decide +kernel) rfl ?_
  refine q_geti (f := 4) 21 rfl (by decide +kernel) (cC_Ed D tc x0 y ad) h1.1 (by decide) rfl tw_1_176 ?_
  refine q_aload_n 1 1 22 rfl (by decide +kernel) rfl ?_
  refine q_geti (f := 5) 25 rfl (by decide +kernel) (cC_Ed D tc x0 y ad) h1.1 (by decide) rfl tw_1_179 ?_
  refine q_callV_vI 28 rfl (av := [.int (I a1 0), .int (I a1 1), .int (I a1 2), .int (I a1 3), .int (I a1 4), .int (I a1 5)]) (o := a0) (st := []) (c_Ed_fill X.1 D tc x0 y ad I J P h0 (I a1 0) (I a1 1) (I a1 2) (I a1 3) (I a1 4) (I a1 5)) yv_Ed_fill tw_5_177 tw_3_80 tw_3_81 (cC_Ed D tc x0 y ad) h0.1 rfl (Nat.le_of_ble_eq_true rfl) (by decide +kernel) ⟨Nat.le_of_ble_eq_true rfl, Nat.le_of_ble_eq_true rfl⟩ ⟨Nat.le_of_ble_eq_true rfl, Nat.le_of_ble_eq_true rfl⟩ rfl rfl (fun I1 => ?_)
  refine q_aload_n 0 0 29 rfl (by decide +kernel) rfl ?_
  refine q_aload_n 1 1 30 rfl (by decide +kernel) rfl ?_
  refine q_geti (f := 6) 33 rfl (by decide +kernel) (cC_Ed D tc x0 y ad) h1.1 (by decide) rfl tw_1_180 ?_
  refine q_puti (f := 6) 36 rfl (by decide +kernel) (cC_Ed D tc x0 y ad) h0.1 (by decide) rfl rfl rfl tw_1_180 ?_
  refine q_letI (fun I2 => ?_)
  refine q_aload_n 0 0 37 rfl (by decide +kernel) rfl ?_
  refine q_aload_n 1 1 38 rfl (by decide +kernel) rfl ?_
  refine q_geti (f := 7) 41 rfl (by decide +kernel) (cC_Ed D tc x0 y ad) h1.1 (by decide) rfl tw_1_182 ?_
  refine q_puti (f := 7) 44 rfl (by decide +kernel) (cC_Ed D tc x0 y ad) h0.1 (by decide) rfl rfl rfl tw_1_182 ?_
  refine q_letI (fun I3 => ?_)
  refine q_aload_n 0 0 45 rfl (by decide +kernel) rfl ?_
  refine q_getr (f := 8) (a0 + 1) 48 rfl (by decide +kernel) (cC_Ed D tc x0 y ad) h0.1 (by decide) rfl rfl tw_1_184 ?_
  refine q_aload_n 1 1 49 rfl (by decide +kernel) rfl ?_
  refine q_getr (f := 8) (a1 + 1) 52 rfl (by decide +kernel) (cC_Ed D tc x0 y ad) h1.1 (by decide) rfl rfl tw_1_184 ?_
  refine q_callV_vI 55 rfl (av := [q_r (cG D tc x0 y ad) (a1 + 1)]) (o := (a0 + 1)) (st := []) (c_Me_copyFrom X.1 D tc x0 y ad I3 J P h0.2 h1.2) yv_Me_copyFrom tw_5_178 tw_2_210 tw_2_211 (cC_Me D tc x0 y ad) h0.2 rfl (Nat.le_of_ble_eq_true rfl) (by decide +kernel) ⟨Nat.le_of_ble_eq_true rfl, Nat.le_of_ble_eq_true rfl⟩ ⟨Nat.le_of_ble_eq_true rfl, Nat.le_of_ble_eq_true rfl⟩ rfl rfl (fun I4 => ?_)
  exact q_vret (by decide +kernel) rfl rfl (Nat.le_of_ble_eq_true rfl) (Nat.le_of_ble_eq_true rfl)
def f_Ed_start (I : q_I) (a0 : Nat) : Option (Int32) :=
  if (I a0 3) = 0 then (some ((I (a0 + 1) 1))) else (some ((I a0 5)))
def y_Ed_start : MethodName := ⟨"CalendarReplicas$Edit", "start", "()I"⟩
def m_Ed_start : q_M := (prog_4_method_4_code, 1, "CalendarReplicas$Edit", { frames := 0, cells := 0, slots := 0, locals := 0 }, (some FieldType.int))
theorem yv_Ed_start : q_Y y_Ed_start m_Ed_start 0 := ⟨rfl, ⟨by decide, by decide⟩, by decide +kernel, tw_4_190, tw_1_7⟩
set_option maxRecDepth 100000 in
set_option maxHeartbeats 4000000 in
theorem c_Ed_start (l : Launch) (D : va_G) (tc : Nat → ClassId) (x0 y : Nat) (ad : Nat → Nat) (I : q_I) (J : q_J) (P : q_P) {a0 : Nat} (h0 : isEd a0) : q_Ct l (cG D tc x0 y ad) y_Ed_start m_Ed_start [q_r (cG D tc x0 y ad) a0] (I, J, P) (f_Ed_start I a0) (fun r : Int32 => (some (.int r), (I, J, P))) := by
  refine q_Ct_of (cIn D tc x0 y ad) (by decide) rfl (Nat.le_of_ble_eq_true rfl) rfl (fun X hX => ?_)
  subst hX
  unfold f_Ed_start
  refine q_aload_n 0 0 1 rfl (by decide +kernel) rfl ?_
  refine q_geti (f := 3) 4 rfl (by decide +kernel) (cC_Ed D tc x0 y ad) h0.1 (by decide) rfl tw_1_173 ?_
  refine q_if_ne 7 rfl 17 (off := 13) (by decide +kernel) rfl (fun g1 => ?_) (fun g1 => ?_)
  · refine q_aload_n 0 0 18 rfl (by decide +kernel) rfl ?_
    refine q_geti (f := 5) 21 rfl (by decide +kernel) (cC_Ed D tc x0 y ad) h0.1 (by decide) rfl tw_1_179 ?_
    exact q_iret (by decide +kernel) rfl rfl (Nat.le_of_ble_eq_true rfl) (Nat.le_of_ble_eq_true rfl)
  · refine q_aload_n 0 0 8 rfl (by decide +kernel) rfl ?_
    refine q_getr (f := 8) (a0 + 1) 11 rfl (by decide +kernel) (cC_Ed D tc x0 y ad) h0.1 (by decide) rfl rfl tw_1_184 ?_
    refine q_geti (f := 1) 14 rfl (by decide +kernel) (cC_Me D tc x0 y ad) h0.2 (by decide) rfl tw_1_101 ?_
    refine q_goto (off := 7) 21 (by decide +kernel) rfl ?_
    exact q_iret (by decide +kernel) rfl rfl (Nat.le_of_ble_eq_true rfl) (Nat.le_of_ble_eq_true rfl)
def f_Ed_setStart (I : q_I) (a0 : Nat) (a1 : Int32) : Option (q_I) :=
  if (I a0 3) = 0 then (q_l (q_ui I (a0 + 1) 1 a1) (fun I2 => some (I2))) else (q_l (q_ui I a0 5 a1) (fun I1 => some (I1)))
def y_Ed_setStart : MethodName := ⟨"CalendarReplicas$Edit", "setStart", "(I)V"⟩
def m_Ed_setStart : q_M := (prog_4_method_5_code, 2, "CalendarReplicas$Edit", { frames := 0, cells := 0, slots := 0, locals := 0 }, (none : Option FieldType))
theorem yv_Ed_setStart : q_Y y_Ed_setStart m_Ed_setStart 1 := ⟨rfl, ⟨by decide, by decide⟩, by decide +kernel, tw_4_202, tw_1_7⟩
set_option maxRecDepth 100000 in
set_option maxHeartbeats 4000000 in
theorem c_Ed_setStart (l : Launch) (D : va_G) (tc : Nat → ClassId) (x0 y : Nat) (ad : Nat → Nat) (I : q_I) (J : q_J) (P : q_P) {a0 : Nat} (h0 : isEd a0) (a1 : Int32) : q_Ct l (cG D tc x0 y ad) y_Ed_setStart m_Ed_setStart [q_r (cG D tc x0 y ad) a0, .int a1] (I, J, P) (f_Ed_setStart I a0 a1) (fun r : q_I => (none, (r, J, P))) := by
  refine q_Ct_of (cIn D tc x0 y ad) (by decide) rfl (Nat.le_of_ble_eq_true rfl) rfl (fun X hX => ?_)
  subst hX
  unfold f_Ed_setStart
  refine q_aload_n 0 0 1 rfl (by decide +kernel) rfl ?_
  refine q_geti (f := 3) 4 rfl (by decide +kernel) (cC_Ed D tc x0 y ad) h0.1 (by decide) rfl tw_1_173 ?_
  refine q_if_ne 7 rfl 18 (off := 14) (by decide +kernel) rfl (fun g1 => ?_) (fun g1 => ?_)
  · refine q_aload_n 0 0 19 rfl (by decide +kernel) rfl ?_
    refine q_iload_n 1 1 20 rfl (by decide +kernel) rfl ?_
    refine q_puti (f := 5) 23 rfl (by decide +kernel) (cC_Ed D tc x0 y ad) h0.1 (by decide) rfl rfl rfl tw_1_179 ?_
    refine q_letI (fun I1 => ?_)
    exact q_vret (by decide +kernel) rfl rfl (Nat.le_of_ble_eq_true rfl) (Nat.le_of_ble_eq_true rfl)
  · refine q_aload_n 0 0 8 rfl (by decide +kernel) rfl ?_
    refine q_getr (f := 8) (a0 + 1) 11 rfl (by decide +kernel) (cC_Ed D tc x0 y ad) h0.1 (by decide) rfl rfl tw_1_184 ?_
    refine q_iload_n 1 1 12 rfl (by decide +kernel) rfl ?_
    refine q_puti (f := 1) 15 rfl (by decide +kernel) (cC_Me D tc x0 y ad) h0.2 (by decide) rfl rfl rfl tw_1_101 ?_
    refine q_letI (fun I2 => ?_)
    refine q_goto (off := 8) 23 (by decide +kernel) rfl ?_
    exact q_vret (by decide +kernel) rfl rfl (Nat.le_of_ble_eq_true rfl) (Nat.le_of_ble_eq_true rfl)
def f_Ed_changesSame (I : q_I) (a0 : Nat) (a1 : Nat) : Option (Int32) :=
  q_jj (q_jj (if (I a0 5) = (I a1 5) then (some (1)) else (some (0))) (fun (jk2 : Option (Int32)) => if (I a1 3) = 4 then (jk2) else (if (I a1 3) = 5 then (jk2) else (some (0))))) (fun (jk1 : Option (Int32)) => if (I a0 3) = 4 then (jk1) else (if (I a0 3) = 5 then (jk1) else (if (I a0 3) = (I a1 3) then (some (1)) else (some (0)))))
def y_Ed_changesSame : MethodName := ⟨"CalendarReplicas$Edit", "changesSame", "(LCalendarReplicas$Edit;)Z"⟩
def m_Ed_changesSame : q_M := (prog_4_method_7_code, 2, "CalendarReplicas$Edit", { frames := 0, cells := 0, slots := 0, locals := 0 }, (some FieldType.boolean))
theorem yv_Ed_changesSame : q_Y y_Ed_changesSame m_Ed_changesSame 1 := ⟨rfl, ⟨by decide, by decide⟩, by decide +kernel, tw_3_95, tw_1_7⟩
set_option maxRecDepth 100000 in
set_option maxHeartbeats 4000000 in
theorem c_Ed_changesSame (l : Launch) (D : va_G) (tc : Nat → ClassId) (x0 y : Nat) (ad : Nat → Nat) (I : q_I) (J : q_J) (P : q_P) {a0 : Nat} {a1 : Nat} (h0 : isEd a0) (h1 : isEd a1) : q_Ct l (cG D tc x0 y ad) y_Ed_changesSame m_Ed_changesSame [q_r (cG D tc x0 y ad) a0, q_r (cG D tc x0 y ad) a1] (I, J, P) (f_Ed_changesSame I a0 a1) (fun r : Int32 => (some (.int r), (I, J, P))) := by
  refine q_Ct_of (cIn D tc x0 y ad) (by decide) rfl (Nat.le_of_ble_eq_true rfl) rfl (fun X hX => ?_)
  subst hX
  unfold f_Ed_changesSame
  refine q_aload_n 0 0 1 rfl (by decide +kernel) rfl ?_
  refine q_geti (f := 3) 4 rfl (by decide +kernel) (cC_Ed D tc x0 y ad) h0.1 (by decide) rfl tw_1_173 ?_
  refine q_iconst 4 (c := 4) 5 rfl (by decide +kernel) rfl ?_
  refine q_jj0 16 ([(0, q_r (cG D tc x0 y ad) a0), (1, q_r (cG D tc x0 y ad) a1)]) ([]) (I) (J) (P) ?_ ?_
  · refine q_aload_n 1 1 17 rfl (by decide +kernel) rfl ?_
    refine q_geti (f := 3) 20 rfl (by decide +kernel) (cC_Ed D tc x0 y ad) h1.1 (by decide) rfl tw_1_173 ?_
    refine q_iconst 4 (c := 4) 21 rfl (by decide +kernel) rfl ?_
    refine q_jj0 32 ([(0, q_r (cG D tc x0 y ad) a0), (1, q_r (cG D tc x0 y ad) a1)]) ([]) (I) (J) (P) ?_ ?_
    · refine q_aload_n 0 0 33 rfl (by decide +kernel) rfl ?_
      refine q_geti (f := 5) 36 rfl (by decide +kernel) (cC_Ed D tc x0 y ad) h0.1 (by decide) rfl tw_1_179 ?_
      refine q_aload_n 1 1 37 rfl (by decide +kernel) rfl ?_
      refine q_geti (f := 5) 40 rfl (by decide +kernel) (cC_Ed D tc x0 y ad) h1.1 (by decide) rfl tw_1_179 ?_
      refine q_icmp_ne 43 rfl 47 (off := 7) (by decide +kernel) rfl (fun g1 => ?_) (fun g1 => ?_)
      · refine q_iconst 0 (c := 0) 48 rfl (by decide +kernel) rfl ?_
        exact q_zret (w := 0) (by decide +kernel) rfl rfl rfl (Nat.le_of_ble_eq_true rfl) (Nat.le_of_ble_eq_true rfl)
      · refine q_iconst 1 (c := 1) 44 rfl (by decide +kernel) rfl ?_
        refine q_goto (off := 4) 48 (by decide +kernel) rfl ?_
        exact q_zret (w := 1) (by decide +kernel) rfl rfl rfl (Nat.le_of_ble_eq_true rfl) (Nat.le_of_ble_eq_true rfl)
    · intro jk2 hq2
      refine q_icmp_eq 24 rfl 32 (off := 11) (by decide +kernel) rfl (fun g3 => ?_) (fun g3 => ?_)
      · exact hq2
      · refine q_aload_n 1 1 25 rfl (by decide +kernel) rfl ?_
        refine q_geti (f := 3) 28 rfl (by decide +kernel) (cC_Ed D tc x0 y ad) h1.1 (by decide) rfl tw_1_173 ?_
        refine q_iconst 5 (c := 5) 29 rfl (by decide +kernel) rfl ?_
        refine q_icmp_ne 32 rfl 47 (off := 18) (by decide +kernel) rfl (fun g2 => ?_) (fun g2 => ?_)
        · refine q_iconst 0 (c := 0) 48 rfl (by decide +kernel) rfl ?_
          exact q_zret (w := 0) (by decide +kernel) rfl rfl rfl (Nat.le_of_ble_eq_true rfl) (Nat.le_of_ble_eq_true rfl)
        · exact hq2
  · intro jk1 hq1
    refine q_icmp_eq 8 rfl 16 (off := 11) (by decide +kernel) rfl (fun g6 => ?_) (fun g6 => ?_)
    · exact hq1
    · refine q_aload_n 0 0 9 rfl (by decide +kernel) rfl ?_
      refine q_geti (f := 3) 12 rfl (by decide +kernel) (cC_Ed D tc x0 y ad) h0.1 (by decide) rfl tw_1_173 ?_
      refine q_iconst 5 (c := 5) 13 rfl (by decide +kernel) rfl ?_
      refine q_icmp_ne 16 rfl 49 (off := 36) (by decide +kernel) rfl (fun g5 => ?_) (fun g5 => ?_)
      · refine q_aload_n 0 0 50 rfl (by decide +kernel) rfl ?_
        refine q_geti (f := 3) 53 rfl (by decide +kernel) (cC_Ed D tc x0 y ad) h0.1 (by decide) rfl tw_1_173 ?_
        refine q_aload_n 1 1 54 rfl (by decide +kernel) rfl ?_
        refine q_geti (f := 3) 57 rfl (by decide +kernel) (cC_Ed D tc x0 y ad) h1.1 (by decide) rfl tw_1_173 ?_
        refine q_icmp_ne 60 rfl 64 (off := 7) (by decide +kernel) rfl (fun g4 => ?_) (fun g4 => ?_)
        · refine q_iconst 0 (c := 0) 65 rfl (by decide +kernel) rfl ?_
          exact q_zret (w := 0) (by decide +kernel) rfl rfl rfl (Nat.le_of_ble_eq_true rfl) (Nat.le_of_ble_eq_true rfl)
        · refine q_iconst 1 (c := 1) 61 rfl (by decide +kernel) rfl ?_
          refine q_goto (off := 4) 65 (by decide +kernel) rfl ?_
          exact q_zret (w := 1) (by decide +kernel) rfl rfl rfl (Nat.le_of_ble_eq_true rfl) (Nat.le_of_ble_eq_true rfl)
      · exact hq1
def f_Ed_clashesWith (I : q_I) (a0 : Nat) (a1 : Nat) (a2 : Int32) : Option (Int32) :=
  if (I a1 3) = 6 then (some (1)) else (if a2 = 0 then (if (I a0 3) = 6 then (some (1)) else (q_b1 (f_Ed_changesSame I a0 a1) (fun v1 => if v1 = 0 then (some (0)) else (some (1))))) else (some (0)))
def y_Ed_clashesWith : MethodName := ⟨"CalendarReplicas$Edit", "clashesWith", "(LCalendarReplicas$Edit;Z)Z"⟩
def m_Ed_clashesWith : q_M := (prog_4_method_6_code, 3, "CalendarReplicas$Edit", { frames := 1, cells := 0, slots := 0, locals := 21 }, (some FieldType.boolean))
theorem yv_Ed_clashesWith : q_Y y_Ed_clashesWith m_Ed_clashesWith 2 := ⟨rfl, ⟨by decide, by decide⟩, by decide +kernel, tw_3_91, tw_1_7⟩
set_option maxRecDepth 100000 in
set_option maxHeartbeats 4000000 in
theorem c_Ed_clashesWith (l : Launch) (D : va_G) (tc : Nat → ClassId) (x0 y : Nat) (ad : Nat → Nat) (I : q_I) (J : q_J) (P : q_P) {a0 : Nat} {a1 : Nat} (h0 : isEd a0) (h1 : isEd a1) (a2 : Int32) : q_Ct l (cG D tc x0 y ad) y_Ed_clashesWith m_Ed_clashesWith [q_r (cG D tc x0 y ad) a0, q_r (cG D tc x0 y ad) a1, .int a2] (I, J, P) (f_Ed_clashesWith I a0 a1 a2) (fun r : Int32 => (some (.int r), (I, J, P))) := by
  refine q_Ct_of (cIn D tc x0 y ad) (by decide) rfl (Nat.le_of_ble_eq_true rfl) rfl (fun X hX => ?_)
  subst hX
  unfold f_Ed_clashesWith
  refine q_aload_n 1 1 1 rfl (by decide +kernel) rfl ?_
  refine q_geti (f := 3) 4 rfl (by decide +kernel) (cC_Ed D tc x0 y ad) h1.1 (by decide) rfl tw_1_173 ?_
  refine q_bipush 6 (c := 6) 6 rfl (by decide +kernel) rfl ?_
  refine q_icmp_ne 9 rfl 11 (off := 5) (by decide +kernel) rfl (fun g4 => ?_) (fun g4 => ?_)
  · refine q_iload_n 2 2 12 rfl (by decide +kernel) rfl ?_
    refine q_if_ne 15 rfl 36 (off := 24) (by decide +kernel) rfl (fun g3 => ?_) (fun g3 => ?_)
    · refine q_iconst 0 (c := 0) 37 rfl (by decide +kernel) rfl ?_
      exact q_zret (w := 0) (by decide +kernel) rfl rfl rfl (Nat.le_of_ble_eq_true rfl) (Nat.le_of_ble_eq_true rfl)
    · refine q_aload_n 0 0 16 rfl (by decide +kernel) rfl ?_
      refine q_geti (f := 3) 19 rfl (by decide +kernel) (cC_Ed D tc x0 y ad) h0.1 (by decide) rfl tw_1_173 ?_
      refine q_bipush 6 (c := 6) 21 rfl (by decide +kernel) rfl ?_
      refine q_icmp_eq 24 rfl 32 (off := 11) (by decide +kernel) rfl (fun g2 => ?_) (fun g2 => ?_)
      · refine q_iconst 1 (c := 1) 33 rfl (by decide +kernel) rfl ?_
        refine q_goto (off := 4) 37 (by decide +kernel) rfl ?_
        exact q_zret (w := 1) (by decide +kernel) rfl rfl rfl (Nat.le_of_ble_eq_true rfl) (Nat.le_of_ble_eq_true rfl)
      · refine q_aload_n 0 0 25 rfl (by decide +kernel) rfl ?_
        refine q_aload_n 1 1 26 rfl (by decide +kernel) rfl ?_
        refine q_callV_i 29 rfl (av := [q_r (cG D tc x0 y ad) a1]) (o := a0) (st := []) (c_Ed_changesSame X.1 D tc x0 y ad I J P h0 h1) yv_Ed_changesSame tw_3_92 tw_3_94 sw_5 (cC_Ed D tc x0 y ad) h0.1 rfl (Nat.le_of_ble_eq_true rfl) (by decide +kernel) ⟨Nat.le_of_ble_eq_true rfl, Nat.le_of_ble_eq_true rfl⟩ ⟨Nat.le_of_ble_eq_true rfl, Nat.le_of_ble_eq_true rfl⟩ rfl rfl (fun v1 => ?_)
        refine q_if_eq 32 rfl 36 (off := 7) (by decide +kernel) rfl (fun g1 => ?_) (fun g1 => ?_)
        · refine q_iconst 0 (c := 0) 37 rfl (by decide +kernel) rfl ?_
          exact q_zret (w := 0) (by decide +kernel) rfl rfl rfl (Nat.le_of_ble_eq_true rfl) (Nat.le_of_ble_eq_true rfl)
        · refine q_iconst 1 (c := 1) 33 rfl (by decide +kernel) rfl ?_
          refine q_goto (off := 4) 37 (by decide +kernel) rfl ?_
          exact q_zret (w := 1) (by decide +kernel) rfl rfl rfl (Nat.le_of_ble_eq_true rfl) (Nat.le_of_ble_eq_true rfl)
  · refine q_iconst 1 (c := 1) 10 rfl (by decide +kernel) rfl ?_
    exact q_zret (w := 1) (by decide +kernel) rfl rfl rfl (Nat.le_of_ble_eq_true rfl) (Nat.le_of_ble_eq_true rfl)
