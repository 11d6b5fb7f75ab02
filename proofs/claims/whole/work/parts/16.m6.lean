def f_Mo_clearText (I : q_I) : Option (Int32 × q_I) :=
  q_l (I 0 4 : Int32) (fun x1 => q_l (q_ui I 0 4 0) (fun I1 => some (x1, I1)))
def y_Mo_clearText : MethodName := ⟨"CalendarReplicasModel", "clearText", "()I"⟩
def m_Mo_clearText : q_M := (prog_11_method_79_code, 2, "CalendarReplicasModel", { frames := 0, cells := 0, slots := 0, locals := 0 }, (some FieldType.int))
theorem yv_Mo_clearText : q_Y y_Mo_clearText m_Mo_clearText 0 := ⟨rfl, ⟨by decide, by decide⟩, by decide +kernel, tw_7_128, tw_1_15⟩
set_option maxRecDepth 100000 in
set_option maxHeartbeats 4000000 in
theorem c_Mo_clearText (l : Launch) (D : va_G) (tc : Nat → ClassId) (x0 y : Nat) (I : q_I) (J : q_J) (P : q_P) : q_Ct l (mG D tc x0 y) y_Mo_clearText m_Mo_clearText [q_r (mG D tc x0 y) 0] (I, J, P) (f_Mo_clearText I) (fun r : Int32 × q_I => (some (.int r.1), (r.2, J, P))) := by
  refine q_Ct_of (mIn D tc x0 y) (by decide) rfl (Nat.le_of_ble_eq_true rfl) rfl (fun X hX => ?_)
  subst hX
  unfold f_Mo_clearText
  refine q_aload_n 0 0 1 rfl (by decide +kernel) rfl ?_
  refine q_geti (f := 4) 4 rfl (by decide +kernel) (cC_Mo D tc x0 y) (rfl : mKd 0 = (1, 0, 21, 0, 0)) (by decide) rfl tw_5_216 ?_
  refine q_leti (fun x1 => ?_)
  refine q_istore_n 1 1 5 rfl [(1, .int x1), (0, q_r (mG D tc x0 y) 0)] (by decide +kernel) rfl (Nat.le_of_ble_eq_true rfl) rfl ?_
  refine q_aload_n 1 0 6 rfl (by decide +kernel) rfl ?_
  refine q_iconst 0 (c := 0) 7 rfl (by decide +kernel) rfl ?_
  refine q_puti (f := 4) 10 rfl (by decide +kernel) (cC_Mo D tc x0 y) (rfl : mKd 0 = (1, 0, 21, 0, 0)) (by decide) rfl rfl rfl tw_5_216 ?_
  refine q_letI (fun I1 => ?_)
  refine q_iload_n 0 1 11 rfl (by decide +kernel) rfl ?_
  exact q_iret (by decide +kernel) rfl rfl (Nat.le_of_ble_eq_true rfl) (Nat.le_of_ble_eq_true rfl)
def f_Mo_faultPosition (I : q_I) : Option (Int32 × q_I) :=
  q_b2 (f_Mo_isText I) (fun v1 I1 => if v1 = 0 then (some ((I1 0 18), I1)) else (some ((-4), I1)))
def y_Mo_faultPosition : MethodName := ⟨"CalendarReplicasModel", "faultPosition", "()I"⟩
def m_Mo_faultPosition : q_M := (prog_11_method_88_code, 1, "CalendarReplicasModel", { frames := 6, cells := 0, slots := 0, locals := 128 }, (some FieldType.int))
theorem yv_Mo_faultPosition : q_Y y_Mo_faultPosition m_Mo_faultPosition 0 := ⟨rfl, ⟨by decide, by decide⟩, by decide +kernel, tw_7_132, tw_1_15⟩
set_option maxRecDepth 100000 in
set_option maxHeartbeats 4000000 in
theorem c_Mo_faultPosition (l : Launch) (D : va_G) (tc : Nat → ClassId) (x0 y : Nat) (I : q_I) (J : q_J) (P : q_P) : q_Ct l (mG D tc x0 y) y_Mo_faultPosition m_Mo_faultPosition [q_r (mG D tc x0 y) 0] (I, J, P) (f_Mo_faultPosition I) (fun r : Int32 × q_I => (some (.int r.1), (r.2, J, P))) := by
  refine q_Ct_of (mIn D tc x0 y) (by decide) rfl (Nat.le_of_ble_eq_true rfl) rfl (fun X hX => ?_)
  subst hX
  unfold f_Mo_faultPosition
  refine q_aload_n 0 0 1 rfl (by decide +kernel) rfl ?_
  refine q_callV_iI 4 rfl (av := []) (o := 0) (st := []) (c_Mo_isText X.1 D tc x0 y I J P ) yv_Mo_isText tw_6_158 tw_6_160 sw_46 (cC_Mo D tc x0 y) (rfl : mKd 0 = (1, 0, 21, 0, 0)) rfl (Nat.le_of_ble_eq_true rfl) (by decide +kernel) ⟨Nat.le_of_ble_eq_true rfl, Nat.le_of_ble_eq_true rfl⟩ ⟨Nat.le_of_ble_eq_true rfl, Nat.le_of_ble_eq_true rfl⟩ rfl rfl (fun v1 I1 => ?_)
  refine q_if_eq 7 rfl 12 (off := 8) (by decide +kernel) rfl (fun g1 => ?_) (fun g1 => ?_)
  · refine q_aload_n 0 0 13 rfl (by decide +kernel) rfl ?_
    refine q_geti (f := 18) 16 rfl (by decide +kernel) (cC_Mo D tc x0 y) (rfl : mKd 0 = (1, 0, 21, 0, 0)) (by decide) rfl tw_5_230 ?_
    exact q_iret (by decide +kernel) rfl rfl (Nat.le_of_ble_eq_true rfl) (Nat.le_of_ble_eq_true rfl)
  · refine q_bipush (-4) (c := -4) 9 rfl (by decide +kernel) rfl ?_
    refine q_goto (off := 7) 16 (by decide +kernel) rfl ?_
    exact q_iret (by decide +kernel) rfl rfl (Nat.le_of_ble_eq_true rfl) (Nat.le_of_ble_eq_true rfl)
def f_Mo_sign (I : q_I) (a1 : Int32) : Option (q_I) :=
  q_ix (I 0 6) 60 (fun j1 => q_l (q_ui I 5 j1 a1) (fun I1 => q_l (q_ui I1 0 6 ((I1 0 6) + 1)) (fun I2 => some (I2))))
def y_Mo_sign : MethodName := ⟨"CalendarReplicasModel", "sign", "(I)V"⟩
def m_Mo_sign : q_M := (prog_11_method_89_code, 2, "CalendarReplicasModel", { frames := 0, cells := 0, slots := 0, locals := 0 }, (none : Option FieldType))
theorem yv_Mo_sign : q_Y y_Mo_sign m_Mo_sign 1 := ⟨rfl, ⟨by decide, by decide⟩, by decide +kernel, tw_7_144, tw_1_15⟩
set_option maxRecDepth 100000 in
set_option maxHeartbeats 4000000 in
theorem c_Mo_sign (l : Launch) (D : va_G) (tc : Nat → ClassId) (x0 y : Nat) (I : q_I) (J : q_J) (P : q_P) (a1 : Int32) : q_Ct l (mG D tc x0 y) y_Mo_sign m_Mo_sign [q_r (mG D tc x0 y) 0, .int a1] (I, J, P) (f_Mo_sign I a1) (fun r : q_I => (none, (r, J, P))) := by
  refine q_Ct_of (mIn D tc x0 y) (by decide) rfl (Nat.le_of_ble_eq_true rfl) rfl (fun X hX => ?_)
  subst hX
  unfold f_Mo_sign
  refine q_aload_n 0 0 1 rfl (by decide +kernel) rfl ?_
  refine q_getr (f := 5) 5 4 rfl (by decide +kernel) (cC_Mo D tc x0 y) (rfl : mKd 0 = (1, 0, 21, 0, 0)) (by decide) rfl rfl tw_5_217 ?_
  refine q_aload_n 0 0 5 rfl (by decide +kernel) rfl ?_
  refine q_geti (f := 6) 8 rfl (by decide +kernel) (cC_Mo D tc x0 y) (rfl : mKd 0 = (1, 0, 21, 0, 0)) (by decide) rfl tw_5_218 ?_
  refine q_iload_n 1 1 9 rfl (by decide +kernel) rfl ?_
  refine q_iast (t := 0) 10 rfl (by decide +kernel) (rfl : mKd 5 = (2, 60, 0, 0, 0)) rfl (fun j1 hj1 => ?_)
  refine q_letI (fun I1 => ?_)
  refine q_aload_n 0 0 11 rfl (by decide +kernel) rfl ?_
  refine q_dup 12 rfl (by decide +kernel) rfl ?_
  refine q_geti (f := 6) 15 rfl (by decide +kernel) (cC_Mo D tc x0 y) (rfl : mKd 0 = (1, 0, 21, 0, 0)) (by decide) rfl tw_5_218 ?_
  refine q_iconst 1 (c := 1) 16 rfl (by decide +kernel) rfl ?_
  refine q_iadd 17 rfl (by decide +kernel) ?_
  refine q_puti (f := 6) 20 rfl (by decide +kernel) (cC_Mo D tc x0 y) (rfl : mKd 0 = (1, 0, 21, 0, 0)) (by decide) rfl rfl rfl tw_5_218 ?_
  refine q_letI (fun I2 => ?_)
  exact q_vret (by decide +kernel) rfl rfl (Nat.le_of_ble_eq_true rfl) (Nat.le_of_ble_eq_true rfl)
def f_Mo_decimal (I : q_I) (a1 : Int32) : Option (q_I) :=
  q_b1 (if a1 ≤ 9 then ((some (I))) else (q_b1 (f_Mo_sign I (48 + (a1 / 10))) (fun I3 => (some (I3)))) : Option (q_I)) (fun (I1 : q_I) => q_b1 (f_Mo_sign I1 (48 + (a1 - a1 / 10 * 10))) (fun I2 => some (I2)))
def y_Mo_decimal : MethodName := ⟨"CalendarReplicasModel", "decimal", "(I)V"⟩
def m_Mo_decimal : q_M := (prog_11_method_90_code, 2, "CalendarReplicasModel", { frames := 1, cells := 0, slots := 0, locals := 21 }, (none : Option FieldType))
theorem yv_Mo_decimal : q_Y y_Mo_decimal m_Mo_decimal 1 := ⟨rfl, ⟨by decide, by decide⟩, by decide +kernel, tw_7_140, tw_1_15⟩
set_option maxRecDepth 100000 in
set_option maxHeartbeats 4000000 in
theorem c_Mo_decimal (l : Launch) (D : va_G) (tc : Nat → ClassId) (x0 y : Nat) (I : q_I) (J : q_J) (P : q_P) (a1 : Int32) : q_Ct l (mG D tc x0 y) y_Mo_decimal m_Mo_decimal [q_r (mG D tc x0 y) 0, .int a1] (I, J, P) (f_Mo_decimal I a1) (fun r : q_I => (none, (r, J, P))) := by
  refine q_Ct_of (mIn D tc x0 y) (by decide) rfl (Nat.le_of_ble_eq_true rfl) rfl (fun X hX => ?_)
  subst hX
  unfold f_Mo_decimal
  refine q_iload_n 1 1 1 rfl (by decide +kernel) rfl ?_
  refine q_bipush 9 (c := 9) 3 rfl (by decide +kernel) rfl ?_
  refine q_jn1 17 (fun I1 => [(0, q_r (mG D tc x0 y) 0), (1, .int a1)]) (fun I1 => []) (fun I1 => I1) (fun I1 => J) (fun I1 => P) (fun jk1 => if a1 ≤ 9 then ((jk1 (I))) else (q_b1 (f_Mo_sign I (48 + (a1 / 10))) (fun I3 => (jk1 (I3))))) (by intro jk1; simp only [q_b1_if, q_b1_s, q_b1_n, q_b1_ix, q_b1_b1, q_b1_b2, q_b1_b3, q_b1_l, q_b1_ck, q_b1_el]) ?_ ?_
  · intro I1
    refine q_aload_n 0 0 18 rfl (by decide +kernel) rfl ?_
    refine q_bipush 48 (c := 48) 20 rfl (by decide +kernel) rfl ?_
    refine q_iload_n 1 1 21 rfl (by decide +kernel) rfl ?_
    refine q_bipush 10 (c := 10) 23 rfl (by decide +kernel) rfl ?_
    refine q_irem 24 rfl (by decide +kernel) (by decide) ?_
    refine q_iadd 25 rfl (by decide +kernel) ?_
    refine q_callV_vI 28 rfl (av := [.int (48 + (a1 - a1 / 10 * 10))]) (o := 0) (st := []) (c_Mo_sign X.1 D tc x0 y I1 J P (48 + (a1 - a1 / 10 * 10))) yv_Mo_sign tw_7_141 tw_7_143 sw_63 (cC_Mo D tc x0 y) (rfl : mKd 0 = (1, 0, 21, 0, 0)) rfl (Nat.le_of_ble_eq_true rfl) (by decide +kernel) ⟨Nat.le_of_ble_eq_true rfl, Nat.le_of_ble_eq_true rfl⟩ ⟨Nat.le_of_ble_eq_true rfl, Nat.le_of_ble_eq_true rfl⟩ rfl rfl (fun I2 => ?_)
    exact q_vret (by decide +kernel) rfl rfl (Nat.le_of_ble_eq_true rfl) (Nat.le_of_ble_eq_true rfl)
  · intro jk1 hq1
    refine q_icmp_le 6 rfl 17 (off := 14) (by decide +kernel) rfl (fun g1 => ?_) (fun g1 => ?_)
    · exact hq1 I
    · refine q_aload_n 0 0 7 rfl (by decide +kernel) rfl ?_
      refine q_bipush 48 (c := 48) 9 rfl (by decide +kernel) rfl ?_
      refine q_iload_n 1 1 10 rfl (by decide +kernel) rfl ?_
      refine q_bipush 10 (c := 10) 12 rfl (by decide +kernel) rfl ?_
      refine q_idiv 13 rfl (by decide +kernel) (by decide) ?_
      refine q_iadd 14 rfl (by decide +kernel) ?_
      refine q_callV_vI 17 rfl (av := [.int (48 + (a1 / 10))]) (o := 0) (st := []) (c_Mo_sign X.1 D tc x0 y I J P (48 + (a1 / 10))) yv_Mo_sign tw_7_141 tw_7_143 sw_63 (cC_Mo D tc x0 y) (rfl : mKd 0 = (1, 0, 21, 0, 0)) rfl (Nat.le_of_ble_eq_true rfl) (by decide +kernel) ⟨Nat.le_of_ble_eq_true rfl, Nat.le_of_ble_eq_true rfl⟩ ⟨Nat.le_of_ble_eq_true rfl, Nat.le_of_ble_eq_true rfl⟩ rfl rfl (fun I3 => ?_)
      exact hq1 I3
def f_Mo_option (I : q_I) (a1 : Int32) : Option (q_I) :=
  q_b1 (f_Mo_sign I 32) (fun I1 => q_b1 (f_Mo_sign I1 a1) (fun I2 => some (I2)))
def y_Mo_option : MethodName := ⟨"CalendarReplicasModel", "option", "(I)V"⟩
def m_Mo_option : q_M := (prog_11_method_91_code, 2, "CalendarReplicasModel", { frames := 1, cells := 0, slots := 0, locals := 21 }, (none : Option FieldType))
theorem yv_Mo_option : q_Y y_Mo_option m_Mo_option 1 := ⟨rfl, ⟨by decide, by decide⟩, by decide +kernel, tw_7_148, tw_1_15⟩
set_option maxRecDepth 100000 in
set_option maxHeartbeats 4000000 in
theorem c_Mo_option (l : Launch) (D : va_G) (tc : Nat → ClassId) (x0 y : Nat) (I : q_I) (J : q_J) (P : q_P) (a1 : Int32) : q_Ct l (mG D tc x0 y) y_Mo_option m_Mo_option [q_r (mG D tc x0 y) 0, .int a1] (I, J, P) (f_Mo_option I a1) (fun r : q_I => (none, (r, J, P))) := by
  refine q_Ct_of (mIn D tc x0 y) (by decide) rfl (Nat.le_of_ble_eq_true rfl) rfl (fun X hX => ?_)
  subst hX
  unfold f_Mo_option
  refine q_aload_n 0 0 1 rfl (by decide +kernel) rfl ?_
  refine q_bipush 32 (c := 32) 3 rfl (by decide +kernel) rfl ?_
  refine q_callV_vI 6 rfl (av := [.int 32]) (o := 0) (st := []) (c_Mo_sign X.1 D tc x0 y I J P 32) yv_Mo_sign tw_7_141 tw_7_143 sw_63 (cC_Mo D tc x0 y) (rfl : mKd 0 = (1, 0, 21, 0, 0)) rfl (Nat.le_of_ble_eq_true rfl) (by decide +kernel) ⟨Nat.le_of_ble_eq_true rfl, Nat.le_of_ble_eq_true rfl⟩ ⟨Nat.le_of_ble_eq_true rfl, Nat.le_of_ble_eq_true rfl⟩ rfl rfl (fun I1 => ?_)
  refine q_aload_n 0 0 7 rfl (by decide +kernel) rfl ?_
  refine q_iload_n 1 1 8 rfl (by decide +kernel) rfl ?_
  refine q_callV_vI 11 rfl (av := [.int a1]) (o := 0) (st := []) (c_Mo_sign X.1 D tc x0 y I1 J P a1) yv_Mo_sign tw_7_141 tw_7_143 sw_63 (cC_Mo D tc x0 y) (rfl : mKd 0 = (1, 0, 21, 0, 0)) rfl (Nat.le_of_ble_eq_true rfl) (by decide +kernel) ⟨Nat.le_of_ble_eq_true rfl, Nat.le_of_ble_eq_true rfl⟩ ⟨Nat.le_of_ble_eq_true rfl, Nat.le_of_ble_eq_true rfl⟩ rfl rfl (fun I2 => ?_)
  exact q_vret (by decide +kernel) rfl rfl (Nat.le_of_ble_eq_true rfl) (Nat.le_of_ble_eq_true rfl)
def f_Mo_print_L1 (v2 : Int32) (K : q_I → Option (Int32 × q_I × q_J)) : Nat → Int32 → q_I → Option (Int32 × q_I × q_J)
  | 0, _, _ => none
  | n + 1, x1, I9 => if (6 : Int32) ≤ x1 then ((K I9)) else (q_b1 (f_Mo_meeting v2 4) (fun v6 => q_ix v6 175 (fun j4 => if (((I9 6 j4) >>> (x1 &&& 31)) &&& 1) = 1 then (q_b1 (f_Mo_decimal I9 x1) (fun I10 => (f_Mo_print_L1 v2 K n (x1 + 1) I10))) else ((f_Mo_print_L1 v2 K n (x1 + 1) I9)))))
def f_Mo_print (I : q_I) (J : q_J) (a1 : Int32) (a2 : Int32) : Option (Int32 × q_I × q_J) :=
  q_b3 (f_Mo_isThere I J a1 a2) (fun v1 I1 J1 => if v1 = 0 then (some ((-1), I1, J1)) else (q_b1 (f_Mo_find I1 a2) (fun v2 => q_l (q_ui I1 0 6 0) (fun I2 => q_b1 (f_Mo_meeting v2 1) (fun v3 => q_ix v3 175 (fun j1 => q_b1 (f_Mo_decimal I2 (I2 6 j1)) (fun I3 => q_b1 (f_Mo_sign I3 43) (fun I4 => q_b1 (f_Mo_meeting v2 2) (fun v4 => q_ix v4 175 (fun j2 => q_b1 (f_Mo_decimal I4 (I4 6 j2)) (fun I5 => q_b1 (f_Mo_option I5 114) (fun I6 => q_b1 (f_Mo_meeting v2 3) (fun v5 => q_ix v5 175 (fun j3 => q_b1 (f_Mo_decimal I6 (I6 6 j3)) (fun I7 => q_b1 (f_Mo_option I7 112) (fun I8 => f_Mo_print_L1 v2 (fun (I11 : q_I) => q_b1 (f_Mo_meeting v2 6) (fun v7 => q_ix v7 175 (fun j5 => q_b1 (if (I11 6 j5) ≤ 1 then ((some (I11))) else (q_b1 (f_Mo_option I11 101) (fun I13 => q_b1 (f_Mo_meeting v2 5) (fun v8 => q_ix v8 175 (fun j6 => q_b1 (f_Mo_decimal I13 (I13 6 j6)) (fun I14 => q_b1 (f_Mo_sign I14 120) (fun I15 => q_b1 (f_Mo_meeting v2 6) (fun v9 => q_ix v9 175 (fun j7 => q_b1 (f_Mo_decimal I15 (I15 6 j7)) (fun I16 => (some (I16))))))))))) : Option (q_I)) (fun (I12 : q_I) => some ((I12 0 6), I12, J1))))) q_fu 0 I8))))))))))))))))
def y_Mo_print : MethodName := ⟨"CalendarReplicasModel", "print", "(II)I"⟩
def m_Mo_print : q_M := (prog_11_method_92_code, 5, "CalendarReplicasModel", { frames := 9, cells := 0, slots := 0, locals := 214 }, (some FieldType.int))
theorem yv_Mo_print : q_Y y_Mo_print m_Mo_print 2 := ⟨rfl, ⟨by decide, by decide⟩, by decide +kernel, tw_7_136, tw_1_15⟩
set_option maxRecDepth 100000 in
set_option maxHeartbeats 4000000 in
theorem c_Mo_print (l : Launch) (D : va_G) (tc : Nat → ClassId) (x0 y : Nat) (I : q_I) (J : q_J) (P : q_P) (a1 : Int32) (a2 : Int32) : q_Ct l (mG D tc x0 y) y_Mo_print m_Mo_print [q_r (mG D tc x0 y) 0, .int a1, .int a2] (I, J, P) (f_Mo_print I J a1 a2) (fun r : Int32 × q_I × q_J => (some (.int r.1), (r.2.1, r.2.2, P))) := by
  refine q_Ct_of (mIn D tc x0 y) (by decide) rfl (Nat.le_of_ble_eq_true rfl) rfl (fun X hX => ?_)
  subst hX
  unfold f_Mo_print
  refine q_aload_n 0 0 1 rfl (by decide +kernel) rfl ?_
  refine q_iload_n 1 1 2 rfl (by decide +kernel) rfl ?_
  refine q_iload_n 2 2 3 rfl (by decide +kernel) rfl ?_
  refine q_callV_iIJ 6 rfl (av := [.int a1, .int a2]) (o := 0) (st := []) (c_Mo_isThere X.1 D tc x0 y I J P a1 a2) yv_Mo_isThere tw_6_197 tw_6_199 sw_54 (cC_Mo D tc x0 y) (rfl : mKd 0 = (1, 0, 21, 0, 0)) rfl (Nat.le_of_ble_eq_true rfl) (by decide +kernel) ⟨Nat.le_of_ble_eq_true rfl, Nat.le_of_ble_eq_true rfl⟩ ⟨Nat.le_of_ble_eq_true rfl, Nat.le_of_ble_eq_true rfl⟩ rfl rfl (fun v1 I1 J1 => ?_)
  refine q_if_ne 9 rfl 11 (off := 5) (by decide +kernel) rfl (fun g4 => ?_) (fun g4 => ?_)
  · refine q_aload_n 0 0 12 rfl (by decide +kernel) rfl ?_
    refine q_iload_n 2 2 13 rfl (by decide +kernel) rfl ?_
    refine q_callV_i 16 rfl (av := [.int a2]) (o := 0) (st := []) (c_Mo_find X.1 D tc x0 y I1 J1 P a2) yv_Mo_find tw_6_89 tw_6_91 sw_34 (cC_Mo D tc x0 y) (rfl : mKd 0 = (1, 0, 21, 0, 0)) rfl (Nat.le_of_ble_eq_true rfl) (by decide +kernel) ⟨Nat.le_of_ble_eq_true rfl, Nat.le_of_ble_eq_true rfl⟩ ⟨Nat.le_of_ble_eq_true rfl, Nat.le_of_ble_eq_true rfl⟩ rfl rfl (fun v2 => ?_)
    refine q_istore_n 3 3 17 rfl [(3, .int v2), (0, q_r (mG D tc x0 y) 0), (1, .int a1), (2, .int a2)] (by decide +kernel) rfl (Nat.le_of_ble_eq_true rfl) rfl ?_
    refine q_aload_n 1 0 18 rfl (by decide +kernel) rfl ?_
    refine q_iconst 0 (c := 0) 19 rfl (by decide +kernel) rfl ?_
    refine q_puti (f := 6) 22 rfl (by decide +kernel) (cC_Mo D tc x0 y) (rfl : mKd 0 = (1, 0, 21, 0, 0)) (by decide) rfl rfl rfl tw_5_218 ?_
    refine q_letI (fun I2 => ?_)
    refine q_aload_n 1 0 23 rfl (by decide +kernel) rfl ?_
    refine q_aload_n 1 0 24 rfl (by decide +kernel) rfl ?_
    refine q_getr (f := 8) 6 27 rfl (by decide +kernel) (cC_Mo D tc x0 y) (rfl : mKd 0 = (1, 0, 21, 0, 0)) (by decide) rfl rfl tw_5_220 ?_
    refine q_iload_n 0 3 28 rfl (by decide +kernel) rfl ?_
    refine q_iconst 1 (c := 1) 29 rfl (by decide +kernel) rfl ?_
    refine q_callS_i 32 rfl (av := [.int v2, .int 1]) (st := [q_r (mG D tc x0 y) 6, q_r (mG D tc x0 y) 0]) (c_Mo_meeting X.1 D tc x0 y I2 J1 P v2 1) yv_Mo_meeting tw_6_86 tw_6_87 rfl (Nat.le_of_ble_eq_true rfl) (by decide +kernel) ⟨Nat.le_of_ble_eq_true rfl, Nat.le_of_ble_eq_true rfl⟩ ⟨Nat.le_of_ble_eq_true rfl, Nat.le_of_ble_eq_true rfl⟩ rfl rfl (fun v3 => ?_)
    refine q_iald (t := 0) 33 rfl (by decide +kernel) (rfl : mKd 6 = (2, 175, 0, 0, 0)) rfl (fun j1 hj1 => ?_)
    refine q_callV_vI 36 rfl (av := [.int (I2 6 j1)]) (o := 0) (st := []) (c_Mo_decimal X.1 D tc x0 y I2 J1 P (I2 6 j1)) yv_Mo_decimal tw_7_137 tw_7_139 sw_62 (cC_Mo D tc x0 y) (rfl : mKd 0 = (1, 0, 21, 0, 0)) rfl (Nat.le_of_ble_eq_true rfl) (by decide +kernel) ⟨Nat.le_of_ble_eq_true rfl, Nat.le_of_ble_eq_true rfl⟩ ⟨Nat.le_of_ble_eq_true rfl, Nat.le_of_ble_eq_true rfl⟩ rfl rfl (fun I3 => ?_)
    refine q_aload_n 1 0 37 rfl (by decide +kernel) rfl ?_
    refine q_bipush 43 (c := 43) 39 rfl (by decide +kernel) rfl ?_
    refine q_callV_vI 42 rfl (av := [.int 43]) (o := 0) (st := []) (c_Mo_sign X.1 D tc x0 y I3 J1 P 43) yv_Mo_sign tw_7_141 tw_7_143 sw_63 (cC_Mo D tc x0 y) (rfl : mKd 0 = (1, 0, 21, 0, 0)) rfl (Nat.le_of_ble_eq_true rfl) (by decide +kernel) ⟨Nat.le_of_ble_eq_true rfl, Nat.le_of_ble_eq_true rfl⟩ ⟨Nat.le_of_ble_eq_true rfl, Nat.le_of_ble_eq_true rfl⟩ rfl rfl (fun I4 => ?_)
    refine q_aload_n 1 0 43 rfl (by decide +kernel) rfl ?_
    refine q_aload_n 1 0 44 rfl (by decide +kernel) rfl ?_
    refine q_getr (f := 8) 6 47 rfl (by decide +kernel) (cC_Mo D tc x0 y) (rfl : mKd 0 = (1, 0, 21, 0, 0)) (by decide) rfl rfl tw_5_220 ?_
    refine q_iload_n 0 3 48 rfl (by decide +kernel) rfl ?_
    refine q_iconst 2 (c := 2) 49 rfl (by decide +kernel) rfl ?_
    refine q_callS_i 52 rfl (av := [.int v2, .int 2]) (st := [q_r (mG D tc x0 y) 6, q_r (mG D tc x0 y) 0]) (c_Mo_meeting X.1 D tc x0 y I4 J1 P v2 2) yv_Mo_meeting tw_6_86 tw_6_87 rfl (Nat.le_of_ble_eq_true rfl) (by decide +kernel) ⟨Nat.le_of_ble_eq_true rfl, Nat.le_of_ble_eq_true rfl⟩ ⟨Nat.le_of_ble_eq_true rfl, Nat.le_of_ble_eq_true rfl⟩ rfl rfl (fun v4 => ?_)
    refine q_iald (t := 0) 53 rfl (by decide +kernel) (rfl : mKd 6 = (2, 175, 0, 0, 0)) rfl (fun j2 hj2 => ?_)
    refine q_callV_vI 56 rfl (av := [.int (I4 6 j2)]) (o := 0) (st := []) (c_Mo_decimal X.1 D tc x0 y I4 J1 P (I4 6 j2)) yv_Mo_decimal tw_7_137 tw_7_139 sw_62 (cC_Mo D tc x0 y) (rfl : mKd 0 = (1, 0, 21, 0, 0)) rfl (Nat.le_of_ble_eq_true rfl) (by decide +kernel) ⟨Nat.le_of_ble_eq_true rfl, Nat.le_of_ble_eq_true rfl⟩ ⟨Nat.le_of_ble_eq_true rfl, Nat.le_of_ble_eq_true rfl⟩ rfl rfl (fun I5 => ?_)
    refine q_aload_n 1 0 57 rfl (by decide +kernel) rfl ?_
    refine q_bipush 114 (c := 114) 59 rfl (by decide +kernel) rfl ?_
    refine q_callV_vI 62 rfl (av := [.int 114]) (o := 0) (st := []) (c_Mo_option X.1 D tc x0 y I5 J1 P 114) yv_Mo_option tw_7_145 tw_7_147 sw_64 (cC_Mo D tc x0 y) (rfl : mKd 0 = (1, 0, 21, 0, 0)) rfl (Nat.le_of_ble_eq_true rfl) (by decide +kernel) ⟨Nat.le_of_ble_eq_true rfl, Nat.le_of_ble_eq_true rfl⟩ ⟨Nat.le_of_ble_eq_true rfl, Nat.le_of_ble_eq_true rfl⟩ rfl rfl (fun I6 => ?_)
    refine q_aload_n 1 0 63 rfl (by decide +kernel) rfl ?_
    refine q_aload_n 1 0 64 rfl (by decide +kernel) rfl ?_
    refine q_getr (f := 8) 6 67 rfl (by decide +kernel) (cC_Mo D tc x0 y) (rfl : mKd 0 = (1, 0, 21, 0, 0)) (by decide) rfl rfl tw_5_220 ?_
    refine q_iload_n 0 3 68 rfl (by decide +kernel) rfl ?_
    refine q_iconst 3 (c := 3) 69 rfl (by decide +kernel) rfl ?_
    refine q_callS_i 72 rfl (av := [.int v2, .int 3]) (st := [q_r (mG D tc x0 y) 6, q_r (mG D tc x0 y) 0]) (c_Mo_meeting X.1 D tc x0 y I6 J1 P v2 3) yv_Mo_meeting tw_6_86 tw_6_87 rfl (Nat.le_of_ble_eq_true rfl) (by decide +kernel) ⟨Nat.le_of_ble_eq_true rfl, Nat.le_of_ble_eq_true rfl⟩ ⟨Nat.le_of_ble_eq_true rfl, Nat.le_of_ble_eq_true rfl⟩ rfl rfl (fun v5 => ?_)
    refine q_iald (t := 0) 73 rfl (by decide +kernel) (rfl : mKd 6 = (2, 175, 0, 0, 0)) rfl (fun j3 hj3 => ?_)
    refine q_callV_vI 76 rfl (av := [.int (I6 6 j3)]) (o := 0) (st := []) (c_Mo_decimal X.1 D tc x0 y I6 J1 P (I6 6 j3)) yv_Mo_decimal tw_7_137 tw_7_139 sw_62 (cC_Mo D tc x0 y) (rfl : mKd 0 = (1, 0, 21, 0, 0)) rfl (Nat.le_of_ble_eq_true rfl) (by decide +kernel) ⟨Nat.le_of_ble_eq_true rfl, Nat.le_of_ble_eq_true rfl⟩ ⟨Nat.le_of_ble_eq_true rfl, Nat.le_of_ble_eq_true rfl⟩ rfl rfl (fun I7 => ?_)
    refine q_aload_n 1 0 77 rfl (by decide +kernel) rfl ?_
    refine q_bipush 112 (c := 112) 79 rfl (by decide +kernel) rfl ?_
    refine q_callV_vI 82 rfl (av := [.int 112]) (o := 0) (st := []) (c_Mo_option X.1 D tc x0 y I7 J1 P 112) yv_Mo_option tw_7_145 tw_7_147 sw_64 (cC_Mo D tc x0 y) (rfl : mKd 0 = (1, 0, 21, 0, 0)) rfl (Nat.le_of_ble_eq_true rfl) (by decide +kernel) ⟨Nat.le_of_ble_eq_true rfl, Nat.le_of_ble_eq_true rfl⟩ ⟨Nat.le_of_ble_eq_true rfl, Nat.le_of_ble_eq_true rfl⟩ rfl rfl (fun I8 => ?_)
    refine q_iconst 0 (c := 0) 83 rfl (by decide +kernel) rfl ?_
    refine q_istore 4 85 rfl [(4, .int 0), (3, .int v2), (0, q_r (mG D tc x0 y) 0), (1, .int a1), (2, .int a2)] (by decide +kernel) (Nat.le_of_ble_eq_true rfl) rfl ?_
    have hL1 : ∀ (K1 : q_I → Option (Int32 × q_I × q_J)) (hK1 : ∀ (I11 : q_I), q_V (mG D tc x0 y) m_Mo_print X (fun r : Int32 × q_I × q_J => (some (.int r.1), (r.2.1, r.2.2, P))) 0 0 123 [(0, q_r (mG D tc x0 y) 0), (3, .int v2)] [] I11 J1 P (K1 I11)) (n1_ : Nat) (x1 : Int32) (I9 : q_I), q_V (mG D tc x0 y) m_Mo_print X (fun r : Int32 × q_I × q_J => (some (.int r.1), (r.2.1, r.2.2, P))) 0 0 85 [(0, q_r (mG D tc x0 y) 0), (3, .int v2), (4, .int x1)] [] I9 J1 P (f_Mo_print_L1 v2 K1 n1_ x1 I9) := by
      intro K1 hK1 n1_
      induction n1_ with
      | zero => intro x1 I9; exact q_none
      | succ n1_ ih1 =>
        intro x1 I9
        rw [f_Mo_print_L1]
        refine q_iload 2 4 87 rfl (by decide +kernel) rfl ?_
        refine q_bipush 6 (c := 6) 89 rfl (by decide +kernel) rfl ?_
        refine q_icmp_ge 92 rfl 123 (off := 34) (by decide +kernel) rfl (fun g2 => ?_) (fun g2 => ?_)
        · refine q_sub [0, 1] rfl ?_
          exact hK1 I9
        · refine q_aload_n 0 0 93 rfl (by decide +kernel) rfl ?_
          refine q_getr (f := 8) 6 96 rfl (by decide +kernel) (cC_Mo D tc x0 y) (rfl : mKd 0 = (1, 0, 21, 0, 0)) (by decide) rfl rfl tw_5_220 ?_
          refine q_iload_n 1 3 97 rfl (by decide +kernel) rfl ?_
          refine q_iconst 4 (c := 4) 98 rfl (by decide +kernel) rfl ?_
          refine q_callS_i 101 rfl (av := [.int v2, .int 4]) (st := [q_r (mG D tc x0 y) 6]) (c_Mo_meeting X.1 D tc x0 y I9 J1 P v2 4) yv_Mo_meeting tw_6_86 tw_6_87 rfl (Nat.le_of_ble_eq_true rfl) (by decide +kernel) ⟨Nat.le_of_ble_eq_true rfl, Nat.le_of_ble_eq_true rfl⟩ ⟨Nat.le_of_ble_eq_true rfl, Nat.le_of_ble_eq_true rfl⟩ rfl rfl (fun v6 => ?_)
          refine q_iald (t := 0) 102 rfl (by decide +kernel) (rfl : mKd 6 = (2, 175, 0, 0, 0)) rfl (fun j4 hj4 => ?_)
          refine q_iload 2 4 104 rfl (by decide +kernel) rfl ?_
          refine q_ishr 105 rfl (by decide +kernel) ?_
          refine q_iconst 1 (c := 1) 106 rfl (by decide +kernel) rfl ?_
          refine q_iand 107 rfl (by decide +kernel) ?_
          refine q_iconst 1 (c := 1) 108 rfl (by decide +kernel) rfl ?_
          refine q_icmp_ne 111 rfl 117 (off := 9) (by decide +kernel) rfl (fun g1 => ?_) (fun g1 => ?_)
          · refine q_iinc (x1 + 1) (c := 1) 4 2 120 rfl [(4, .int (x1 + 1)), (0, q_r (mG D tc x0 y) 0), (3, .int v2)] (by decide +kernel) rfl rfl (Nat.le_of_ble_eq_true rfl) rfl ?_
            refine q_goto (off := -35) 85 (by decide +kernel) rfl ?_
            refine q_sub [1, 2, 0] rfl ?_
            exact ih1 (x1 + 1) I9
          · refine q_aload_n 0 0 112 rfl (by decide +kernel) rfl ?_
            refine q_iload 2 4 114 rfl (by decide +kernel) rfl ?_
            refine q_callV_vI 117 rfl (av := [.int x1]) (o := 0) (st := []) (c_Mo_decimal X.1 D tc x0 y I9 J1 P x1) yv_Mo_decimal tw_7_137 tw_7_139 sw_62 (cC_Mo D tc x0 y) (rfl : mKd 0 = (1, 0, 21, 0, 0)) rfl (Nat.le_of_ble_eq_true rfl) (by decide +kernel) ⟨Nat.le_of_ble_eq_true rfl, Nat.le_of_ble_eq_true rfl⟩ ⟨Nat.le_of_ble_eq_true rfl, Nat.le_of_ble_eq_true rfl⟩ rfl rfl (fun I10 => ?_)
            refine q_iinc (x1 + 1) (c := 1) 4 2 120 rfl [(4, .int (x1 + 1)), (0, q_r (mG D tc x0 y) 0), (3, .int v2)] (by decide +kernel) rfl rfl (Nat.le_of_ble_eq_true rfl) rfl ?_
            refine q_goto (off := -35) 85 (by decide +kernel) rfl ?_
            refine q_sub [1, 2, 0] rfl ?_
            exact ih1 (x1 + 1) I10
    refine q_sub [2, 1, 0] rfl ?_
    refine hL1 _ (fun I11 => ?_) _ _ _
    refine q_aload_n 0 0 124 rfl (by decide +kernel) rfl ?_
    refine q_getr (f := 8) 6 127 rfl (by decide +kernel) (cC_Mo D tc x0 y) (rfl : mKd 0 = (1, 0, 21, 0, 0)) (by decide) rfl rfl tw_5_220 ?_
    refine q_iload_n 1 3 128 rfl (by decide +kernel) rfl ?_
    refine q_bipush 6 (c := 6) 130 rfl (by decide +kernel) rfl ?_
    refine q_callS_i 133 rfl (av := [.int v2, .int 6]) (st := [q_r (mG D tc x0 y) 6]) (c_Mo_meeting X.1 D tc x0 y I11 J1 P v2 6) yv_Mo_meeting tw_6_86 tw_6_87 rfl (Nat.le_of_ble_eq_true rfl) (by decide +kernel) ⟨Nat.le_of_ble_eq_true rfl, Nat.le_of_ble_eq_true rfl⟩ ⟨Nat.le_of_ble_eq_true rfl, Nat.le_of_ble_eq_true rfl⟩ rfl rfl (fun v7 => ?_)
    refine q_iald (t := 0) 134 rfl (by decide +kernel) (rfl : mKd 6 = (2, 175, 0, 0, 0)) rfl (fun j5 hj5 => ?_)
    refine q_iconst 1 (c := 1) 135 rfl (by decide +kernel) rfl ?_
    refine q_jn1 179 (fun I12 => [(0, q_r (mG D tc x0 y) 0)]) (fun I12 => []) (fun I12 => I12) (fun I12 => J1) (fun I12 => P) (fun jk1 => if (I11 6 j5) ≤ 1 then ((jk1 (I11))) else (q_b1 (f_Mo_option I11 101) (fun I13 => q_b1 (f_Mo_meeting v2 5) (fun v8 => q_ix v8 175 (fun j6 => q_b1 (f_Mo_decimal I13 (I13 6 j6)) (fun I14 => q_b1 (f_Mo_sign I14 120) (fun I15 => q_b1 (f_Mo_meeting v2 6) (fun v9 => q_ix v9 175 (fun j7 => q_b1 (f_Mo_decimal I15 (I15 6 j7)) (fun I16 => (jk1 (I16)))))))))))) (by intro jk1; simp only [q_b1_if, q_b1_s, q_b1_n, q_b1_ix, q_b1_b1, q_b1_b2, q_b1_b3, q_b1_l, q_b1_ck, q_b1_el]) ?_ ?_
    · intro I12
      refine q_aload_n 0 0 180 rfl (by decide +kernel) rfl ?_
      refine q_geti (f := 6) 183 rfl (by decide +kernel) (cC_Mo D tc x0 y) (rfl : mKd 0 = (1, 0, 21, 0, 0)) (by decide) rfl tw_5_218 ?_
      exact q_iret (by decide +kernel) rfl rfl (Nat.le_of_ble_eq_true rfl) (Nat.le_of_ble_eq_true rfl)
    · intro jk1 hq1
      refine q_icmp_le 138 rfl 179 (off := 44) (by decide +kernel) rfl (fun g3 => ?_) (fun g3 => ?_)
      · refine q_sub [0] rfl ?_
        exact hq1 I11
      · refine q_aload_n 0 0 139 rfl (by decide +kernel) rfl ?_
        refine q_bipush 101 (c := 101) 141 rfl (by decide +kernel) rfl ?_
        refine q_callV_vI 144 rfl (av := [.int 101]) (o := 0) (st := []) (c_Mo_option X.1 D tc x0 y I11 J1 P 101) yv_Mo_option tw_7_145 tw_7_147 sw_64 (cC_Mo D tc x0 y) (rfl : mKd 0 = (1, 0, 21, 0, 0)) rfl (Nat.le_of_ble_eq_true rfl) (by decide +kernel) ⟨Nat.le_of_ble_eq_true rfl, Nat.le_of_ble_eq_true rfl⟩ ⟨Nat.le_of_ble_eq_true rfl, Nat.le_of_ble_eq_true rfl⟩ rfl rfl (fun I13 => ?_)
        refine q_aload_n 0 0 145 rfl (by decide +kernel) rfl ?_
        refine q_aload_n 0 0 146 rfl (by decide +kernel) rfl ?_
        refine q_getr (f := 8) 6 149 rfl (by decide +kernel) (cC_Mo D tc x0 y) (rfl : mKd 0 = (1, 0, 21, 0, 0)) (by decide) rfl rfl tw_5_220 ?_
        refine q_iload_n 1 3 150 rfl (by decide +kernel) rfl ?_
        refine q_iconst 5 (c := 5) 151 rfl (by decide +kernel) rfl ?_
        refine q_callS_i 154 rfl (av := [.int v2, .int 5]) (st := [q_r (mG D tc x0 y) 6, q_r (mG D tc x0 y) 0]) (c_Mo_meeting X.1 D tc x0 y I13 J1 P v2 5) yv_Mo_meeting tw_6_86 tw_6_87 rfl (Nat.le_of_ble_eq_true rfl) (by decide +kernel) ⟨Nat.le_of_ble_eq_true rfl, Nat.le_of_ble_eq_true rfl⟩ ⟨Nat.le_of_ble_eq_true rfl, Nat.le_of_ble_eq_true rfl⟩ rfl rfl (fun v8 => ?_)
        refine q_iald (t := 0) 155 rfl (by decide +kernel) (rfl : mKd 6 = (2, 175, 0, 0, 0)) rfl (fun j6 hj6 => ?_)
        refine q_callV_vI 158 rfl (av := [.int (I13 6 j6)]) (o := 0) (st := []) (c_Mo_decimal X.1 D tc x0 y I13 J1 P (I13 6 j6)) yv_Mo_decimal tw_7_137 tw_7_139 sw_62 (cC_Mo D tc x0 y) (rfl : mKd 0 = (1, 0, 21, 0, 0)) rfl (Nat.le_of_ble_eq_true rfl) (by decide +kernel) ⟨Nat.le_of_ble_eq_true rfl, Nat.le_of_ble_eq_true rfl⟩ ⟨Nat.le_of_ble_eq_true rfl, Nat.le_of_ble_eq_true rfl⟩ rfl rfl (fun I14 => ?_)
        refine q_aload_n 0 0 159 rfl (by decide +kernel) rfl ?_
        refine q_bipush 120 (c := 120) 161 rfl (by decide +kernel) rfl ?_
        refine q_callV_vI 164 rfl (av := [.int 120]) (o := 0) (st := []) (c_Mo_sign X.1 D tc x0 y I14 J1 P 120) yv_Mo_sign tw_7_141 tw_7_143 sw_63 (cC_Mo D tc x0 y) (rfl : mKd 0 = (1, 0, 21, 0, 0)) rfl (Nat.le_of_ble_eq_true rfl) (by decide +kernel) ⟨Nat.le_of_ble_eq_true rfl, Nat.le_of_ble_eq_true rfl⟩ ⟨Nat.le_of_ble_eq_true rfl, Nat.le_of_ble_eq_true rfl⟩ rfl rfl (fun I15 => ?_)
        refine q_aload_n 0 0 165 rfl (by decide +kernel) rfl ?_
        refine q_aload_n 0 0 166 rfl (by decide +kernel) rfl ?_
        refine q_getr (f := 8) 6 169 rfl (by decide +kernel) (cC_Mo D tc x0 y) (rfl : mKd 0 = (1, 0, 21, 0, 0)) (by decide) rfl rfl tw_5_220 ?_
        refine q_iload_n 1 3 170 rfl (by decide +kernel) rfl ?_
        refine q_bipush 6 (c := 6) 172 rfl (by decide +kernel) rfl ?_
        refine q_callS_i 175 rfl (av := [.int v2, .int 6]) (st := [q_r (mG D tc x0 y) 6, q_r (mG D tc x0 y) 0]) (c_Mo_meeting X.1 D tc x0 y I15 J1 P v2 6) yv_Mo_meeting tw_6_86 tw_6_87 rfl (Nat.le_of_ble_eq_true rfl) (by decide +kernel) ⟨Nat.le_of_ble_eq_true rfl, Nat.le_of_ble_eq_true rfl⟩ ⟨Nat.le_of_ble_eq_true rfl, Nat.le_of_ble_eq_true rfl⟩ rfl rfl (fun v9 => ?_)
        refine q_iald (t := 0) 176 rfl (by decide +kernel) (rfl : mKd 6 = (2, 175, 0, 0, 0)) rfl (fun j7 hj7 => ?_)
        refine q_callV_vI 179 rfl (av := [.int (I15 6 j7)]) (o := 0) (st := []) (c_Mo_decimal X.1 D tc x0 y I15 J1 P (I15 6 j7)) yv_Mo_decimal tw_7_137 tw_7_139 sw_62 (cC_Mo D tc x0 y) (rfl : mKd 0 = (1, 0, 21, 0, 0)) rfl (Nat.le_of_ble_eq_true rfl) (by decide +kernel) ⟨Nat.le_of_ble_eq_true rfl, Nat.le_of_ble_eq_true rfl⟩ ⟨Nat.le_of_ble_eq_true rfl, Nat.le_of_ble_eq_true rfl⟩ rfl rfl (fun I16 => ?_)
        refine q_sub [0] rfl ?_
        exact hq1 I16
  · refine q_iconst (-1) (c := -1) 10 rfl (by decide +kernel) rfl ?_
    exact q_iret (by decide +kernel) rfl rfl (Nat.le_of_ble_eq_true rfl) (Nat.le_of_ble_eq_true rfl)
def f_Mo_printed (I : q_I) (a1 : Int32) : Option (Int32) :=
  if (0 : Int32) ≤ a1 then (if (I 0 6) ≤ a1 then (some ((-4))) else (q_ix a1 60 (fun j1 => some ((I 5 j1))))) else (some ((-1)))
def y_Mo_printed : MethodName := ⟨"CalendarReplicasModel", "printed", "(I)I"⟩
def m_Mo_printed : q_M := (prog_11_method_93_code, 2, "CalendarReplicasModel", { frames := 0, cells := 0, slots := 0, locals := 0 }, (some FieldType.int))
theorem yv_Mo_printed : q_Y y_Mo_printed m_Mo_printed 1 := ⟨rfl, ⟨by decide, by decide⟩, by decide +kernel, tw_7_152, tw_1_15⟩
set_option maxRecDepth 100000 in
set_option maxHeartbeats 4000000 in
theorem c_Mo_printed (l : Launch) (D : va_G) (tc : Nat → ClassId) (x0 y : Nat) (I : q_I) (J : q_J) (P : q_P) (a1 : Int32) : q_Ct l (mG D tc x0 y) y_Mo_printed m_Mo_printed [q_r (mG D tc x0 y) 0, .int a1] (I, J, P) (f_Mo_printed I a1) (fun r : Int32 => (some (.int r), (I, J, P))) := by
  refine q_Ct_of (mIn D tc x0 y) (by decide) rfl (Nat.le_of_ble_eq_true rfl) rfl (fun X hX => ?_)
  subst hX
  unfold f_Mo_printed
  refine q_iload_n 1 1 1 rfl (by decide +kernel) rfl ?_
  refine q_if_ge 4 rfl 8 (off := 7) (by decide +kernel) rfl (fun g2 => ?_) (fun g2 => ?_)
  · refine q_iload_n 1 1 9 rfl (by decide +kernel) rfl ?_
    refine q_aload_n 0 0 10 rfl (by decide +kernel) rfl ?_
    refine q_geti (f := 6) 13 rfl (by decide +kernel) (cC_Mo D tc x0 y) (rfl : mKd 0 = (1, 0, 21, 0, 0)) (by decide) rfl tw_5_218 ?_
    refine q_icmp_ge 16 rfl 25 (off := 12) (by decide +kernel) rfl (fun g1 => ?_) (fun g1 => ?_)
    · refine q_bipush (-4) (c := -4) 27 rfl (by decide +kernel) rfl ?_
      exact q_iret (by decide +kernel) rfl rfl (Nat.le_of_ble_eq_true rfl) (Nat.le_of_ble_eq_true rfl)
    · refine q_aload_n 0 0 17 rfl (by decide +kernel) rfl ?_
      refine q_getr (f := 5) 5 20 rfl (by decide +kernel) (cC_Mo D tc x0 y) (rfl : mKd 0 = (1, 0, 21, 0, 0)) (by decide) rfl rfl tw_5_217 ?_
      refine q_iload_n 1 1 21 rfl (by decide +kernel) rfl ?_
      refine q_iald (t := 0) 22 rfl (by decide +kernel) (rfl : mKd 5 = (2, 60, 0, 0, 0)) rfl (fun j1 hj1 => ?_)
      refine q_goto (off := 5) 27 (by decide +kernel) rfl ?_
      exact q_iret (by decide +kernel) rfl rfl (Nat.le_of_ble_eq_true rfl) (Nat.le_of_ble_eq_true rfl)
  · refine q_iconst (-1) (c := -1) 5 rfl (by decide +kernel) rfl ?_
    refine q_goto (off := 22) 27 (by decide +kernel) rfl ?_
    exact q_iret (by decide +kernel) rfl rfl (Nat.le_of_ble_eq_true rfl) (Nat.le_of_ble_eq_true rfl)
def f_Mo_keep_L1 (a1 : Int32) (K : q_I → Option (Int32 × q_I)) : Nat → Int32 → q_I → Option (Int32 × q_I)
  | 0, _, _ => none
  | n + 1, x1, I1 => if (280 : Int32) ≤ x1 then ((K I1)) else (q_ix x1 280 (fun j1 => q_ix ((280 * a1) + x1) 560 (fun j2 => q_l (q_ui I1 2 j2 (I1 1 j1)) (fun I2 => (f_Mo_keep_L1 a1 K n (x1 + 1) I2)))))
def f_Mo_keep (I : q_I) (a1 : Int32) : Option (Int32 × q_I) :=
  q_b1 (f_Mo_in a1 0 1) (fun v1 => if v1 = 0 then (some ((-1), I)) else (f_Mo_keep_L1 a1 (fun (I3 : q_I) => q_ix a1 2 (fun j3 => q_l (q_ui I3 3 j3 (vp_nar .boolean 1)) (fun I4 => q_ix 0 280 (fun j4 => some ((I4 1 j4), I4))))) q_fu 0 I))
def y_Mo_keep : MethodName := ⟨"CalendarReplicasModel", "keep", "(I)I"⟩
def m_Mo_keep : q_M := (prog_11_method_94_code, 3, "CalendarReplicasModel", { frames := 1, cells := 0, slots := 0, locals := 22 }, (some FieldType.int))
theorem yv_Mo_keep : q_Y y_Mo_keep m_Mo_keep 1 := ⟨rfl, ⟨by decide, by decide⟩, by decide +kernel, tw_7_156, tw_1_15⟩
set_option maxRecDepth 100000 in
set_option maxHeartbeats 4000000 in
theorem c_Mo_keep (l : Launch) (D : va_G) (tc : Nat → ClassId) (x0 y : Nat) (I : q_I) (J : q_J) (P : q_P) (a1 : Int32) : q_Ct l (mG D tc x0 y) y_Mo_keep m_Mo_keep [q_r (mG D tc x0 y) 0, .int a1] (I, J, P) (f_Mo_keep I a1) (fun r : Int32 × q_I => (some (.int r.1), (r.2, J, P))) := by
  refine q_Ct_of (mIn D tc x0 y) (by decide) rfl (Nat.le_of_ble_eq_true rfl) rfl (fun X hX => ?_)
  subst hX
  unfold f_Mo_keep
  refine q_iload_n 1 1 1 rfl (by decide +kernel) rfl ?_
  refine q_iconst 0 (c := 0) 2 rfl (by decide +kernel) rfl ?_
  refine q_iconst 1 (c := 1) 3 rfl (by decide +kernel) rfl ?_
  refine q_callS_i 6 rfl (av := [.int a1, .int 0, .int 1]) (st := []) (c_Mo_in X.1 D tc x0 y I J P a1 0 1) yv_Mo_in tw_6_40 tw_6_41 rfl (Nat.le_of_ble_eq_true rfl) (by decide +kernel) ⟨Nat.le_of_ble_eq_true rfl, Nat.le_of_ble_eq_true rfl⟩ ⟨Nat.le_of_ble_eq_true rfl, Nat.le_of_ble_eq_true rfl⟩ rfl rfl (fun v1 => ?_)
  refine q_if_ne 9 rfl 11 (off := 5) (by decide +kernel) rfl (fun g2 => ?_) (fun g2 => ?_)
  · refine q_iconst 0 (c := 0) 12 rfl (by decide +kernel) rfl ?_
    refine q_istore_n 2 2 13 rfl [(2, .int 0), (0, q_r (mG D tc x0 y) 0), (1, .int a1)] (by decide +kernel) rfl (Nat.le_of_ble_eq_true rfl) rfl ?_
    have hL1 : ∀ (K1 : q_I → Option (Int32 × q_I)) (hK1 : ∀ (I3 : q_I), q_V (mG D tc x0 y) m_Mo_keep X (fun r : Int32 × q_I => (some (.int r.1), (r.2, J, P))) 0 0 44 [(0, q_r (mG D tc x0 y) 0), (1, .int a1)] [] I3 J P (K1 I3)) (n1_ : Nat) (x1 : Int32) (I1 : q_I), q_V (mG D tc x0 y) m_Mo_keep X (fun r : Int32 × q_I => (some (.int r.1), (r.2, J, P))) 0 0 13 [(0, q_r (mG D tc x0 y) 0), (1, .int a1), (2, .int x1)] [] I1 J P (f_Mo_keep_L1 a1 K1 n1_ x1 I1) := by
      intro K1 hK1 n1_
      induction n1_ with
      | zero => intro x1 I1; exact q_none
      | succ n1_ ih1 =>
        intro x1 I1
        rw [f_Mo_keep_L1]
        refine q_iload_n 2 2 14 rfl (by decide +kernel) rfl ?_
        refine q_sipush 280 (c := 280) 17 rfl (by decide +kernel) rfl ?_
        refine q_icmp_ge 20 rfl 44 (off := 27) (by decide +kernel) rfl (fun g1 => ?_) (fun g1 => ?_)
        · refine q_sub [0, 1] rfl ?_
          exact hK1 I1
        · refine q_aload_n 0 0 21 rfl (by decide +kernel) rfl ?_
          refine q_getr (f := 1) 2 24 rfl (by decide +kernel) (cC_Mo D tc x0 y) (rfl : mKd 0 = (1, 0, 21, 0, 0)) (by decide) rfl rfl tw_5_213 ?_
          refine q_sipush 280 (c := 280) 27 rfl (by decide +kernel) rfl ?_
          refine q_iload_n 1 1 28 rfl (by decide +kernel) rfl ?_
          refine q_imul 29 rfl (by decide +kernel) ?_
          refine q_iload_n 2 2 30 rfl (by decide +kernel) rfl ?_
          refine q_iadd 31 rfl (by decide +kernel) ?_
          refine q_aload_n 0 0 32 rfl (by decide +kernel) rfl ?_
          refine q_getr (f := 0) 1 35 rfl (by decide +kernel) (cC_Mo D tc x0 y) (rfl : mKd 0 = (1, 0, 21, 0, 0)) (by decide) rfl rfl tw_5_212 ?_
          refine q_iload_n 2 2 36 rfl (by decide +kernel) rfl ?_
          refine q_iald (t := 0) 37 rfl (by decide +kernel) (rfl : mKd 1 = (2, 280, 0, 0, 0)) rfl (fun j1 hj1 => ?_)
          refine q_iast (t := 0) 38 rfl (by decide +kernel) (rfl : mKd 2 = (2, 560, 0, 0, 0)) rfl (fun j2 hj2 => ?_)
          refine q_letI (fun I2 => ?_)
          refine q_iinc (x1 + 1) (c := 1) 2 2 41 rfl [(2, .int (x1 + 1)), (0, q_r (mG D tc x0 y) 0), (1, .int a1)] (by decide +kernel) rfl rfl (Nat.le_of_ble_eq_true rfl) rfl ?_
          refine q_goto (off := -28) 13 (by decide +kernel) rfl ?_
          refine q_sub [1, 2, 0] rfl ?_
          exact ih1 (x1 + 1) I2
    refine q_sub [1, 2, 0] rfl ?_
    refine hL1 _ (fun I3 => ?_) _ _ _
    refine q_aload_n 0 0 45 rfl (by decide +kernel) rfl ?_
    refine q_getr (f := 2) 3 48 rfl (by decide +kernel) (cC_Mo D tc x0 y) (rfl : mKd 0 = (1, 0, 21, 0, 0)) (by decide) rfl rfl tw_5_214 ?_
    refine q_iload_n 1 1 49 rfl (by decide +kernel) rfl ?_
    refine q_iconst 1 (c := 1) 50 rfl (by decide +kernel) rfl ?_
    refine q_zast (t := 1) 51 rfl (by decide +kernel) (rfl : mKd 3 = (2, 2, 1, 0, 0)) rfl (fun j3 hj3 => ?_)
    refine q_letI (fun I4 => ?_)
    refine q_aload_n 0 0 52 rfl (by decide +kernel) rfl ?_
    refine q_getr (f := 0) 1 55 rfl (by decide +kernel) (cC_Mo D tc x0 y) (rfl : mKd 0 = (1, 0, 21, 0, 0)) (by decide) rfl rfl tw_5_212 ?_
    refine q_iconst 0 (c := 0) 56 rfl (by decide +kernel) rfl ?_
    refine q_iald (t := 0) 57 rfl (by decide +kernel) (rfl : mKd 1 = (2, 280, 0, 0, 0)) rfl (fun j4 hj4 => ?_)
    exact q_iret (by decide +kernel) rfl rfl (Nat.le_of_ble_eq_true rfl) (Nat.le_of_ble_eq_true rfl)
  · refine q_iconst (-1) (c := -1) 10 rfl (by decide +kernel) rfl ?_
    exact q_iret (by decide +kernel) rfl rfl (Nat.le_of_ble_eq_true rfl) (Nat.le_of_ble_eq_true rfl)
def f_Mo_restore_L1 (a1 : Int32) (K : q_I → Option (Int32 × q_I)) : Nat → Int32 → q_I → Option (Int32 × q_I)
  | 0, _, _ => none
  | n + 1, x1, I1 => if (280 : Int32) ≤ x1 then ((K I1)) else (q_ix ((280 * a1) + x1) 560 (fun j2 => q_ix x1 280 (fun j3 => q_l (q_ui I1 1 j3 (I1 2 j2)) (fun I2 => (f_Mo_restore_L1 a1 K n (x1 + 1) I2)))))
def f_Mo_restore (I : q_I) (a1 : Int32) : Option (Int32 × q_I) :=
  q_b1 (f_Mo_in a1 0 1) (fun v1 => if v1 = 0 then (some ((-1), I)) else (q_ix a1 2 (fun j1 => if (I 3 j1) = 0 then (some ((-3), I)) else (f_Mo_restore_L1 a1 (fun (I3 : q_I) => q_ix 0 280 (fun j4 => some ((I3 1 j4), I3))) q_fu 0 I))))
def y_Mo_restore : MethodName := ⟨"CalendarReplicasModel", "restore", "(I)I"⟩
def m_Mo_restore : q_M := (prog_11_method_95_code, 3, "CalendarReplicasModel", { frames := 1, cells := 0, slots := 0, locals := 22 }, (some FieldType.int))
theorem yv_Mo_restore : q_Y y_Mo_restore m_Mo_restore 1 := ⟨rfl, ⟨by decide, by decide⟩, by decide +kernel, tw_7_160, tw_1_15⟩
set_option maxRecDepth 100000 in
set_option maxHeartbeats 4000000 in
theorem c_Mo_restore (l : Launch) (D : va_G) (tc : Nat → ClassId) (x0 y : Nat) (I : q_I) (J : q_J) (P : q_P) (a1 : Int32) : q_Ct l (mG D tc x0 y) y_Mo_restore m_Mo_restore [q_r (mG D tc x0 y) 0, .int a1] (I, J, P) (f_Mo_restore I a1) (fun r : Int32 × q_I => (some (.int r.1), (r.2, J, P))) := by
  refine q_Ct_of (mIn D tc x0 y) (by decide) rfl (Nat.le_of_ble_eq_true rfl) rfl (fun X hX => ?_)
  subst hX
  unfold f_Mo_restore
  refine q_iload_n 1 1 1 rfl (by decide +kernel) rfl ?_
  refine q_iconst 0 (c := 0) 2 rfl (by decide +kernel) rfl ?_
  refine q_iconst 1 (c := 1) 3 rfl (by decide +kernel) rfl ?_
  refine q_callS_i 6 rfl (av := [.int a1, .int 0, .int 1]) (st := []) (c_Mo_in X.1 D tc x0 y I J P a1 0 1) yv_Mo_in tw_6_40 tw_6_41 rfl (Nat.le_of_ble_eq_true rfl) (by decide +kernel) ⟨Nat.le_of_ble_eq_true rfl, Nat.le_of_ble_eq_true rfl⟩ ⟨Nat.le_of_ble_eq_true rfl, Nat.le_of_ble_eq_true rfl⟩ rfl rfl (fun v1 => ?_)
  refine q_if_ne 9 rfl 11 (off := 5) (by decide +kernel) rfl (fun g3 => ?_) (fun g3 => ?_)
  · refine q_aload_n 0 0 12 rfl (by decide +kernel) rfl ?_
    refine q_getr (f := 2) 3 15 rfl (by decide +kernel) (cC_Mo D tc x0 y) (rfl : mKd 0 = (1, 0, 21, 0, 0)) (by decide) rfl rfl tw_5_214 ?_
    refine q_iload_n 1 1 16 rfl (by decide +kernel) rfl ?_
    refine q_zald (t := 1) 17 rfl (by decide +kernel) (rfl : mKd 3 = (2, 2, 1, 0, 0)) rfl (fun j1 hj1 => ?_)
    refine q_if_ne 20 rfl 23 (off := 6) (by decide +kernel) rfl (fun g2 => ?_) (fun g2 => ?_)
    · refine q_iconst 0 (c := 0) 24 rfl (by decide +kernel) rfl ?_
      refine q_istore_n 2 2 25 rfl [(2, .int 0), (0, q_r (mG D tc x0 y) 0), (1, .int a1)] (by decide +kernel) rfl (Nat.le_of_ble_eq_true rfl) rfl ?_
      have hL1 : ∀ (K1 : q_I → Option (Int32 × q_I)) (hK1 : ∀ (I3 : q_I), q_V (mG D tc x0 y) m_Mo_restore X (fun r : Int32 × q_I => (some (.int r.1), (r.2, J, P))) 0 0 56 [(0, q_r (mG D tc x0 y) 0)] [] I3 J P (K1 I3)) (n1_ : Nat) (x1 : Int32) (I1 : q_I), q_V (mG D tc x0 y) m_Mo_restore X (fun r : Int32 × q_I => (some (.int r.1), (r.2, J, P))) 0 0 25 [(0, q_r (mG D tc x0 y) 0), (1, .int a1), (2, .int x1)] [] I1 J P (f_Mo_restore_L1 a1 K1 n1_ x1 I1) := by
        intro K1 hK1 n1_
        induction n1_ with
        | zero => intro x1 I1; exact q_none
        | succ n1_ ih1 =>
          intro x1 I1
          rw [f_Mo_restore_L1]
          refine q_iload_n 2 2 26 rfl (by decide +kernel) rfl ?_
          refine q_sipush 280 (c := 280) 29 rfl (by decide +kernel) rfl ?_
          refine q_icmp_ge 32 rfl 56 (off := 27) (by decide +kernel) rfl (fun g1 => ?_) (fun g1 => ?_)
          · refine q_sub [0] rfl ?_
            exact hK1 I1
          · refine q_aload_n 0 0 33 rfl (by decide +kernel) rfl ?_
            refine q_getr (f := 0) 1 36 rfl (by decide +kernel) (cC_Mo D tc x0 y) (rfl : mKd 0 = (1, 0, 21, 0, 0)) (by decide) rfl rfl tw_5_212 ?_
            refine q_iload_n 2 2 37 rfl (by decide +kernel) rfl ?_
            refine q_aload_n 0 0 38 rfl (by decide +kernel) rfl ?_
            refine q_getr (f := 1) 2 41 rfl (by decide +kernel) (cC_Mo D tc x0 y) (rfl : mKd 0 = (1, 0, 21, 0, 0)) (by decide) rfl rfl tw_5_213 ?_
            refine q_sipush 280 (c := 280) 44 rfl (by decide +kernel) rfl ?_
            refine q_iload_n 1 1 45 rfl (by decide +kernel) rfl ?_
            refine q_imul 46 rfl (by decide +kernel) ?_
            refine q_iload_n 2 2 47 rfl (by decide +kernel) rfl ?_
            refine q_iadd 48 rfl (by decide +kernel) ?_
            refine q_iald (t := 0) 49 rfl (by decide +kernel) (rfl : mKd 2 = (2, 560, 0, 0, 0)) rfl (fun j2 hj2 => ?_)
            refine q_iast (t := 0) 50 rfl (by decide +kernel) (rfl : mKd 1 = (2, 280, 0, 0, 0)) rfl (fun j3 hj3 => ?_)
            refine q_letI (fun I2 => ?_)
            refine q_iinc (x1 + 1) (c := 1) 2 2 53 rfl [(2, .int (x1 + 1)), (0, q_r (mG D tc x0 y) 0), (1, .int a1)] (by decide +kernel) rfl rfl (Nat.le_of_ble_eq_true rfl) rfl ?_
            refine q_goto (off := -28) 25 (by decide +kernel) rfl ?_
            refine q_sub [1, 2, 0] rfl ?_
            exact ih1 (x1 + 1) I2
      refine q_sub [1, 2, 0] rfl ?_
      refine hL1 _ (fun I3 => ?_) _ _ _
      refine q_aload_n 0 0 57 rfl (by decide +kernel) rfl ?_
      refine q_getr (f := 0) 1 60 rfl (by decide +kernel) (cC_Mo D tc x0 y) (rfl : mKd 0 = (1, 0, 21, 0, 0)) (by decide) rfl rfl tw_5_212 ?_
      refine q_iconst 0 (c := 0) 61 rfl (by decide +kernel) rfl ?_
      refine q_iald (t := 0) 62 rfl (by decide +kernel) (rfl : mKd 1 = (2, 280, 0, 0, 0)) rfl (fun j4 hj4 => ?_)
      exact q_iret (by decide +kernel) rfl rfl (Nat.le_of_ble_eq_true rfl) (Nat.le_of_ble_eq_true rfl)
    · refine q_bipush (-3) (c := -3) 22 rfl (by decide +kernel) rfl ?_
      exact q_iret (by decide +kernel) rfl rfl (Nat.le_of_ble_eq_true rfl) (Nat.le_of_ble_eq_true rfl)
  · refine q_iconst (-1) (c := -1) 10 rfl (by decide +kernel) rfl ?_
    exact q_iret (by decide +kernel) rfl rfl (Nat.le_of_ble_eq_true rfl) (Nat.le_of_ble_eq_true rfl)
def f_Mo_more (a0 : Int64) (a1 : Int32) : Option (Int64) :=
  some (((31 * a0) + a1.toInt64))
def y_Mo_more : MethodName := ⟨"CalendarReplicasModel", "more", "(JI)J"⟩
def m_Mo_more : q_M := (prog_11_method_96_code, 3, "CalendarReplicasModel", { frames := 0, cells := 0, slots := 0, locals := 0 }, (some FieldType.long))
theorem yv_Mo_more : q_Y y_Mo_more m_Mo_more 2 := ⟨rfl, ⟨by decide, by decide⟩, by decide +kernel, tw_7_168, tw_1_15⟩
set_option maxRecDepth 100000 in
set_option maxHeartbeats 4000000 in
theorem c_Mo_more (l : Launch) (D : va_G) (tc : Nat → ClassId) (x0 y : Nat) (I : q_I) (J : q_J) (P : q_P) (a0 : Int64) (a1 : Int32) : q_Ct l (mG D tc x0 y) y_Mo_more m_Mo_more [.long a0, .int a1] (I, J, P) (f_Mo_more a0 a1) (fun r : Int64 => (some (.long r), (I, J, P))) := by
  refine q_Ct_of (mIn D tc x0 y) (by decide) rfl (Nat.le_of_ble_eq_true rfl) rfl (fun X hX => ?_)
  subst hX
  unfold f_Mo_more
  refine q_ldc2 (v := 31) (i := 227) 3 rfl (by decide +kernel) tw_7_169 ?_
  refine q_lload_n 0 0 4 rfl (by decide +kernel) rfl ?_
  refine q_lmul 5 rfl (by decide +kernel) ?_
  refine q_iload_n 1 2 6 rfl (by decide +kernel) rfl ?_
  refine q_i2l 7 rfl (by decide +kernel) ?_
  refine q_ladd 8 rfl (by decide +kernel) ?_
  exact q_lret (by decide +kernel) rfl rfl (Nat.le_of_ble_eq_true rfl) (Nat.le_of_ble_eq_true rfl)
def f_Mo_moreOfEdit_L1 (I : q_I) (a2 : Int32) : Nat → Int64 → Int32 → Option (Int64)
  | 0, _, _ => none
  | n + 1, y1, x1 => if (3 : Int32) ≤ x1 then (some (y1)) else (q_ix x1 3 (fun j6 => q_ix x1 3 (fun j7 => q_b1 (f_Mo_stateBy I x1 a2 (I 9 j6) (I 10 j7)) (fun v6 => q_b1 (f_Mo_more y1 v6) (fun w6 => (f_Mo_moreOfEdit_L1 I a2 n w6 (x1 + 1)))))))
def f_Mo_moreOfEdit (I : q_I) (a1 : Int64) (a2 : Int32) : Option (Int64) :=
  q_b1 (f_Mo_edit a2 0) (fun v1 => q_ix v1 280 (fun j1 => q_b1 (f_Mo_more a1 (I 1 j1)) (fun w1 => q_b1 (f_Mo_edit a2 3) (fun v2 => q_ix v2 280 (fun j2 => q_b1 (f_Mo_more w1 (I 1 j2)) (fun w2 => q_b1 (f_Mo_edit a2 4) (fun v3 => q_ix v3 280 (fun j3 => q_b1 (f_Mo_more w2 (I 1 j3)) (fun w3 => q_b1 (f_Mo_edit a2 1) (fun v4 => q_ix v4 280 (fun j4 => q_b1 (f_Mo_more w3 (I 1 j4)) (fun w4 => q_b1 (f_Mo_edit a2 2) (fun v5 => q_ix v5 280 (fun j5 => q_b1 (f_Mo_more w4 (I 1 j5)) (fun w5 => f_Mo_moreOfEdit_L1 I a2 q_fu w5 0)))))))))))))))
def y_Mo_moreOfEdit : MethodName := ⟨"CalendarReplicasModel", "moreOfEdit", "(JI)J"⟩
def m_Mo_moreOfEdit : q_M := (prog_11_method_97_code, 7, "CalendarReplicasModel", { frames := 1, cells := 0, slots := 0, locals := 24 }, (some FieldType.long))
theorem yv_Mo_moreOfEdit : q_Y y_Mo_moreOfEdit m_Mo_moreOfEdit 2 := ⟨rfl, ⟨by decide, by decide⟩, by decide +kernel, tw_7_173, tw_1_15⟩
set_option maxRecDepth 100000 in
set_option maxHeartbeats 4000000 in
theorem c_Mo_moreOfEdit (l : Launch) (D : va_G) (tc : Nat → ClassId) (x0 y : Nat) (I : q_I) (J : q_J) (P : q_P) (a1 : Int64) (a2 : Int32) : q_Ct l (mG D tc x0 y) y_Mo_moreOfEdit m_Mo_moreOfEdit [q_r (mG D tc x0 y) 0, .long a1, .int a2] (I, J, P) (f_Mo_moreOfEdit I a1 a2) (fun r : Int64 => (some (.long r), (I, J, P))) := by
  refine q_Ct_of (mIn D tc x0 y) (by decide) rfl (Nat.le_of_ble_eq_true rfl) rfl (fun X hX => ?_)
  subst hX
  unfold f_Mo_moreOfEdit
  refine q_lload_n 1 1 1 rfl (by decide +kernel) rfl ?_
  refine q_aload_n 0 0 2 rfl (by decide +kernel) rfl ?_
  refine q_getr (f := 0) 1 5 rfl (by decide +kernel) (cC_Mo D tc x0 y) (rfl : mKd 0 = (1, 0, 21, 0, 0)) (by decide) rfl rfl tw_5_212 ?_
  refine q_iload_n 2 3 6 rfl (by decide +kernel) rfl ?_
  refine q_iconst 0 (c := 0) 7 rfl (by decide +kernel) rfl ?_
  refine q_callS_i 10 rfl (av := [.int a2, .int 0]) (st := [q_r (mG D tc x0 y) 1, .long a1]) (c_Mo_edit X.1 D tc x0 y I J P a2 0) yv_Mo_edit tw_6_63 tw_6_64 rfl (Nat.le_of_ble_eq_true rfl) (by decide +kernel) ⟨Nat.le_of_ble_eq_true rfl, Nat.le_of_ble_eq_true rfl⟩ ⟨Nat.le_of_ble_eq_true rfl, Nat.le_of_ble_eq_true rfl⟩ rfl rfl (fun v1 => ?_)
  refine q_iald (t := 0) 11 rfl (by decide +kernel) (rfl : mKd 1 = (2, 280, 0, 0, 0)) rfl (fun j1 hj1 => ?_)
  refine q_callS_l 14 rfl (av := [.long a1, .int (I 1 j1)]) (st := []) (c_Mo_more X.1 D tc x0 y I J P a1 (I 1 j1)) yv_Mo_more tw_7_166 tw_7_167 rfl (Nat.le_of_ble_eq_true rfl) (by decide +kernel) ⟨Nat.le_of_ble_eq_true rfl, Nat.le_of_ble_eq_true rfl⟩ ⟨Nat.le_of_ble_eq_true rfl, Nat.le_of_ble_eq_true rfl⟩ rfl rfl (fun w1 => ?_)
  refine q_aload_n 0 0 15 rfl (by decide +kernel) rfl ?_
  refine q_getr (f := 0) 1 18 rfl (by decide +kernel) (cC_Mo D tc x0 y) (rfl : mKd 0 = (1, 0, 21, 0, 0)) (by decide) rfl rfl tw_5_212 ?_
  refine q_iload_n 2 3 19 rfl (by decide +kernel) rfl ?_
  refine q_iconst 3 (c := 3) 20 rfl (by decide +kernel) rfl ?_
  refine q_callS_i 23 rfl (av := [.int a2, .int 3]) (st := [q_r (mG D tc x0 y) 1, .long w1]) (c_Mo_edit X.1 D tc x0 y I J P a2 3) yv_Mo_edit tw_6_63 tw_6_64 rfl (Nat.le_of_ble_eq_true rfl) (by decide +kernel) ⟨Nat.le_of_ble_eq_true rfl, Nat.le_of_ble_eq_true rfl⟩ ⟨Nat.le_of_ble_eq_true rfl, Nat.le_of_ble_eq_true rfl⟩ rfl rfl (fun v2 => ?_)
  refine q_iald (t := 0) 24 rfl (by decide +kernel) (rfl : mKd 1 = (2, 280, 0, 0, 0)) rfl (fun j2 hj2 => ?_)
  refine q_callS_l 27 rfl (av := [.long w1, .int (I 1 j2)]) (st := []) (c_Mo_more X.1 D tc x0 y I J P w1 (I 1 j2)) yv_Mo_more tw_7_166 tw_7_167 rfl (Nat.le_of_ble_eq_true rfl) (by decide +kernel) ⟨Nat.le_of_ble_eq_true rfl, Nat.le_of_ble_eq_true rfl⟩ ⟨Nat.le_of_ble_eq_true rfl, Nat.le_of_ble_eq_true rfl⟩ rfl rfl (fun w2 => ?_)
  refine q_aload_n 0 0 28 rfl (by decide +kernel) rfl ?_
  refine q_getr (f := 0) 1 31 rfl (by decide +kernel) (cC_Mo D tc x0 y) (rfl : mKd 0 = (1, 0, 21, 0, 0)) (by decide) rfl rfl tw_5_212 ?_
  refine q_iload_n 2 3 32 rfl (by decide +kernel) rfl ?_
  refine q_iconst 4 (c := 4) 33 rfl (by decide +kernel) rfl ?_
  refine q_callS_i 36 rfl (av := [.int a2, .int 4]) (st := [q_r (mG D tc x0 y) 1, .long w2]) (c_Mo_edit X.1 D tc x0 y I J P a2 4) yv_Mo_edit tw_6_63 tw_6_64 rfl (Nat.le_of_ble_eq_true rfl) (by decide +kernel) ⟨Nat.le_of_ble_eq_true rfl, Nat.le_of_ble_eq_true rfl⟩ ⟨Nat.le_of_ble_eq_true rfl, Nat.le_of_ble_eq_true rfl⟩ rfl rfl (fun v3 => ?_)
  refine q_iald (t := 0) 37 rfl (by decide +kernel) (rfl : mKd 1 = (2, 280, 0, 0, 0)) rfl (fun j3 hj3 => ?_)
  refine q_callS_l 40 rfl (av := [.long w2, .int (I 1 j3)]) (st := []) (c_Mo_more X.1 D tc x0 y I J P w2 (I 1 j3)) yv_Mo_more tw_7_166 tw_7_167 rfl (Nat.le_of_ble_eq_true rfl) (by decide +kernel) ⟨Nat.le_of_ble_eq_true rfl, Nat.le_of_ble_eq_true rfl⟩ ⟨Nat.le_of_ble_eq_true rfl, Nat.le_of_ble_eq_true rfl⟩ rfl rfl (fun w3 => ?_)
  refine q_lstore 4 42 rfl [(4, .long w3), (0, q_r (mG D tc x0 y) 0), (1, .long a1), (3, .int a2)] (by decide +kernel) (Nat.le_of_ble_eq_true rfl) rfl ?_
  refine q_lload 0 4 44 rfl (by decide +kernel) rfl ?_
  refine q_aload_n 1 0 45 rfl (by decide +kernel) rfl ?_
  refine q_getr (f := 0) 1 48 rfl (by decide +kernel) (cC_Mo D tc x0 y) (rfl : mKd 0 = (1, 0, 21, 0, 0)) (by decide) rfl rfl tw_5_212 ?_
  refine q_iload_n 3 3 49 rfl (by decide +kernel) rfl ?_
  refine q_iconst 1 (c := 1) 50 rfl (by decide +kernel) rfl ?_
  refine q_callS_i 53 rfl (av := [.int a2, .int 1]) (st := [q_r (mG D tc x0 y) 1, .long w3]) (c_Mo_edit X.1 D tc x0 y I J P a2 1) yv_Mo_edit tw_6_63 tw_6_64 rfl (Nat.le_of_ble_eq_true rfl) (by decide +kernel) ⟨Nat.le_of_ble_eq_true rfl, Nat.le_of_ble_eq_true rfl⟩ ⟨Nat.le_of_ble_eq_true rfl, Nat.le_of_ble_eq_true rfl⟩ rfl rfl (fun v4 => ?_)
  refine q_iald (t := 0) 54 rfl (by decide +kernel) (rfl : mKd 1 = (2, 280, 0, 0, 0)) rfl (fun j4 hj4 => ?_)
  refine q_callS_l 57 rfl (av := [.long w3, .int (I 1 j4)]) (st := []) (c_Mo_more X.1 D tc x0 y I J P w3 (I 1 j4)) yv_Mo_more tw_7_166 tw_7_167 rfl (Nat.le_of_ble_eq_true rfl) (by decide +kernel) ⟨Nat.le_of_ble_eq_true rfl, Nat.le_of_ble_eq_true rfl⟩ ⟨Nat.le_of_ble_eq_true rfl, Nat.le_of_ble_eq_true rfl⟩ rfl rfl (fun w4 => ?_)
  refine q_aload_n 1 0 58 rfl (by decide +kernel) rfl ?_
  refine q_getr (f := 0) 1 61 rfl (by decide +kernel) (cC_Mo D tc x0 y) (rfl : mKd 0 = (1, 0, 21, 0, 0)) (by decide) rfl rfl tw_5_212 ?_
  refine q_iload_n 3 3 62 rfl (by decide +kernel) rfl ?_
  refine q_iconst 2 (c := 2) 63 rfl (by decide +kernel) rfl ?_
  refine q_callS_i 66 rfl (av := [.int a2, .int 2]) (st := [q_r (mG D tc x0 y) 1, .long w4]) (c_Mo_edit X.1 D tc x0 y I J P a2 2) yv_Mo_edit tw_6_63 tw_6_64 rfl (Nat.le_of_ble_eq_true rfl) (by decide +kernel) ⟨Nat.le_of_ble_eq_true rfl, Nat.le_of_ble_eq_true rfl⟩ ⟨Nat.le_of_ble_eq_true rfl, Nat.le_of_ble_eq_true rfl⟩ rfl rfl (fun v5 => ?_)
  refine q_iald (t := 0) 67 rfl (by decide +kernel) (rfl : mKd 1 = (2, 280, 0, 0, 0)) rfl (fun j5 hj5 => ?_)
  refine q_callS_l 70 rfl (av := [.long w4, .int (I 1 j5)]) (st := []) (c_Mo_more X.1 D tc x0 y I J P w4 (I 1 j5)) yv_Mo_more tw_7_166 tw_7_167 rfl (Nat.le_of_ble_eq_true rfl) (by decide +kernel) ⟨Nat.le_of_ble_eq_true rfl, Nat.le_of_ble_eq_true rfl⟩ ⟨Nat.le_of_ble_eq_true rfl, Nat.le_of_ble_eq_true rfl⟩ rfl rfl (fun w5 => ?_)
  refine q_lstore 4 72 rfl [(4, .long w5), (0, q_r (mG D tc x0 y) 0), (1, .long a1), (3, .int a2)] (by decide +kernel) (Nat.le_of_ble_eq_true rfl) rfl ?_
  refine q_iconst 0 (c := 0) 73 rfl (by decide +kernel) rfl ?_
  refine q_istore 6 75 rfl [(6, .int 0), (4, .long w5), (0, q_r (mG D tc x0 y) 0), (1, .long a1), (3, .int a2)] (by decide +kernel) (Nat.le_of_ble_eq_true rfl) rfl ?_
  have hL1 : ∀ (n1_ : Nat) (y1 : Int64) (x1 : Int32), q_V (mG D tc x0 y) m_Mo_moreOfEdit X (fun r : Int64 => (some (.long r), (I, J, P))) 0 0 75 [(0, q_r (mG D tc x0 y) 0), (3, .int a2), (4, .long y1), (6, .int x1)] [] I J P (f_Mo_moreOfEdit_L1 I a2 n1_ y1 x1) := by
    intro n1_
    induction n1_ with
    | zero => intro y1 x1; exact q_none
    | succ n1_ ih1 =>
      intro y1 x1
      rw [f_Mo_moreOfEdit_L1]
      refine q_iload 3 6 77 rfl (by decide +kernel) rfl ?_
      refine q_iconst 3 (c := 3) 78 rfl (by decide +kernel) rfl ?_
      refine q_icmp_ge 81 rfl 115 (off := 37) (by decide +kernel) rfl (fun g1 => ?_) (fun g1 => ?_)
      · refine q_lload 2 4 117 rfl (by decide +kernel) rfl ?_
        exact q_lret (by decide +kernel) rfl rfl (Nat.le_of_ble_eq_true rfl) (Nat.le_of_ble_eq_true rfl)
      · refine q_lload 2 4 83 rfl (by decide +kernel) rfl ?_
        refine q_aload_n 0 0 84 rfl (by decide +kernel) rfl ?_
        refine q_iload 3 6 86 rfl (by decide +kernel) rfl ?_
        refine q_iload_n 1 3 87 rfl (by decide +kernel) rfl ?_
        refine q_aload_n 0 0 88 rfl (by decide +kernel) rfl ?_
        refine q_getr (f := 19) 9 91 rfl (by decide +kernel) (cC_Mo D tc x0 y) (rfl : mKd 0 = (1, 0, 21, 0, 0)) (by decide) rfl rfl tw_5_231 ?_
        refine q_iload 3 6 93 rfl (by decide +kernel) rfl ?_
        refine q_iald (t := 0) 94 rfl (by decide +kernel) (rfl : mKd 9 = (2, 3, 0, 0, 0)) rfl (fun j6 hj6 => ?_)
        refine q_aload_n 0 0 95 rfl (by decide +kernel) rfl ?_
        refine q_getr (f := 20) 10 98 rfl (by decide +kernel) (cC_Mo D tc x0 y) (rfl : mKd 0 = (1, 0, 21, 0, 0)) (by decide) rfl rfl tw_5_232 ?_
        refine q_iload 3 6 100 rfl (by decide +kernel) rfl ?_
        refine q_iald (t := 0) 101 rfl (by decide +kernel) (rfl : mKd 10 = (2, 3, 0, 0, 0)) rfl (fun j7 hj7 => ?_)
        refine q_callV_i 104 rfl (av := [.int x1, .int a2, .int (I 9 j6), .int (I 10 j7)]) (o := 0) (st := [.long y1]) (c_Mo_stateBy X.1 D tc x0 y I J P x1 a2 (I 9 j6) (I 10 j7)) yv_Mo_stateBy tw_7_81 tw_7_83 sw_61 (cC_Mo D tc x0 y) (rfl : mKd 0 = (1, 0, 21, 0, 0)) rfl (Nat.le_of_ble_eq_true rfl) (by decide +kernel) ⟨Nat.le_of_ble_eq_true rfl, Nat.le_of_ble_eq_true rfl⟩ ⟨Nat.le_of_ble_eq_true rfl, Nat.le_of_ble_eq_true rfl⟩ rfl rfl (fun v6 => ?_)
        refine q_callS_l 107 rfl (av := [.long y1, .int v6]) (st := []) (c_Mo_more X.1 D tc x0 y I J P y1 v6) yv_Mo_more tw_7_166 tw_7_167 rfl (Nat.le_of_ble_eq_true rfl) (by decide +kernel) ⟨Nat.le_of_ble_eq_true rfl, Nat.le_of_ble_eq_true rfl⟩ ⟨Nat.le_of_ble_eq_true rfl, Nat.le_of_ble_eq_true rfl⟩ rfl rfl (fun w6 => ?_)
        refine q_lstore 4 109 rfl [(4, .long w6), (0, q_r (mG D tc x0 y) 0), (3, .int a2), (6, .int x1)] (by decide +kernel) (Nat.le_of_ble_eq_true rfl) rfl ?_
        refine q_iinc (x1 + 1) (c := 1) 6 3 112 rfl [(6, .int (x1 + 1)), (4, .long w6), (0, q_r (mG D tc x0 y) 0), (3, .int a2)] (by decide +kernel) rfl rfl (Nat.le_of_ble_eq_true rfl) rfl ?_
        refine q_goto (off := -37) 75 (by decide +kernel) rfl ?_
        refine q_sub [2, 3, 1, 0] rfl ?_
        exact ih1 w6 (x1 + 1)
  refine q_sub [2, 4, 1, 0] rfl ?_
  exact hL1 _ _ _
def f_Mo_moreOf_L2 (I1 : q_I) (v3 : Int32) (K : Int64 → Option (Int64 × q_I)) : Nat → Int64 → Int32 → Option (Int64 × q_I)
  | 0, _, _ => none
  | n + 1, y2, x2 => if (6 : Int32) < x2 then ((K y2)) else (q_b1 (f_Mo_meeting v3 x2) (fun v4 => q_ix v4 175 (fun j5 => q_b1 (f_Mo_more y2 (I1 6 j5)) (fun w4 => (f_Mo_moreOf_L2 I1 v3 K n w4 (x2 + 1))))))
def f_Mo_moreOf_L1 (I1 : q_I) : Nat → Int64 → Int32 → Option (Int64 × q_I)
  | 0, _, _ => none
  | n + 1, y1, x1 => if (I1 0 7) ≤ x1 then (some (y1, I1)) else (q_b1 (f_Mo_indexOf I1 x1) (fun v3 => f_Mo_moreOf_L2 I1 v3 (fun (y3 : Int64) => (f_Mo_moreOf_L1 I1 n y3 (x1 + 1))) q_fu y1 0))
def f_Mo_moreOf (I : q_I) (a1 : Int64) (a2 : Int32) : Option (Int64 × q_I) :=
  q_ix a2 3 (fun j1 => q_b1 (f_Mo_forms I (I 9 j1)) (fun I1 => q_b1 (f_Mo_more a1 (I1 0 7)) (fun w1 => q_ix a2 3 (fun j2 => q_b1 (f_Mo_weight I1 (I1 9 j2)) (fun v1 => q_b1 (f_Mo_more w1 v1) (fun w2 => q_ix a2 3 (fun j3 => q_ix a2 3 (fun j4 => q_b1 (f_Mo_weight I1 ((I1 10 j3) &&& ((I1 9 j4) ^^^ (-1)))) (fun v2 => q_b1 (f_Mo_more w2 v2) (fun w3 => f_Mo_moreOf_L1 I1 q_fu w3 0))))))))))
def y_Mo_moreOf : MethodName := ⟨"CalendarReplicasModel", "moreOf", "(JI)J"⟩
def m_Mo_moreOf : q_M := (prog_11_method_98_code, 9, "CalendarReplicasModel", { frames := 4, cells := 0, slots := 0, locals := 90 }, (some FieldType.long))
theorem yv_Mo_moreOf : q_Y y_Mo_moreOf m_Mo_moreOf 2 := ⟨rfl, ⟨by decide, by decide⟩, by decide +kernel, tw_7_177, tw_1_15⟩
set_option maxRecDepth 100000 in
set_option maxHeartbeats 4000000 in
theorem c_Mo_moreOf (l : Launch) (D : va_G) (tc : Nat → ClassId) (x0 y : Nat) (I : q_I) (J : q_J) (P : q_P) (a1 : Int64) (a2 : Int32) : q_Ct l (mG D tc x0 y) y_Mo_moreOf m_Mo_moreOf [q_r (mG D tc x0 y) 0, .long a1, .int a2] (I, J, P) (f_Mo_moreOf I a1 a2) (fun r : Int64 × q_I => (some (.long r.1), (r.2, J, P))) := by
  refine q_Ct_of (mIn D tc x0 y) (by decide) rfl (Nat.le_of_ble_eq_true rfl) rfl (fun X hX => ?_)
  subst hX
  unfold f_Mo_moreOf
  refine q_aload_n 0 0 1 rfl (by decide +kernel) rfl ?_
  refine q_aload_n 0 0 2 rfl (by decide +kernel) rfl ?_
  refine q_getr (f := 19) 9 5 rfl (by decide +kernel) (cC_Mo D tc x0 y) (rfl : mKd 0 = (1, 0, 21, 0, 0)) (by decide) rfl rfl tw_5_231 ?_
  refine q_iload_n 2 3 6 rfl (by decide +kernel) rfl ?_
  refine q_iald (t := 0) 7 rfl (by decide +kernel) (rfl : mKd 9 = (2, 3, 0, 0, 0)) rfl (fun j1 hj1 => ?_)
  refine q_callV_vI 10 rfl (av := [.int (I 9 j1)]) (o := 0) (st := []) (c_Mo_forms X.1 D tc x0 y I J P (I 9 j1)) yv_Mo_forms tw_6_78 tw_6_80 sw_32 (cC_Mo D tc x0 y) (rfl : mKd 0 = (1, 0, 21, 0, 0)) rfl (Nat.le_of_ble_eq_true rfl) (by decide +kernel) ⟨Nat.le_of_ble_eq_true rfl, Nat.le_of_ble_eq_true rfl⟩ ⟨Nat.le_of_ble_eq_true rfl, Nat.le_of_ble_eq_true rfl⟩ rfl rfl (fun I1 => ?_)
  refine q_lload_n 1 1 11 rfl (by decide +kernel) rfl ?_
  refine q_aload_n 0 0 12 rfl (by decide +kernel) rfl ?_
  refine q_geti (f := 7) 15 rfl (by decide +kernel) (cC_Mo D tc x0 y) (rfl : mKd 0 = (1, 0, 21, 0, 0)) (by decide) rfl tw_5_219 ?_
  refine q_callS_l 18 rfl (av := [.long a1, .int (I1 0 7)]) (st := []) (c_Mo_more X.1 D tc x0 y I1 J P a1 (I1 0 7)) yv_Mo_more tw_7_166 tw_7_167 rfl (Nat.le_of_ble_eq_true rfl) (by decide +kernel) ⟨Nat.le_of_ble_eq_true rfl, Nat.le_of_ble_eq_true rfl⟩ ⟨Nat.le_of_ble_eq_true rfl, Nat.le_of_ble_eq_true rfl⟩ rfl rfl (fun w1 => ?_)
  refine q_aload_n 0 0 19 rfl (by decide +kernel) rfl ?_
  refine q_aload_n 0 0 20 rfl (by decide +kernel) rfl ?_
  refine q_getr (f := 19) 9 23 rfl (by decide +kernel) (cC_Mo D tc x0 y) (rfl : mKd 0 = (1, 0, 21, 0, 0)) (by decide) rfl rfl tw_5_231 ?_
  refine q_iload_n 2 3 24 rfl (by decide +kernel) rfl ?_
  refine q_iald (t := 0) 25 rfl (by decide +kernel) (rfl : mKd 9 = (2, 3, 0, 0, 0)) rfl (fun j2 hj2 => ?_)
  refine q_callV_i 28 rfl (av := [.int (I1 9 j2)]) (o := 0) (st := [.long w1]) (c_Mo_weight X.1 D tc x0 y I1 J P (I1 9 j2)) yv_Mo_weight tw_6_150 tw_6_152 sw_45 (cC_Mo D tc x0 y) (rfl : mKd 0 = (1, 0, 21, 0, 0)) rfl (Nat.le_of_ble_eq_true rfl) (by decide +kernel) ⟨Nat.le_of_ble_eq_true rfl, Nat.le_of_ble_eq_true rfl⟩ ⟨Nat.le_of_ble_eq_true rfl, Nat.le_of_ble_eq_true rfl⟩ rfl rfl (fun v1 => ?_)
  refine q_callS_l 31 rfl (av := [.long w1, .int v1]) (st := []) (c_Mo_more X.1 D tc x0 y I1 J P w1 v1) yv_Mo_more tw_7_166 tw_7_167 rfl (Nat.le_of_ble_eq_true rfl) (by decide +kernel) ⟨Nat.le_of_ble_eq_true rfl, Nat.le_of_ble_eq_true rfl⟩ ⟨Nat.le_of_ble_eq_true rfl, Nat.le_of_ble_eq_true rfl⟩ rfl rfl (fun w2 => ?_)
  refine q_lstore 4 33 rfl [(4, .long w2), (0, q_r (mG D tc x0 y) 0), (1, .long a1), (3, .int a2)] (by decide +kernel) (Nat.le_of_ble_eq_true rfl) rfl ?_
  refine q_lload 0 4 35 rfl (by decide +kernel) rfl ?_
  refine q_aload_n 1 0 36 rfl (by decide +kernel) rfl ?_
  refine q_aload_n 1 0 37 rfl (by decide +kernel) rfl ?_
  refine q_getr (f := 20) 10 40 rfl (by decide +kernel) (cC_Mo D tc x0 y) (rfl : mKd 0 = (1, 0, 21, 0, 0)) (by decide) rfl rfl tw_5_232 ?_
  refine q_iload_n 3 3 41 rfl (by decide +kernel) rfl ?_
  refine q_iald (t := 0) 42 rfl (by decide +kernel) (rfl : mKd 10 = (2, 3, 0, 0, 0)) rfl (fun j3 hj3 => ?_)
  refine q_aload_n 1 0 43 rfl (by decide +kernel) rfl ?_
  refine q_getr (f := 19) 9 46 rfl (by decide +kernel) (cC_Mo D tc x0 y) (rfl : mKd 0 = (1, 0, 21, 0, 0)) (by decide) rfl rfl tw_5_231 ?_
  refine q_iload_n 3 3 47 rfl (by decide +kernel) rfl ?_
  refine q_iald (t := 0) 48 rfl (by decide +kernel) (rfl : mKd 9 = (2, 3, 0, 0, 0)) rfl (fun j4 hj4 => ?_)
  refine q_iconst (-1) (c := -1) 49 rfl (by decide +kernel) rfl ?_
  refine q_ixor 50 rfl (by decide +kernel) ?_
  refine q_iand 51 rfl (by decide +kernel) ?_
  refine q_callV_i 54 rfl (av := [.int ((I1 10 j3) &&& ((I1 9 j4) ^^^ (-1)))]) (o := 0) (st := [.long w2]) (c_Mo_weight X.1 D tc x0 y I1 J P ((I1 10 j3) &&& ((I1 9 j4) ^^^ (-1)))) yv_Mo_weight tw_6_150 tw_6_152 sw_45 (cC_Mo D tc x0 y) (rfl : mKd 0 = (1, 0, 21, 0, 0)) rfl (Nat.le_of_ble_eq_true rfl) (by decide +kernel) ⟨Nat.le_of_ble_eq_true rfl, Nat.le_of_ble_eq_true rfl⟩ ⟨Nat.le_of_ble_eq_true rfl, Nat.le_of_ble_eq_true rfl⟩ rfl rfl (fun v2 => ?_)
  refine q_callS_l 57 rfl (av := [.long w2, .int v2]) (st := []) (c_Mo_more X.1 D tc x0 y I1 J P w2 v2) yv_Mo_more tw_7_166 tw_7_167 rfl (Nat.le_of_ble_eq_true rfl) (by decide +kernel) ⟨Nat.le_of_ble_eq_true rfl, Nat.le_of_ble_eq_true rfl⟩ ⟨Nat.le_of_ble_eq_true rfl, Nat.le_of_ble_eq_true rfl⟩ rfl rfl (fun w3 => ?_)
  refine q_lstore 4 59 rfl [(4, .long w3), (0, q_r (mG D tc x0 y) 0), (1, .long a1), (3, .int a2)] (by decide +kernel) (Nat.le_of_ble_eq_true rfl) rfl ?_
  refine q_iconst 0 (c := 0) 60 rfl (by decide +kernel) rfl ?_
  refine q_istore 6 62 rfl [(6, .int 0), (4, .long w3), (0, q_r (mG D tc x0 y) 0), (1, .long a1), (3, .int a2)] (by decide +kernel) (Nat.le_of_ble_eq_true rfl) rfl ?_
  have hL1 : ∀ (n1_ : Nat) (y1 : Int64) (x1 : Int32), q_V (mG D tc x0 y) m_Mo_moreOf X (fun r : Int64 × q_I => (some (.long r.1), (r.2, J, P))) 0 0 62 [(0, q_r (mG D tc x0 y) 0), (4, .long y1), (6, .int x1)] [] I1 J P (f_Mo_moreOf_L1 I1 n1_ y1 x1) := by
    intro n1_
    induction n1_ with
    | zero => intro y1 x1; exact q_none
    | succ n1_ ih1 =>
      intro y1 x1
      rw [f_Mo_moreOf_L1]
      refine q_iload 2 6 64 rfl (by decide +kernel) rfl ?_
      refine q_aload_n 0 0 65 rfl (by decide +kernel) rfl ?_
      refine q_geti (f := 7) 68 rfl (by decide +kernel) (cC_Mo D tc x0 y) (rfl : mKd 0 = (1, 0, 21, 0, 0)) (by decide) rfl tw_5_219 ?_
      refine q_icmp_ge 71 rfl 120 (off := 52) (by decide +kernel) rfl (fun g2 => ?_) (fun g2 => ?_)
      · refine q_lload 1 4 122 rfl (by decide +kernel) rfl ?_
        exact q_lret (by decide +kernel) rfl rfl (Nat.le_of_ble_eq_true rfl) (Nat.le_of_ble_eq_true rfl)
      · refine q_aload_n 0 0 72 rfl (by decide +kernel) rfl ?_
        refine q_iload 2 6 74 rfl (by decide +kernel) rfl ?_
        refine q_callV_i 77 rfl (av := [.int x1]) (o := 0) (st := []) (c_Mo_indexOf X.1 D tc x0 y I1 J P x1) yv_Mo_indexOf tw_7_9 tw_7_11 sw_57 (cC_Mo D tc x0 y) (rfl : mKd 0 = (1, 0, 21, 0, 0)) rfl (Nat.le_of_ble_eq_true rfl) (by decide +kernel) ⟨Nat.le_of_ble_eq_true rfl, Nat.le_of_ble_eq_true rfl⟩ ⟨Nat.le_of_ble_eq_true rfl, Nat.le_of_ble_eq_true rfl⟩ rfl rfl (fun v3 => ?_)
        refine q_istore 7 79 rfl [(7, .int v3), (0, q_r (mG D tc x0 y) 0), (4, .long y1), (6, .int x1)] (by decide +kernel) (Nat.le_of_ble_eq_true rfl) rfl ?_
        refine q_iconst 0 (c := 0) 80 rfl (by decide +kernel) rfl ?_
        refine q_istore 8 82 rfl [(8, .int 0), (7, .int v3), (0, q_r (mG D tc x0 y) 0), (4, .long y1), (6, .int x1)] (by decide +kernel) (Nat.le_of_ble_eq_true rfl) rfl ?_
        have hL2 : ∀ (K2 : Int64 → Option (Int64 × q_I)) (hK2 : ∀ (y3 : Int64), q_V (mG D tc x0 y) m_Mo_moreOf X (fun r : Int64 × q_I => (some (.long r.1), (r.2, J, P))) 0 0 114 [(0, q_r (mG D tc x0 y) 0), (4, .long y3), (6, .int x1)] [] I1 J P (K2 y3)) (n2_ : Nat) (y2 : Int64) (x2 : Int32), q_V (mG D tc x0 y) m_Mo_moreOf X (fun r : Int64 × q_I => (some (.long r.1), (r.2, J, P))) 0 0 82 [(0, q_r (mG D tc x0 y) 0), (4, .long y2), (6, .int x1), (7, .int v3), (8, .int x2)] [] I1 J P (f_Mo_moreOf_L2 I1 v3 K2 n2_ y2 x2) := by
          intro K2 hK2 n2_
          induction n2_ with
          | zero => intro y2 x2; exact q_none
          | succ n2_ ih2 =>
            intro y2 x2
            rw [f_Mo_moreOf_L2]
            refine q_iload 4 8 84 rfl (by decide +kernel) rfl ?_
            refine q_bipush 6 (c := 6) 86 rfl (by decide +kernel) rfl ?_
            refine q_icmp_gt 89 rfl 114 (off := 28) (by decide +kernel) rfl (fun g1 => ?_) (fun g1 => ?_)
            · refine q_sub [0, 1, 2] rfl ?_
              exact hK2 y2
            · refine q_lload 1 4 91 rfl (by decide +kernel) rfl ?_
              refine q_aload_n 0 0 92 rfl (by decide +kernel) rfl ?_
              refine q_getr (f := 8) 6 95 rfl (by decide +kernel) (cC_Mo D tc x0 y) (rfl : mKd 0 = (1, 0, 21, 0, 0)) (by decide) rfl rfl tw_5_220 ?_
              refine q_iload 3 7 97 rfl (by decide +kernel) rfl ?_
              refine q_iload 4 8 99 rfl (by decide +kernel) rfl ?_
              refine q_callS_i 102 rfl (av := [.int v3, .int x2]) (st := [q_r (mG D tc x0 y) 6, .long y2]) (c_Mo_meeting X.1 D tc x0 y I1 J P v3 x2) yv_Mo_meeting tw_6_86 tw_6_87 rfl (Nat.le_of_ble_eq_true rfl) (by decide +kernel) ⟨Nat.le_of_ble_eq_true rfl, Nat.le_of_ble_eq_true rfl⟩ ⟨Nat.le_of_ble_eq_true rfl, Nat.le_of_ble_eq_true rfl⟩ rfl rfl (fun v4 => ?_)
              refine q_iald (t := 0) 103 rfl (by decide +kernel) (rfl : mKd 6 = (2, 175, 0, 0, 0)) rfl (fun j5 hj5 => ?_)
              refine q_callS_l 106 rfl (av := [.long y2, .int (I1 6 j5)]) (st := []) (c_Mo_more X.1 D tc x0 y I1 J P y2 (I1 6 j5)) yv_Mo_more tw_7_166 tw_7_167 rfl (Nat.le_of_ble_eq_true rfl) (by decide +kernel) ⟨Nat.le_of_ble_eq_true rfl, Nat.le_of_ble_eq_true rfl⟩ ⟨Nat.le_of_ble_eq_true rfl, Nat.le_of_ble_eq_true rfl⟩ rfl rfl (fun w4 => ?_)
              refine q_lstore 4 108 rfl [(4, .long w4), (0, q_r (mG D tc x0 y) 0), (6, .int x1), (7, .int v3), (8, .int x2)] (by decide +kernel) (Nat.le_of_ble_eq_true rfl) rfl ?_
              refine q_iinc (x2 + 1) (c := 1) 8 4 111 rfl [(8, .int (x2 + 1)), (4, .long w4), (0, q_r (mG D tc x0 y) 0), (6, .int x1), (7, .int v3)] (by decide +kernel) rfl rfl (Nat.le_of_ble_eq_true rfl) rfl ?_
              refine q_goto (off := -29) 82 (by decide +kernel) rfl ?_
              refine q_sub [2, 1, 3, 4, 0] rfl ?_
              exact ih2 w4 (x2 + 1)
        refine q_sub [2, 3, 4, 1, 0] rfl ?_
        refine hL2 _ (fun y3 => ?_) _ _ _
        refine q_iinc (x1 + 1) (c := 1) 6 2 117 rfl [(6, .int (x1 + 1)), (0, q_r (mG D tc x0 y) 0), (4, .long y3)] (by decide +kernel) rfl rfl (Nat.le_of_ble_eq_true rfl) rfl ?_
        refine q_goto (off := -55) 62 (by decide +kernel) rfl ?_
        refine q_sub [1, 2, 0] rfl ?_
        exact ih1 y3 (x1 + 1)
  refine q_sub [2, 1, 0] rfl ?_
  exact hL1 _ _ _
def f_Mo_checksum_L1 (K : q_I → q_J → Option (Int64 × q_I × q_J)) : Nat → Int32 → q_I → q_J → Option (Int64 × q_I × q_J)
  | 0, _, _, _ => none
  | n + 1, x1, I1, J1 => if (3 : Int32) ≤ x1 then ((K I1 J1)) else (q_b3 (f_Mo_accepted I1 J1 x1) (fun v1 I2 J2 => q_ix x1 3 (fun j1 => q_l (q_ui I2 9 j1 v1) (fun I3 => q_b1 (f_Mo_usable I3 x1) (fun v2 => q_ix x1 3 (fun j2 => q_l (q_ui I3 10 j2 v2) (fun I4 => (f_Mo_checksum_L1  K n (x1 + 1) I4 J2))))))))
def f_Mo_checksum_L2 (I5 : q_I) (K : Int64 → Option (Int64 × q_I × q_J)) : Nat → Int64 → Int32 → Option (Int64 × q_I × q_J)
  | 0, _, _ => none
  | n + 1, y1, x2 => q_ix 0 280 (fun j4 => if (I5 1 j4) ≤ x2 then ((K y1)) else (q_b1 (f_Mo_moreOfEdit I5 y1 x2) (fun w2 => (f_Mo_checksum_L2 I5 K n w2 (x2 + 1)))))
def f_Mo_checksum_L3 (J3 : q_J) : Nat → Int64 → Int32 → q_I → Option (Int64 × q_I × q_J)
  | 0, _, _, _ => none
  | n + 1, y3, x3, I6 => if (3 : Int32) ≤ x3 then (some (y3, I6, J3)) else (q_b2 (f_Mo_moreOf I6 y3 x3) (fun w3 I7 => (f_Mo_checksum_L3 J3 n w3 (x3 + 1) I7)))
def f_Mo_checksum (I : q_I) (J : q_J) : Option (Int64 × q_I × q_J) :=
  f_Mo_checksum_L1  (fun (I5 : q_I) (J3 : q_J) => q_ix 0 280 (fun j3 => q_b1 (f_Mo_more 37 (I5 1 j3)) (fun w1 => f_Mo_checksum_L2 I5 (fun (y2 : Int64) => f_Mo_checksum_L3 J3 q_fu y2 0 I5) q_fu w1 0))) q_fu 0 I J
def y_Mo_checksum : MethodName := ⟨"CalendarReplicasModel", "checksum", "()J"⟩
def m_Mo_checksum : q_M := (prog_11_method_99_code, 4, "CalendarReplicasModel", { frames := 7, cells := 0, slots := 0, locals := 171 }, (some FieldType.long))
theorem yv_Mo_checksum : q_Y y_Mo_checksum m_Mo_checksum 0 := ⟨rfl, ⟨by decide, by decide⟩, by decide +kernel, tw_7_164, tw_1_15⟩
set_option maxRecDepth 100000 in
set_option maxHeartbeats 4000000 in
theorem c_Mo_checksum (l : Launch) (D : va_G) (tc : Nat → ClassId) (x0 y : Nat) (I : q_I) (J : q_J) (P : q_P) : q_Ct l (mG D tc x0 y) y_Mo_checksum m_Mo_checksum [q_r (mG D tc x0 y) 0] (I, J, P) (f_Mo_checksum I J) (fun r : Int64 × q_I × q_J => (some (.long r.1), (r.2.1, r.2.2, P))) := by
  refine q_Ct_of (mIn D tc x0 y) (by decide) rfl (Nat.le_of_ble_eq_true rfl) rfl (fun X hX => ?_)
  subst hX
  unfold f_Mo_checksum
  refine q_iconst 0 (c := 0) 1 rfl (by decide +kernel) rfl ?_
  refine q_istore_n 1 1 2 rfl [(1, .int 0), (0, q_r (mG D tc x0 y) 0)] (by decide +kernel) rfl (Nat.le_of_ble_eq_true rfl) rfl ?_
  have hL1 : ∀ (K1 : q_I → q_J → Option (Int64 × q_I × q_J)) (hK1 : ∀ (I5 : q_I) (J3 : q_J), q_V (mG D tc x0 y) m_Mo_checksum X (fun r : Int64 × q_I × q_J => (some (.long r.1), (r.2.1, r.2.2, P))) 0 0 35 [(0, q_r (mG D tc x0 y) 0)] [] I5 J3 P (K1 I5 J3)) (n1_ : Nat) (x1 : Int32) (I1 : q_I) (J1 : q_J), q_V (mG D tc x0 y) m_Mo_checksum X (fun r : Int64 × q_I × q_J => (some (.long r.1), (r.2.1, r.2.2, P))) 0 0 2 [(0, q_r (mG D tc x0 y) 0), (1, .int x1)] [] I1 J1 P (f_Mo_checksum_L1  K1 n1_ x1 I1 J1) := by
    intro K1 hK1 n1_
    induction n1_ with
    | zero => intro x1 I1 J1; exact q_none
    | succ n1_ ih1 =>
      intro x1 I1 J1
      rw [f_Mo_checksum_L1]
      refine q_iload_n 1 1 3 rfl (by decide +kernel) rfl ?_
      refine q_iconst 3 (c := 3) 4 rfl (by decide +kernel) rfl ?_
      refine q_icmp_ge 7 rfl 35 (off := 31) (by decide +kernel) rfl (fun g1 => ?_) (fun g1 => ?_)
      · refine q_sub [0] rfl ?_
        exact hK1 I1 J1
      · refine q_aload_n 0 0 8 rfl (by decide +kernel) rfl ?_
        refine q_getr (f := 19) 9 11 rfl (by decide +kernel) (cC_Mo D tc x0 y) (rfl : mKd 0 = (1, 0, 21, 0, 0)) (by decide) rfl rfl tw_5_231 ?_
        refine q_iload_n 1 1 12 rfl (by decide +kernel) rfl ?_
        refine q_aload_n 0 0 13 rfl (by decide +kernel) rfl ?_
        refine q_iload_n 1 1 14 rfl (by decide +kernel) rfl ?_
        refine q_callV_iIJ 17 rfl (av := [.int x1]) (o := 0) (st := [.int x1, q_r (mG D tc x0 y) 9]) (c_Mo_accepted X.1 D tc x0 y I1 J1 P x1) yv_Mo_accepted tw_6_138 tw_6_140 sw_42 (cC_Mo D tc x0 y) (rfl : mKd 0 = (1, 0, 21, 0, 0)) rfl (Nat.le_of_ble_eq_true rfl) (by decide +kernel) ⟨Nat.le_of_ble_eq_true rfl, Nat.le_of_ble_eq_true rfl⟩ ⟨Nat.le_of_ble_eq_true rfl, Nat.le_of_ble_eq_true rfl⟩ rfl rfl (fun v1 I2 J2 => ?_)
        refine q_iast (t := 0) 18 rfl (by decide +kernel) (rfl : mKd 9 = (2, 3, 0, 0, 0)) rfl (fun j1 hj1 => ?_)
        refine q_letI (fun I3 => ?_)
        refine q_aload_n 0 0 19 rfl (by decide +kernel) rfl ?_
        refine q_getr (f := 20) 10 22 rfl (by decide +kernel) (cC_Mo D tc x0 y) (rfl : mKd 0 = (1, 0, 21, 0, 0)) (by decide) rfl rfl tw_5_232 ?_
        refine q_iload_n 1 1 23 rfl (by decide +kernel) rfl ?_
        refine q_aload_n 0 0 24 rfl (by decide +kernel) rfl ?_
        refine q_iload_n 1 1 25 rfl (by decide +kernel) rfl ?_
        refine q_callV_i 28 rfl (av := [.int x1]) (o := 0) (st := [.int x1, q_r (mG D tc x0 y) 10]) (c_Mo_usable X.1 D tc x0 y I3 J2 P x1) yv_Mo_usable tw_6_146 tw_6_148 sw_44 (cC_Mo D tc x0 y) (rfl : mKd 0 = (1, 0, 21, 0, 0)) rfl (Nat.le_of_ble_eq_true rfl) (by decide +kernel) ⟨Nat.le_of_ble_eq_true rfl, Nat.le_of_ble_eq_true rfl⟩ ⟨Nat.le_of_ble_eq_true rfl, Nat.le_of_ble_eq_true rfl⟩ rfl rfl (fun v2 => ?_)
        refine q_iast (t := 0) 29 rfl (by decide +kernel) (rfl : mKd 10 = (2, 3, 0, 0, 0)) rfl (fun j2 hj2 => ?_)
        refine q_letI (fun I4 => ?_)
        refine q_iinc (x1 + 1) (c := 1) 1 1 32 rfl [(1, .int (x1 + 1)), (0, q_r (mG D tc x0 y) 0)] (by decide +kernel) rfl rfl (Nat.le_of_ble_eq_true rfl) rfl ?_
        refine q_goto (off := -30) 2 (by decide +kernel) rfl ?_
        refine q_sub [1, 0] rfl ?_
        exact ih1 (x1 + 1) I4 J2
  refine q_sub [1, 0] rfl ?_
  refine hL1 _ (fun I5 J3 => ?_) _ _ _ _
  refine q_ldc2 (v := 37) (i := 233) 38 rfl (by decide +kernel) tw_7_165 ?_
  refine q_aload_n 0 0 39 rfl (by decide +kernel) rfl ?_
  refine q_getr (f := 0) 1 42 rfl (by decide +kernel) (cC_Mo D tc x0 y) (rfl : mKd 0 = (1, 0, 21, 0, 0)) (by decide) rfl rfl tw_5_212 ?_
  refine q_iconst 0 (c := 0) 43 rfl (by decide +kernel) rfl ?_
  refine q_iald (t := 0) 44 rfl (by decide +kernel) (rfl : mKd 1 = (2, 280, 0, 0, 0)) rfl (fun j3 hj3 => ?_)
  refine q_callS_l 47 rfl (av := [.long 37, .int (I5 1 j3)]) (st := []) (c_Mo_more X.1 D tc x0 y I5 J3 P 37 (I5 1 j3)) yv_Mo_more tw_7_166 tw_7_167 rfl (Nat.le_of_ble_eq_true rfl) (by decide +kernel) ⟨Nat.le_of_ble_eq_true rfl, Nat.le_of_ble_eq_true rfl⟩ ⟨Nat.le_of_ble_eq_true rfl, Nat.le_of_ble_eq_true rfl⟩ rfl rfl (fun w1 => ?_)
  refine q_lstore_n 1 1 48 rfl [(1, .long w1), (0, q_r (mG D tc x0 y) 0)] (by decide +kernel) rfl (Nat.le_of_ble_eq_true rfl) rfl ?_
  refine q_iconst 0 (c := 0) 49 rfl (by decide +kernel) rfl ?_
  refine q_istore_n 3 3 50 rfl [(3, .int 0), (1, .long w1), (0, q_r (mG D tc x0 y) 0)] (by decide +kernel) rfl (Nat.le_of_ble_eq_true rfl) rfl ?_
  have hL2 : ∀ (K2 : Int64 → Option (Int64 × q_I × q_J)) (hK2 : ∀ (y2 : Int64), q_V (mG D tc x0 y) m_Mo_checksum X (fun r : Int64 × q_I × q_J => (some (.long r.1), (r.2.1, r.2.2, P))) 0 0 73 [(0, q_r (mG D tc x0 y) 0), (1, .long y2)] [] I5 J3 P (K2 y2)) (n2_ : Nat) (y1 : Int64) (x2 : Int32), q_V (mG D tc x0 y) m_Mo_checksum X (fun r : Int64 × q_I × q_J => (some (.long r.1), (r.2.1, r.2.2, P))) 0 0 50 [(0, q_r (mG D tc x0 y) 0), (1, .long y1), (3, .int x2)] [] I5 J3 P (f_Mo_checksum_L2 I5 K2 n2_ y1 x2) := by
    intro K2 hK2 n2_
    induction n2_ with
    | zero => intro y1 x2; exact q_none
    | succ n2_ ih2 =>
      intro y1 x2
      rw [f_Mo_checksum_L2]
      refine q_iload_n 2 3 51 rfl (by decide +kernel) rfl ?_
      refine q_aload_n 0 0 52 rfl (by decide +kernel) rfl ?_
      refine q_getr (f := 0) 1 55 rfl (by decide +kernel) (cC_Mo D tc x0 y) (rfl : mKd 0 = (1, 0, 21, 0, 0)) (by decide) rfl rfl tw_5_212 ?_
      refine q_iconst 0 (c := 0) 56 rfl (by decide +kernel) rfl ?_
      refine q_iald (t := 0) 57 rfl (by decide +kernel) (rfl : mKd 1 = (2, 280, 0, 0, 0)) rfl (fun j4 hj4 => ?_)
      refine q_icmp_ge 60 rfl 73 (off := 16) (by decide +kernel) rfl (fun g2 => ?_) (fun g2 => ?_)
      · refine q_sub [0, 1] rfl ?_
        exact hK2 y1
      · refine q_aload_n 0 0 61 rfl (by decide +kernel) rfl ?_
        refine q_lload_n 1 1 62 rfl (by decide +kernel) rfl ?_
        refine q_iload_n 2 3 63 rfl (by decide +kernel) rfl ?_
        refine q_callV_l 66 rfl (av := [.long y1, .int x2]) (o := 0) (st := []) (c_Mo_moreOfEdit X.1 D tc x0 y I5 J3 P y1 x2) yv_Mo_moreOfEdit tw_7_170 tw_7_172 sw_65 (cC_Mo D tc x0 y) (rfl : mKd 0 = (1, 0, 21, 0, 0)) rfl (Nat.le_of_ble_eq_true rfl) (by decide +kernel) ⟨Nat.le_of_ble_eq_true rfl, Nat.le_of_ble_eq_true rfl⟩ ⟨Nat.le_of_ble_eq_true rfl, Nat.le_of_ble_eq_true rfl⟩ rfl rfl (fun w2 => ?_)
        refine q_lstore_n 1 1 67 rfl [(1, .long w2), (0, q_r (mG D tc x0 y) 0), (3, .int x2)] (by decide +kernel) rfl (Nat.le_of_ble_eq_true rfl) rfl ?_
        refine q_iinc (x2 + 1) (c := 1) 3 2 70 rfl [(3, .int (x2 + 1)), (1, .long w2), (0, q_r (mG D tc x0 y) 0)] (by decide +kernel) rfl rfl (Nat.le_of_ble_eq_true rfl) rfl ?_
        refine q_goto (off := -20) 50 (by decide +kernel) rfl ?_
        refine q_sub [2, 1, 0] rfl ?_
        exact ih2 w2 (x2 + 1)
  refine q_sub [2, 1, 0] rfl ?_
  refine hL2 _ (fun y2 => ?_) _ _ _
  refine q_iconst 0 (c := 0) 74 rfl (by decide +kernel) rfl ?_
  refine q_istore_n 3 3 75 rfl [(3, .int 0), (0, q_r (mG D tc x0 y) 0), (1, .long y2)] (by decide +kernel) rfl (Nat.le_of_ble_eq_true rfl) rfl ?_
  have hL3 : ∀ (n3_ : Nat) (y3 : Int64) (x3 : Int32) (I6 : q_I), q_V (mG D tc x0 y) m_Mo_checksum X (fun r : Int64 × q_I × q_J => (some (.long r.1), (r.2.1, r.2.2, P))) 0 0 75 [(0, q_r (mG D tc x0 y) 0), (1, .long y3), (3, .int x3)] [] I6 J3 P (f_Mo_checksum_L3 J3 n3_ y3 x3 I6) := by
    intro n3_
    induction n3_ with
    | zero => intro y3 x3 I6; exact q_none
    | succ n3_ ih3 =>
      intro y3 x3 I6
      rw [f_Mo_checksum_L3]
      refine q_iload_n 2 3 76 rfl (by decide +kernel) rfl ?_
      refine q_iconst 3 (c := 3) 77 rfl (by decide +kernel) rfl ?_
      refine q_icmp_ge 80 rfl 93 (off := 16) (by decide +kernel) rfl (fun g3 => ?_) (fun g3 => ?_)
      · refine q_lload_n 1 1 94 rfl (by decide +kernel) rfl ?_
        exact q_lret (by decide +kernel) rfl rfl (Nat.le_of_ble_eq_true rfl) (Nat.le_of_ble_eq_true rfl)
      · refine q_aload_n 0 0 81 rfl (by decide +kernel) rfl ?_
        refine q_lload_n 1 1 82 rfl (by decide +kernel) rfl ?_
        refine q_iload_n 2 3 83 rfl (by decide +kernel) rfl ?_
        refine q_callV_lI 86 rfl (av := [.long y3, .int x3]) (o := 0) (st := []) (c_Mo_moreOf X.1 D tc x0 y I6 J3 P y3 x3) yv_Mo_moreOf tw_7_174 tw_7_176 sw_66 (cC_Mo D tc x0 y) (rfl : mKd 0 = (1, 0, 21, 0, 0)) rfl (Nat.le_of_ble_eq_true rfl) (by decide +kernel) ⟨Nat.le_of_ble_eq_true rfl, Nat.le_of_ble_eq_true rfl⟩ ⟨Nat.le_of_ble_eq_true rfl, Nat.le_of_ble_eq_true rfl⟩ rfl rfl (fun w3 I7 => ?_)
        refine q_lstore_n 1 1 87 rfl [(1, .long w3), (0, q_r (mG D tc x0 y) 0), (3, .int x3)] (by decide +kernel) rfl (Nat.le_of_ble_eq_true rfl) rfl ?_
        refine q_iinc (x3 + 1) (c := 1) 3 2 90 rfl [(3, .int (x3 + 1)), (1, .long w3), (0, q_r (mG D tc x0 y) 0)] (by decide +kernel) rfl rfl (Nat.le_of_ble_eq_true rfl) rfl ?_
        refine q_goto (off := -15) 75 (by decide +kernel) rfl ?_
        refine q_sub [2, 1, 0] rfl ?_
        exact ih3 w3 (x3 + 1) I7
  refine q_sub [1, 2, 0] rfl ?_
  exact hL3 _ _ _ _
