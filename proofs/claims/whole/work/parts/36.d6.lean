def f_CR_append (I : q_I) (a1 : Int32) : Option (Int32 × q_I) :=
  q_b1 (f_CR_within a1 32 126) (fun v1 => if v1 = 0 then (some ((-1), I)) else (q_b1 (f_SB_length I 114) (fun v2 => if v2 < 60 then (q_b1 (f_SB_appC I 114 ((a1.toUInt32 % 65536).toInt32)) (fun I1 => q_b1 (f_SB_length I1 114) (fun v3 => some (v3, I1)))) else (some ((-2), I)))))
def y_CR_append : MethodName := ⟨"CalendarReplicas", "append", "(I)I"⟩
def m_CR_append : q_M := (prog_1_method_52_code, 2, "CalendarReplicas", { frames := 9, cells := 1, slots := 200, locals := 821 }, (some FieldType.int))
theorem yv_CR_append : q_Y y_CR_append m_CR_append 1 := ⟨rfl, ⟨by decide, by decide⟩, by decide +kernel, tw_4_227, tw_1_1⟩
set_option maxRecDepth 100000 in
set_option maxHeartbeats 4000000 in
theorem c_CR_append (l : Launch) (D : va_G) (tc : Nat → ClassId) (x0 y : Nat) (ad : Nat → Nat) (I : q_I) (J : q_J) (P : q_P) (a1 : Int32) : q_Ct l (cG D tc x0 y ad) y_CR_append m_CR_append [q_r (cG D tc x0 y ad) 0, .int a1] (I, J, P) (f_CR_append I a1) (fun r : Int32 × q_I => (some (.int r.1), (r.2, J, P))) := by
  refine q_Ct_of (cIn D tc x0 y ad) (by decide) rfl (Nat.le_of_ble_eq_true rfl) rfl (fun X hX => ?_)
  subst hX
  unfold f_CR_append
  refine q_iload_n 1 1 1 rfl (by decide +kernel) rfl ?_
  refine q_bipush 32 (c := 32) 3 rfl (by decide +kernel) rfl ?_
  refine q_bipush 126 (c := 126) 5 rfl (by decide +kernel) rfl ?_
  refine q_callS_i 8 rfl (av := [.int a1, .int 32, .int 126]) (st := []) (c_CR_within X.1 D tc x0 y ad I J P a1 32 126) yv_CR_within tw_2_134 tw_2_135 rfl (Nat.le_of_ble_eq_true rfl) (by decide +kernel) ⟨Nat.le_of_ble_eq_true rfl, Nat.le_of_ble_eq_true rfl⟩ ⟨Nat.le_of_ble_eq_true rfl, Nat.le_of_ble_eq_true rfl⟩ (k' := 0) (n' := 0) rfl rfl (fun v1 => ?_)
  refine q_if_ne 11 rfl 13 (off := 5) (by decide +kernel) rfl (fun g2 => ?_) (fun g2 => ?_)
  · refine q_aload_n 0 0 14 rfl (by decide +kernel) rfl ?_
    refine q_getr (f := 7) 113 17 rfl (by decide +kernel) (cC_CR D tc x0 y ad) k_CR (by decide) rfl rfl tw_2_109 ?_
    refine q_getr (f := 0) 114 20 rfl (by decide +kernel) (cC_Des D tc x0 y ad) k_Des113.1 (by decide) rfl rfl tw_2_82 ?_
    refine q_callB_i 23 rfl (av := []) (o := 114) (st := []) (c_SB_length X.1 D tc x0 y ad I J P k_Des113.2.1 ) yv_SB_length tw_4_228 tw_3_132 tw_3_133 (cC_SB D tc x0 y ad).1 k_Des113.2.1.1 rfl (Nat.le_of_ble_eq_true rfl) (by decide +kernel) ⟨Nat.le_of_ble_eq_true rfl, Nat.le_of_ble_eq_true rfl⟩ ⟨Nat.le_of_ble_eq_true rfl, Nat.le_of_ble_eq_true rfl⟩ (k' := 0) (n' := 0) rfl rfl (fun v2 => ?_)
    refine q_bipush 60 (c := 60) 25 rfl (by decide +kernel) rfl ?_
    refine q_icmp_lt 28 rfl 31 (off := 6) (by decide +kernel) rfl (fun g1 => ?_) (fun g1 => ?_)
    · refine q_aload_n 0 0 32 rfl (by decide +kernel) rfl ?_
      refine q_getr (f := 7) 113 35 rfl (by decide +kernel) (cC_CR D tc x0 y ad) k_CR (by decide) rfl rfl tw_2_109 ?_
      refine q_getr (f := 0) 114 38 rfl (by decide +kernel) (cC_Des D tc x0 y ad) k_Des113.1 (by decide) rfl rfl tw_2_82 ?_
      refine q_iload_n 1 1 39 rfl (by decide +kernel) rfl ?_
      refine q_i2c 40 rfl (by decide +kernel) ?_
      refine q_callB_rI 43 rfl (av := [.int ((a1.toUInt32 % 65536).toInt32)]) (o := 114) (st := []) (c_SB_appC X.1 D tc x0 y ad I J P k_Des113.2.1 ((a1.toUInt32 % 65536).toInt32)) yv_SB_appC tw_4_229 tw_4_230 tw_4_231 (cC_SB D tc x0 y ad).1 k_Des113.2.1.1 rfl (Nat.le_of_ble_eq_true rfl) (by decide +kernel) ⟨Nat.le_of_ble_eq_true rfl, Nat.le_of_ble_eq_true rfl⟩ ⟨Nat.le_of_ble_eq_true rfl, Nat.le_of_ble_eq_true rfl⟩ (k' := 1) (n' := 200) rfl rfl (fun I1 => ?_)
      refine q_pop 44 rfl (by decide +kernel) rfl ?_
      refine q_aload_n 0 0 45 rfl (by decide +kernel) rfl ?_
      refine q_getr (f := 7) 113 48 rfl (by decide +kernel) (cC_CR D tc x0 y ad) k_CR (by decide) rfl rfl tw_2_109 ?_
      refine q_getr (f := 0) 114 51 rfl (by decide +kernel) (cC_Des D tc x0 y ad) k_Des113.1 (by decide) rfl rfl tw_2_82 ?_
      refine q_callB_i 54 rfl (av := []) (o := 114) (st := []) (c_SB_length X.1 D tc x0 y ad I1 J P k_Des113.2.1 ) yv_SB_length tw_4_228 tw_3_132 tw_3_133 (cC_SB D tc x0 y ad).1 k_Des113.2.1.1 rfl (Nat.le_of_ble_eq_true rfl) (by decide +kernel) ⟨Nat.le_of_ble_eq_true rfl, Nat.le_of_ble_eq_true rfl⟩ ⟨Nat.le_of_ble_eq_true rfl, Nat.le_of_ble_eq_true rfl⟩ (k' := 1) (n' := 200) rfl rfl (fun v3 => ?_)
      exact q_iret (by decide +kernel) rfl rfl (Nat.le_of_ble_eq_true rfl) (Nat.le_of_ble_eq_true rfl)
    · refine q_bipush (-2) (c := -2) 30 rfl (by decide +kernel) rfl ?_
      exact q_iret (by decide +kernel) rfl rfl (Nat.le_of_ble_eq_true rfl) (Nat.le_of_ble_eq_true rfl)
  · refine q_iconst (-1) (c := -1) 12 rfl (by decide +kernel) rfl ?_
    exact q_iret (by decide +kernel) rfl rfl (Nat.le_of_ble_eq_true rfl) (Nat.le_of_ble_eq_true rfl)
def f_CR_clearText (I : q_I) : Option (Int32 × q_I) :=
  q_b1 (f_SB_length I 114) (fun v1 => q_b1 (f_SB_setLength I 114 0) (fun I1 => some (v1, I1)))
def y_CR_clearText : MethodName := ⟨"CalendarReplicas", "clearText", "()I"⟩
def m_CR_clearText : q_M := (prog_1_method_53_code, 2, "CalendarReplicas", { frames := 9, cells := 0, slots := 0, locals := 821 }, (some FieldType.int))
theorem yv_CR_clearText : q_Y y_CR_clearText m_CR_clearText 0 := ⟨rfl, ⟨by decide, by decide⟩, by decide +kernel, tw_5_67, tw_1_1⟩
set_option maxRecDepth 100000 in
set_option maxHeartbeats 4000000 in
theorem c_CR_clearText (l : Launch) (D : va_G) (tc : Nat → ClassId) (x0 y : Nat) (ad : Nat → Nat) (I : q_I) (J : q_J) (P : q_P) : q_Ct l (cG D tc x0 y ad) y_CR_clearText m_CR_clearText [q_r (cG D tc x0 y ad) 0] (I, J, P) (f_CR_clearText I) (fun r : Int32 × q_I => (some (.int r.1), (r.2, J, P))) := by
  refine q_Ct_of (cIn D tc x0 y ad) (by decide) rfl (Nat.le_of_ble_eq_true rfl) rfl (fun X hX => ?_)
  subst hX
  unfold f_CR_clearText
  refine q_aload_n 0 0 1 rfl (by decide +kernel) rfl ?_
  refine q_getr (f := 7) 113 4 rfl (by decide +kernel) (cC_CR D tc x0 y ad) k_CR (by decide) rfl rfl tw_2_109 ?_
  refine q_getr (f := 0) 114 7 rfl (by decide +kernel) (cC_Des D tc x0 y ad) k_Des113.1 (by decide) rfl rfl tw_2_82 ?_
  refine q_callB_i 10 rfl (av := []) (o := 114) (st := []) (c_SB_length X.1 D tc x0 y ad I J P k_Des113.2.1 ) yv_SB_length tw_4_228 tw_3_132 tw_3_133 (cC_SB D tc x0 y ad).1 k_Des113.2.1.1 rfl (Nat.le_of_ble_eq_true rfl) (by decide +kernel) ⟨Nat.le_of_ble_eq_true rfl, Nat.le_of_ble_eq_true rfl⟩ ⟨Nat.le_of_ble_eq_true rfl, Nat.le_of_ble_eq_true rfl⟩ (k' := 0) (n' := 0) rfl rfl (fun v1 => ?_)
  refine q_istore_n 1 1 11 rfl [(1, .int v1), (0, q_r (cG D tc x0 y ad) 0)] (by decide +kernel) rfl (Nat.le_of_ble_eq_true rfl) rfl ?_
  refine q_aload_n 1 0 12 rfl (by decide +kernel) rfl ?_
  refine q_getr (f := 7) 113 15 rfl (by decide +kernel) (cC_CR D tc x0 y ad) k_CR (by decide) rfl rfl tw_2_109 ?_
  refine q_getr (f := 0) 114 18 rfl (by decide +kernel) (cC_Des D tc x0 y ad) k_Des113.1 (by decide) rfl rfl tw_2_82 ?_
  refine q_iconst 0 (c := 0) 19 rfl (by decide +kernel) rfl ?_
  refine q_callB_vI 22 rfl (av := [.int 0]) (o := 114) (st := []) (c_SB_setLength X.1 D tc x0 y ad I J P k_Des113.2.1 0) yv_SB_setLength tw_5_68 tw_5_69 tw_5_70 (cC_SB D tc x0 y ad).1 k_Des113.2.1.1 rfl (Nat.le_of_ble_eq_true rfl) (by decide +kernel) ⟨Nat.le_of_ble_eq_true rfl, Nat.le_of_ble_eq_true rfl⟩ ⟨Nat.le_of_ble_eq_true rfl, Nat.le_of_ble_eq_true rfl⟩ (k' := 0) (n' := 0) rfl rfl (fun I1 => ?_)
  refine q_iload_n 0 1 23 rfl (by decide +kernel) rfl ?_
  exact q_iret (by decide +kernel) rfl rfl (Nat.le_of_ble_eq_true rfl) (Nat.le_of_ble_eq_true rfl)
def f_CR_faultPosition (I : q_I) : Option (Int32 × q_I) :=
  q_b2 (f_Des_read I 113) (fun v1 I1 => some (v1, I1))
def y_CR_faultPosition : MethodName := ⟨"CalendarReplicas", "faultPosition", "()I"⟩
def m_CR_faultPosition : q_M := (prog_1_method_54_code, 1, "CalendarReplicas", { frames := 16, cells := 0, slots := 0, locals := 968 }, (some FieldType.int))
theorem yv_CR_faultPosition : q_Y y_CR_faultPosition m_CR_faultPosition 0 := ⟨rfl, ⟨by decide, by decide⟩, by decide +kernel, tw_5_91, tw_1_1⟩
set_option maxRecDepth 100000 in
set_option maxHeartbeats 4000000 in
theorem c_CR_faultPosition (l : Launch) (D : va_G) (tc : Nat → ClassId) (x0 y : Nat) (ad : Nat → Nat) (I : q_I) (J : q_J) (P : q_P) : q_Ct l (cG D tc x0 y ad) y_CR_faultPosition m_CR_faultPosition [q_r (cG D tc x0 y ad) 0] (I, J, P) (f_CR_faultPosition I) (fun r : Int32 × q_I => (some (.int r.1), (r.2, J, P))) := by
  refine q_Ct_of (cIn D tc x0 y ad) (by decide) rfl (Nat.le_of_ble_eq_true rfl) rfl (fun X hX => ?_)
  subst hX
  unfold f_CR_faultPosition
  refine q_aload_n 0 0 1 rfl (by decide +kernel) rfl ?_
  refine q_getr (f := 7) 113 4 rfl (by decide +kernel) (cC_CR D tc x0 y ad) k_CR (by decide) rfl rfl tw_2_109 ?_
  refine q_callV_iI 7 rfl (av := []) (o := 113) (st := []) (c_Des_read X.1 D tc x0 y ad I J P k_Des113) yv_Des_read tw_3_100 tw_3_101 tw_3_102 (cC_Des D tc x0 y ad) k_Des113.1 rfl (Nat.le_of_ble_eq_true rfl) (by decide +kernel) ⟨Nat.le_of_ble_eq_true rfl, Nat.le_of_ble_eq_true rfl⟩ ⟨Nat.le_of_ble_eq_true rfl, Nat.le_of_ble_eq_true rfl⟩ rfl rfl (fun v1 I1 => ?_)
  exact q_iret (by decide +kernel) rfl rfl (Nat.le_of_ble_eq_true rfl) (Nat.le_of_ble_eq_true rfl)
def f_CR_print_L1 (b1 : Nat) (K : q_I → Option (Int32 × q_I × q_P)) : Nat → Int32 → q_I → Option (Int32 × q_I × q_P)
  | 0, _, _ => none
  | n + 1, x1, I9 => if (6 : Int32) ≤ x1 then ((K I9)) else (q_b1 (f_CR_contains (I9 b1 4) x1) (fun v1 => if v1 = 0 then ((f_CR_print_L1 b1 K n (x1 + 1) I9)) else (q_b1 (f_SB_appI I9 117 x1) (fun I10 => (f_CR_print_L1 b1 K n (x1 + 1) I10)))))
def f_CR_print (I : q_I) (P : q_P) (a1 : Int32) (a2 : Int32) : Option (Int32 × q_I × q_P) :=
  q_b3 (f_CR_find I P a1 a2) (fun r1 I1 P1 => (r1).elim (some ((-1), I1, P1)) (fun b1 => q_ck (cM b1) (q_b1 (f_SB_setLength I1 117 0) (fun I2 => q_b1 (f_SB_appI I2 117 (I2 b1 1)) (fun I3 => q_b1 (f_SB_appC I3 117 43) (fun I4 => q_b1 (f_SB_appI I4 117 (I4 b1 2)) (fun I5 => q_b1 (f_SB_appS I5 117 32 114) (fun I6 => q_b1 (f_SB_appI I6 117 (I6 b1 3)) (fun I7 => q_b1 (f_SB_appS I7 117 32 112) (fun I8 => f_CR_print_L1 b1 (fun (I11 : q_I) => if (I11 b1 6) ≤ 1 then (q_b1 (f_SB_length I11 117) (fun v2 => some (v2, I11, P1))) else (q_b1 (f_SB_appS I11 117 32 101) (fun I12 => q_b1 (f_SB_appI I12 117 (I12 b1 5)) (fun I13 => q_b1 (f_SB_appC I13 117 120) (fun I14 => q_b1 (f_SB_appI I14 117 (I14 b1 6)) (fun I15 => q_b1 (f_SB_length I15 117) (fun v3 => some (v3, I15, P1)))))))) 7 0 I8))))))))))
def y_CR_print : MethodName := ⟨"CalendarReplicas", "print", "(II)I"⟩
def m_CR_print : q_M := (prog_1_method_55_code, 5, "CalendarReplicas", { frames := 9, cells := 18, slots := 3600, locals := 821 }, (some FieldType.int))
theorem yv_CR_print : q_Y y_CR_print m_CR_print 2 := ⟨rfl, ⟨by decide, by decide⟩, by decide +kernel, tw_5_95, tw_1_1⟩
set_option maxRecDepth 100000 in
set_option maxHeartbeats 4000000 in
theorem c_CR_print (l : Launch) (D : va_G) (tc : Nat → ClassId) (x0 y : Nat) (ad : Nat → Nat) (I : q_I) (J : q_J) (P : q_P) (a1 : Int32) (a2 : Int32) : q_Ct l (cG D tc x0 y ad) y_CR_print m_CR_print [q_r (cG D tc x0 y ad) 0, .int a1, .int a2] (I, J, P) (f_CR_print I P a1 a2) (fun r : Int32 × q_I × q_P => (some (.int r.1), (r.2.1, J, r.2.2))) := by
  refine q_Ct_of (cIn D tc x0 y ad) (by decide) rfl (Nat.le_of_ble_eq_true rfl) rfl (fun X hX => ?_)
  subst hX
  unfold f_CR_print
  refine q_aload_n 0 0 1 rfl (by decide +kernel) rfl ?_
  refine q_iload_n 1 1 2 rfl (by decide +kernel) rfl ?_
  refine q_iload_n 2 2 3 rfl (by decide +kernel) rfl ?_
  refine q_callV_qIP 6 rfl (av := [.int a1, .int a2]) (o := 0) (st := []) (c_CR_find X.1 D tc x0 y ad I J P a1 a2) yv_CR_find tw_4_23 tw_4_25 sw_17 (cC_CR D tc x0 y ad) k_CR rfl (Nat.le_of_ble_eq_true rfl) (by decide +kernel) ⟨Nat.le_of_ble_eq_true rfl, Nat.le_of_ble_eq_true rfl⟩ ⟨Nat.le_of_ble_eq_true rfl, Nat.le_of_ble_eq_true rfl⟩ (k' := 0) (n' := 0) rfl rfl (fun r1 I1 P1 => ?_)
  refine q_astoreq_n 3 3 7 rfl [(3, q_rn (cG D tc x0 y ad) r1), (0, q_r (cG D tc x0 y ad) 0), (1, .int a1), (2, .int a2)] (by decide +kernel) rfl (Nat.le_of_ble_eq_true rfl) rfl ?_
  refine q_aloadq_n 0 3 8 rfl (by decide +kernel) rfl ?_
  refine q_ifnonnull 11 rfl 13 (off := 5) (by decide +kernel) rfl (fun he_b1 => ?_) (fun b1 he_b1 => ?_)
  · subst he_b1
    refine q_iconst (-1) (c := -1) 12 rfl (by decide +kernel) rfl ?_
    exact q_iret (by decide +kernel) rfl rfl (Nat.le_of_ble_eq_true rfl) (Nat.le_of_ble_eq_true rfl)
  · subst he_b1
    refine q_ckV (fun hc_b1 => ?_)
    refine q_aload_n 1 0 14 rfl (by decide +kernel) rfl ?_
    refine q_getr (f := 8) 117 17 rfl (by decide +kernel) (cC_CR D tc x0 y ad) k_CR (by decide) rfl rfl tw_2_110 ?_
    refine q_iconst 0 (c := 0) 18 rfl (by decide +kernel) rfl ?_
    refine q_callB_vI 21 rfl (av := [.int 0]) (o := 117) (st := []) (c_SB_setLength X.1 D tc x0 y ad I1 J P1 k_SB117 0) yv_SB_setLength tw_5_68 tw_5_69 tw_5_70 (cC_SB D tc x0 y ad).1 k_SB117.1 rfl (Nat.le_of_ble_eq_true rfl) (by decide +kernel) ⟨Nat.le_of_ble_eq_true rfl, Nat.le_of_ble_eq_true rfl⟩ ⟨Nat.le_of_ble_eq_true rfl, Nat.le_of_ble_eq_true rfl⟩ (k' := 0) (n' := 0) rfl rfl (fun I2 => ?_)
    refine q_aload_n 1 0 22 rfl (by decide +kernel) rfl ?_
    refine q_getr (f := 8) 117 25 rfl (by decide +kernel) (cC_CR D tc x0 y ad) k_CR (by decide) rfl rfl tw_2_110 ?_
    refine q_aload_n 0 3 26 rfl (by decide +kernel) rfl ?_
    refine q_geti (f := 1) 29 rfl (by decide +kernel) (cC_Me D tc x0 y ad) (cM_of hc_b1) (by decide) rfl tw_1_104 ?_
    refine q_callB_rI 32 rfl (av := [.int (I2 b1 1)]) (o := 117) (st := []) (c_SB_appI X.1 D tc x0 y ad I2 J P1 k_SB117 (I2 b1 1)) yv_SB_appI tw_5_96 tw_5_97 tw_5_98 (cC_SB D tc x0 y ad).1 k_SB117.1 rfl (Nat.le_of_ble_eq_true rfl) (by decide +kernel) ⟨Nat.le_of_ble_eq_true rfl, Nat.le_of_ble_eq_true rfl⟩ ⟨Nat.le_of_ble_eq_true rfl, Nat.le_of_ble_eq_true rfl⟩ (k' := 1) (n' := 200) rfl rfl (fun I3 => ?_)
    refine q_bipush 43 (c := 43) 34 rfl (by decide +kernel) rfl ?_
    refine q_callB_rI 37 rfl (av := [.int 43]) (o := 117) (st := []) (c_SB_appC X.1 D tc x0 y ad I3 J P1 k_SB117 43) yv_SB_appC tw_4_229 tw_4_230 tw_4_231 (cC_SB D tc x0 y ad).1 k_SB117.1 rfl (Nat.le_of_ble_eq_true rfl) (by decide +kernel) ⟨Nat.le_of_ble_eq_true rfl, Nat.le_of_ble_eq_true rfl⟩ ⟨Nat.le_of_ble_eq_true rfl, Nat.le_of_ble_eq_true rfl⟩ (k' := 2) (n' := 400) rfl rfl (fun I4 => ?_)
    refine q_aload_n 0 3 38 rfl (by decide +kernel) rfl ?_
    refine q_geti (f := 2) 41 rfl (by decide +kernel) (cC_Me D tc x0 y ad) (cM_of hc_b1) (by decide) rfl tw_1_110 ?_
    refine q_callB_rI 44 rfl (av := [.int (I4 b1 2)]) (o := 117) (st := []) (c_SB_appI X.1 D tc x0 y ad I4 J P1 k_SB117 (I4 b1 2)) yv_SB_appI tw_5_96 tw_5_97 tw_5_98 (cC_SB D tc x0 y ad).1 k_SB117.1 rfl (Nat.le_of_ble_eq_true rfl) (by decide +kernel) ⟨Nat.le_of_ble_eq_true rfl, Nat.le_of_ble_eq_true rfl⟩ ⟨Nat.le_of_ble_eq_true rfl, Nat.le_of_ble_eq_true rfl⟩ (k' := 3) (n' := 600) rfl rfl (fun I5 => ?_)
    refine q_pop 45 rfl (by decide +kernel) rfl ?_
    refine q_aload_n 1 0 46 rfl (by decide +kernel) rfl ?_
    refine q_getr (f := 8) 117 49 rfl (by decide +kernel) (cC_CR D tc x0 y ad) k_CR (by decide) rfl rfl tw_2_110 ?_
    refine q_ldcWS (idx := 330) 52 rfl (by decide +kernel) cSp_1 ?_
    refine q_callB_rI 55 rfl (av := [.ref (ad 1)]) (o := 117) (st := []) (c_SB_appS X.1 D tc x0 y ad I5 J P1 k_SB117 (i := 1) (by decide) (by decide)) yv_SB_appS tw_5_122 tw_5_123 tw_5_124 (cC_SB D tc x0 y ad).1 k_SB117.1 rfl (Nat.le_of_ble_eq_true rfl) (by decide +kernel) ⟨Nat.le_of_ble_eq_true rfl, Nat.le_of_ble_eq_true rfl⟩ ⟨Nat.le_of_ble_eq_true rfl, Nat.le_of_ble_eq_true rfl⟩ (k' := 4) (n' := 800) rfl rfl (fun I6 => ?_)
    refine q_aload_n 0 3 56 rfl (by decide +kernel) rfl ?_
    refine q_geti (f := 3) 59 rfl (by decide +kernel) (cC_Me D tc x0 y ad) (cM_of hc_b1) (by decide) rfl tw_1_115 ?_
    refine q_callB_rI 62 rfl (av := [.int (I6 b1 3)]) (o := 117) (st := []) (c_SB_appI X.1 D tc x0 y ad I6 J P1 k_SB117 (I6 b1 3)) yv_SB_appI tw_5_96 tw_5_97 tw_5_98 (cC_SB D tc x0 y ad).1 k_SB117.1 rfl (Nat.le_of_ble_eq_true rfl) (by decide +kernel) ⟨Nat.le_of_ble_eq_true rfl, Nat.le_of_ble_eq_true rfl⟩ ⟨Nat.le_of_ble_eq_true rfl, Nat.le_of_ble_eq_true rfl⟩ (k' := 5) (n' := 1000) rfl rfl (fun I7 => ?_)
    refine q_ldcWS (idx := 335) 65 rfl (by decide +kernel) cSp_2 ?_
    refine q_callB_rI 68 rfl (av := [.ref (ad 2)]) (o := 117) (st := []) (c_SB_appS X.1 D tc x0 y ad I7 J P1 k_SB117 (i := 2) (by decide) (by decide)) yv_SB_appS tw_5_122 tw_5_123 tw_5_124 (cC_SB D tc x0 y ad).1 k_SB117.1 rfl (Nat.le_of_ble_eq_true rfl) (by decide +kernel) ⟨Nat.le_of_ble_eq_true rfl, Nat.le_of_ble_eq_true rfl⟩ ⟨Nat.le_of_ble_eq_true rfl, Nat.le_of_ble_eq_true rfl⟩ (k' := 6) (n' := 1200) rfl rfl (fun I8 => ?_)
    refine q_pop 69 rfl (by decide +kernel) rfl ?_
    refine q_iconst 0 (c := 0) 70 rfl (by decide +kernel) rfl ?_
    refine q_istore 4 72 rfl [(4, .int 0), (3, q_r (cG D tc x0 y ad) b1), (0, q_r (cG D tc x0 y ad) 0), (1, .int a1), (2, .int a2)] (by decide +kernel) (Nat.le_of_ble_eq_true rfl) rfl ?_
    have hL1 : ∀ (K1 : q_I → Option (Int32 × q_I × q_P)) (hK1 : ∀ (I11 : q_I), q_V (cG D tc x0 y ad) m_CR_print X (fun r : Int32 × q_I × q_P => (some (.int r.1), (r.2.1, J, r.2.2))) 13 2600 107 [(0, q_r (cG D tc x0 y ad) 0), (3, q_r (cG D tc x0 y ad) b1)] [] I11 J P1 (K1 I11)) (n1_ : Nat) (k_ m_ : Nat) (hkm : k_ + 1 * n1_ ≤ 13 ∧ m_ + 200 * n1_ ≤ 2600) (x1 : Int32) (I9 : q_I), q_V (cG D tc x0 y ad) m_CR_print X (fun r : Int32 × q_I × q_P => (some (.int r.1), (r.2.1, J, r.2.2))) k_ m_ 72 [(0, q_r (cG D tc x0 y ad) 0), (3, q_r (cG D tc x0 y ad) b1), (4, .int x1)] [] I9 J P1 (f_CR_print_L1 b1 K1 n1_ x1 I9) := by
      intro K1 hK1 n1_
      induction n1_ with
      | zero => intro k_ m_ hkm x1 I9; exact q_none
      | succ n1_ ih1 =>
        intro k_ m_ hkm x1 I9
        rw [f_CR_print_L1]
        refine q_iload 2 4 74 rfl (by decide +kernel) rfl ?_
        refine q_bipush 6 (c := 6) 76 rfl (by decide +kernel) rfl ?_
        refine q_icmp_ge 79 rfl 107 (off := 31) (by decide +kernel) rfl (fun g2 => ?_) (fun g2 => ?_)
        · refine q_sub [0, 1] rfl ?_
          refine q_widen (k' := 13) (n' := 2600) (by first | omega | exact Nat.le_of_ble_eq_true rfl) (by first | omega | exact Nat.le_of_ble_eq_true rfl) ?_
          exact hK1 I9
        · refine q_aload_n 1 3 80 rfl (by decide +kernel) rfl ?_
          refine q_geti (f := 4) 83 rfl (by decide +kernel) (cC_Me D tc x0 y ad) (cM_of hc_b1) (by decide) rfl tw_1_120 ?_
          refine q_iload 2 4 85 rfl (by decide +kernel) rfl ?_
          refine q_callS_i 88 rfl (av := [.int (I9 b1 4), .int x1]) (st := []) (c_CR_contains X.1 D tc x0 y ad I9 J P1 (I9 b1 4) x1) yv_CR_contains tw_4_73 tw_2_181 rfl (Nat.le_of_ble_eq_true rfl) (by decide +kernel) ⟨Nat.le_of_ble_eq_true rfl, Nat.le_of_ble_eq_true rfl⟩ ⟨by show _ + 0 ≤ 18; omega, by show _ + 0 ≤ 3600; omega⟩ (k' := k_) (n' := m_) rfl rfl (fun v1 => ?_)
          refine q_if_eq 91 rfl 101 (off := 13) (by decide +kernel) rfl (fun g1 => ?_) (fun g1 => ?_)
          · refine q_iinc (x1 + 1) (c := 1) 4 2 104 rfl [(4, .int (x1 + 1)), (0, q_r (cG D tc x0 y ad) 0), (3, q_r (cG D tc x0 y ad) b1)] (by decide +kernel) rfl rfl (Nat.le_of_ble_eq_true rfl) rfl ?_
            refine q_goto (off := -32) 72 (by decide +kernel) rfl ?_
            refine q_sub [1, 2, 0] rfl ?_
            exact ih1 k_ m_ (by omega) (x1 + 1) I9
          · refine q_aload_n 0 0 92 rfl (by decide +kernel) rfl ?_
            refine q_getr (f := 8) 117 95 rfl (by decide +kernel) (cC_CR D tc x0 y ad) k_CR (by decide) rfl rfl tw_2_110 ?_
            refine q_iload 2 4 97 rfl (by decide +kernel) rfl ?_
            refine q_callB_rI 100 rfl (av := [.int x1]) (o := 117) (st := []) (c_SB_appI X.1 D tc x0 y ad I9 J P1 k_SB117 x1) yv_SB_appI tw_5_96 tw_5_97 tw_5_98 (cC_SB D tc x0 y ad).1 k_SB117.1 rfl (Nat.le_of_ble_eq_true rfl) (by decide +kernel) ⟨Nat.le_of_ble_eq_true rfl, Nat.le_of_ble_eq_true rfl⟩ ⟨by show _ + 1 ≤ 18; omega, by show _ + 200 ≤ 3600; omega⟩ (k' := (k_ + 1)) (n' := (m_ + 200)) rfl rfl (fun I10 => ?_)
            refine q_pop 101 rfl (by decide +kernel) rfl ?_
            refine q_iinc (x1 + 1) (c := 1) 4 2 104 rfl [(4, .int (x1 + 1)), (0, q_r (cG D tc x0 y ad) 0), (3, q_r (cG D tc x0 y ad) b1)] (by decide +kernel) rfl rfl (Nat.le_of_ble_eq_true rfl) rfl ?_
            refine q_goto (off := -32) 72 (by decide +kernel) rfl ?_
            refine q_sub [1, 2, 0] rfl ?_
            exact ih1 (k_ + 1) (m_ + 200) (by omega) (x1 + 1) I10
    refine q_sub [2, 1, 0] rfl ?_
    refine hL1 _ (fun I11 => ?_) 7 6 1200 ⟨by decide, by decide⟩ _ _
    refine q_aload_n 1 3 108 rfl (by decide +kernel) rfl ?_
    refine q_geti (f := 6) 111 rfl (by decide +kernel) (cC_Me D tc x0 y ad) (cM_of hc_b1) (by decide) rfl tw_1_130 ?_
    refine q_iconst 1 (c := 1) 112 rfl (by decide +kernel) rfl ?_
    refine q_icmp_le 115 rfl 145 (off := 33) (by decide +kernel) rfl (fun g3 => ?_) (fun g3 => ?_)
    · refine q_aload_n 0 0 146 rfl (by decide +kernel) rfl ?_
      refine q_getr (f := 8) 117 149 rfl (by decide +kernel) (cC_CR D tc x0 y ad) k_CR (by decide) rfl rfl tw_2_110 ?_
      refine q_callB_i 152 rfl (av := []) (o := 117) (st := []) (c_SB_length X.1 D tc x0 y ad I11 J P1 k_SB117 ) yv_SB_length tw_4_228 tw_3_132 tw_3_133 (cC_SB D tc x0 y ad).1 k_SB117.1 rfl (Nat.le_of_ble_eq_true rfl) (by decide +kernel) ⟨Nat.le_of_ble_eq_true rfl, Nat.le_of_ble_eq_true rfl⟩ ⟨Nat.le_of_ble_eq_true rfl, Nat.le_of_ble_eq_true rfl⟩ (k' := 13) (n' := 2600) rfl rfl (fun v2 => ?_)
      exact q_iret (by decide +kernel) rfl rfl (Nat.le_of_ble_eq_true rfl) (Nat.le_of_ble_eq_true rfl)
    · refine q_aload_n 0 0 116 rfl (by decide +kernel) rfl ?_
      refine q_getr (f := 8) 117 119 rfl (by decide +kernel) (cC_CR D tc x0 y ad) k_CR (by decide) rfl rfl tw_2_110 ?_
      refine q_ldcWS (idx := 337) 122 rfl (by decide +kernel) cSp_3 ?_
      refine q_callB_rI 125 rfl (av := [.ref (ad 3)]) (o := 117) (st := []) (c_SB_appS X.1 D tc x0 y ad I11 J P1 k_SB117 (i := 3) (by decide) (by decide)) yv_SB_appS tw_5_122 tw_5_123 tw_5_124 (cC_SB D tc x0 y ad).1 k_SB117.1 rfl (Nat.le_of_ble_eq_true rfl) (by decide +kernel) ⟨Nat.le_of_ble_eq_true rfl, Nat.le_of_ble_eq_true rfl⟩ ⟨Nat.le_of_ble_eq_true rfl, Nat.le_of_ble_eq_true rfl⟩ (k' := 14) (n' := 2800) rfl rfl (fun I12 => ?_)
      refine q_aload_n 1 3 126 rfl (by decide +kernel) rfl ?_
      refine q_geti (f := 5) 129 rfl (by decide +kernel) (cC_Me D tc x0 y ad) (cM_of hc_b1) (by decide) rfl tw_1_125 ?_
      refine q_callB_rI 132 rfl (av := [.int (I12 b1 5)]) (o := 117) (st := []) (c_SB_appI X.1 D tc x0 y ad I12 J P1 k_SB117 (I12 b1 5)) yv_SB_appI tw_5_96 tw_5_97 tw_5_98 (cC_SB D tc x0 y ad).1 k_SB117.1 rfl (Nat.le_of_ble_eq_true rfl) (by decide +kernel) ⟨Nat.le_of_ble_eq_true rfl, Nat.le_of_ble_eq_true rfl⟩ ⟨Nat.le_of_ble_eq_true rfl, Nat.le_of_ble_eq_true rfl⟩ (k' := 15) (n' := 3000) rfl rfl (fun I13 => ?_)
      refine q_bipush 120 (c := 120) 134 rfl (by decide +kernel) rfl ?_
      refine q_callB_rI 137 rfl (av := [.int 120]) (o := 117) (st := []) (c_SB_appC X.1 D tc x0 y ad I13 J P1 k_SB117 120) yv_SB_appC tw_4_229 tw_4_230 tw_4_231 (cC_SB D tc x0 y ad).1 k_SB117.1 rfl (Nat.le_of_ble_eq_true rfl) (by decide +kernel) ⟨Nat.le_of_ble_eq_true rfl, Nat.le_of_ble_eq_true rfl⟩ ⟨Nat.le_of_ble_eq_true rfl, Nat.le_of_ble_eq_true rfl⟩ (k' := 16) (n' := 3200) rfl rfl (fun I14 => ?_)
      refine q_aload_n 1 3 138 rfl (by decide +kernel) rfl ?_
      refine q_geti (f := 6) 141 rfl (by decide +kernel) (cC_Me D tc x0 y ad) (cM_of hc_b1) (by decide) rfl tw_1_130 ?_
      refine q_callB_rI 144 rfl (av := [.int (I14 b1 6)]) (o := 117) (st := []) (c_SB_appI X.1 D tc x0 y ad I14 J P1 k_SB117 (I14 b1 6)) yv_SB_appI tw_5_96 tw_5_97 tw_5_98 (cC_SB D tc x0 y ad).1 k_SB117.1 rfl (Nat.le_of_ble_eq_true rfl) (by decide +kernel) ⟨Nat.le_of_ble_eq_true rfl, Nat.le_of_ble_eq_true rfl⟩ ⟨Nat.le_of_ble_eq_true rfl, Nat.le_of_ble_eq_true rfl⟩ (k' := 17) (n' := 3400) rfl rfl (fun I15 => ?_)
      refine q_pop 145 rfl (by decide +kernel) rfl ?_
      refine q_aload_n 0 0 146 rfl (by decide +kernel) rfl ?_
      refine q_getr (f := 8) 117 149 rfl (by decide +kernel) (cC_CR D tc x0 y ad) k_CR (by decide) rfl rfl tw_2_110 ?_
      refine q_callB_i 152 rfl (av := []) (o := 117) (st := []) (c_SB_length X.1 D tc x0 y ad I15 J P1 k_SB117 ) yv_SB_length tw_4_228 tw_3_132 tw_3_133 (cC_SB D tc x0 y ad).1 k_SB117.1 rfl (Nat.le_of_ble_eq_true rfl) (by decide +kernel) ⟨Nat.le_of_ble_eq_true rfl, Nat.le_of_ble_eq_true rfl⟩ ⟨Nat.le_of_ble_eq_true rfl, Nat.le_of_ble_eq_true rfl⟩ (k' := 17) (n' := 3400) rfl rfl (fun v3 => ?_)
      exact q_iret (by decide +kernel) rfl rfl (Nat.le_of_ble_eq_true rfl) (Nat.le_of_ble_eq_true rfl)
def f_CR_printed (I : q_I) (a1 : Int32) : Option (Int32) :=
  if (0 : Int32) ≤ a1 then (q_b1 (f_SB_length I 117) (fun v1 => if v1 ≤ a1 then (some ((-4))) else (q_b1 (f_SB_charAt I 117 a1) (fun v2 => some (v2))))) else (some ((-1)))
def y_CR_printed : MethodName := ⟨"CalendarReplicas", "printed", "(I)I"⟩
def m_CR_printed : q_M := (prog_1_method_56_code, 2, "CalendarReplicas", { frames := 9, cells := 0, slots := 0, locals := 821 }, (some FieldType.int))
theorem yv_CR_printed : q_Y y_CR_printed m_CR_printed 1 := ⟨rfl, ⟨by decide, by decide⟩, by decide +kernel, tw_5_157, tw_1_1⟩
set_option maxRecDepth 100000 in
set_option maxHeartbeats 4000000 in
theorem c_CR_printed (l : Launch) (D : va_G) (tc : Nat → ClassId) (x0 y : Nat) (ad : Nat → Nat) (I : q_I) (J : q_J) (P : q_P) (a1 : Int32) : q_Ct l (cG D tc x0 y ad) y_CR_printed m_CR_printed [q_r (cG D tc x0 y ad) 0, .int a1] (I, J, P) (f_CR_printed I a1) (fun r : Int32 => (some (.int r), (I, J, P))) := by
  refine q_Ct_of (cIn D tc x0 y ad) (by decide) rfl (Nat.le_of_ble_eq_true rfl) rfl (fun X hX => ?_)
  subst hX
  unfold f_CR_printed
  refine q_iload_n 1 1 1 rfl (by decide +kernel) rfl ?_
  refine q_if_ge 4 rfl 6 (off := 5) (by decide +kernel) rfl (fun g2 => ?_) (fun g2 => ?_)
  · refine q_iload_n 1 1 7 rfl (by decide +kernel) rfl ?_
    refine q_aload_n 0 0 8 rfl (by decide +kernel) rfl ?_
    refine q_getr (f := 8) 117 11 rfl (by decide +kernel) (cC_CR D tc x0 y ad) k_CR (by decide) rfl rfl tw_2_110 ?_
    refine q_callB_i 14 rfl (av := []) (o := 117) (st := [.int a1]) (c_SB_length X.1 D tc x0 y ad I J P k_SB117 ) yv_SB_length tw_4_228 tw_3_132 tw_3_133 (cC_SB D tc x0 y ad).1 k_SB117.1 rfl (Nat.le_of_ble_eq_true rfl) (by decide +kernel) ⟨Nat.le_of_ble_eq_true rfl, Nat.le_of_ble_eq_true rfl⟩ ⟨Nat.le_of_ble_eq_true rfl, Nat.le_of_ble_eq_true rfl⟩ (k' := 0) (n' := 0) rfl rfl (fun v1 => ?_)
    refine q_icmp_ge 17 rfl 28 (off := 14) (by decide +kernel) rfl (fun g1 => ?_) (fun g1 => ?_)
    · refine q_bipush (-4) (c := -4) 30 rfl (by decide +kernel) rfl ?_
      exact q_iret (by decide +kernel) rfl rfl (Nat.le_of_ble_eq_true rfl) (Nat.le_of_ble_eq_true rfl)
    · refine q_aload_n 0 0 18 rfl (by decide +kernel) rfl ?_
      refine q_getr (f := 8) 117 21 rfl (by decide +kernel) (cC_CR D tc x0 y ad) k_CR (by decide) rfl rfl tw_2_110 ?_
      refine q_iload_n 1 1 22 rfl (by decide +kernel) rfl ?_
      refine q_callB_i 25 rfl (av := [.int a1]) (o := 117) (st := []) (c_SB_charAt X.1 D tc x0 y ad I J P k_SB117 a1) yv_SB_charAt tw_5_158 tw_3_139 tw_3_140 (cC_SB D tc x0 y ad).1 k_SB117.1 rfl (Nat.le_of_ble_eq_true rfl) (by decide +kernel) ⟨Nat.le_of_ble_eq_true rfl, Nat.le_of_ble_eq_true rfl⟩ ⟨Nat.le_of_ble_eq_true rfl, Nat.le_of_ble_eq_true rfl⟩ (k' := 0) (n' := 0) rfl rfl (fun v2 => ?_)
      refine q_goto (off := 5) 30 (by decide +kernel) rfl ?_
      exact q_iret (by decide +kernel) rfl rfl (Nat.le_of_ble_eq_true rfl) (Nat.le_of_ble_eq_true rfl)
  · refine q_iconst (-1) (c := -1) 5 rfl (by decide +kernel) rfl ?_
    exact q_iret (by decide +kernel) rfl rfl (Nat.le_of_ble_eq_true rfl) (Nat.le_of_ble_eq_true rfl)
def f_CR_keep (I : q_I) (P : q_P) (a1 : Int32) : Option (Int32 × q_I) :=
  q_b1 (f_CR_within a1 0 1) (fun v1 => if v1 = 0 then (some ((-1), I)) else (q_ix a1 2 (fun j1 => q_b1 (f_Wo_copyFrom I P (119 + 50 * j1) 1) (fun I1 => q_ix a1 2 (fun j2 => q_l (q_ui I1 52 j2 (vp_nar .boolean 1)) (fun I2 => some ((I2 1 3), I2)))))))
def y_CR_keep : MethodName := ⟨"CalendarReplicas", "keep", "(I)I"⟩
def m_CR_keep : q_M := (prog_1_method_57_code, 2, "CalendarReplicas", { frames := 3, cells := 0, slots := 0, locals := 143 }, (some FieldType.int))
theorem yv_CR_keep : q_Y y_CR_keep m_CR_keep 1 := ⟨rfl, ⟨by decide, by decide⟩, by decide +kernel, tw_5_162, tw_1_1⟩
set_option maxRecDepth 100000 in
set_option maxHeartbeats 4000000 in
theorem c_CR_keep (l : Launch) (D : va_G) (tc : Nat → ClassId) (x0 y : Nat) (ad : Nat → Nat) (I : q_I) (J : q_J) (P : q_P) (a1 : Int32) : q_Ct l (cG D tc x0 y ad) y_CR_keep m_CR_keep [q_r (cG D tc x0 y ad) 0, .int a1] (I, J, P) (f_CR_keep I P a1) (fun r : Int32 × q_I => (some (.int r.1), (r.2, J, P))) := by
  refine q_Ct_of (cIn D tc x0 y ad) (by decide) rfl (Nat.le_of_ble_eq_true rfl) rfl (fun X hX => ?_)
  subst hX
  unfold f_CR_keep
  refine q_iload_n 1 1 1 rfl (by decide +kernel) rfl ?_
  refine q_iconst 0 (c := 0) 2 rfl (by decide +kernel) rfl ?_
  refine q_iconst 1 (c := 1) 3 rfl (by decide +kernel) rfl ?_
  refine q_callS_i 6 rfl (av := [.int a1, .int 0, .int 1]) (st := []) (c_CR_within X.1 D tc x0 y ad I J P a1 0 1) yv_CR_within tw_2_134 tw_2_135 rfl (Nat.le_of_ble_eq_true rfl) (by decide +kernel) ⟨Nat.le_of_ble_eq_true rfl, Nat.le_of_ble_eq_true rfl⟩ ⟨Nat.le_of_ble_eq_true rfl, Nat.le_of_ble_eq_true rfl⟩ rfl rfl (fun v1 => ?_)
  refine q_if_ne 9 rfl 11 (off := 5) (by decide +kernel) rfl (fun g1 => ?_) (fun g1 => ?_)
  · refine q_aload_n 0 0 12 rfl (by decide +kernel) rfl ?_
    refine q_getr (f := 1) 51 15 rfl (by decide +kernel) (cC_CR D tc x0 y ad) k_CR (by decide) rfl rfl tw_2_103 ?_
    refine q_iload_n 1 1 16 rfl (by decide +kernel) rfl ?_
    refine q_aldc 17 rfl (by decide +kernel) k_kept rfl (fun j1 hj1 => ?_)
    refine q_aload_n 0 0 18 rfl (by decide +kernel) rfl ?_
    refine q_getr (f := 0) 1 21 rfl (by decide +kernel) (cC_CR D tc x0 y ad) k_CR (by decide) rfl rfl tw_2_102 ?_
    refine q_callV_vI 24 rfl (av := [q_r (cG D tc x0 y ad) 1]) (o := (119 + 50 * j1)) (st := []) (c_Wo_copyFrom X.1 D tc x0 y ad I J P (k_keptW _ hj1) k_Wo1) yv_Wo_copyFrom tw_5_163 tw_5_164 tw_5_165 (cC_Wo D tc x0 y ad) (k_keptW _ hj1).1 rfl (Nat.le_of_ble_eq_true rfl) (by decide +kernel) ⟨Nat.le_of_ble_eq_true rfl, Nat.le_of_ble_eq_true rfl⟩ ⟨Nat.le_of_ble_eq_true rfl, Nat.le_of_ble_eq_true rfl⟩ rfl rfl (fun I1 => ?_)
    refine q_aload_n 0 0 25 rfl (by decide +kernel) rfl ?_
    refine q_getr (f := 2) 52 28 rfl (by decide +kernel) (cC_CR D tc x0 y ad) k_CR (by decide) rfl rfl tw_2_104 ?_
    refine q_iload_n 1 1 29 rfl (by decide +kernel) rfl ?_
    refine q_iconst 1 (c := 1) 30 rfl (by decide +kernel) rfl ?_
    refine q_zast (t := 1) 31 rfl (by decide +kernel) k_filled rfl (fun j2 hj2 => ?_)
    refine q_letI (fun I2 => ?_)
    refine q_aload_n 0 0 32 rfl (by decide +kernel) rfl ?_
    refine q_getr (f := 0) 1 35 rfl (by decide +kernel) (cC_CR D tc x0 y ad) k_CR (by decide) rfl rfl tw_2_102 ?_
    refine q_geti (f := 3) 38 rfl (by decide +kernel) (cC_Wo D tc x0 y ad) k_Wo1.1 (by decide) rfl tw_1_213 ?_
    exact q_iret (by decide +kernel) rfl rfl (Nat.le_of_ble_eq_true rfl) (Nat.le_of_ble_eq_true rfl)
  · refine q_iconst (-1) (c := -1) 10 rfl (by decide +kernel) rfl ?_
    exact q_iret (by decide +kernel) rfl rfl (Nat.le_of_ble_eq_true rfl) (Nat.le_of_ble_eq_true rfl)
def f_CR_restore (I : q_I) (P : q_P) (a1 : Int32) : Option (Int32 × q_I) :=
  q_b1 (f_CR_within a1 0 1) (fun v1 => if v1 = 0 then (some ((-1), I)) else (q_ix a1 2 (fun j1 => if (I 52 j1) = 0 then (some ((-3), I)) else (q_ix a1 2 (fun j2 => q_b1 (f_Wo_copyFrom I P 1 (119 + 50 * j2)) (fun I1 => some ((I1 1 3), I1)))))))
def y_CR_restore : MethodName := ⟨"CalendarReplicas", "restore", "(I)I"⟩
def m_CR_restore : q_M := (prog_1_method_58_code, 2, "CalendarReplicas", { frames := 3, cells := 0, slots := 0, locals := 143 }, (some FieldType.int))
theorem yv_CR_restore : q_Y y_CR_restore m_CR_restore 1 := ⟨rfl, ⟨by decide, by decide⟩, by decide +kernel, tw_5_183, tw_1_1⟩
set_option maxRecDepth 100000 in
set_option maxHeartbeats 4000000 in
theorem c_CR_restore (l : Launch) (D : va_G) (tc : Nat → ClassId) (x0 y : Nat) (ad : Nat → Nat) (I : q_I) (J : q_J) (P : q_P) (a1 : Int32) : q_Ct l (cG D tc x0 y ad) y_CR_restore m_CR_restore [q_r (cG D tc x0 y ad) 0, .int a1] (I, J, P) (f_CR_restore I P a1) (fun r : Int32 × q_I => (some (.int r.1), (r.2, J, P))) := by
  refine q_Ct_of (cIn D tc x0 y ad) (by decide) rfl (Nat.le_of_ble_eq_true rfl) rfl (fun X hX => ?_)
  subst hX
  unfold f_CR_restore
  refine q_iload_n 1 1 1 rfl (by decide +kernel) rfl ?_
  refine q_iconst 0 (c := 0) 2 rfl (by decide +kernel) rfl ?_
  refine q_iconst 1 (c := 1) 3 rfl (by decide +kernel) rfl ?_
  refine q_callS_i 6 rfl (av := [.int a1, .int 0, .int 1]) (st := []) (c_CR_within X.1 D tc x0 y ad I J P a1 0 1) yv_CR_within tw_2_134 tw_2_135 rfl (Nat.le_of_ble_eq_true rfl) (by decide +kernel) ⟨Nat.le_of_ble_eq_true rfl, Nat.le_of_ble_eq_true rfl⟩ ⟨Nat.le_of_ble_eq_true rfl, Nat.le_of_ble_eq_true rfl⟩ rfl rfl (fun v1 => ?_)
  refine q_if_ne 9 rfl 11 (off := 5) (by decide +kernel) rfl (fun g2 => ?_) (fun g2 => ?_)
  · refine q_aload_n 0 0 12 rfl (by decide +kernel) rfl ?_
    refine q_getr (f := 2) 52 15 rfl (by decide +kernel) (cC_CR D tc x0 y ad) k_CR (by decide) rfl rfl tw_2_104 ?_
    refine q_iload_n 1 1 16 rfl (by decide +kernel) rfl ?_
    refine q_zald (t := 1) 17 rfl (by decide +kernel) k_filled rfl (fun j1 hj1 => ?_)
    refine q_if_ne 20 rfl 23 (off := 6) (by decide +kernel) rfl (fun g1 => ?_) (fun g1 => ?_)
    · refine q_aload_n 0 0 24 rfl (by decide +kernel) rfl ?_
      refine q_getr (f := 0) 1 27 rfl (by decide +kernel) (cC_CR D tc x0 y ad) k_CR (by decide) rfl rfl tw_2_102 ?_
      refine q_aload_n 0 0 28 rfl (by decide +kernel) rfl ?_
      refine q_getr (f := 1) 51 31 rfl (by decide +kernel) (cC_CR D tc x0 y ad) k_CR (by decide) rfl rfl tw_2_103 ?_
      refine q_iload_n 1 1 32 rfl (by decide +kernel) rfl ?_
      refine q_aldc 33 rfl (by decide +kernel) k_kept rfl (fun j2 hj2 => ?_)
      refine q_callV_vI 36 rfl (av := [q_r (cG D tc x0 y ad) (119 + 50 * j2)]) (o := 1) (st := []) (c_Wo_copyFrom X.1 D tc x0 y ad I J P k_Wo1 (k_keptW _ hj2)) yv_Wo_copyFrom tw_5_163 tw_5_164 tw_5_165 (cC_Wo D tc x0 y ad) k_Wo1.1 rfl (Nat.le_of_ble_eq_true rfl) (by decide +kernel) ⟨Nat.le_of_ble_eq_true rfl, Nat.le_of_ble_eq_true rfl⟩ ⟨Nat.le_of_ble_eq_true rfl, Nat.le_of_ble_eq_true rfl⟩ rfl rfl (fun I1 => ?_)
      refine q_aload_n 0 0 37 rfl (by decide +kernel) rfl ?_
      refine q_getr (f := 0) 1 40 rfl (by decide +kernel) (cC_CR D tc x0 y ad) k_CR (by decide) rfl rfl tw_2_102 ?_
      refine q_geti (f := 3) 43 rfl (by decide +kernel) (cC_Wo D tc x0 y ad) k_Wo1.1 (by decide) rfl tw_1_213 ?_
      exact q_iret (by decide +kernel) rfl rfl (Nat.le_of_ble_eq_true rfl) (Nat.le_of_ble_eq_true rfl)
    · refine q_bipush (-3) (c := -3) 22 rfl (by decide +kernel) rfl ?_
      exact q_iret (by decide +kernel) rfl rfl (Nat.le_of_ble_eq_true rfl) (Nat.le_of_ble_eq_true rfl)
  · refine q_iconst (-1) (c := -1) 10 rfl (by decide +kernel) rfl ?_
    exact q_iret (by decide +kernel) rfl rfl (Nat.le_of_ble_eq_true rfl) (Nat.le_of_ble_eq_true rfl)
def f_CR_mix (a0 : Int64) (a1 : Int64) : Option (Int64) :=
  some (((31 * a0) + a1))
def y_CR_mix : MethodName := ⟨"CalendarReplicas", "mix", "(JJ)J"⟩
def m_CR_mix : q_M := (prog_1_method_63_code, 4, "CalendarReplicas", { frames := 0, cells := 0, slots := 0, locals := 0 }, (some FieldType.long))
theorem yv_CR_mix : q_Y y_CR_mix m_CR_mix 2 := ⟨rfl, ⟨by decide, by decide⟩, by decide +kernel, tw_5_191, tw_1_1⟩
set_option maxRecDepth 100000 in
set_option maxHeartbeats 4000000 in
theorem c_CR_mix (l : Launch) (D : va_G) (tc : Nat → ClassId) (x0 y : Nat) (ad : Nat → Nat) (I : q_I) (J : q_J) (P : q_P) (a0 : Int64) (a1 : Int64) : q_Ct l (cG D tc x0 y ad) y_CR_mix m_CR_mix [.long a0, .long a1] (I, J, P) (f_CR_mix a0 a1) (fun r : Int64 => (some (.long r), (I, J, P))) := by
  refine q_Ct_of (cIn D tc x0 y ad) (by decide) rfl (Nat.le_of_ble_eq_true rfl) rfl (fun X hX => ?_)
  subst hX
  unfold f_CR_mix
  refine q_ldc2 (v := 31) (i := 369) 3 rfl (by decide +kernel) tw_5_192 ?_
  refine q_lload_n 0 0 4 rfl (by decide +kernel) rfl ?_
  refine q_lmul 5 rfl (by decide +kernel) ?_
  refine q_lload_n 1 2 6 rfl (by decide +kernel) rfl ?_
  refine q_ladd 7 rfl (by decide +kernel) ?_
  exact q_lret (by decide +kernel) rfl rfl (Nat.le_of_ble_eq_true rfl) (Nat.le_of_ble_eq_true rfl)
def f_CR_mixEdit_L1 (I : q_I) (a2 : Int32) : Nat → Int64 → Int32 → Option (Int64)
  | 0, _, _ => none
  | n + 1, y1, x1 => if (3 : Int32) ≤ x1 then (some (y1)) else (q_b1 (f_CR_standing I x1 a2) (fun v1 => q_b1 (f_CR_mix y1 v1.toInt64) (fun w6 => (f_CR_mixEdit_L1 I a2 n w6 (x1 + 1)))))
def f_CR_mixEdit (I : q_I) (a1 : Int64) (a2 : Int32) : Option (Int64) :=
  q_b1 (f_Wo_editAtIndex I 1 a2) (fun r1 => (r1).elim (some (a1)) (fun b1 => q_ck (cE b1) (q_b1 (f_CR_mix a1 ((I b1 0).toInt64)) (fun w1 => q_b1 (f_CR_mix w1 ((I b1 3).toInt64)) (fun w2 => q_b1 (f_CR_mix w2 ((I b1 4).toInt64)) (fun w3 => q_b1 (f_CR_mix w3 ((I b1 1).toInt64)) (fun w4 => q_b1 (f_CR_mix w4 ((I b1 2).toInt64)) (fun w5 => f_CR_mixEdit_L1 I a2 q_fu w5 0))))))))
def y_CR_mixEdit : MethodName := ⟨"CalendarReplicas", "mixEdit", "(JI)J"⟩
def m_CR_mixEdit : q_M := (prog_1_method_60_code, 8, "CalendarReplicas", { frames := 3, cells := 0, slots := 0, locals := 67 }, (some FieldType.long))
theorem yv_CR_mixEdit : q_Y y_CR_mixEdit m_CR_mixEdit 2 := ⟨rfl, ⟨by decide, by decide⟩, by decide +kernel, tw_5_196, tw_1_1⟩
set_option maxRecDepth 100000 in
set_option maxHeartbeats 4000000 in
theorem c_CR_mixEdit (l : Launch) (D : va_G) (tc : Nat → ClassId) (x0 y : Nat) (ad : Nat → Nat) (I : q_I) (J : q_J) (P : q_P) (a1 : Int64) (a2 : Int32) : q_Ct l (cG D tc x0 y ad) y_CR_mixEdit m_CR_mixEdit [q_r (cG D tc x0 y ad) 0, .long a1, .int a2] (I, J, P) (f_CR_mixEdit I a1 a2) (fun r : Int64 => (some (.long r), (I, J, P))) := by
  refine q_Ct_of (cIn D tc x0 y ad) (by decide) rfl (Nat.le_of_ble_eq_true rfl) rfl (fun X hX => ?_)
  subst hX
  unfold f_CR_mixEdit
  refine q_aload_n 0 0 1 rfl (by decide +kernel) rfl ?_
  refine q_getr (f := 0) 1 4 rfl (by decide +kernel) (cC_CR D tc x0 y ad) k_CR (by decide) rfl rfl tw_2_102 ?_
  refine q_iload_n 2 3 5 rfl (by decide +kernel) rfl ?_
  refine q_callV_q 8 rfl (av := [.int a2]) (o := 1) (st := []) (c_Wo_editAtIndex X.1 D tc x0 y ad I J P k_Wo1 a2) yv_Wo_editAtIndex tw_3_75 tw_3_76 tw_3_77 (cC_Wo D tc x0 y ad) k_Wo1.1 rfl (Nat.le_of_ble_eq_true rfl) (by decide +kernel) ⟨Nat.le_of_ble_eq_true rfl, Nat.le_of_ble_eq_true rfl⟩ ⟨Nat.le_of_ble_eq_true rfl, Nat.le_of_ble_eq_true rfl⟩ rfl rfl (fun r1 => ?_)
  refine q_astoreq 4 10 rfl [(4, q_rn (cG D tc x0 y ad) r1), (0, q_r (cG D tc x0 y ad) 0), (1, .long a1), (3, .int a2)] (by decide +kernel) (Nat.le_of_ble_eq_true rfl) rfl ?_
  refine q_aloadq 0 4 12 rfl (by decide +kernel) rfl ?_
  refine q_ifnonnull 15 rfl 17 (off := 5) (by decide +kernel) rfl (fun he_b1 => ?_) (fun b1 he_b1 => ?_)
  · subst he_b1
    refine q_lload_n 2 1 16 rfl (by decide +kernel) rfl ?_
    exact q_lret (by decide +kernel) rfl rfl (Nat.le_of_ble_eq_true rfl) (Nat.le_of_ble_eq_true rfl)
  · subst he_b1
    refine q_ckV (fun hc_b1 => ?_)
    refine q_lload_n 2 1 18 rfl (by decide +kernel) rfl ?_
    refine q_aload 0 4 20 rfl (by decide +kernel) rfl ?_
    refine q_geti (f := 0) 23 rfl (by decide +kernel) (cC_Ed D tc x0 y ad) (cE_of hc_b1).1 (by decide) rfl tw_1_167 ?_
    refine q_i2l 24 rfl (by decide +kernel) ?_
    refine q_callS_l 27 rfl (av := [.long a1, .long ((I b1 0).toInt64)]) (st := []) (c_CR_mix X.1 D tc x0 y ad I J P a1 ((I b1 0).toInt64)) yv_CR_mix tw_5_189 tw_5_190 rfl (Nat.le_of_ble_eq_true rfl) (by decide +kernel) ⟨Nat.le_of_ble_eq_true rfl, Nat.le_of_ble_eq_true rfl⟩ ⟨Nat.le_of_ble_eq_true rfl, Nat.le_of_ble_eq_true rfl⟩ rfl rfl (fun w1 => ?_)
    refine q_lstore 5 29 rfl [(5, .long w1), (4, q_r (cG D tc x0 y ad) b1), (0, q_r (cG D tc x0 y ad) 0), (1, .long a1), (3, .int a2)] (by decide +kernel) (Nat.le_of_ble_eq_true rfl) rfl ?_
    refine q_lload 0 5 31 rfl (by decide +kernel) rfl ?_
    refine q_aload 1 4 33 rfl (by decide +kernel) rfl ?_
    refine q_geti (f := 3) 36 rfl (by decide +kernel) (cC_Ed D tc x0 y ad) (cE_of hc_b1).1 (by decide) rfl tw_1_175 ?_
    refine q_i2l 37 rfl (by decide +kernel) ?_
    refine q_callS_l 40 rfl (av := [.long w1, .long ((I b1 3).toInt64)]) (st := []) (c_CR_mix X.1 D tc x0 y ad I J P w1 ((I b1 3).toInt64)) yv_CR_mix tw_5_189 tw_5_190 rfl (Nat.le_of_ble_eq_true rfl) (by decide +kernel) ⟨Nat.le_of_ble_eq_true rfl, Nat.le_of_ble_eq_true rfl⟩ ⟨Nat.le_of_ble_eq_true rfl, Nat.le_of_ble_eq_true rfl⟩ rfl rfl (fun w2 => ?_)
    refine q_lstore 5 42 rfl [(5, .long w2), (4, q_r (cG D tc x0 y ad) b1), (0, q_r (cG D tc x0 y ad) 0), (1, .long a1), (3, .int a2)] (by decide +kernel) (Nat.le_of_ble_eq_true rfl) rfl ?_
    refine q_lload 0 5 44 rfl (by decide +kernel) rfl ?_
    refine q_aload 1 4 46 rfl (by decide +kernel) rfl ?_
    refine q_geti (f := 4) 49 rfl (by decide +kernel) (cC_Ed D tc x0 y ad) (cE_of hc_b1).1 (by decide) rfl tw_1_178 ?_
    refine q_i2l 50 rfl (by decide +kernel) ?_
    refine q_callS_l 53 rfl (av := [.long w2, .long ((I b1 4).toInt64)]) (st := []) (c_CR_mix X.1 D tc x0 y ad I J P w2 ((I b1 4).toInt64)) yv_CR_mix tw_5_189 tw_5_190 rfl (Nat.le_of_ble_eq_true rfl) (by decide +kernel) ⟨Nat.le_of_ble_eq_true rfl, Nat.le_of_ble_eq_true rfl⟩ ⟨Nat.le_of_ble_eq_true rfl, Nat.le_of_ble_eq_true rfl⟩ rfl rfl (fun w3 => ?_)
    refine q_lstore 5 55 rfl [(5, .long w3), (4, q_r (cG D tc x0 y ad) b1), (0, q_r (cG D tc x0 y ad) 0), (1, .long a1), (3, .int a2)] (by decide +kernel) (Nat.le_of_ble_eq_true rfl) rfl ?_
    refine q_lload 0 5 57 rfl (by decide +kernel) rfl ?_
    refine q_aload 1 4 59 rfl (by decide +kernel) rfl ?_
    refine q_geti (f := 1) 62 rfl (by decide +kernel) (cC_Ed D tc x0 y ad) (cE_of hc_b1).1 (by decide) rfl tw_1_169 ?_
    refine q_i2l 63 rfl (by decide +kernel) ?_
    refine q_callS_l 66 rfl (av := [.long w3, .long ((I b1 1).toInt64)]) (st := []) (c_CR_mix X.1 D tc x0 y ad I J P w3 ((I b1 1).toInt64)) yv_CR_mix tw_5_189 tw_5_190 rfl (Nat.le_of_ble_eq_true rfl) (by decide +kernel) ⟨Nat.le_of_ble_eq_true rfl, Nat.le_of_ble_eq_true rfl⟩ ⟨Nat.le_of_ble_eq_true rfl, Nat.le_of_ble_eq_true rfl⟩ rfl rfl (fun w4 => ?_)
    refine q_lstore 5 68 rfl [(5, .long w4), (4, q_r (cG D tc x0 y ad) b1), (0, q_r (cG D tc x0 y ad) 0), (1, .long a1), (3, .int a2)] (by decide +kernel) (Nat.le_of_ble_eq_true rfl) rfl ?_
    refine q_lload 0 5 70 rfl (by decide +kernel) rfl ?_
    refine q_aload 1 4 72 rfl (by decide +kernel) rfl ?_
    refine q_geti (f := 2) 75 rfl (by decide +kernel) (cC_Ed D tc x0 y ad) (cE_of hc_b1).1 (by decide) rfl tw_1_172 ?_
    refine q_i2l 76 rfl (by decide +kernel) ?_
    refine q_callS_l 79 rfl (av := [.long w4, .long ((I b1 2).toInt64)]) (st := []) (c_CR_mix X.1 D tc x0 y ad I J P w4 ((I b1 2).toInt64)) yv_CR_mix tw_5_189 tw_5_190 rfl (Nat.le_of_ble_eq_true rfl) (by decide +kernel) ⟨Nat.le_of_ble_eq_true rfl, Nat.le_of_ble_eq_true rfl⟩ ⟨Nat.le_of_ble_eq_true rfl, Nat.le_of_ble_eq_true rfl⟩ rfl rfl (fun w5 => ?_)
    refine q_lstore 5 81 rfl [(5, .long w5), (4, q_r (cG D tc x0 y ad) b1), (0, q_r (cG D tc x0 y ad) 0), (1, .long a1), (3, .int a2)] (by decide +kernel) (Nat.le_of_ble_eq_true rfl) rfl ?_
    refine q_iconst 0 (c := 0) 82 rfl (by decide +kernel) rfl ?_
    refine q_istore 7 84 rfl [(7, .int 0), (5, .long w5), (4, q_r (cG D tc x0 y ad) b1), (0, q_r (cG D tc x0 y ad) 0), (1, .long a1), (3, .int a2)] (by decide +kernel) (Nat.le_of_ble_eq_true rfl) rfl ?_
    have hL1 : ∀ (n1_ : Nat) (y1 : Int64) (x1 : Int32), q_V (cG D tc x0 y ad) m_CR_mixEdit X (fun r : Int64 => (some (.long r), (I, J, P))) 0 0 84 [(0, q_r (cG D tc x0 y ad) 0), (3, .int a2), (5, .long y1), (7, .int x1)] [] I J P (f_CR_mixEdit_L1 I a2 n1_ y1 x1) := by
      intro n1_
      induction n1_ with
      | zero => intro y1 x1; exact q_none
      | succ n1_ ih1 =>
        intro y1 x1
        rw [f_CR_mixEdit_L1]
        refine q_iload 3 7 86 rfl (by decide +kernel) rfl ?_
        refine q_iconst 3 (c := 3) 87 rfl (by decide +kernel) rfl ?_
        refine q_icmp_ge 90 rfl 111 (off := 24) (by decide +kernel) rfl (fun g1 => ?_) (fun g1 => ?_)
        · refine q_lload 2 5 113 rfl (by decide +kernel) rfl ?_
          exact q_lret (by decide +kernel) rfl rfl (Nat.le_of_ble_eq_true rfl) (Nat.le_of_ble_eq_true rfl)
        · refine q_lload 2 5 92 rfl (by decide +kernel) rfl ?_
          refine q_aload_n 0 0 93 rfl (by decide +kernel) rfl ?_
          refine q_iload 3 7 95 rfl (by decide +kernel) rfl ?_
          refine q_iload_n 1 3 96 rfl (by decide +kernel) rfl ?_
          refine q_callV_i 99 rfl (av := [.int x1, .int a2]) (o := 0) (st := [.long y1]) (c_CR_standing X.1 D tc x0 y ad I J P x1 a2) yv_CR_standing tw_4_148 tw_4_150 sw_20 (cC_CR D tc x0 y ad) k_CR rfl (Nat.le_of_ble_eq_true rfl) (by decide +kernel) ⟨Nat.le_of_ble_eq_true rfl, Nat.le_of_ble_eq_true rfl⟩ ⟨Nat.le_of_ble_eq_true rfl, Nat.le_of_ble_eq_true rfl⟩ rfl rfl (fun v1 => ?_)
          refine q_i2l 100 rfl (by decide +kernel) ?_
          refine q_callS_l 103 rfl (av := [.long y1, .long v1.toInt64]) (st := []) (c_CR_mix X.1 D tc x0 y ad I J P y1 v1.toInt64) yv_CR_mix tw_5_189 tw_5_190 rfl (Nat.le_of_ble_eq_true rfl) (by decide +kernel) ⟨Nat.le_of_ble_eq_true rfl, Nat.le_of_ble_eq_true rfl⟩ ⟨Nat.le_of_ble_eq_true rfl, Nat.le_of_ble_eq_true rfl⟩ rfl rfl (fun w6 => ?_)
          refine q_lstore 5 105 rfl [(5, .long w6), (0, q_r (cG D tc x0 y ad) 0), (3, .int a2), (7, .int x1)] (by decide +kernel) (Nat.le_of_ble_eq_true rfl) rfl ?_
          refine q_iinc (x1 + 1) (c := 1) 7 3 108 rfl [(7, .int (x1 + 1)), (5, .long w6), (0, q_r (cG D tc x0 y ad) 0), (3, .int a2)] (by decide +kernel) rfl rfl (Nat.le_of_ble_eq_true rfl) rfl ?_
          refine q_goto (off := -24) 84 (by decide +kernel) rfl ?_
          refine q_sub [2, 3, 1, 0] rfl ?_
          exact ih1 w6 (x1 + 1)
    refine q_sub [3, 5, 1, 0] rfl ?_
    exact hL1 _ _ _
def f_CR_mixMeeting (I : q_I) (a0 : Int64) (a1 : Nat) : Option (Int64) :=
  q_b1 (f_CR_mix a0 ((I a1 0).toInt64)) (fun w1 => q_b1 (f_CR_mix w1 ((I a1 1).toInt64)) (fun w2 => q_b1 (f_CR_mix w2 ((I a1 2).toInt64)) (fun w3 => q_b1 (f_CR_mix w3 ((I a1 3).toInt64)) (fun w4 => q_b1 (f_CR_mix w4 ((I a1 4).toInt64)) (fun w5 => q_b1 (f_CR_mix w5 ((I a1 5).toInt64)) (fun w6 => q_b1 (f_CR_mix w6 ((I a1 6).toInt64)) (fun w7 => some (w7))))))))
def y_CR_mixMeeting : MethodName := ⟨"CalendarReplicas", "mixMeeting", "(JLCalendarReplicas$Meeting;)J"⟩
def m_CR_mixMeeting : q_M := (prog_1_method_62_code, 5, "CalendarReplicas", { frames := 1, cells := 0, slots := 0, locals := 23 }, (some FieldType.long))
theorem yv_CR_mixMeeting : q_Y y_CR_mixMeeting m_CR_mixMeeting 2 := ⟨rfl, ⟨by decide, by decide⟩, by decide +kernel, tw_5_205, tw_1_1⟩
set_option maxRecDepth 100000 in
set_option maxHeartbeats 4000000 in
theorem c_CR_mixMeeting (l : Launch) (D : va_G) (tc : Nat → ClassId) (x0 y : Nat) (ad : Nat → Nat) (I : q_I) (J : q_J) (P : q_P) {a1 : Nat} (a0 : Int64) (h1 : isMe a1) : q_Ct l (cG D tc x0 y ad) y_CR_mixMeeting m_CR_mixMeeting [.long a0, q_r (cG D tc x0 y ad) a1] (I, J, P) (f_CR_mixMeeting I a0 a1) (fun r : Int64 => (some (.long r), (I, J, P))) := by
  refine q_Ct_of (cIn D tc x0 y ad) (by decide) rfl (Nat.le_of_ble_eq_true rfl) rfl (fun X hX => ?_)
  subst hX
  unfold f_CR_mixMeeting
  refine q_lload_n 0 0 1 rfl (by decide +kernel) rfl ?_
  refine q_aload_n 1 2 2 rfl (by decide +kernel) rfl ?_
  refine q_geti (f := 0) 5 rfl (by decide +kernel) (cC_Me D tc x0 y ad) h1 (by decide) rfl tw_1_97 ?_
  refine q_i2l 6 rfl (by decide +kernel) ?_
  refine q_callS_l 9 rfl (av := [.long a0, .long ((I a1 0).toInt64)]) (st := []) (c_CR_mix X.1 D tc x0 y ad I J P a0 ((I a1 0).toInt64)) yv_CR_mix tw_5_189 tw_5_190 rfl (Nat.le_of_ble_eq_true rfl) (by decide +kernel) ⟨Nat.le_of_ble_eq_true rfl, Nat.le_of_ble_eq_true rfl⟩ ⟨Nat.le_of_ble_eq_true rfl, Nat.le_of_ble_eq_true rfl⟩ rfl rfl (fun w1 => ?_)
  refine q_lstore_n 3 3 10 rfl [(3, .long w1), (0, .long a0), (2, q_r (cG D tc x0 y ad) a1)] (by decide +kernel) rfl (Nat.le_of_ble_eq_true rfl) rfl ?_
  refine q_lload_n 0 3 11 rfl (by decide +kernel) rfl ?_
  refine q_aload_n 2 2 12 rfl (by decide +kernel) rfl ?_
  refine q_geti (f := 1) 15 rfl (by decide +kernel) (cC_Me D tc x0 y ad) h1 (by decide) rfl tw_1_104 ?_
  refine q_i2l 16 rfl (by decide +kernel) ?_
  refine q_callS_l 19 rfl (av := [.long w1, .long ((I a1 1).toInt64)]) (st := []) (c_CR_mix X.1 D tc x0 y ad I J P w1 ((I a1 1).toInt64)) yv_CR_mix tw_5_189 tw_5_190 rfl (Nat.le_of_ble_eq_true rfl) (by decide +kernel) ⟨Nat.le_of_ble_eq_true rfl, Nat.le_of_ble_eq_true rfl⟩ ⟨Nat.le_of_ble_eq_true rfl, Nat.le_of_ble_eq_true rfl⟩ rfl rfl (fun w2 => ?_)
  refine q_lstore_n 3 3 20 rfl [(3, .long w2), (0, .long a0), (2, q_r (cG D tc x0 y ad) a1)] (by decide +kernel) rfl (Nat.le_of_ble_eq_true rfl) rfl ?_
  refine q_lload_n 0 3 21 rfl (by decide +kernel) rfl ?_
  refine q_aload_n 2 2 22 rfl (by decide +kernel) rfl ?_
  refine q_geti (f := 2) 25 rfl (by decide +kernel) (cC_Me D tc x0 y ad) h1 (by decide) rfl tw_1_110 ?_
  refine q_i2l 26 rfl (by decide +kernel) ?_
  refine q_callS_l 29 rfl (av := [.long w2, .long ((I a1 2).toInt64)]) (st := []) (c_CR_mix X.1 D tc x0 y ad I J P w2 ((I a1 2).toInt64)) yv_CR_mix tw_5_189 tw_5_190 rfl (Nat.le_of_ble_eq_true rfl) (by decide +kernel) ⟨Nat.le_of_ble_eq_true rfl, Nat.le_of_ble_eq_true rfl⟩ ⟨Nat.le_of_ble_eq_true rfl, Nat.le_of_ble_eq_true rfl⟩ rfl rfl (fun w3 => ?_)
  refine q_lstore_n 3 3 30 rfl [(3, .long w3), (0, .long a0), (2, q_r (cG D tc x0 y ad) a1)] (by decide +kernel) rfl (Nat.le_of_ble_eq_true rfl) rfl ?_
  refine q_lload_n 0 3 31 rfl (by decide +kernel) rfl ?_
  refine q_aload_n 2 2 32 rfl (by decide +kernel) rfl ?_
  refine q_geti (f := 3) 35 rfl (by decide +kernel) (cC_Me D tc x0 y ad) h1 (by decide) rfl tw_1_115 ?_
  refine q_i2l 36 rfl (by decide +kernel) ?_
  refine q_callS_l 39 rfl (av := [.long w3, .long ((I a1 3).toInt64)]) (st := []) (c_CR_mix X.1 D tc x0 y ad I J P w3 ((I a1 3).toInt64)) yv_CR_mix tw_5_189 tw_5_190 rfl (Nat.le_of_ble_eq_true rfl) (by decide +kernel) ⟨Nat.le_of_ble_eq_true rfl, Nat.le_of_ble_eq_true rfl⟩ ⟨Nat.le_of_ble_eq_true rfl, Nat.le_of_ble_eq_true rfl⟩ rfl rfl (fun w4 => ?_)
  refine q_lstore_n 3 3 40 rfl [(3, .long w4), (0, .long a0), (2, q_r (cG D tc x0 y ad) a1)] (by decide +kernel) rfl (Nat.le_of_ble_eq_true rfl) rfl ?_
  refine q_lload_n 0 3 41 rfl (by decide +kernel) rfl ?_
  refine q_aload_n 2 2 42 rfl (by decide +kernel) rfl ?_
  refine q_geti (f := 4) 45 rfl (by decide +kernel) (cC_Me D tc x0 y ad) h1 (by decide) rfl tw_1_120 ?_
  refine q_i2l 46 rfl (by decide +kernel) ?_
  refine q_callS_l 49 rfl (av := [.long w4, .long ((I a1 4).toInt64)]) (st := []) (c_CR_mix X.1 D tc x0 y ad I J P w4 ((I a1 4).toInt64)) yv_CR_mix tw_5_189 tw_5_190 rfl (Nat.le_of_ble_eq_true rfl) (by decide +kernel) ⟨Nat.le_of_ble_eq_true rfl, Nat.le_of_ble_eq_true rfl⟩ ⟨Nat.le_of_ble_eq_true rfl, Nat.le_of_ble_eq_true rfl⟩ rfl rfl (fun w5 => ?_)
  refine q_lstore_n 3 3 50 rfl [(3, .long w5), (0, .long a0), (2, q_r (cG D tc x0 y ad) a1)] (by decide +kernel) rfl (Nat.le_of_ble_eq_true rfl) rfl ?_
  refine q_lload_n 0 3 51 rfl (by decide +kernel) rfl ?_
  refine q_aload_n 2 2 52 rfl (by decide +kernel) rfl ?_
  refine q_geti (f := 5) 55 rfl (by decide +kernel) (cC_Me D tc x0 y ad) h1 (by decide) rfl tw_1_125 ?_
  refine q_i2l 56 rfl (by decide +kernel) ?_
  refine q_callS_l 59 rfl (av := [.long w5, .long ((I a1 5).toInt64)]) (st := []) (c_CR_mix X.1 D tc x0 y ad I J P w5 ((I a1 5).toInt64)) yv_CR_mix tw_5_189 tw_5_190 rfl (Nat.le_of_ble_eq_true rfl) (by decide +kernel) ⟨Nat.le_of_ble_eq_true rfl, Nat.le_of_ble_eq_true rfl⟩ ⟨Nat.le_of_ble_eq_true rfl, Nat.le_of_ble_eq_true rfl⟩ rfl rfl (fun w6 => ?_)
  refine q_lstore_n 3 3 60 rfl [(3, .long w6), (0, .long a0), (2, q_r (cG D tc x0 y ad) a1)] (by decide +kernel) rfl (Nat.le_of_ble_eq_true rfl) rfl ?_
  refine q_lload_n 0 3 61 rfl (by decide +kernel) rfl ?_
  refine q_aload_n 2 2 62 rfl (by decide +kernel) rfl ?_
  refine q_geti (f := 6) 65 rfl (by decide +kernel) (cC_Me D tc x0 y ad) h1 (by decide) rfl tw_1_130 ?_
  refine q_i2l 66 rfl (by decide +kernel) ?_
  refine q_callS_l 69 rfl (av := [.long w6, .long ((I a1 6).toInt64)]) (st := []) (c_CR_mix X.1 D tc x0 y ad I J P w6 ((I a1 6).toInt64)) yv_CR_mix tw_5_189 tw_5_190 rfl (Nat.le_of_ble_eq_true rfl) (by decide +kernel) ⟨Nat.le_of_ble_eq_true rfl, Nat.le_of_ble_eq_true rfl⟩ ⟨Nat.le_of_ble_eq_true rfl, Nat.le_of_ble_eq_true rfl⟩ rfl rfl (fun w7 => ?_)
  exact q_lret (by decide +kernel) rfl rfl (Nat.le_of_ble_eq_true rfl) (Nat.le_of_ble_eq_true rfl)
def f_CR_mixReplica_L1 (I1 : q_I) (P1 : q_P) : Nat → Int64 → Int32 → Option (Int64 × q_I × q_P)
  | 0, _, _ => none
  | n + 1, y1, x1 => if (I1 83 1) ≤ x1 then (some (y1, I1, P1)) else (q_b1 (f_Cal_row I1 P1 83 24 x1) (fun r1 => (r1).elim ((f_CR_mixReplica_L1 I1 P1 n y1 (x1 + 1))) (fun b1 => q_ck (cM b1) (q_b1 (f_CR_mixMeeting I1 y1 b1) (fun w4 => (f_CR_mixReplica_L1 I1 P1 n w4 (x1 + 1)))))))
def f_CR_mixReplica (I : q_I) (P : q_P) (a1 : Int64) (a2 : Int32) : Option (Int64 × q_I × q_P) :=
  q_b2 (f_CR_show I P a2) (fun I1 P1 => q_b1 (f_CR_mix a1 ((I1 83 1).toInt64)) (fun w1 => q_b1 (f_CR_acceptedWeight I1 a2) (fun v1 => q_b1 (f_CR_mix w1 v1.toInt64) (fun w2 => q_b1 (f_CR_rejectedWeight I1 a2) (fun v2 => q_b1 (f_CR_mix w2 v2.toInt64) (fun w3 => f_CR_mixReplica_L1 I1 P1 q_fu w3 0))))))
def y_CR_mixReplica : MethodName := ⟨"CalendarReplicas", "mixReplica", "(JI)J"⟩
def m_CR_mixReplica : q_M := (prog_1_method_61_code, 8, "CalendarReplicas", { frames := 4, cells := 0, slots := 0, locals := 108 }, (some FieldType.long))
theorem yv_CR_mixReplica : q_Y y_CR_mixReplica m_CR_mixReplica 2 := ⟨rfl, ⟨by decide, by decide⟩, by decide +kernel, tw_5_200, tw_1_1⟩
set_option maxRecDepth 100000 in
set_option maxHeartbeats 4000000 in
theorem c_CR_mixReplica (l : Launch) (D : va_G) (tc : Nat → ClassId) (x0 y : Nat) (ad : Nat → Nat) (I : q_I) (J : q_J) (P : q_P) (a1 : Int64) (a2 : Int32) : q_Ct l (cG D tc x0 y ad) y_CR_mixReplica m_CR_mixReplica [q_r (cG D tc x0 y ad) 0, .long a1, .int a2] (I, J, P) (f_CR_mixReplica I P a1 a2) (fun r : Int64 × q_I × q_P => (some (.long r.1), (r.2.1, J, r.2.2))) := by
  refine q_Ct_of (cIn D tc x0 y ad) (by decide) rfl (Nat.le_of_ble_eq_true rfl) rfl (fun X hX => ?_)
  subst hX
  unfold f_CR_mixReplica
  refine q_aload_n 0 0 1 rfl (by decide +kernel) rfl ?_
  refine q_iload_n 2 3 2 rfl (by decide +kernel) rfl ?_
  refine q_callV_vIP 5 rfl (av := [.int a2]) (o := 0) (st := []) (c_CR_show X.1 D tc x0 y ad I J P a2) yv_CR_show tw_4_27 tw_4_29 sw_18 (cC_CR D tc x0 y ad) k_CR rfl (Nat.le_of_ble_eq_true rfl) (by decide +kernel) ⟨Nat.le_of_ble_eq_true rfl, Nat.le_of_ble_eq_true rfl⟩ ⟨Nat.le_of_ble_eq_true rfl, Nat.le_of_ble_eq_true rfl⟩ rfl rfl (fun I1 P1 => ?_)
  refine q_lload_n 1 1 6 rfl (by decide +kernel) rfl ?_
  refine q_aload_n 0 0 7 rfl (by decide +kernel) rfl ?_
  refine q_getr (f := 4) 83 10 rfl (by decide +kernel) (cC_CR D tc x0 y ad) k_CR (by decide) rfl rfl tw_2_106 ?_
  refine q_geti (f := 1) 13 rfl (by decide +kernel) (cC_Cal D tc x0 y ad) k_Cal83.1 (by decide) rfl tw_1_150 ?_
  refine q_i2l 14 rfl (by decide +kernel) ?_
  refine q_callS_l 17 rfl (av := [.long a1, .long ((I1 83 1).toInt64)]) (st := []) (c_CR_mix X.1 D tc x0 y ad I1 J P1 a1 ((I1 83 1).toInt64)) yv_CR_mix tw_5_189 tw_5_190 rfl (Nat.le_of_ble_eq_true rfl) (by decide +kernel) ⟨Nat.le_of_ble_eq_true rfl, Nat.le_of_ble_eq_true rfl⟩ ⟨Nat.le_of_ble_eq_true rfl, Nat.le_of_ble_eq_true rfl⟩ rfl rfl (fun w1 => ?_)
  refine q_lstore 4 19 rfl [(4, .long w1), (0, q_r (cG D tc x0 y ad) 0), (1, .long a1), (3, .int a2)] (by decide +kernel) (Nat.le_of_ble_eq_true rfl) rfl ?_
  refine q_lload 0 4 21 rfl (by decide +kernel) rfl ?_
  refine q_aload_n 1 0 22 rfl (by decide +kernel) rfl ?_
  refine q_iload_n 3 3 23 rfl (by decide +kernel) rfl ?_
  refine q_callV_i 26 rfl (av := [.int a2]) (o := 0) (st := [.long w1]) (c_CR_acceptedWeight X.1 D tc x0 y ad I1 J P1 a2) yv_CR_acceptedWeight tw_5_201 tw_4_154 tw_4_155 (cC_CR D tc x0 y ad) k_CR rfl (Nat.le_of_ble_eq_true rfl) (by decide +kernel) ⟨Nat.le_of_ble_eq_true rfl, Nat.le_of_ble_eq_true rfl⟩ ⟨Nat.le_of_ble_eq_true rfl, Nat.le_of_ble_eq_true rfl⟩ rfl rfl (fun v1 => ?_)
  refine q_i2l 27 rfl (by decide +kernel) ?_
  refine q_callS_l 30 rfl (av := [.long w1, .long v1.toInt64]) (st := []) (c_CR_mix X.1 D tc x0 y ad I1 J P1 w1 v1.toInt64) yv_CR_mix tw_5_189 tw_5_190 rfl (Nat.le_of_ble_eq_true rfl) (by decide +kernel) ⟨Nat.le_of_ble_eq_true rfl, Nat.le_of_ble_eq_true rfl⟩ ⟨Nat.le_of_ble_eq_true rfl, Nat.le_of_ble_eq_true rfl⟩ rfl rfl (fun w2 => ?_)
  refine q_lstore 4 32 rfl [(4, .long w2), (0, q_r (cG D tc x0 y ad) 0), (1, .long a1), (3, .int a2)] (by decide +kernel) (Nat.le_of_ble_eq_true rfl) rfl ?_
  refine q_lload 0 4 34 rfl (by decide +kernel) rfl ?_
  refine q_aload_n 1 0 35 rfl (by decide +kernel) rfl ?_
  refine q_iload_n 3 3 36 rfl (by decide +kernel) rfl ?_
  refine q_callV_i 39 rfl (av := [.int a2]) (o := 0) (st := [.long w2]) (c_CR_rejectedWeight X.1 D tc x0 y ad I1 J P1 a2) yv_CR_rejectedWeight tw_5_202 tw_4_159 tw_4_160 (cC_CR D tc x0 y ad) k_CR rfl (Nat.le_of_ble_eq_true rfl) (by decide +kernel) ⟨Nat.le_of_ble_eq_true rfl, Nat.le_of_ble_eq_true rfl⟩ ⟨Nat.le_of_ble_eq_true rfl, Nat.le_of_ble_eq_true rfl⟩ rfl rfl (fun v2 => ?_)
  refine q_i2l 40 rfl (by decide +kernel) ?_
  refine q_callS_l 43 rfl (av := [.long w2, .long v2.toInt64]) (st := []) (c_CR_mix X.1 D tc x0 y ad I1 J P1 w2 v2.toInt64) yv_CR_mix tw_5_189 tw_5_190 rfl (Nat.le_of_ble_eq_true rfl) (by decide +kernel) ⟨Nat.le_of_ble_eq_true rfl, Nat.le_of_ble_eq_true rfl⟩ ⟨Nat.le_of_ble_eq_true rfl, Nat.le_of_ble_eq_true rfl⟩ rfl rfl (fun w3 => ?_)
  refine q_lstore 4 45 rfl [(4, .long w3), (0, q_r (cG D tc x0 y ad) 0), (1, .long a1), (3, .int a2)] (by decide +kernel) (Nat.le_of_ble_eq_true rfl) rfl ?_
  refine q_iconst 0 (c := 0) 46 rfl (by decide +kernel) rfl ?_
  refine q_istore 6 48 rfl [(6, .int 0), (4, .long w3), (0, q_r (cG D tc x0 y ad) 0), (1, .long a1), (3, .int a2)] (by decide +kernel) (Nat.le_of_ble_eq_true rfl) rfl ?_
  have hL1 : ∀ (n1_ : Nat) (y1 : Int64) (x1 : Int32), q_V (cG D tc x0 y ad) m_CR_mixReplica X (fun r : Int64 × q_I × q_P => (some (.long r.1), (r.2.1, J, r.2.2))) 0 0 48 [(0, q_r (cG D tc x0 y ad) 0), (4, .long y1), (6, .int x1)] [] I1 J P1 (f_CR_mixReplica_L1 I1 P1 n1_ y1 x1) := by
    intro n1_
    induction n1_ with
    | zero => intro y1 x1; exact q_none
    | succ n1_ ih1 =>
      intro y1 x1
      rw [f_CR_mixReplica_L1]
      refine q_iload 2 6 50 rfl (by decide +kernel) rfl ?_
      refine q_aload_n 0 0 51 rfl (by decide +kernel) rfl ?_
      refine q_getr (f := 4) 83 54 rfl (by decide +kernel) (cC_CR D tc x0 y ad) k_CR (by decide) rfl rfl tw_2_106 ?_
      refine q_geti (f := 1) 57 rfl (by decide +kernel) (cC_Cal D tc x0 y ad) k_Cal83.1 (by decide) rfl tw_1_150 ?_
      refine q_icmp_ge 60 rfl 91 (off := 34) (by decide +kernel) rfl (fun g1 => ?_) (fun g1 => ?_)
      · refine q_lload 1 4 93 rfl (by decide +kernel) rfl ?_
        exact q_lret (by decide +kernel) rfl rfl (Nat.le_of_ble_eq_true rfl) (Nat.le_of_ble_eq_true rfl)
      · refine q_aload_n 0 0 61 rfl (by decide +kernel) rfl ?_
        refine q_getr (f := 4) 83 64 rfl (by decide +kernel) (cC_CR D tc x0 y ad) k_CR (by decide) rfl rfl tw_2_106 ?_
        refine q_iload 2 6 66 rfl (by decide +kernel) rfl ?_
        refine q_callV_q 69 rfl (av := [.int x1]) (o := 83) (st := []) (c_Cal_row X.1 D tc x0 y ad I1 J P1 k_Cal83 x1) yv_Cal_row tw_4_90 tw_3_3 tw_3_4 (cC_Cal D tc x0 y ad) k_Cal83.1 rfl (Nat.le_of_ble_eq_true rfl) (by decide +kernel) ⟨Nat.le_of_ble_eq_true rfl, Nat.le_of_ble_eq_true rfl⟩ ⟨Nat.le_of_ble_eq_true rfl, Nat.le_of_ble_eq_true rfl⟩ rfl rfl (fun r1 => ?_)
        refine q_astoreq 7 71 rfl [(7, q_rn (cG D tc x0 y ad) r1), (0, q_r (cG D tc x0 y ad) 0), (4, .long y1), (6, .int x1)] (by decide +kernel) (Nat.le_of_ble_eq_true rfl) rfl ?_
        refine q_aloadq 0 7 73 rfl (by decide +kernel) rfl ?_
        refine q_ifnull 76 rfl 85 (off := 12) (by decide +kernel) rfl (fun he_b1 => ?_) (fun b1 he_b1 => ?_)
        · subst he_b1
          refine q_iinc (x1 + 1) (c := 1) 6 3 88 rfl [(6, .int (x1 + 1)), (7, .null), (0, q_r (cG D tc x0 y ad) 0), (4, .long y1)] (by decide +kernel) rfl rfl (Nat.le_of_ble_eq_true rfl) rfl ?_
          refine q_goto (off := -40) 48 (by decide +kernel) rfl ?_
          refine q_sub [2, 3, 0] rfl ?_
          exact ih1 y1 (x1 + 1)
        · subst he_b1
          refine q_ckV (fun hc_b1 => ?_)
          refine q_lload 2 4 78 rfl (by decide +kernel) rfl ?_
          refine q_aload 0 7 80 rfl (by decide +kernel) rfl ?_
          refine q_callS_l 83 rfl (av := [.long y1, q_r (cG D tc x0 y ad) b1]) (st := []) (c_CR_mixMeeting X.1 D tc x0 y ad I1 J P1 y1 (cM_of hc_b1)) yv_CR_mixMeeting tw_5_203 tw_5_204 rfl (Nat.le_of_ble_eq_true rfl) (by decide +kernel) ⟨Nat.le_of_ble_eq_true rfl, Nat.le_of_ble_eq_true rfl⟩ ⟨Nat.le_of_ble_eq_true rfl, Nat.le_of_ble_eq_true rfl⟩ rfl rfl (fun w4 => ?_)
          refine q_lstore 4 85 rfl [(4, .long w4), (7, q_r (cG D tc x0 y ad) b1), (0, q_r (cG D tc x0 y ad) 0), (6, .int x1)] (by decide +kernel) (Nat.le_of_ble_eq_true rfl) rfl ?_
          refine q_iinc (x1 + 1) (c := 1) 6 3 88 rfl [(6, .int (x1 + 1)), (4, .long w4), (7, q_r (cG D tc x0 y ad) b1), (0, q_r (cG D tc x0 y ad) 0)] (by decide +kernel) rfl rfl (Nat.le_of_ble_eq_true rfl) rfl ?_
          refine q_goto (off := -40) 48 (by decide +kernel) rfl ?_
          refine q_sub [3, 1, 0] rfl ?_
          exact ih1 w4 (x1 + 1)
  refine q_sub [2, 1, 0] rfl ?_
  exact hL1 _ _ _
def f_CR_checksum_L1 (I : q_I) (K : Int64 → Option (Int64 × q_I × q_P)) : Nat → Int64 → Int32 → Option (Int64 × q_I × q_P)
  | 0, _, _ => none
  | n + 1, y1, x1 => if (I 1 3) ≤ x1 then ((K y1)) else (q_b1 (f_CR_mixEdit I y1 x1) (fun w2 => (f_CR_checksum_L1 I K n w2 (x1 + 1))))
def f_CR_checksum_L2 : Nat → Int64 → Int32 → q_I → q_P → Option (Int64 × q_I × q_P)
  | 0, _, _, _, _ => none
  | n + 1, y3, x2, I1, P1 => if (3 : Int32) ≤ x2 then (some (y3, I1, P1)) else (q_b3 (f_CR_mixReplica I1 P1 y3 x2) (fun w3 I2 P2 => (f_CR_checksum_L2  n w3 (x2 + 1) I2 P2)))
def f_CR_checksum (I : q_I) (P : q_P) : Option (Int64 × q_I × q_P) :=
  q_b1 (f_CR_mix 37 ((I 1 3).toInt64)) (fun w1 => f_CR_checksum_L1 I (fun (y2 : Int64) => f_CR_checksum_L2  q_fu y2 0 I P) q_fu w1 0)
def y_CR_checksum : MethodName := ⟨"CalendarReplicas", "checksum", "()J"⟩
def m_CR_checksum : q_M := (prog_1_method_59_code, 4, "CalendarReplicas", { frames := 5, cells := 0, slots := 0, locals := 135 }, (some FieldType.long))
theorem yv_CR_checksum : q_Y y_CR_checksum m_CR_checksum 0 := ⟨rfl, ⟨by decide, by decide⟩, by decide +kernel, tw_5_187, tw_1_1⟩
set_option maxRecDepth 100000 in
set_option maxHeartbeats 4000000 in
theorem c_CR_checksum (l : Launch) (D : va_G) (tc : Nat → ClassId) (x0 y : Nat) (ad : Nat → Nat) (I : q_I) (J : q_J) (P : q_P) : q_Ct l (cG D tc x0 y ad) y_CR_checksum m_CR_checksum [q_r (cG D tc x0 y ad) 0] (I, J, P) (f_CR_checksum I P) (fun r : Int64 × q_I × q_P => (some (.long r.1), (r.2.1, J, r.2.2))) := by
  refine q_Ct_of (cIn D tc x0 y ad) (by decide) rfl (Nat.le_of_ble_eq_true rfl) rfl (fun X hX => ?_)
  subst hX
  unfold f_CR_checksum
  refine q_ldc2 (v := 37) (i := 346) 3 rfl (by decide +kernel) tw_5_188 ?_
  refine q_aload_n 0 0 4 rfl (by decide +kernel) rfl ?_
  refine q_getr (f := 0) 1 7 rfl (by decide +kernel) (cC_CR D tc x0 y ad) k_CR (by decide) rfl rfl tw_2_102 ?_
  refine q_geti (f := 3) 10 rfl (by decide +kernel) (cC_Wo D tc x0 y ad) k_Wo1.1 (by decide) rfl tw_1_213 ?_
  refine q_i2l 11 rfl (by decide +kernel) ?_
  refine q_callS_l 14 rfl (av := [.long 37, .long ((I 1 3).toInt64)]) (st := []) (c_CR_mix X.1 D tc x0 y ad I J P 37 ((I 1 3).toInt64)) yv_CR_mix tw_5_189 tw_5_190 rfl (Nat.le_of_ble_eq_true rfl) (by decide +kernel) ⟨Nat.le_of_ble_eq_true rfl, Nat.le_of_ble_eq_true rfl⟩ ⟨Nat.le_of_ble_eq_true rfl, Nat.le_of_ble_eq_true rfl⟩ rfl rfl (fun w1 => ?_)
  refine q_lstore_n 1 1 15 rfl [(1, .long w1), (0, q_r (cG D tc x0 y ad) 0)] (by decide +kernel) rfl (Nat.le_of_ble_eq_true rfl) rfl ?_
  refine q_iconst 0 (c := 0) 16 rfl (by decide +kernel) rfl ?_
  refine q_istore_n 3 3 17 rfl [(3, .int 0), (1, .long w1), (0, q_r (cG D tc x0 y ad) 0)] (by decide +kernel) rfl (Nat.le_of_ble_eq_true rfl) rfl ?_
  have hL1 : ∀ (K1 : Int64 → Option (Int64 × q_I × q_P)) (hK1 : ∀ (y2 : Int64), q_V (cG D tc x0 y ad) m_CR_checksum X (fun r : Int64 × q_I × q_P => (some (.long r.1), (r.2.1, J, r.2.2))) 0 0 41 [(0, q_r (cG D tc x0 y ad) 0), (1, .long y2)] [] I J P (K1 y2)) (n1_ : Nat) (y1 : Int64) (x1 : Int32), q_V (cG D tc x0 y ad) m_CR_checksum X (fun r : Int64 × q_I × q_P => (some (.long r.1), (r.2.1, J, r.2.2))) 0 0 17 [(0, q_r (cG D tc x0 y ad) 0), (1, .long y1), (3, .int x1)] [] I J P (f_CR_checksum_L1 I K1 n1_ y1 x1) := by
    intro K1 hK1 n1_
    induction n1_ with
    | zero => intro y1 x1; exact q_none
    | succ n1_ ih1 =>
      intro y1 x1
      rw [f_CR_checksum_L1]
      refine q_iload_n 2 3 18 rfl (by decide +kernel) rfl ?_
      refine q_aload_n 0 0 19 rfl (by decide +kernel) rfl ?_
      refine q_getr (f := 0) 1 22 rfl (by decide +kernel) (cC_CR D tc x0 y ad) k_CR (by decide) rfl rfl tw_2_102 ?_
      refine q_geti (f := 3) 25 rfl (by decide +kernel) (cC_Wo D tc x0 y ad) k_Wo1.1 (by decide) rfl tw_1_213 ?_
      refine q_icmp_ge 28 rfl 41 (off := 16) (by decide +kernel) rfl (fun g1 => ?_) (fun g1 => ?_)
      · refine q_sub [0, 1] rfl ?_
        exact hK1 y1
      · refine q_aload_n 0 0 29 rfl (by decide +kernel) rfl ?_
        refine q_lload_n 1 1 30 rfl (by decide +kernel) rfl ?_
        refine q_iload_n 2 3 31 rfl (by decide +kernel) rfl ?_
        refine q_callV_l 34 rfl (av := [.long y1, .int x1]) (o := 0) (st := []) (c_CR_mixEdit X.1 D tc x0 y ad I J P y1 x1) yv_CR_mixEdit tw_5_193 tw_5_195 sw_24 (cC_CR D tc x0 y ad) k_CR rfl (Nat.le_of_ble_eq_true rfl) (by decide +kernel) ⟨Nat.le_of_ble_eq_true rfl, Nat.le_of_ble_eq_true rfl⟩ ⟨Nat.le_of_ble_eq_true rfl, Nat.le_of_ble_eq_true rfl⟩ rfl rfl (fun w2 => ?_)
        refine q_lstore_n 1 1 35 rfl [(1, .long w2), (0, q_r (cG D tc x0 y ad) 0), (3, .int x1)] (by decide +kernel) rfl (Nat.le_of_ble_eq_true rfl) rfl ?_
        refine q_iinc (x1 + 1) (c := 1) 3 2 38 rfl [(3, .int (x1 + 1)), (1, .long w2), (0, q_r (cG D tc x0 y ad) 0)] (by decide +kernel) rfl rfl (Nat.le_of_ble_eq_true rfl) rfl ?_
        refine q_goto (off := -21) 17 (by decide +kernel) rfl ?_
        refine q_sub [2, 1, 0] rfl ?_
        exact ih1 w2 (x1 + 1)
  refine q_sub [2, 1, 0] rfl ?_
  refine hL1 _ (fun y2 => ?_) _ _ _
  refine q_iconst 0 (c := 0) 42 rfl (by decide +kernel) rfl ?_
  refine q_istore_n 3 3 43 rfl [(3, .int 0), (0, q_r (cG D tc x0 y ad) 0), (1, .long y2)] (by decide +kernel) rfl (Nat.le_of_ble_eq_true rfl) rfl ?_
  have hL2 : ∀ (n2_ : Nat) (y3 : Int64) (x2 : Int32) (I1 : q_I) (P1 : q_P), q_V (cG D tc x0 y ad) m_CR_checksum X (fun r : Int64 × q_I × q_P => (some (.long r.1), (r.2.1, J, r.2.2))) 0 0 43 [(0, q_r (cG D tc x0 y ad) 0), (1, .long y3), (3, .int x2)] [] I1 J P1 (f_CR_checksum_L2  n2_ y3 x2 I1 P1) := by
    intro n2_
    induction n2_ with
    | zero => intro y3 x2 I1 P1; exact q_none
    | succ n2_ ih2 =>
      intro y3 x2 I1 P1
      rw [f_CR_checksum_L2]
      refine q_iload_n 2 3 44 rfl (by decide +kernel) rfl ?_
      refine q_iconst 3 (c := 3) 45 rfl (by decide +kernel) rfl ?_
      refine q_icmp_ge 48 rfl 61 (off := 16) (by decide +kernel) rfl (fun g2 => ?_) (fun g2 => ?_)
      · refine q_lload_n 1 1 62 rfl (by decide +kernel) rfl ?_
        exact q_lret (by decide +kernel) rfl rfl (Nat.le_of_ble_eq_true rfl) (Nat.le_of_ble_eq_true rfl)
      · refine q_aload_n 0 0 49 rfl (by decide +kernel) rfl ?_
        refine q_lload_n 1 1 50 rfl (by decide +kernel) rfl ?_
        refine q_iload_n 2 3 51 rfl (by decide +kernel) rfl ?_
        refine q_callV_lIP 54 rfl (av := [.long y3, .int x2]) (o := 0) (st := []) (c_CR_mixReplica X.1 D tc x0 y ad I1 J P1 y3 x2) yv_CR_mixReplica tw_5_197 tw_5_199 sw_25 (cC_CR D tc x0 y ad) k_CR rfl (Nat.le_of_ble_eq_true rfl) (by decide +kernel) ⟨Nat.le_of_ble_eq_true rfl, Nat.le_of_ble_eq_true rfl⟩ ⟨Nat.le_of_ble_eq_true rfl, Nat.le_of_ble_eq_true rfl⟩ rfl rfl (fun w3 I2 P2 => ?_)
        refine q_lstore_n 1 1 55 rfl [(1, .long w3), (0, q_r (cG D tc x0 y ad) 0), (3, .int x2)] (by decide +kernel) rfl (Nat.le_of_ble_eq_true rfl) rfl ?_
        refine q_iinc (x2 + 1) (c := 1) 3 2 58 rfl [(3, .int (x2 + 1)), (1, .long w3), (0, q_r (cG D tc x0 y ad) 0)] (by decide +kernel) rfl rfl (Nat.le_of_ble_eq_true rfl) rfl ?_
        refine q_goto (off := -15) 43 (by decide +kernel) rfl ?_
        refine q_sub [2, 1, 0] rfl ?_
        exact ih2 w3 (x2 + 1) I2 P2
  refine q_sub [1, 2, 0] rfl ?_
  exact hL2 _ _ _ _ _
