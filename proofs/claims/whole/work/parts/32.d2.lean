def f_Des_peek (I : q_I) (a0 : Nat) : Option (Int32) :=
  if (I a0 3) < 0 then (some (0)) else (q_b1 (f_SB_length I (a0 + 1)) (fun v1 => if v1 ≤ (I a0 3) then (some (0)) else (q_b1 (f_SB_charAt I (a0 + 1) (I a0 3)) (fun v2 => some (v2.toUInt32.toUInt16.toUInt32.toInt32)))))
def y_Des_peek : MethodName := ⟨"CalendarReplicas$Description", "peek", "()C"⟩
def m_Des_peek : q_M := (prog_3_method_12_code, 1, "CalendarReplicas$Description", { frames := 9, cells := 0, slots := 0, locals := 821 }, (some FieldType.char))
theorem yv_Des_peek : q_Y y_Des_peek m_Des_peek 0 := ⟨rfl, ⟨by decide, by decide⟩, by decide +kernel, tw_3_130, tw_1_10⟩
set_option maxRecDepth 100000 in
set_option maxHeartbeats 4000000 in
theorem c_Des_peek (l : Launch) (D : va_G) (tc : Nat → ClassId) (x0 y : Nat) (ad : Nat → Nat) (I : q_I) (J : q_J) (P : q_P) {a0 : Nat} (h0 : isDes a0) : q_Ct l (cG D tc x0 y ad) y_Des_peek m_Des_peek [q_r (cG D tc x0 y ad) a0] (I, J, P) (f_Des_peek I a0) (fun r : Int32 => (some (.int r), (I, J, P))) := by
  refine q_Ct_of (cIn D tc x0 y ad) (by decide) rfl (Nat.le_of_ble_eq_true rfl) rfl (fun X hX => ?_)
  subst hX
  unfold f_Des_peek
  refine q_aload_n 0 0 1 rfl (by decide +kernel) rfl ?_
  refine q_geti (f := 3) 4 rfl (by decide +kernel) (cC_Des D tc x0 y ad) h0.1 (by decide) rfl tw_2_87 ?_
  refine q_if_lt 7 rfl 35 (off := 31) (by decide +kernel) rfl (fun g2 => ?_) (fun g2 => ?_)
  · refine q_iconst 0 (c := 0) 36 rfl (by decide +kernel) rfl ?_
    exact q_zret (w := 0) (by decide +kernel) rfl rfl rfl (Nat.le_of_ble_eq_true rfl) (Nat.le_of_ble_eq_true rfl)
  · refine q_aload_n 0 0 8 rfl (by decide +kernel) rfl ?_
    refine q_geti (f := 3) 11 rfl (by decide +kernel) (cC_Des D tc x0 y ad) h0.1 (by decide) rfl tw_2_87 ?_
    refine q_aload_n 0 0 12 rfl (by decide +kernel) rfl ?_
    refine q_getr (f := 0) (a0 + 1) 15 rfl (by decide +kernel) (cC_Des D tc x0 y ad) h0.1 (by decide) rfl rfl tw_2_81 ?_
    refine q_callB_i 18 rfl (av := []) (o := (a0 + 1)) (st := [.int (I a0 3)]) (c_SB_length X.1 D tc x0 y ad I J P h0.2.1 ) yv_SB_length tw_3_131 tw_3_132 tw_3_133 (cC_SB D tc x0 y ad).1 h0.2.1.1 rfl (Nat.le_of_ble_eq_true rfl) (by decide +kernel) ⟨Nat.le_of_ble_eq_true rfl, Nat.le_of_ble_eq_true rfl⟩ ⟨Nat.le_of_ble_eq_true rfl, Nat.le_of_ble_eq_true rfl⟩ (k' := 0) (n' := 0) rfl rfl (fun v1 => ?_)
    refine q_icmp_ge 21 rfl 35 (off := 17) (by decide +kernel) rfl (fun g1 => ?_) (fun g1 => ?_)
    · refine q_iconst 0 (c := 0) 36 rfl (by decide +kernel) rfl ?_
      exact q_zret (w := 0) (by decide +kernel) rfl rfl rfl (Nat.le_of_ble_eq_true rfl) (Nat.le_of_ble_eq_true rfl)
    · refine q_aload_n 0 0 22 rfl (by decide +kernel) rfl ?_
      refine q_getr (f := 0) (a0 + 1) 25 rfl (by decide +kernel) (cC_Des D tc x0 y ad) h0.1 (by decide) rfl rfl tw_2_81 ?_
      refine q_aload_n 0 0 26 rfl (by decide +kernel) rfl ?_
      refine q_geti (f := 3) 29 rfl (by decide +kernel) (cC_Des D tc x0 y ad) h0.1 (by decide) rfl tw_2_87 ?_
      refine q_callB_i 32 rfl (av := [.int (I a0 3)]) (o := (a0 + 1)) (st := []) (c_SB_charAt X.1 D tc x0 y ad I J P h0.2.1 (I a0 3)) yv_SB_charAt tw_3_138 tw_3_139 tw_3_140 (cC_SB D tc x0 y ad).1 h0.2.1.1 rfl (Nat.le_of_ble_eq_true rfl) (by decide +kernel) ⟨Nat.le_of_ble_eq_true rfl, Nat.le_of_ble_eq_true rfl⟩ ⟨Nat.le_of_ble_eq_true rfl, Nat.le_of_ble_eq_true rfl⟩ (k' := 0) (n' := 0) rfl rfl (fun v2 => ?_)
      refine q_goto (off := 4) 36 (by decide +kernel) rfl ?_
      exact q_zret (w := v2.toUInt32.toUInt16.toUInt32.toInt32) (by decide +kernel) rfl rfl rfl (Nat.le_of_ble_eq_true rfl) (Nat.le_of_ble_eq_true rfl)
def f_Des_readDigit (I : q_I) (a0 : Nat) (a1 : Int32) (a2 : Int32) : Option (Int32 × q_I) :=
  q_b1 (f_Des_peek I a0) (fun v1 => q_l (v1 - 48 : Int32) (fun x1 => q_b1 (f_CR_within x1 a1 a2) (fun v2 => if v2 = 0 then (some ((-4), I)) else (q_l (q_ui I a0 3 ((I a0 3) + 1)) (fun I1 => some (x1, I1))))))
def y_Des_readDigit : MethodName := ⟨"CalendarReplicas$Description", "readDigit", "(II)I"⟩
def m_Des_readDigit : q_M := (prog_3_method_9_code, 4, "CalendarReplicas$Description", { frames := 10, cells := 0, slots := 0, locals := 841 }, (some FieldType.int))
theorem yv_Des_readDigit : q_Y y_Des_readDigit m_Des_readDigit 2 := ⟨rfl, ⟨by decide, by decide⟩, by decide +kernel, tw_3_126, tw_1_10⟩
set_option maxRecDepth 100000 in
set_option maxHeartbeats 4000000 in
theorem c_Des_readDigit (l : Launch) (D : va_G) (tc : Nat → ClassId) (x0 y : Nat) (ad : Nat → Nat) (I : q_I) (J : q_J) (P : q_P) {a0 : Nat} (h0 : isDes a0) (a1 : Int32) (a2 : Int32) : q_Ct l (cG D tc x0 y ad) y_Des_readDigit m_Des_readDigit [q_r (cG D tc x0 y ad) a0, .int a1, .int a2] (I, J, P) (f_Des_readDigit I a0 a1 a2) (fun r : Int32 × q_I => (some (.int r.1), (r.2, J, P))) := by
  refine q_Ct_of (cIn D tc x0 y ad) (by decide) rfl (Nat.le_of_ble_eq_true rfl) rfl (fun X hX => ?_)
  subst hX
  unfold f_Des_readDigit
  refine q_aload_n 0 0 1 rfl (by decide +kernel) rfl ?_
  refine q_callV_i 4 rfl (av := []) (o := a0) (st := []) (c_Des_peek X.1 D tc x0 y ad I J P h0) yv_Des_peek tw_3_127 tw_3_129 sw_9 (cC_Des D tc x0 y ad) h0.1 rfl (Nat.le_of_ble_eq_true rfl) (by decide +kernel) ⟨Nat.le_of_ble_eq_true rfl, Nat.le_of_ble_eq_true rfl⟩ ⟨Nat.le_of_ble_eq_true rfl, Nat.le_of_ble_eq_true rfl⟩ rfl rfl (fun v1 => ?_)
  refine q_bipush 48 (c := 48) 6 rfl (by decide +kernel) rfl ?_
  refine q_isub 7 rfl (by decide +kernel) ?_
  refine q_leti (fun x1 => ?_)
  refine q_istore_n 3 3 8 rfl [(3, .int x1), (0, q_r (cG D tc x0 y ad) a0), (1, .int a1), (2, .int a2)] (by decide +kernel) rfl (Nat.le_of_ble_eq_true rfl) rfl ?_
  refine q_iload_n 0 3 9 rfl (by decide +kernel) rfl ?_
  refine q_iload_n 2 1 10 rfl (by decide +kernel) rfl ?_
  refine q_iload_n 3 2 11 rfl (by decide +kernel) rfl ?_
  refine q_callN_i 14 rfl (av := [.int x1, .int a1, .int a2]) (st := []) (c_CR_within X.1 D tc x0 y ad I J P x1 a1 a2) yv_CR_within tw_3_166 tw_2_135 rfl (Nat.le_of_ble_eq_true rfl) (by decide +kernel) ⟨Nat.le_of_ble_eq_true rfl, Nat.le_of_ble_eq_true rfl⟩ ⟨Nat.le_of_ble_eq_true rfl, Nat.le_of_ble_eq_true rfl⟩ rfl rfl (fun v2 => ?_)
  refine q_if_ne 17 rfl 20 (off := 6) (by decide +kernel) rfl (fun g1 => ?_) (fun g1 => ?_)
  · refine q_aload_n 1 0 21 rfl (by decide +kernel) rfl ?_
    refine q_dup 22 rfl (by decide +kernel) rfl ?_
    refine q_geti (f := 3) 25 rfl (by decide +kernel) (cC_Des D tc x0 y ad) h0.1 (by decide) rfl tw_2_87 ?_
    refine q_iconst 1 (c := 1) 26 rfl (by decide +kernel) rfl ?_
    refine q_iadd 27 rfl (by decide +kernel) ?_
    refine q_puti (f := 3) 30 rfl (by decide +kernel) (cC_Des D tc x0 y ad) h0.1 (by decide) rfl rfl rfl tw_2_87 ?_
    refine q_letI (fun I1 => ?_)
    refine q_iload_n 0 3 31 rfl (by decide +kernel) rfl ?_
    exact q_iret (by decide +kernel) rfl rfl (Nat.le_of_ble_eq_true rfl) (Nat.le_of_ble_eq_true rfl)
  · refine q_bipush (-4) (c := -4) 19 rfl (by decide +kernel) rfl ?_
    exact q_iret (by decide +kernel) rfl rfl (Nat.le_of_ble_eq_true rfl) (Nat.le_of_ble_eq_true rfl)
def f_Des_readNumber (I : q_I) (a0 : Nat) : Option (Int32 × q_I) :=
  q_b2 (f_Des_readDigit I a0 0 9) (fun v1 I1 => if (0 : Int32) ≤ v1 then (q_b2 (f_Des_readDigit I1 a0 0 9) (fun v2 I2 => if (0 : Int32) ≤ v2 then (some (((10 * v1) + v2), I2)) else (some (v1, I2)))) else (some ((-4), I1)))
def y_Des_readNumber : MethodName := ⟨"CalendarReplicas$Description", "readNumbe\x72", "()I"⟩
def m_Des_readNumber : q_M := (prog_3_method_8_code, 3, "CalendarReplicas$Description", { frames := 11, cells := 0, slots := 0, locals := 864 }, (some FieldType.int))
theorem yv_Des_readNumber : q_Y y_Des_readNumber m_Des_readNumber 0 := ⟨rfl, ⟨by decide, by decide⟩, by decide +kernel, tw_3_122, tw_1_10⟩
set_option maxRecDepth 100000 in
set_option maxHeartbeats 4000000 in
theorem c_Des_readNumber (l : Launch) (D : va_G) (tc : Nat → ClassId) (x0 y : Nat) (ad : Nat → Nat) (I : q_I) (J : q_J) (P : q_P) {a0 : Nat} (h0 : isDes a0) : q_Ct l (cG D tc x0 y ad) y_Des_readNumber m_Des_readNumber [q_r (cG D tc x0 y ad) a0] (I, J, P) (f_Des_readNumber I a0) (fun r : Int32 × q_I => (some (.int r.1), (r.2, J, P))) := by
  refine q_Ct_of (cIn D tc x0 y ad) (by decide) rfl (Nat.le_of_ble_eq_true rfl) rfl (fun X hX => ?_)
  subst hX
  unfold f_Des_readNumber
  refine q_aload_n 0 0 1 rfl (by decide +kernel) rfl ?_
  refine q_iconst 0 (c := 0) 2 rfl (by decide +kernel) rfl ?_
  refine q_bipush 9 (c := 9) 4 rfl (by decide +kernel) rfl ?_
  refine q_callV_iI 7 rfl (av := [.int 0, .int 9]) (o := a0) (st := []) (c_Des_readDigit X.1 D tc x0 y ad I J P h0 0 9) yv_Des_readDigit tw_3_123 tw_3_125 sw_8 (cC_Des D tc x0 y ad) h0.1 rfl (Nat.le_of_ble_eq_true rfl) (by decide +kernel) ⟨Nat.le_of_ble_eq_true rfl, Nat.le_of_ble_eq_true rfl⟩ ⟨Nat.le_of_ble_eq_true rfl, Nat.le_of_ble_eq_true rfl⟩ rfl rfl (fun v1 I1 => ?_)
  refine q_istore_n 1 1 8 rfl [(1, .int v1), (0, q_r (cG D tc x0 y ad) a0)] (by decide +kernel) rfl (Nat.le_of_ble_eq_true rfl) rfl ?_
  refine q_iload_n 0 1 9 rfl (by decide +kernel) rfl ?_
  refine q_if_ge 12 rfl 15 (off := 6) (by decide +kernel) rfl (fun g2 => ?_) (fun g2 => ?_)
  · refine q_aload_n 1 0 16 rfl (by decide +kernel) rfl ?_
    refine q_iconst 0 (c := 0) 17 rfl (by decide +kernel) rfl ?_
    refine q_bipush 9 (c := 9) 19 rfl (by decide +kernel) rfl ?_
    refine q_callV_iI 22 rfl (av := [.int 0, .int 9]) (o := a0) (st := []) (c_Des_readDigit X.1 D tc x0 y ad I1 J P h0 0 9) yv_Des_readDigit tw_3_123 tw_3_125 sw_8 (cC_Des D tc x0 y ad) h0.1 rfl (Nat.le_of_ble_eq_true rfl) (by decide +kernel) ⟨Nat.le_of_ble_eq_true rfl, Nat.le_of_ble_eq_true rfl⟩ ⟨Nat.le_of_ble_eq_true rfl, Nat.le_of_ble_eq_true rfl⟩ rfl rfl (fun v2 I2 => ?_)
    refine q_istore_n 2 2 23 rfl [(2, .int v2), (1, .int v1), (0, q_r (cG D tc x0 y ad) a0)] (by decide +kernel) rfl (Nat.le_of_ble_eq_true rfl) rfl ?_
    refine q_iload_n 0 2 24 rfl (by decide +kernel) rfl ?_
    refine q_if_ge 27 rfl 31 (off := 7) (by decide +kernel) rfl (fun g1 => ?_) (fun g1 => ?_)
    · refine q_bipush 10 (c := 10) 33 rfl (by decide +kernel) rfl ?_
      refine q_iload_n 1 1 34 rfl (by decide +kernel) rfl ?_
      refine q_imul 35 rfl (by decide +kernel) ?_
      refine q_iload_n 0 2 36 rfl (by decide +kernel) rfl ?_
      refine q_iadd 37 rfl (by decide +kernel) ?_
      exact q_iret (by decide +kernel) rfl rfl (Nat.le_of_ble_eq_true rfl) (Nat.le_of_ble_eq_true rfl)
    · refine q_iload_n 1 1 28 rfl (by decide +kernel) rfl ?_
      refine q_goto (off := 9) 37 (by decide +kernel) rfl ?_
      exact q_iret (by decide +kernel) rfl rfl (Nat.le_of_ble_eq_true rfl) (Nat.le_of_ble_eq_true rfl)
  · refine q_bipush (-4) (c := -4) 14 rfl (by decide +kernel) rfl ?_
    exact q_iret (by decide +kernel) rfl rfl (Nat.le_of_ble_eq_true rfl) (Nat.le_of_ble_eq_true rfl)
def f_Des_skip (I : q_I) (a0 : Nat) (a1 : Int32) : Option (Int32 × q_I) :=
  q_b1 (f_Des_peek I a0) (fun v1 => if v1 = a1 then (q_l (q_ui I a0 3 ((I a0 3) + 1)) (fun I1 => some (1, I1))) else (some (0, I)))
def y_Des_skip : MethodName := ⟨"CalendarReplicas$Description", "skip", "(C)Z"⟩
def m_Des_skip : q_M := (prog_3_method_10_code, 2, "CalendarReplicas$Description", { frames := 10, cells := 0, slots := 0, locals := 841 }, (some FieldType.boolean))
theorem yv_Des_skip : q_Y y_Des_skip m_Des_skip 1 := ⟨rfl, ⟨by decide, by decide⟩, by decide +kernel, tw_3_170, tw_1_10⟩
set_option maxRecDepth 100000 in
set_option maxHeartbeats 4000000 in
theorem c_Des_skip (l : Launch) (D : va_G) (tc : Nat → ClassId) (x0 y : Nat) (ad : Nat → Nat) (I : q_I) (J : q_J) (P : q_P) {a0 : Nat} (h0 : isDes a0) (a1 : Int32) : q_Ct l (cG D tc x0 y ad) y_Des_skip m_Des_skip [q_r (cG D tc x0 y ad) a0, .int a1] (I, J, P) (f_Des_skip I a0 a1) (fun r : Int32 × q_I => (some (.int r.1), (r.2, J, P))) := by
  refine q_Ct_of (cIn D tc x0 y ad) (by decide) rfl (Nat.le_of_ble_eq_true rfl) rfl (fun X hX => ?_)
  subst hX
  unfold f_Des_skip
  refine q_aload_n 0 0 1 rfl (by decide +kernel) rfl ?_
  refine q_callV_i 4 rfl (av := []) (o := a0) (st := []) (c_Des_peek X.1 D tc x0 y ad I J P h0) yv_Des_peek tw_3_127 tw_3_129 sw_9 (cC_Des D tc x0 y ad) h0.1 rfl (Nat.le_of_ble_eq_true rfl) (by decide +kernel) ⟨Nat.le_of_ble_eq_true rfl, Nat.le_of_ble_eq_true rfl⟩ ⟨Nat.le_of_ble_eq_true rfl, Nat.le_of_ble_eq_true rfl⟩ rfl rfl (fun v1 => ?_)
  refine q_iload_n 1 1 5 rfl (by decide +kernel) rfl ?_
  refine q_icmp_eq 8 rfl 10 (off := 5) (by decide +kernel) rfl (fun g1 => ?_) (fun g1 => ?_)
  · refine q_aload_n 0 0 11 rfl (by decide +kernel) rfl ?_
    refine q_dup 12 rfl (by decide +kernel) rfl ?_
    refine q_geti (f := 3) 15 rfl (by decide +kernel) (cC_Des D tc x0 y ad) h0.1 (by decide) rfl tw_2_87 ?_
    refine q_iconst 1 (c := 1) 16 rfl (by decide +kernel) rfl ?_
    refine q_iadd 17 rfl (by decide +kernel) ?_
    refine q_puti (f := 3) 20 rfl (by decide +kernel) (cC_Des D tc x0 y ad) h0.1 (by decide) rfl rfl rfl tw_2_87 ?_
    refine q_letI (fun I1 => ?_)
    refine q_iconst 1 (c := 1) 21 rfl (by decide +kernel) rfl ?_
    exact q_zret (w := 1) (by decide +kernel) rfl rfl rfl (Nat.le_of_ble_eq_true rfl) (Nat.le_of_ble_eq_true rfl)
  · refine q_iconst 0 (c := 0) 9 rfl (by decide +kernel) rfl ?_
    exact q_zret (w := 0) (by decide +kernel) rfl rfl rfl (Nat.le_of_ble_eq_true rfl) (Nat.le_of_ble_eq_true rfl)
def f_Des_readTime (I : q_I) (a0 : Nat) : Option (Int32 × q_I) :=
  q_b2 (f_Des_readNumber I a0) (fun v1 I1 => q_l (q_ui I1 (a0 + 3) 1 v1) (fun I2 => if (I2 (a0 + 3) 1) < 0 then (some (0, I2)) else (q_b2 (f_Des_skip I2 a0 43) (fun v2 I3 => if v2 = 0 then (some (0, I3)) else (q_b2 (f_Des_readNumber I3 a0) (fun v3 I4 => q_l (q_ui I4 (a0 + 3) 2 v3) (fun I5 => if (I5 (a0 + 3) 2) < 0 then (some (0, I5)) else (some (1, I5)))))))))
def y_Des_readTime : MethodName := ⟨"CalendarReplicas$Description", "readTime", "()Z"⟩
def m_Des_readTime : q_M := (prog_3_method_3_code, 1, "CalendarReplicas$Description", { frames := 12, cells := 0, slots := 0, locals := 886 }, (some FieldType.boolean))
theorem yv_Des_readTime : q_Y y_Des_readTime m_Des_readTime 0 := ⟨rfl, ⟨by decide, by decide⟩, by decide +kernel, tw_3_118, tw_1_10⟩
set_option maxRecDepth 100000 in
set_option maxHeartbeats 4000000 in
theorem c_Des_readTime (l : Launch) (D : va_G) (tc : Nat → ClassId) (x0 y : Nat) (ad : Nat → Nat) (I : q_I) (J : q_J) (P : q_P) {a0 : Nat} (h0 : isDes a0) : q_Ct l (cG D tc x0 y ad) y_Des_readTime m_Des_readTime [q_r (cG D tc x0 y ad) a0] (I, J, P) (f_Des_readTime I a0) (fun r : Int32 × q_I => (some (.int r.1), (r.2, J, P))) := by
  refine q_Ct_of (cIn D tc x0 y ad) (by decide) rfl (Nat.le_of_ble_eq_true rfl) rfl (fun X hX => ?_)
  subst hX
  unfold f_Des_readTime
  refine q_aload_n 0 0 1 rfl (by decide +kernel) rfl ?_
  refine q_getr (f := 1) (a0 + 3) 4 rfl (by decide +kernel) (cC_Des D tc x0 y ad) h0.1 (by decide) rfl rfl tw_2_83 ?_
  refine q_aload_n 0 0 5 rfl (by decide +kernel) rfl ?_
  refine q_callV_iI 8 rfl (av := []) (o := a0) (st := [q_r (cG D tc x0 y ad) (a0 + 3)]) (c_Des_readNumber X.1 D tc x0 y ad I J P h0) yv_Des_readNumber tw_3_119 tw_3_121 sw_7 (cC_Des D tc x0 y ad) h0.1 rfl (Nat.le_of_ble_eq_true rfl) (by decide +kernel) ⟨Nat.le_of_ble_eq_true rfl, Nat.le_of_ble_eq_true rfl⟩ ⟨Nat.le_of_ble_eq_true rfl, Nat.le_of_ble_eq_true rfl⟩ rfl rfl (fun v1 I1 => ?_)
  refine q_puti (f := 1) 11 rfl (by decide +kernel) (cC_Me D tc x0 y ad) h0.2.2 (by decide) rfl rfl rfl tw_1_99 ?_
  refine q_letI (fun I2 => ?_)
  refine q_aload_n 0 0 12 rfl (by decide +kernel) rfl ?_
  refine q_getr (f := 1) (a0 + 3) 15 rfl (by decide +kernel) (cC_Des D tc x0 y ad) h0.1 (by decide) rfl rfl tw_2_83 ?_
  refine q_geti (f := 1) 18 rfl (by decide +kernel) (cC_Me D tc x0 y ad) h0.2.2 (by decide) rfl tw_1_99 ?_
  refine q_if_lt 21 rfl 30 (off := 12) (by decide +kernel) rfl (fun g3 => ?_) (fun g3 => ?_)
  · refine q_iconst 0 (c := 0) 31 rfl (by decide +kernel) rfl ?_
    exact q_zret (w := 0) (by decide +kernel) rfl rfl rfl (Nat.le_of_ble_eq_true rfl) (Nat.le_of_ble_eq_true rfl)
  · refine q_aload_n 0 0 22 rfl (by decide +kernel) rfl ?_
    refine q_bipush 43 (c := 43) 24 rfl (by decide +kernel) rfl ?_
    refine q_callV_iI 27 rfl (av := [.int 43]) (o := a0) (st := []) (c_Des_skip X.1 D tc x0 y ad I2 J P h0 43) yv_Des_skip tw_3_167 tw_3_169 sw_10 (cC_Des D tc x0 y ad) h0.1 rfl (Nat.le_of_ble_eq_true rfl) (by decide +kernel) ⟨Nat.le_of_ble_eq_true rfl, Nat.le_of_ble_eq_true rfl⟩ ⟨Nat.le_of_ble_eq_true rfl, Nat.le_of_ble_eq_true rfl⟩ rfl rfl (fun v2 I3 => ?_)
    refine q_if_ne 30 rfl 32 (off := 5) (by decide +kernel) rfl (fun g2 => ?_) (fun g2 => ?_)
    · refine q_aload_n 0 0 33 rfl (by decide +kernel) rfl ?_
      refine q_getr (f := 1) (a0 + 3) 36 rfl (by decide +kernel) (cC_Des D tc x0 y ad) h0.1 (by decide) rfl rfl tw_2_83 ?_
      refine q_aload_n 0 0 37 rfl (by decide +kernel) rfl ?_
      refine q_callV_iI 40 rfl (av := []) (o := a0) (st := [q_r (cG D tc x0 y ad) (a0 + 3)]) (c_Des_readNumber X.1 D tc x0 y ad I3 J P h0) yv_Des_readNumber tw_3_119 tw_3_121 sw_7 (cC_Des D tc x0 y ad) h0.1 rfl (Nat.le_of_ble_eq_true rfl) (by decide +kernel) ⟨Nat.le_of_ble_eq_true rfl, Nat.le_of_ble_eq_true rfl⟩ ⟨Nat.le_of_ble_eq_true rfl, Nat.le_of_ble_eq_true rfl⟩ rfl rfl (fun v3 I4 => ?_)
      refine q_puti (f := 2) 43 rfl (by decide +kernel) (cC_Me D tc x0 y ad) h0.2.2 (by decide) rfl rfl rfl tw_1_107 ?_
      refine q_letI (fun I5 => ?_)
      refine q_aload_n 0 0 44 rfl (by decide +kernel) rfl ?_
      refine q_getr (f := 1) (a0 + 3) 47 rfl (by decide +kernel) (cC_Des D tc x0 y ad) h0.1 (by decide) rfl rfl tw_2_83 ?_
      refine q_geti (f := 2) 50 rfl (by decide +kernel) (cC_Me D tc x0 y ad) h0.2.2 (by decide) rfl tw_1_107 ?_
      refine q_if_lt 53 rfl 57 (off := 7) (by decide +kernel) rfl (fun g1 => ?_) (fun g1 => ?_)
      · refine q_iconst 0 (c := 0) 58 rfl (by decide +kernel) rfl ?_
        exact q_zret (w := 0) (by decide +kernel) rfl rfl rfl (Nat.le_of_ble_eq_true rfl) (Nat.le_of_ble_eq_true rfl)
      · refine q_iconst 1 (c := 1) 54 rfl (by decide +kernel) rfl ?_
        refine q_goto (off := 4) 58 (by decide +kernel) rfl ?_
        exact q_zret (w := 1) (by decide +kernel) rfl rfl rfl (Nat.le_of_ble_eq_true rfl) (Nat.le_of_ble_eq_true rfl)
    · refine q_iconst 0 (c := 0) 31 rfl (by decide +kernel) rfl ?_
      exact q_zret (w := 0) (by decide +kernel) rfl rfl rfl (Nat.le_of_ble_eq_true rfl) (Nat.le_of_ble_eq_true rfl)
def f_Des_isAtEnd (I : q_I) (a0 : Nat) : Option (Int32) :=
  q_b1 (f_SB_length I (a0 + 1)) (fun v1 => if (I a0 3) < v1 then (some (0)) else (some (1)))
def y_Des_isAtEnd : MethodName := ⟨"CalendarReplicas$Description", "isAtEnd", "()Z"⟩
def m_Des_isAtEnd : q_M := (prog_3_method_11_code, 1, "CalendarReplicas$Description", { frames := 9, cells := 0, slots := 0, locals := 820 }, (some FieldType.boolean))
theorem yv_Des_isAtEnd : q_Y y_Des_isAtEnd m_Des_isAtEnd 0 := ⟨rfl, ⟨by decide, by decide⟩, by decide +kernel, tw_3_178, tw_1_10⟩
set_option maxRecDepth 100000 in
set_option maxHeartbeats 4000000 in
theorem c_Des_isAtEnd (l : Launch) (D : va_G) (tc : Nat → ClassId) (x0 y : Nat) (ad : Nat → Nat) (I : q_I) (J : q_J) (P : q_P) {a0 : Nat} (h0 : isDes a0) : q_Ct l (cG D tc x0 y ad) y_Des_isAtEnd m_Des_isAtEnd [q_r (cG D tc x0 y ad) a0] (I, J, P) (f_Des_isAtEnd I a0) (fun r : Int32 => (some (.int r), (I, J, P))) := by
  refine q_Ct_of (cIn D tc x0 y ad) (by decide) rfl (Nat.le_of_ble_eq_true rfl) rfl (fun X hX => ?_)
  subst hX
  unfold f_Des_isAtEnd
  refine q_aload_n 0 0 1 rfl (by decide +kernel) rfl ?_
  refine q_geti (f := 3) 4 rfl (by decide +kernel) (cC_Des D tc x0 y ad) h0.1 (by decide) rfl tw_2_87 ?_
  refine q_aload_n 0 0 5 rfl (by decide +kernel) rfl ?_
  refine q_getr (f := 0) (a0 + 1) 8 rfl (by decide +kernel) (cC_Des D tc x0 y ad) h0.1 (by decide) rfl rfl tw_2_81 ?_
  refine q_callB_i 11 rfl (av := []) (o := (a0 + 1)) (st := [.int (I a0 3)]) (c_SB_length X.1 D tc x0 y ad I J P h0.2.1 ) yv_SB_length tw_3_131 tw_3_132 tw_3_133 (cC_SB D tc x0 y ad).1 h0.2.1.1 rfl (Nat.le_of_ble_eq_true rfl) (by decide +kernel) ⟨Nat.le_of_ble_eq_true rfl, Nat.le_of_ble_eq_true rfl⟩ ⟨Nat.le_of_ble_eq_true rfl, Nat.le_of_ble_eq_true rfl⟩ (k' := 0) (n' := 0) rfl rfl (fun v1 => ?_)
  refine q_icmp_lt 14 rfl 18 (off := 7) (by decide +kernel) rfl (fun g1 => ?_) (fun g1 => ?_)
  · refine q_iconst 0 (c := 0) 19 rfl (by decide +kernel) rfl ?_
    exact q_zret (w := 0) (by decide +kernel) rfl rfl rfl (Nat.le_of_ble_eq_true rfl) (Nat.le_of_ble_eq_true rfl)
  · refine q_iconst 1 (c := 1) 15 rfl (by decide +kernel) rfl ?_
    refine q_goto (off := 4) 19 (by decide +kernel) rfl ?_
    exact q_zret (w := 1) (by decide +kernel) rfl rfl rfl (Nat.le_of_ble_eq_true rfl) (Nat.le_of_ble_eq_true rfl)
def f_Des_readPersons_L1 (a0 : Nat) : Nat → Int32 → Int32 → q_I → Option (Int32 × q_I)
  | 0, _, _, _ => none
  | n + 1, x1, x2, I1 => if (6 : Int32) ≤ x2 then (some (x1, I1)) else (q_b2 (f_Des_readDigit I1 a0 x2 x2) (fun v1 I2 => if v1 < 0 then ((f_Des_readPersons_L1 a0 n x1 (x2 + 1) I2)) else (q_l (x1 ||| ((1 : Int32) <<< (x2 &&& 31)) : Int32) (fun x3 => (f_Des_readPersons_L1 a0 n x3 (x2 + 1) I2)))))
def f_Des_readPersons (I : q_I) (a0 : Nat) : Option (Int32 × q_I) :=
  f_Des_readPersons_L1 a0 q_fu 0 0 I
def y_Des_readPersons : MethodName := ⟨"CalendarReplicas$Description", "readPersons", "()I"⟩
def m_Des_readPersons : q_M := (prog_3_method_6_code, 3, "CalendarReplicas$Description", { frames := 11, cells := 0, slots := 0, locals := 864 }, (some FieldType.int))
theorem yv_Des_readPersons : q_Y y_Des_readPersons m_Des_readPersons 0 := ⟨rfl, ⟨by decide, by decide⟩, by decide +kernel, tw_4_7, tw_1_10⟩
set_option maxRecDepth 100000 in
set_option maxHeartbeats 4000000 in
theorem c_Des_readPersons (l : Launch) (D : va_G) (tc : Nat → ClassId) (x0 y : Nat) (ad : Nat → Nat) (I : q_I) (J : q_J) (P : q_P) {a0 : Nat} (h0 : isDes a0) : q_Ct l (cG D tc x0 y ad) y_Des_readPersons m_Des_readPersons [q_r (cG D tc x0 y ad) a0] (I, J, P) (f_Des_readPersons I a0) (fun r : Int32 × q_I => (some (.int r.1), (r.2, J, P))) := by
  refine q_Ct_of (cIn D tc x0 y ad) (by decide) rfl (Nat.le_of_ble_eq_true rfl) rfl (fun X hX => ?_)
  subst hX
  unfold f_Des_readPersons
  refine q_iconst 0 (c := 0) 1 rfl (by decide +kernel) rfl ?_
  refine q_istore_n 1 1 2 rfl [(1, .int 0), (0, q_r (cG D tc x0 y ad) a0)] (by decide +kernel) rfl (Nat.le_of_ble_eq_true rfl) rfl ?_
  refine q_iconst 0 (c := 0) 3 rfl (by decide +kernel) rfl ?_
  refine q_istore_n 2 2 4 rfl [(2, .int 0), (1, .int 0), (0, q_r (cG D tc x0 y ad) a0)] (by decide +kernel) rfl (Nat.le_of_ble_eq_true rfl) rfl ?_
  have hL1 : ∀ (n1_ : Nat) (x1 : Int32) (x2 : Int32) (I1 : q_I), q_V (cG D tc x0 y ad) m_Des_readPersons X (fun r : Int32 × q_I => (some (.int r.1), (r.2, J, P))) 0 0 4 [(0, q_r (cG D tc x0 y ad) a0), (1, .int x1), (2, .int x2)] [] I1 J P (f_Des_readPersons_L1 a0 n1_ x1 x2 I1) := by
    intro n1_
    induction n1_ with
    | zero => intro x1 x2 I1; exact q_none
    | succ n1_ ih1 =>
      intro x1 x2 I1
      rw [f_Des_readPersons_L1]
      refine q_iload_n 2 2 5 rfl (by decide +kernel) rfl ?_
      refine q_bipush 6 (c := 6) 7 rfl (by decide +kernel) rfl ?_
      refine q_icmp_ge 10 rfl 31 (off := 24) (by decide +kernel) rfl (fun g2 => ?_) (fun g2 => ?_)
      · refine q_iload_n 1 1 32 rfl (by decide +kernel) rfl ?_
        exact q_iret (by decide +kernel) rfl rfl (Nat.le_of_ble_eq_true rfl) (Nat.le_of_ble_eq_true rfl)
      · refine q_aload_n 0 0 11 rfl (by decide +kernel) rfl ?_
        refine q_iload_n 2 2 12 rfl (by decide +kernel) rfl ?_
        refine q_iload_n 2 2 13 rfl (by decide +kernel) rfl ?_
        refine q_callV_iI 16 rfl (av := [.int x2, .int x2]) (o := a0) (st := []) (c_Des_readDigit X.1 D tc x0 y ad I1 J P h0 x2 x2) yv_Des_readDigit tw_3_123 tw_3_125 sw_8 (cC_Des D tc x0 y ad) h0.1 rfl (Nat.le_of_ble_eq_true rfl) (by decide +kernel) ⟨Nat.le_of_ble_eq_true rfl, Nat.le_of_ble_eq_true rfl⟩ ⟨Nat.le_of_ble_eq_true rfl, Nat.le_of_ble_eq_true rfl⟩ rfl rfl (fun v1 I2 => ?_)
        refine q_if_lt 19 rfl 25 (off := 9) (by decide +kernel) rfl (fun g1 => ?_) (fun g1 => ?_)
        · refine q_iinc (x2 + 1) (c := 1) 2 2 28 rfl [(2, .int (x2 + 1)), (0, q_r (cG D tc x0 y ad) a0), (1, .int x1)] (by decide +kernel) rfl rfl (Nat.le_of_ble_eq_true rfl) rfl ?_
          refine q_goto (off := -24) 4 (by decide +kernel) rfl ?_
          refine q_sub [1, 2, 0] rfl ?_
          exact ih1 x1 (x2 + 1) I2
        · refine q_iload_n 1 1 20 rfl (by decide +kernel) rfl ?_
          refine q_iconst 1 (c := 1) 21 rfl (by decide +kernel) rfl ?_
          refine q_iload_n 2 2 22 rfl (by decide +kernel) rfl ?_
          refine q_ishl 23 rfl (by decide +kernel) ?_
          refine q_ior 24 rfl (by decide +kernel) ?_
          refine q_leti (fun x3 => ?_)
          refine q_istore_n 1 1 25 rfl [(1, .int x3), (0, q_r (cG D tc x0 y ad) a0), (2, .int x2)] (by decide +kernel) rfl (Nat.le_of_ble_eq_true rfl) rfl ?_
          refine q_iinc (x2 + 1) (c := 1) 2 2 28 rfl [(2, .int (x2 + 1)), (1, .int x3), (0, q_r (cG D tc x0 y ad) a0)] (by decide +kernel) rfl rfl (Nat.le_of_ble_eq_true rfl) rfl ?_
          refine q_goto (off := -24) 4 (by decide +kernel) rfl ?_
          refine q_sub [2, 1, 0] rfl ?_
          exact ih1 x3 (x2 + 1) I2
  refine q_sub [2, 1, 0] rfl ?_
  exact hL1 _ _ _ _
def f_Des_readPeriod (I : q_I) (a0 : Nat) : Option (Int32 × q_I) :=
  q_b2 (f_Des_readNumber I a0) (fun v1 I1 => q_l (q_ui I1 (a0 + 3) 5 v1) (fun I2 => if (I2 (a0 + 3) 5) < 0 then (some (0, I2)) else (q_b2 (f_Des_skip I2 a0 120) (fun v2 I3 => if v2 = 0 then (some (0, I3)) else (q_b2 (f_Des_readDigit I3 a0 1 4) (fun v3 I4 => q_l (q_ui I4 (a0 + 3) 6 v3) (fun I5 => if (I5 (a0 + 3) 6) < 0 then (some (0, I5)) else (some (1, I5)))))))))
def y_Des_readPeriod : MethodName := ⟨"CalendarReplicas$Description", "readPeriod", "()Z"⟩
def m_Des_readPeriod : q_M := (prog_3_method_7_code, 1, "CalendarReplicas$Description", { frames := 12, cells := 0, slots := 0, locals := 886 }, (some FieldType.boolean))
theorem yv_Des_readPeriod : q_Y y_Des_readPeriod m_Des_readPeriod 0 := ⟨rfl, ⟨by decide, by decide⟩, by decide +kernel, tw_4_11, tw_1_10⟩
set_option maxRecDepth 100000 in
set_option maxHeartbeats 4000000 in
theorem c_Des_readPeriod (l : Launch) (D : va_G) (tc : Nat → ClassId) (x0 y : Nat) (ad : Nat → Nat) (I : q_I) (J : q_J) (P : q_P) {a0 : Nat} (h0 : isDes a0) : q_Ct l (cG D tc x0 y ad) y_Des_readPeriod m_Des_readPeriod [q_r (cG D tc x0 y ad) a0] (I, J, P) (f_Des_readPeriod I a0) (fun r : Int32 × q_I => (some (.int r.1), (r.2, J, P))) := by
  refine q_Ct_of (cIn D tc x0 y ad) (by decide) rfl (Nat.le_of_ble_eq_true rfl) rfl (fun X hX => ?_)
  subst hX
  unfold f_Des_readPeriod
  refine q_aload_n 0 0 1 rfl (by decide +kernel) rfl ?_
  refine q_getr (f := 1) (a0 + 3) 4 rfl (by decide +kernel) (cC_Des D tc x0 y ad) h0.1 (by decide) rfl rfl tw_2_83 ?_
  refine q_aload_n 0 0 5 rfl (by decide +kernel) rfl ?_
  refine q_callV_iI 8 rfl (av := []) (o := a0) (st := [q_r (cG D tc x0 y ad) (a0 + 3)]) (c_Des_readNumber X.1 D tc x0 y ad I J P h0) yv_Des_readNumber tw_3_119 tw_3_121 sw_7 (cC_Des D tc x0 y ad) h0.1 rfl (Nat.le_of_ble_eq_true rfl) (by decide +kernel) ⟨Nat.le_of_ble_eq_true rfl, Nat.le_of_ble_eq_true rfl⟩ ⟨Nat.le_of_ble_eq_true rfl, Nat.le_of_ble_eq_true rfl⟩ rfl rfl (fun v1 I1 => ?_)
  refine q_puti (f := 5) 11 rfl (by decide +kernel) (cC_Me D tc x0 y ad) h0.2.2 (by decide) rfl rfl rfl tw_1_124 ?_
  refine q_letI (fun I2 => ?_)
  refine q_aload_n 0 0 12 rfl (by decide +kernel) rfl ?_
  refine q_getr (f := 1) (a0 + 3) 15 rfl (by decide +kernel) (cC_Des D tc x0 y ad) h0.1 (by decide) rfl rfl tw_2_83 ?_
  refine q_geti (f := 5) 18 rfl (by decide +kernel) (cC_Me D tc x0 y ad) h0.2.2 (by decide) rfl tw_1_124 ?_
  refine q_if_lt 21 rfl 30 (off := 12) (by decide +kernel) rfl (fun g3 => ?_) (fun g3 => ?_)
  · refine q_iconst 0 (c := 0) 31 rfl (by decide +kernel) rfl ?_
    exact q_zret (w := 0) (by decide +kernel) rfl rfl rfl (Nat.le_of_ble_eq_true rfl) (Nat.le_of_ble_eq_true rfl)
  · refine q_aload_n 0 0 22 rfl (by decide +kernel) rfl ?_
    refine q_bipush 120 (c := 120) 24 rfl (by decide +kernel) rfl ?_
    refine q_callV_iI 27 rfl (av := [.int 120]) (o := a0) (st := []) (c_Des_skip X.1 D tc x0 y ad I2 J P h0 120) yv_Des_skip tw_3_167 tw_3_169 sw_10 (cC_Des D tc x0 y ad) h0.1 rfl (Nat.le_of_ble_eq_true rfl) (by decide +kernel) ⟨Nat.le_of_ble_eq_true rfl, Nat.le_of_ble_eq_true rfl⟩ ⟨Nat.le_of_ble_eq_true rfl, Nat.le_of_ble_eq_true rfl⟩ rfl rfl (fun v2 I3 => ?_)
    refine q_if_ne 30 rfl 32 (off := 5) (by decide +kernel) rfl (fun g2 => ?_) (fun g2 => ?_)
    · refine q_aload_n 0 0 33 rfl (by decide +kernel) rfl ?_
      refine q_getr (f := 1) (a0 + 3) 36 rfl (by decide +kernel) (cC_Des D tc x0 y ad) h0.1 (by decide) rfl rfl tw_2_83 ?_
      refine q_aload_n 0 0 37 rfl (by decide +kernel) rfl ?_
      refine q_iconst 1 (c := 1) 38 rfl (by decide +kernel) rfl ?_
      refine q_iconst 4 (c := 4) 39 rfl (by decide +kernel) rfl ?_
      refine q_callV_iI 42 rfl (av := [.int 1, .int 4]) (o := a0) (st := [q_r (cG D tc x0 y ad) (a0 + 3)]) (c_Des_readDigit X.1 D tc x0 y ad I3 J P h0 1 4) yv_Des_readDigit tw_3_123 tw_3_125 sw_8 (cC_Des D tc x0 y ad) h0.1 rfl (Nat.le_of_ble_eq_true rfl) (by decide +kernel) ⟨Nat.le_of_ble_eq_true rfl, Nat.le_of_ble_eq_true rfl⟩ ⟨Nat.le_of_ble_eq_true rfl, Nat.le_of_ble_eq_true rfl⟩ rfl rfl (fun v3 I4 => ?_)
      refine q_puti (f := 6) 45 rfl (by decide +kernel) (cC_Me D tc x0 y ad) h0.2.2 (by decide) rfl rfl rfl tw_1_129 ?_
      refine q_letI (fun I5 => ?_)
      refine q_aload_n 0 0 46 rfl (by decide +kernel) rfl ?_
      refine q_getr (f := 1) (a0 + 3) 49 rfl (by decide +kernel) (cC_Des D tc x0 y ad) h0.1 (by decide) rfl rfl tw_2_83 ?_
      refine q_geti (f := 6) 52 rfl (by decide +kernel) (cC_Me D tc x0 y ad) h0.2.2 (by decide) rfl tw_1_129 ?_
      refine q_if_lt 55 rfl 59 (off := 7) (by decide +kernel) rfl (fun g1 => ?_) (fun g1 => ?_)
      · refine q_iconst 0 (c := 0) 60 rfl (by decide +kernel) rfl ?_
        exact q_zret (w := 0) (by decide +kernel) rfl rfl rfl (Nat.le_of_ble_eq_true rfl) (Nat.le_of_ble_eq_true rfl)
      · refine q_iconst 1 (c := 1) 56 rfl (by decide +kernel) rfl ?_
        refine q_goto (off := 4) 60 (by decide +kernel) rfl ?_
        exact q_zret (w := 1) (by decide +kernel) rfl rfl rfl (Nat.le_of_ble_eq_true rfl) (Nat.le_of_ble_eq_true rfl)
    · refine q_iconst 0 (c := 0) 31 rfl (by decide +kernel) rfl ?_
      exact q_zret (w := 0) (by decide +kernel) rfl rfl rfl (Nat.le_of_ble_eq_true rfl) (Nat.le_of_ble_eq_true rfl)
def f_Des_readOption (I : q_I) (a0 : Nat) : Option (Int32 × q_I) :=
  q_b1 (f_Des_peek I a0) (fun v1 => q_b1 (f_JS_indexOf v1) (fun v2 => if v2 < 0 then (some (0, I)) else (q_b1 (f_CR_contains (I a0 4) v2) (fun v3 => if v3 = 0 then (some (0, I)) else (q_l (q_ui I a0 4 ((I a0 4) &&& (((1 : Int32) <<< (v2 &&& 31)) ^^^ (-1)))) (fun I1 => q_l (q_ui I1 a0 3 ((I1 a0 3) + 1)) (fun I2 => if v2 = 0 then (q_b2 (f_Des_readDigit I2 a0 0 3) (fun v4 I3 => q_l (q_ui I3 (a0 + 3) 3 v4) (fun I4 => if (I4 (a0 + 3) 3) < 0 then (some (0, I4)) else (some (1, I4))))) else (if v2 = 1 then (q_b2 (f_Des_readPersons I2 a0) (fun v5 I5 => q_l (q_ui I5 (a0 + 3) 4 v5) (fun I6 => if (I6 (a0 + 3) 4) = 0 then (some (0, I6)) else (some (1, I6))))) else (if v2 = 2 then (q_b2 (f_Des_readDigit I2 a0 1 9) (fun v6 I7 => q_l (q_ui I7 a0 2 v6) (fun I8 => if (I8 a0 2) < 0 then (some (0, I8)) else (some (1, I8))))) else (q_b2 (f_Des_readPeriod I2 a0) (fun v7 I9 => some ((v7 &&& 1), I9))))))))))))
def y_Des_readOption : MethodName := ⟨"CalendarReplicas$Description", "readOption", "()Z"⟩
def m_Des_readOption : q_M := (prog_3_method_5_code, 2, "CalendarReplicas$Description", { frames := 13, cells := 0, slots := 0, locals := 906 }, (some FieldType.boolean))
theorem yv_Des_readOption : q_Y y_Des_readOption m_Des_readOption 0 := ⟨rfl, ⟨by decide, by decide⟩, by decide +kernel, tw_3_182, tw_1_10⟩
set_option maxRecDepth 100000 in
set_option maxHeartbeats 4000000 in
theorem c_Des_readOption (l : Launch) (D : va_G) (tc : Nat → ClassId) (x0 y : Nat) (ad : Nat → Nat) (I : q_I) (J : q_J) (P : q_P) {a0 : Nat} (h0 : isDes a0) : q_Ct l (cG D tc x0 y ad) y_Des_readOption m_Des_readOption [q_r (cG D tc x0 y ad) a0] (I, J, P) (f_Des_readOption I a0) (fun r : Int32 × q_I => (some (.int r.1), (r.2, J, P))) := by
  refine q_Ct_of (cIn D tc x0 y ad) (by decide) rfl (Nat.le_of_ble_eq_true rfl) rfl (fun X hX => ?_)
  subst hX
  unfold f_Des_readOption
  refine q_ldcS (idx := 29) 2 rfl (by decide +kernel) cSp_0 ?_
  refine q_aload_n 0 0 3 rfl (by decide +kernel) rfl ?_
  refine q_callV_i 6 rfl (av := []) (o := a0) (st := [.ref (ad 0)]) (c_Des_peek X.1 D tc x0 y ad I J P h0) yv_Des_peek tw_3_127 tw_3_129 sw_9 (cC_Des D tc x0 y ad) h0.1 rfl (Nat.le_of_ble_eq_true rfl) (by decide +kernel) ⟨Nat.le_of_ble_eq_true rfl, Nat.le_of_ble_eq_true rfl⟩ ⟨Nat.le_of_ble_eq_true rfl, Nat.le_of_ble_eq_true rfl⟩ rfl rfl (fun v1 => ?_)
  refine q_callT_i 9 rfl (av := [.int v1]) (st := []) (ad := ad) 0 cSp_S (by decide) (c_JS_indexOf X.1 D tc x0 y ad I J P v1) yv_JS_indexOf tw_3_183 tw_3_184 tw_3_185 rfl (Nat.le_of_ble_eq_true rfl) (by decide +kernel) ⟨Nat.le_of_ble_eq_true rfl, Nat.le_of_ble_eq_true rfl⟩ ⟨Nat.le_of_ble_eq_true rfl, Nat.le_of_ble_eq_true rfl⟩ rfl rfl (fun v2 => ?_)
  refine q_istore_n 1 1 10 rfl [(1, .int v2), (0, q_r (cG D tc x0 y ad) a0)] (by decide +kernel) rfl (Nat.le_of_ble_eq_true rfl) rfl ?_
  refine q_iload_n 0 1 11 rfl (by decide +kernel) rfl ?_
  refine q_if_lt 14 rfl 25 (off := 14) (by decide +kernel) rfl (fun g8 => ?_) (fun g8 => ?_)
  · refine q_iconst 0 (c := 0) 26 rfl (by decide +kernel) rfl ?_
    exact q_zret (w := 0) (by decide +kernel) rfl rfl rfl (Nat.le_of_ble_eq_true rfl) (Nat.le_of_ble_eq_true rfl)
  · refine q_aload_n 1 0 15 rfl (by decide +kernel) rfl ?_
    refine q_geti (f := 4) 18 rfl (by decide +kernel) (cC_Des D tc x0 y ad) h0.1 (by decide) rfl tw_2_88 ?_
    refine q_iload_n 0 1 19 rfl (by decide +kernel) rfl ?_
    refine q_callN_i 22 rfl (av := [.int (I a0 4), .int v2]) (st := []) (c_CR_contains X.1 D tc x0 y ad I J P (I a0 4) v2) yv_CR_contains tw_4_3 tw_2_181 rfl (Nat.le_of_ble_eq_true rfl) (by decide +kernel) ⟨Nat.le_of_ble_eq_true rfl, Nat.le_of_ble_eq_true rfl⟩ ⟨Nat.le_of_ble_eq_true rfl, Nat.le_of_ble_eq_true rfl⟩ rfl rfl (fun v3 => ?_)
    refine q_if_ne 25 rfl 27 (off := 5) (by decide +kernel) rfl (fun g7 => ?_) (fun g7 => ?_)
    · refine q_aload_n 1 0 28 rfl (by decide +kernel) rfl ?_
      refine q_dup 29 rfl (by decide +kernel) rfl ?_
      refine q_geti (f := 4) 32 rfl (by decide +kernel) (cC_Des D tc x0 y ad) h0.1 (by decide) rfl tw_2_88 ?_
      refine q_iconst 1 (c := 1) 33 rfl (by decide +kernel) rfl ?_
      refine q_iload_n 0 1 34 rfl (by decide +kernel) rfl ?_
      refine q_ishl 35 rfl (by decide +kernel) ?_
      refine q_iconst (-1) (c := -1) 36 rfl (by decide +kernel) rfl ?_
      refine q_ixor 37 rfl (by decide +kernel) ?_
      refine q_iand 38 rfl (by decide +kernel) ?_
      refine q_puti (f := 4) 41 rfl (by decide +kernel) (cC_Des D tc x0 y ad) h0.1 (by decide) rfl rfl rfl tw_2_88 ?_
      refine q_letI (fun I1 => ?_)
      refine q_aload_n 1 0 42 rfl (by decide +kernel) rfl ?_
      refine q_dup 43 rfl (by decide +kernel) rfl ?_
      refine q_geti (f := 3) 46 rfl (by decide +kernel) (cC_Des D tc x0 y ad) h0.1 (by decide) rfl tw_2_87 ?_
      refine q_iconst 1 (c := 1) 47 rfl (by decide +kernel) rfl ?_
      refine q_iadd 48 rfl (by decide +kernel) ?_
      refine q_puti (f := 3) 51 rfl (by decide +kernel) (cC_Des D tc x0 y ad) h0.1 (by decide) rfl rfl rfl tw_2_87 ?_
      refine q_letI (fun I2 => ?_)
      refine q_iload_n 0 1 52 rfl (by decide +kernel) rfl ?_
      refine q_case (fun g2 => ?_) (fun g2 => ?_)
      · refine q_tableInE (dflt := 108) (lo := 0) (hi := 2) (offs := #[28, 57, 84]) (len := 28) (c := 0) (off := 28) g2 80 (by decide +kernel) (by decide) (by decide) rfl (by decide) ?_
        refine q_aload_n 1 0 81 rfl (by decide +kernel) rfl ?_
        refine q_getr (f := 1) (a0 + 3) 84 rfl (by decide +kernel) (cC_Des D tc x0 y ad) h0.1 (by decide) rfl rfl tw_2_83 ?_
        refine q_aload_n 1 0 85 rfl (by decide +kernel) rfl ?_
        refine q_iconst 0 (c := 0) 86 rfl (by decide +kernel) rfl ?_
        refine q_iconst 3 (c := 3) 87 rfl (by decide +kernel) rfl ?_
        refine q_callV_iI 90 rfl (av := [.int 0, .int 3]) (o := a0) (st := [q_r (cG D tc x0 y ad) (a0 + 3)]) (c_Des_readDigit X.1 D tc x0 y ad I2 J P h0 0 3) yv_Des_readDigit tw_3_123 tw_3_125 sw_8 (cC_Des D tc x0 y ad) h0.1 rfl (Nat.le_of_ble_eq_true rfl) (by decide +kernel) ⟨Nat.le_of_ble_eq_true rfl, Nat.le_of_ble_eq_true rfl⟩ ⟨Nat.le_of_ble_eq_true rfl, Nat.le_of_ble_eq_true rfl⟩ rfl rfl (fun v4 I3 => ?_)
        refine q_puti (f := 3) 93 rfl (by decide +kernel) (cC_Me D tc x0 y ad) h0.2.2 (by decide) rfl rfl rfl tw_1_113 ?_
        refine q_letI (fun I4 => ?_)
        refine q_aload_n 1 0 94 rfl (by decide +kernel) rfl ?_
        refine q_getr (f := 1) (a0 + 3) 97 rfl (by decide +kernel) (cC_Des D tc x0 y ad) h0.1 (by decide) rfl rfl tw_2_83 ?_
        refine q_geti (f := 3) 100 rfl (by decide +kernel) (cC_Me D tc x0 y ad) h0.2.2 (by decide) rfl tw_1_113 ?_
        refine q_if_lt 103 rfl 107 (off := 7) (by decide +kernel) rfl (fun g1 => ?_) (fun g1 => ?_)
        · refine q_iconst 0 (c := 0) 108 rfl (by decide +kernel) rfl ?_
          exact q_zret (w := 0) (by decide +kernel) rfl rfl rfl (Nat.le_of_ble_eq_true rfl) (Nat.le_of_ble_eq_true rfl)
        · refine q_iconst 1 (c := 1) 104 rfl (by decide +kernel) rfl ?_
          refine q_goto (off := 4) 108 (by decide +kernel) rfl ?_
          exact q_zret (w := 1) (by decide +kernel) rfl rfl rfl (Nat.le_of_ble_eq_true rfl) (Nat.le_of_ble_eq_true rfl)
      refine q_case (fun g4 => ?_) (fun g4 => ?_)
      · refine q_tableInE (dflt := 108) (lo := 0) (hi := 2) (offs := #[28, 57, 84]) (len := 28) (c := 1) (off := 57) g4 109 (by decide +kernel) (by decide) (by decide) rfl (by decide) ?_
        refine q_aload_n 1 0 110 rfl (by decide +kernel) rfl ?_
        refine q_getr (f := 1) (a0 + 3) 113 rfl (by decide +kernel) (cC_Des D tc x0 y ad) h0.1 (by decide) rfl rfl tw_2_83 ?_
        refine q_aload_n 1 0 114 rfl (by decide +kernel) rfl ?_
        refine q_callV_iI 117 rfl (av := []) (o := a0) (st := [q_r (cG D tc x0 y ad) (a0 + 3)]) (c_Des_readPersons X.1 D tc x0 y ad I2 J P h0) yv_Des_readPersons tw_4_4 tw_4_6 sw_14 (cC_Des D tc x0 y ad) h0.1 rfl (Nat.le_of_ble_eq_true rfl) (by decide +kernel) ⟨Nat.le_of_ble_eq_true rfl, Nat.le_of_ble_eq_true rfl⟩ ⟨Nat.le_of_ble_eq_true rfl, Nat.le_of_ble_eq_true rfl⟩ rfl rfl (fun v5 I5 => ?_)
        refine q_puti (f := 4) 120 rfl (by decide +kernel) (cC_Me D tc x0 y ad) h0.2.2 (by decide) rfl rfl rfl tw_1_118 ?_
        refine q_letI (fun I6 => ?_)
        refine q_aload_n 1 0 121 rfl (by decide +kernel) rfl ?_
        refine q_getr (f := 1) (a0 + 3) 124 rfl (by decide +kernel) (cC_Des D tc x0 y ad) h0.1 (by decide) rfl rfl tw_2_83 ?_
        refine q_geti (f := 4) 127 rfl (by decide +kernel) (cC_Me D tc x0 y ad) h0.2.2 (by decide) rfl tw_1_118 ?_
        refine q_if_eq 130 rfl 134 (off := 7) (by decide +kernel) rfl (fun g3 => ?_) (fun g3 => ?_)
        · refine q_iconst 0 (c := 0) 135 rfl (by decide +kernel) rfl ?_
          exact q_zret (w := 0) (by decide +kernel) rfl rfl rfl (Nat.le_of_ble_eq_true rfl) (Nat.le_of_ble_eq_true rfl)
        · refine q_iconst 1 (c := 1) 131 rfl (by decide +kernel) rfl ?_
          refine q_goto (off := 4) 135 (by decide +kernel) rfl ?_
          exact q_zret (w := 1) (by decide +kernel) rfl rfl rfl (Nat.le_of_ble_eq_true rfl) (Nat.le_of_ble_eq_true rfl)
      refine q_case (fun g6 => ?_) (fun g6 => ?_)
      · refine q_tableInE (dflt := 108) (lo := 0) (hi := 2) (offs := #[28, 57, 84]) (len := 28) (c := 2) (off := 84) g6 136 (by decide +kernel) (by decide) (by decide) rfl (by decide) ?_
        refine q_aload_n 1 0 137 rfl (by decide +kernel) rfl ?_
        refine q_aload_n 1 0 138 rfl (by decide +kernel) rfl ?_
        refine q_iconst 1 (c := 1) 139 rfl (by decide +kernel) rfl ?_
        refine q_bipush 9 (c := 9) 141 rfl (by decide +kernel) rfl ?_
        refine q_callV_iI 144 rfl (av := [.int 1, .int 9]) (o := a0) (st := [q_r (cG D tc x0 y ad) a0]) (c_Des_readDigit X.1 D tc x0 y ad I2 J P h0 1 9) yv_Des_readDigit tw_3_123 tw_3_125 sw_8 (cC_Des D tc x0 y ad) h0.1 rfl (Nat.le_of_ble_eq_true rfl) (by decide +kernel) ⟨Nat.le_of_ble_eq_true rfl, Nat.le_of_ble_eq_true rfl⟩ ⟨Nat.le_of_ble_eq_true rfl, Nat.le_of_ble_eq_true rfl⟩ rfl rfl (fun v6 I7 => ?_)
        refine q_puti (f := 2) 147 rfl (by decide +kernel) (cC_Des D tc x0 y ad) h0.1 (by decide) rfl rfl rfl tw_2_85 ?_
        refine q_letI (fun I8 => ?_)
        refine q_aload_n 1 0 148 rfl (by decide +kernel) rfl ?_
        refine q_geti (f := 2) 151 rfl (by decide +kernel) (cC_Des D tc x0 y ad) h0.1 (by decide) rfl tw_2_85 ?_
        refine q_if_lt 154 rfl 158 (off := 7) (by decide +kernel) rfl (fun g5 => ?_) (fun g5 => ?_)
        · refine q_iconst 0 (c := 0) 159 rfl (by decide +kernel) rfl ?_
          exact q_zret (w := 0) (by decide +kernel) rfl rfl rfl (Nat.le_of_ble_eq_true rfl) (Nat.le_of_ble_eq_true rfl)
        · refine q_iconst 1 (c := 1) 155 rfl (by decide +kernel) rfl ?_
          refine q_goto (off := 4) 159 (by decide +kernel) rfl ?_
          exact q_zret (w := 1) (by decide +kernel) rfl rfl rfl (Nat.le_of_ble_eq_true rfl) (Nat.le_of_ble_eq_true rfl)
      have eg2 := q_neI (z := 0) (by decide) g2
      have eg4 := q_neI (z := 1) (by decide) g4
      have eg6 := q_neI (z := 2) (by decide) g6
      refine q_tableOut (dflt := 108) (lo := 0) (hi := 2) (offs := #[28, 57, 84]) (len := 28) 160 (by decide +kernel) (by omega) (by decide) ?_
      refine q_aload_n 1 0 161 rfl (by decide +kernel) rfl ?_
      refine q_callV_iI 164 rfl (av := []) (o := a0) (st := []) (c_Des_readPeriod X.1 D tc x0 y ad I2 J P h0) yv_Des_readPeriod tw_4_8 tw_4_10 sw_15 (cC_Des D tc x0 y ad) h0.1 rfl (Nat.le_of_ble_eq_true rfl) (by decide +kernel) ⟨Nat.le_of_ble_eq_true rfl, Nat.le_of_ble_eq_true rfl⟩ ⟨Nat.le_of_ble_eq_true rfl, Nat.le_of_ble_eq_true rfl⟩ rfl rfl (fun v7 I9 => ?_)
      exact q_zret (w := (v7 &&& 1)) (by decide +kernel) rfl rfl rfl (Nat.le_of_ble_eq_true rfl) (Nat.le_of_ble_eq_true rfl)
    · refine q_iconst 0 (c := 0) 26 rfl (by decide +kernel) rfl ?_
      exact q_zret (w := 0) (by decide +kernel) rfl rfl rfl (Nat.le_of_ble_eq_true rfl) (Nat.le_of_ble_eq_true rfl)
def f_Des_readOptions_L1 (a0 : Nat) (K : q_I → Option (Int32 × q_I)) : Nat → Int32 → q_I → Option (Int32 × q_I)
  | 0, _, _ => none
  | n + 1, x1, I1 => q_b1 (f_JS_length) (fun v1 => if v1 ≤ x1 then ((K I1)) else (q_b1 (f_Des_isAtEnd I1 a0) (fun v2 => if v2 = 0 then (q_b2 (f_Des_skip I1 a0 32) (fun v3 I2 => if v3 = 0 then (some (0, I2)) else (q_b2 (f_Des_readOption I2 a0) (fun v4 I3 => if v4 = 0 then (some (0, I3)) else ((f_Des_readOptions_L1 a0 K n (x1 + 1) I3)))))) else ((K I1)))))
def f_Des_readOptions (I : q_I) (a0 : Nat) : Option (Int32 × q_I) :=
  f_Des_readOptions_L1 a0 (fun (I4 : q_I) => q_b1 (f_Des_isAtEnd I4 a0) (fun v5 => some ((v5 &&& 1), I4))) q_fu 0 I
def y_Des_readOptions : MethodName := ⟨"CalendarReplicas$Description", "readOptions", "()Z"⟩
def m_Des_readOptions : q_M := (prog_3_method_4_code, 2, "CalendarReplicas$Description", { frames := 14, cells := 0, slots := 0, locals := 927 }, (some FieldType.boolean))
theorem yv_Des_readOptions : q_Y y_Des_readOptions m_Des_readOptions 0 := ⟨rfl, ⟨by decide, by decide⟩, by decide +kernel, tw_3_174, tw_1_10⟩
set_option maxRecDepth 100000 in
set_option maxHeartbeats 4000000 in
theorem c_Des_readOptions (l : Launch) (D : va_G) (tc : Nat → ClassId) (x0 y : Nat) (ad : Nat → Nat) (I : q_I) (J : q_J) (P : q_P) {a0 : Nat} (h0 : isDes a0) : q_Ct l (cG D tc x0 y ad) y_Des_readOptions m_Des_readOptions [q_r (cG D tc x0 y ad) a0] (I, J, P) (f_Des_readOptions I a0) (fun r : Int32 × q_I => (some (.int r.1), (r.2, J, P))) := by
  refine q_Ct_of (cIn D tc x0 y ad) (by decide) rfl (Nat.le_of_ble_eq_true rfl) rfl (fun X hX => ?_)
  subst hX
  unfold f_Des_readOptions
  refine q_iconst 0 (c := 0) 1 rfl (by decide +kernel) rfl ?_
  refine q_istore_n 1 1 2 rfl [(1, .int 0), (0, q_r (cG D tc x0 y ad) a0)] (by decide +kernel) rfl (Nat.le_of_ble_eq_true rfl) rfl ?_
  have hL1 : ∀ (K1 : q_I → Option (Int32 × q_I)) (hK1 : ∀ (I4 : q_I), q_V (cG D tc x0 y ad) m_Des_readOptions X (fun r : Int32 × q_I => (some (.int r.1), (r.2, J, P))) 0 0 42 [(0, q_r (cG D tc x0 y ad) a0)] [] I4 J P (K1 I4)) (n1_ : Nat) (x1 : Int32) (I1 : q_I), q_V (cG D tc x0 y ad) m_Des_readOptions X (fun r : Int32 × q_I => (some (.int r.1), (r.2, J, P))) 0 0 2 [(0, q_r (cG D tc x0 y ad) a0), (1, .int x1)] [] I1 J P (f_Des_readOptions_L1 a0 K1 n1_ x1 I1) := by
    intro K1 hK1 n1_
    induction n1_ with
    | zero => intro x1 I1; exact q_none
    | succ n1_ ih1 =>
      intro x1 I1
      rw [f_Des_readOptions_L1]
      refine q_iload_n 1 1 3 rfl (by decide +kernel) rfl ?_
      refine q_ldcS (idx := 29) 5 rfl (by decide +kernel) cSp_0 ?_
      refine q_callT_i 8 rfl (av := []) (st := [.int x1]) (ad := ad) 0 cSp_S (by decide) (c_JS_length X.1 D tc x0 y ad I1 J P ) yv_JS_length tw_3_105 tw_3_106 tw_3_107 rfl (Nat.le_of_ble_eq_true rfl) (by decide +kernel) ⟨Nat.le_of_ble_eq_true rfl, Nat.le_of_ble_eq_true rfl⟩ ⟨Nat.le_of_ble_eq_true rfl, Nat.le_of_ble_eq_true rfl⟩ rfl rfl (fun v1 => ?_)
      refine q_icmp_ge 11 rfl 42 (off := 34) (by decide +kernel) rfl (fun g4 => ?_) (fun g4 => ?_)
      · refine q_sub [0] rfl ?_
        exact hK1 I1
      · refine q_aload_n 0 0 12 rfl (by decide +kernel) rfl ?_
        refine q_callV_i 15 rfl (av := []) (o := a0) (st := []) (c_Des_isAtEnd X.1 D tc x0 y ad I1 J P h0) yv_Des_isAtEnd tw_3_175 tw_3_177 sw_12 (cC_Des D tc x0 y ad) h0.1 rfl (Nat.le_of_ble_eq_true rfl) (by decide +kernel) ⟨Nat.le_of_ble_eq_true rfl, Nat.le_of_ble_eq_true rfl⟩ ⟨Nat.le_of_ble_eq_true rfl, Nat.le_of_ble_eq_true rfl⟩ rfl rfl (fun v2 => ?_)
        refine q_if_ne 18 rfl 42 (off := 27) (by decide +kernel) rfl (fun g3 => ?_) (fun g3 => ?_)
        · refine q_sub [0] rfl ?_
          exact hK1 I1
        · refine q_aload_n 0 0 19 rfl (by decide +kernel) rfl ?_
          refine q_bipush 32 (c := 32) 21 rfl (by decide +kernel) rfl ?_
          refine q_callV_iI 24 rfl (av := [.int 32]) (o := a0) (st := []) (c_Des_skip X.1 D tc x0 y ad I1 J P h0 32) yv_Des_skip tw_3_167 tw_3_169 sw_10 (cC_Des D tc x0 y ad) h0.1 rfl (Nat.le_of_ble_eq_true rfl) (by decide +kernel) ⟨Nat.le_of_ble_eq_true rfl, Nat.le_of_ble_eq_true rfl⟩ ⟨Nat.le_of_ble_eq_true rfl, Nat.le_of_ble_eq_true rfl⟩ rfl rfl (fun v3 I2 => ?_)
          refine q_if_eq 27 rfl 34 (off := 10) (by decide +kernel) rfl (fun g2 => ?_) (fun g2 => ?_)
          · refine q_iconst 0 (c := 0) 35 rfl (by decide +kernel) rfl ?_
            exact q_zret (w := 0) (by decide +kernel) rfl rfl rfl (Nat.le_of_ble_eq_true rfl) (Nat.le_of_ble_eq_true rfl)
          · refine q_aload_n 0 0 28 rfl (by decide +kernel) rfl ?_
            refine q_callV_iI 31 rfl (av := []) (o := a0) (st := []) (c_Des_readOption X.1 D tc x0 y ad I2 J P h0) yv_Des_readOption tw_3_179 tw_3_181 sw_13 (cC_Des D tc x0 y ad) h0.1 rfl (Nat.le_of_ble_eq_true rfl) (by decide +kernel) ⟨Nat.le_of_ble_eq_true rfl, Nat.le_of_ble_eq_true rfl⟩ ⟨Nat.le_of_ble_eq_true rfl, Nat.le_of_ble_eq_true rfl⟩ rfl rfl (fun v4 I3 => ?_)
            refine q_if_ne 34 rfl 36 (off := 5) (by decide +kernel) rfl (fun g1 => ?_) (fun g1 => ?_)
            · refine q_iinc (x1 + 1) (c := 1) 1 1 39 rfl [(1, .int (x1 + 1)), (0, q_r (cG D tc x0 y ad) a0)] (by decide +kernel) rfl rfl (Nat.le_of_ble_eq_true rfl) rfl ?_
              refine q_goto (off := -37) 2 (by decide +kernel) rfl ?_
              refine q_sub [1, 0] rfl ?_
              exact ih1 (x1 + 1) I3
            · refine q_iconst 0 (c := 0) 35 rfl (by decide +kernel) rfl ?_
              exact q_zret (w := 0) (by decide +kernel) rfl rfl rfl (Nat.le_of_ble_eq_true rfl) (Nat.le_of_ble_eq_true rfl)
  refine q_sub [1, 0] rfl ?_
  refine hL1 _ (fun I4 => ?_) _ _ _
  refine q_aload_n 0 0 43 rfl (by decide +kernel) rfl ?_
  refine q_callV_i 46 rfl (av := []) (o := a0) (st := []) (c_Des_isAtEnd X.1 D tc x0 y ad I4 J P h0) yv_Des_isAtEnd tw_3_175 tw_3_177 sw_12 (cC_Des D tc x0 y ad) h0.1 rfl (Nat.le_of_ble_eq_true rfl) (by decide +kernel) ⟨Nat.le_of_ble_eq_true rfl, Nat.le_of_ble_eq_true rfl⟩ ⟨Nat.le_of_ble_eq_true rfl, Nat.le_of_ble_eq_true rfl⟩ rfl rfl (fun v5 => ?_)
  exact q_zret (w := (v5 &&& 1)) (by decide +kernel) rfl rfl rfl (Nat.le_of_ble_eq_true rfl) (Nat.le_of_ble_eq_true rfl)
def f_Des_read (I : q_I) (a0 : Nat) : Option (Int32 × q_I) :=
  q_l (q_ui I a0 3 0) (fun I1 => q_b1 (f_JS_length) (fun v1 => q_l (q_ui I1 a0 4 (((1 : Int32) <<< (v1 &&& 31)) - 1)) (fun I2 => q_b1 (f_Me_fill I2 (a0 + 3) 0 0 0 1 0 1) (fun I3 => q_l (q_ui I3 a0 2 1) (fun I4 => q_b2 (f_Des_readTime I4 a0) (fun v2 I5 => q_jj (fun (I6 : q_I) => some ((I6 a0 3), I6)) (fun (jk1 : q_I → Option (Int32 × q_I)) => if v2 = 0 then ((jk1 I5)) else (q_b2 (f_Des_readOptions I5 a0) (fun v3 I7 => if v3 = 0 then ((jk1 I7)) else (some ((-4), I7)))))))))))
def y_Des_read : MethodName := ⟨"CalendarReplicas$Description", "read", "()I"⟩
def m_Des_read : q_M := (prog_3_method_2_code, 1, "CalendarReplicas$Description", { frames := 15, cells := 0, slots := 0, locals := 948 }, (some FieldType.int))
theorem yv_Des_read : q_Y y_Des_read m_Des_read 0 := ⟨rfl, ⟨by decide, by decide⟩, by decide +kernel, tw_3_103, tw_1_10⟩
set_option maxRecDepth 100000 in
set_option maxHeartbeats 4000000 in
theorem c_Des_read (l : Launch) (D : va_G) (tc : Nat → ClassId) (x0 y : Nat) (ad : Nat → Nat) (I : q_I) (J : q_J) (P : q_P) {a0 : Nat} (h0 : isDes a0) : q_Ct l (cG D tc x0 y ad) y_Des_read m_Des_read [q_r (cG D tc x0 y ad) a0] (I, J, P) (f_Des_read I a0) (fun r : Int32 × q_I => (some (.int r.1), (r.2, J, P))) := by
  refine q_Ct_of (cIn D tc x0 y ad) (by decide) rfl (Nat.le_of_ble_eq_true rfl) rfl (fun X hX => ?_)
  subst hX
  unfold f_Des_read
  refine q_aload_n 0 0 1 rfl (by decide +kernel) rfl ?_
  refine q_iconst 0 (c := 0) 2 rfl (by decide +kernel) rfl ?_
  refine q_puti (f := 3) 5 rfl (by decide +kernel) (cC_Des D tc x0 y ad) h0.1 (by decide) rfl rfl rfl tw_2_87 ?_
  refine q_letI (fun I1 => ?_)
  refine q_aload_n 0 0 6 rfl (by decide +kernel) rfl ?_
  refine q_iconst 1 (c := 1) 7 rfl (by decide +kernel) rfl ?_
  refine q_ldcS (idx := 29) 9 rfl (by decide +kernel) cSp_0 ?_
  refine q_callT_i 12 rfl (av := []) (st := [.int 1, q_r (cG D tc x0 y ad) a0]) (ad := ad) 0 cSp_S (by decide) (c_JS_length X.1 D tc x0 y ad I1 J P ) yv_JS_length tw_3_105 tw_3_106 tw_3_107 rfl (Nat.le_of_ble_eq_true rfl) (by decide +kernel) ⟨Nat.le_of_ble_eq_true rfl, Nat.le_of_ble_eq_true rfl⟩ ⟨Nat.le_of_ble_eq_true rfl, Nat.le_of_ble_eq_true rfl⟩ rfl rfl (fun v1 => ?_)
  refine q_ishl 13 rfl (by decide +kernel) ?_
  refine q_iconst 1 (c := 1) 14 rfl (by decide +kernel) rfl ?_
  refine q_isub 15 rfl (by decide +kernel) ?_
  refine q_puti (f := 4) 18 rfl (by decide +kernel) (cC_Des D tc x0 y ad) h0.1 (by decide) rfl rfl rfl tw_2_88 ?_
  refine q_letI (fun I2 => ?_)
  refine q_aload_n 0 0 19 rfl (by decide +kernel) rfl ?_
  refine q_getr (f := 1) (a0 + 3) 22 rfl (by decide +kernel) (cC_Des D tc x0 y ad) h0.1 (by decide) rfl rfl tw_2_83 ?_
  refine q_iconst 0 (c := 0) 23 rfl (by decide +kernel) rfl ?_
  refine q_iconst 0 (c := 0) 24 rfl (by decide +kernel) rfl ?_
  refine q_iconst 0 (c := 0) 25 rfl (by decide +kernel) rfl ?_
  refine q_iconst 1 (c := 1) 26 rfl (by decide +kernel) rfl ?_
  refine q_iconst 0 (c := 0) 27 rfl (by decide +kernel) rfl ?_
  refine q_iconst 1 (c := 1) 28 rfl (by decide +kernel) rfl ?_
  refine q_callV_vI 31 rfl (av := [.int 0, .int 0, .int 0, .int 1, .int 0, .int 1]) (o := (a0 + 3)) (st := []) (c_Me_fill X.1 D tc x0 y ad I2 J P h0.2.2 0 0 0 1 0 1) yv_Me_fill tw_3_114 tw_3_68 tw_3_69 (cC_Me D tc x0 y ad) h0.2.2 rfl (Nat.le_of_ble_eq_true rfl) (by decide +kernel) ⟨Nat.le_of_ble_eq_true rfl, Nat.le_of_ble_eq_true rfl⟩ ⟨Nat.le_of_ble_eq_true rfl, Nat.le_of_ble_eq_true rfl⟩ rfl rfl (fun I3 => ?_)
  refine q_aload_n 0 0 32 rfl (by decide +kernel) rfl ?_
  refine q_iconst 1 (c := 1) 33 rfl (by decide +kernel) rfl ?_
  refine q_puti (f := 2) 36 rfl (by decide +kernel) (cC_Des D tc x0 y ad) h0.1 (by decide) rfl rfl rfl tw_2_85 ?_
  refine q_letI (fun I4 => ?_)
  refine q_aload_n 0 0 37 rfl (by decide +kernel) rfl ?_
  refine q_callV_iI 40 rfl (av := []) (o := a0) (st := []) (c_Des_readTime X.1 D tc x0 y ad I4 J P h0) yv_Des_readTime tw_3_115 tw_3_117 sw_6 (cC_Des D tc x0 y ad) h0.1 rfl (Nat.le_of_ble_eq_true rfl) (by decide +kernel) ⟨Nat.le_of_ble_eq_true rfl, Nat.le_of_ble_eq_true rfl⟩ ⟨Nat.le_of_ble_eq_true rfl, Nat.le_of_ble_eq_true rfl⟩ rfl rfl (fun v2 I5 => ?_)
  refine q_jj1 55 (fun I6 => [(0, q_r (cG D tc x0 y ad) a0)]) (fun I6 => []) (fun I6 => I6) (fun I6 => J) (fun I6 => P) ?_ ?_
  · intro I6
    refine q_aload_n 0 0 56 rfl (by decide +kernel) rfl ?_
    refine q_geti (f := 3) 59 rfl (by decide +kernel) (cC_Des D tc x0 y ad) h0.1 (by decide) rfl tw_2_87 ?_
    exact q_iret (by decide +kernel) rfl rfl (Nat.le_of_ble_eq_true rfl) (Nat.le_of_ble_eq_true rfl)
  · intro jk1 hq1
    refine q_if_eq 43 rfl 55 (off := 15) (by decide +kernel) rfl (fun g2 => ?_) (fun g2 => ?_)
    · exact hq1 I5
    · refine q_aload_n 0 0 44 rfl (by decide +kernel) rfl ?_
      refine q_callV_iI 47 rfl (av := []) (o := a0) (st := []) (c_Des_readOptions X.1 D tc x0 y ad I5 J P h0) yv_Des_readOptions tw_3_171 tw_3_173 sw_11 (cC_Des D tc x0 y ad) h0.1 rfl (Nat.le_of_ble_eq_true rfl) (by decide +kernel) ⟨Nat.le_of_ble_eq_true rfl, Nat.le_of_ble_eq_true rfl⟩ ⟨Nat.le_of_ble_eq_true rfl, Nat.le_of_ble_eq_true rfl⟩ rfl rfl (fun v3 I7 => ?_)
      refine q_if_eq 50 rfl 55 (off := 8) (by decide +kernel) rfl (fun g1 => ?_) (fun g1 => ?_)
      · exact hq1 I7
      · refine q_bipush (-4) (c := -4) 52 rfl (by decide +kernel) rfl ?_
        refine q_goto (off := 7) 59 (by decide +kernel) rfl ?_
        exact q_iret (by decide +kernel) rfl rfl (Nat.le_of_ble_eq_true rfl) (Nat.le_of_ble_eq_true rfl)
def f_CR_isRange (a0 : Int32) (a1 : Int32) : Option (Int32) :=
  q_b1 (f_CR_within a0 0 96) (fun v1 => if v1 = 0 then (some (0)) else (q_b1 (f_CR_within a1 a0 96) (fun v2 => if v2 = 0 then (some (0)) else (some (1)))))
def y_CR_isRange : MethodName := ⟨"CalendarReplicas", "isRange", "(II)Z"⟩
def m_CR_isRange : q_M := (prog_1_method_67_code, 2, "CalendarReplicas", { frames := 1, cells := 0, slots := 0, locals := 22 }, (some FieldType.boolean))
theorem yv_CR_isRange : q_Y y_CR_isRange m_CR_isRange 2 := ⟨rfl, ⟨by decide, by decide⟩, by decide +kernel, tw_2_139, tw_1_1⟩
set_option maxRecDepth 100000 in
set_option maxHeartbeats 4000000 in
theorem c_CR_isRange (l : Launch) (D : va_G) (tc : Nat → ClassId) (x0 y : Nat) (ad : Nat → Nat) (I : q_I) (J : q_J) (P : q_P) (a0 : Int32) (a1 : Int32) : q_Ct l (cG D tc x0 y ad) y_CR_isRange m_CR_isRange [.int a0, .int a1] (I, J, P) (f_CR_isRange a0 a1) (fun r : Int32 => (some (.int r), (I, J, P))) := by
  refine q_Ct_of (cIn D tc x0 y ad) (by decide) rfl (Nat.le_of_ble_eq_true rfl) rfl (fun X hX => ?_)
  subst hX
  unfold f_CR_isRange
  refine q_iload_n 0 0 1 rfl (by decide +kernel) rfl ?_
  refine q_iconst 0 (c := 0) 2 rfl (by decide +kernel) rfl ?_
  refine q_bipush 96 (c := 96) 4 rfl (by decide +kernel) rfl ?_
  refine q_callS_i 7 rfl (av := [.int a0, .int 0, .int 96]) (st := []) (c_CR_within X.1 D tc x0 y ad I J P a0 0 96) yv_CR_within tw_2_134 tw_2_135 rfl (Nat.le_of_ble_eq_true rfl) (by decide +kernel) ⟨Nat.le_of_ble_eq_true rfl, Nat.le_of_ble_eq_true rfl⟩ ⟨Nat.le_of_ble_eq_true rfl, Nat.le_of_ble_eq_true rfl⟩ rfl rfl (fun v1 => ?_)
  refine q_if_eq 10 rfl 24 (off := 17) (by decide +kernel) rfl (fun g2 => ?_) (fun g2 => ?_)
  · refine q_iconst 0 (c := 0) 25 rfl (by decide +kernel) rfl ?_
    exact q_zret (w := 0) (by decide +kernel) rfl rfl rfl (Nat.le_of_ble_eq_true rfl) (Nat.le_of_ble_eq_true rfl)
  · refine q_iload_n 1 1 11 rfl (by decide +kernel) rfl ?_
    refine q_iload_n 0 0 12 rfl (by decide +kernel) rfl ?_
    refine q_bipush 96 (c := 96) 14 rfl (by decide +kernel) rfl ?_
    refine q_callS_i 17 rfl (av := [.int a1, .int a0, .int 96]) (st := []) (c_CR_within X.1 D tc x0 y ad I J P a1 a0 96) yv_CR_within tw_2_134 tw_2_135 rfl (Nat.le_of_ble_eq_true rfl) (by decide +kernel) ⟨Nat.le_of_ble_eq_true rfl, Nat.le_of_ble_eq_true rfl⟩ ⟨Nat.le_of_ble_eq_true rfl, Nat.le_of_ble_eq_true rfl⟩ rfl rfl (fun v2 => ?_)
    refine q_if_eq 20 rfl 24 (off := 7) (by decide +kernel) rfl (fun g1 => ?_) (fun g1 => ?_)
    · refine q_iconst 0 (c := 0) 25 rfl (by decide +kernel) rfl ?_
      exact q_zret (w := 0) (by decide +kernel) rfl rfl rfl (Nat.le_of_ble_eq_true rfl) (Nat.le_of_ble_eq_true rfl)
    · refine q_iconst 1 (c := 1) 21 rfl (by decide +kernel) rfl ?_
      refine q_goto (off := 4) 25 (by decide +kernel) rfl ?_
      exact q_zret (w := 1) (by decide +kernel) rfl rfl rfl (Nat.le_of_ble_eq_true rfl) (Nat.le_of_ble_eq_true rfl)
def f_CR_setRoom (I : q_I) (a1 : Int32) (a2 : Int32) (a3 : Int32) (a4 : Int32) : Option (Int32 × q_I) :=
  q_b1 (f_CR_within a1 0 3) (fun v1 => if v1 = 0 then (some ((-1), I)) else (q_b1 (f_CR_within a2 1 6) (fun v2 => if v2 = 0 then (some ((-1), I)) else (q_b1 (f_CR_isRange a3 a4) (fun v3 => if v3 = 0 then (some ((-1), I)) else (q_b1 (f_Wo_isBlank I 1) (fun v4 => if v4 = 0 then (some ((-3), I)) else (q_ix a1 4 (fun j1 => q_l (I 3 j1 : Int32) (fun x1 => q_ix a1 4 (fun j2 => q_l (q_ui I 3 j2 a2) (fun I1 => q_ix a1 4 (fun j3 => q_l (q_ui I1 4 j3 a3) (fun I2 => q_ix a1 4 (fun j4 => q_l (q_ui I2 5 j4 a4) (fun I3 => some (x1, I3)))))))))))))))))
def y_CR_setRoom : MethodName := ⟨"CalendarReplicas", "setRoom", "(IIII)I"⟩
def m_CR_setRoom : q_M := (prog_1_method_2_code, 6, "CalendarReplicas", { frames := 2, cells := 0, slots := 0, locals := 43 }, (some FieldType.int))
theorem yv_CR_setRoom : q_Y y_CR_setRoom m_CR_setRoom 4 := ⟨rfl, ⟨by decide, by decide⟩, by decide +kernel, tw_2_133, tw_1_1⟩
set_option maxRecDepth 100000 in
set_option maxHeartbeats 4000000 in
theorem c_CR_setRoom (l : Launch) (D : va_G) (tc : Nat → ClassId) (x0 y : Nat) (ad : Nat → Nat) (I : q_I) (J : q_J) (P : q_P) (a1 : Int32) (a2 : Int32) (a3 : Int32) (a4 : Int32) : q_Ct l (cG D tc x0 y ad) y_CR_setRoom m_CR_setRoom [q_r (cG D tc x0 y ad) 0, .int a1, .int a2, .int a3, .int a4] (I, J, P) (f_CR_setRoom I a1 a2 a3 a4) (fun r : Int32 × q_I => (some (.int r.1), (r.2, J, P))) := by
  refine q_Ct_of (cIn D tc x0 y ad) (by decide) rfl (Nat.le_of_ble_eq_true rfl) rfl (fun X hX => ?_)
  subst hX
  unfold f_CR_setRoom
  refine q_iload_n 1 1 1 rfl (by decide +kernel) rfl ?_
  refine q_iconst 0 (c := 0) 2 rfl (by decide +kernel) rfl ?_
  refine q_iconst 3 (c := 3) 3 rfl (by decide +kernel) rfl ?_
  refine q_callS_i 6 rfl (av := [.int a1, .int 0, .int 3]) (st := []) (c_CR_within X.1 D tc x0 y ad I J P a1 0 3) yv_CR_within tw_2_134 tw_2_135 rfl (Nat.le_of_ble_eq_true rfl) (by decide +kernel) ⟨Nat.le_of_ble_eq_true rfl, Nat.le_of_ble_eq_true rfl⟩ ⟨Nat.le_of_ble_eq_true rfl, Nat.le_of_ble_eq_true rfl⟩ rfl rfl (fun v1 => ?_)
  refine q_if_eq 9 rfl 28 (off := 22) (by decide +kernel) rfl (fun g4 => ?_) (fun g4 => ?_)
  · refine q_iconst (-1) (c := -1) 29 rfl (by decide +kernel) rfl ?_
    exact q_iret (by decide +kernel) rfl rfl (Nat.le_of_ble_eq_true rfl) (Nat.le_of_ble_eq_true rfl)
  · refine q_iload_n 2 2 10 rfl (by decide +kernel) rfl ?_
    refine q_iconst 1 (c := 1) 11 rfl (by decide +kernel) rfl ?_
    refine q_bipush 6 (c := 6) 13 rfl (by decide +kernel) rfl ?_
    refine q_callS_i 16 rfl (av := [.int a2, .int 1, .int 6]) (st := []) (c_CR_within X.1 D tc x0 y ad I J P a2 1 6) yv_CR_within tw_2_134 tw_2_135 rfl (Nat.le_of_ble_eq_true rfl) (by decide +kernel) ⟨Nat.le_of_ble_eq_true rfl, Nat.le_of_ble_eq_true rfl⟩ ⟨Nat.le_of_ble_eq_true rfl, Nat.le_of_ble_eq_true rfl⟩ rfl rfl (fun v2 => ?_)
    refine q_if_eq 19 rfl 28 (off := 12) (by decide +kernel) rfl (fun g3 => ?_) (fun g3 => ?_)
    · refine q_iconst (-1) (c := -1) 29 rfl (by decide +kernel) rfl ?_
      exact q_iret (by decide +kernel) rfl rfl (Nat.le_of_ble_eq_true rfl) (Nat.le_of_ble_eq_true rfl)
    · refine q_iload_n 3 3 20 rfl (by decide +kernel) rfl ?_
      refine q_iload 4 4 22 rfl (by decide +kernel) rfl ?_
      refine q_callS_i 25 rfl (av := [.int a3, .int a4]) (st := []) (c_CR_isRange X.1 D tc x0 y ad I J P a3 a4) yv_CR_isRange tw_2_137 tw_2_138 rfl (Nat.le_of_ble_eq_true rfl) (by decide +kernel) ⟨Nat.le_of_ble_eq_true rfl, Nat.le_of_ble_eq_true rfl⟩ ⟨Nat.le_of_ble_eq_true rfl, Nat.le_of_ble_eq_true rfl⟩ rfl rfl (fun v3 => ?_)
      refine q_if_ne 28 rfl 30 (off := 5) (by decide +kernel) rfl (fun g2 => ?_) (fun g2 => ?_)
      · refine q_aload_n 0 0 31 rfl (by decide +kernel) rfl ?_
        refine q_getr (f := 0) 1 34 rfl (by decide +kernel) (cC_CR D tc x0 y ad) k_CR (by decide) rfl rfl tw_2_102 ?_
        refine q_callV_i 37 rfl (av := []) (o := 1) (st := []) (c_Wo_isBlank X.1 D tc x0 y ad I J P k_Wo1) yv_Wo_isBlank tw_2_140 tw_2_141 tw_2_142 (cC_Wo D tc x0 y ad) k_Wo1.1 rfl (Nat.le_of_ble_eq_true rfl) (by decide +kernel) ⟨Nat.le_of_ble_eq_true rfl, Nat.le_of_ble_eq_true rfl⟩ ⟨Nat.le_of_ble_eq_true rfl, Nat.le_of_ble_eq_true rfl⟩ rfl rfl (fun v4 => ?_)
        refine q_if_ne 40 rfl 43 (off := 6) (by decide +kernel) rfl (fun g1 => ?_) (fun g1 => ?_)
        · refine q_aload_n 0 0 44 rfl (by decide +kernel) rfl ?_
          refine q_getr (f := 0) 1 47 rfl (by decide +kernel) (cC_CR D tc x0 y ad) k_CR (by decide) rfl rfl tw_2_102 ?_
          refine q_getr (f := 0) 2 50 rfl (by decide +kernel) (cC_Wo D tc x0 y ad) k_Wo1.1 (by decide) rfl rfl tw_1_207 ?_
          refine q_getr (f := 0) 3 53 rfl (by decide +kernel) (cC_Ru D tc x0 y ad) k_Wo1.2.1.1 (by decide) rfl rfl tw_1_44 ?_
          refine q_iload_n 1 1 54 rfl (by decide +kernel) rfl ?_
          refine q_iald (t := 0) 55 rfl (by decide +kernel) k_Wo1.2.1.2.1 rfl (fun j1 hj1 => ?_)
          refine q_leti (fun x1 => ?_)
          refine q_istore 5 57 rfl [(5, .int x1), (0, q_r (cG D tc x0 y ad) 0), (1, .int a1), (2, .int a2), (3, .int a3), (4, .int a4)] (by decide +kernel) (Nat.le_of_ble_eq_true rfl) rfl ?_
          refine q_aload_n 1 0 58 rfl (by decide +kernel) rfl ?_
          refine q_getr (f := 0) 1 61 rfl (by decide +kernel) (cC_CR D tc x0 y ad) k_CR (by decide) rfl rfl tw_2_102 ?_
          refine q_getr (f := 0) 2 64 rfl (by decide +kernel) (cC_Wo D tc x0 y ad) k_Wo1.1 (by decide) rfl rfl tw_1_207 ?_
          refine q_getr (f := 0) 3 67 rfl (by decide +kernel) (cC_Ru D tc x0 y ad) k_Wo1.2.1.1 (by decide) rfl rfl tw_1_44 ?_
          refine q_iload_n 2 1 68 rfl (by decide +kernel) rfl ?_
          refine q_iload_n 3 2 69 rfl (by decide +kernel) rfl ?_
          refine q_iast (t := 0) 70 rfl (by decide +kernel) k_Wo1.2.1.2.1 rfl (fun j2 hj2 => ?_)
          refine q_letI (fun I1 => ?_)
          refine q_aload_n 1 0 71 rfl (by decide +kernel) rfl ?_
          refine q_getr (f := 0) 1 74 rfl (by decide +kernel) (cC_CR D tc x0 y ad) k_CR (by decide) rfl rfl tw_2_102 ?_
          refine q_getr (f := 0) 2 77 rfl (by decide +kernel) (cC_Wo D tc x0 y ad) k_Wo1.1 (by decide) rfl rfl tw_1_207 ?_
          refine q_getr (f := 1) 4 80 rfl (by decide +kernel) (cC_Ru D tc x0 y ad) k_Wo1.2.1.1 (by decide) rfl rfl tw_1_47 ?_
          refine q_iload_n 2 1 81 rfl (by decide +kernel) rfl ?_
          refine q_iload_n 4 3 82 rfl (by decide +kernel) rfl ?_
          refine q_iast (t := 0) 83 rfl (by decide +kernel) k_Wo1.2.1.2.2.1 rfl (fun j3 hj3 => ?_)
          refine q_letI (fun I2 => ?_)
          refine q_aload_n 1 0 84 rfl (by decide +kernel) rfl ?_
          refine q_getr (f := 0) 1 87 rfl (by decide +kernel) (cC_CR D tc x0 y ad) k_CR (by decide) rfl rfl tw_2_102 ?_
          refine q_getr (f := 0) 2 90 rfl (by decide +kernel) (cC_Wo D tc x0 y ad) k_Wo1.1 (by decide) rfl rfl tw_1_207 ?_
          refine q_getr (f := 2) 5 93 rfl (by decide +kernel) (cC_Ru D tc x0 y ad) k_Wo1.2.1.1 (by decide) rfl rfl tw_1_50 ?_
          refine q_iload_n 2 1 94 rfl (by decide +kernel) rfl ?_
          refine q_iload 5 4 96 rfl (by decide +kernel) rfl ?_
          refine q_iast (t := 0) 97 rfl (by decide +kernel) k_Wo1.2.1.2.2.2.1 rfl (fun j4 hj4 => ?_)
          refine q_letI (fun I3 => ?_)
          refine q_iload 0 5 99 rfl (by decide +kernel) rfl ?_
          exact q_iret (by decide +kernel) rfl rfl (Nat.le_of_ble_eq_true rfl) (Nat.le_of_ble_eq_true rfl)
        · refine q_bipush (-3) (c := -3) 42 rfl (by decide +kernel) rfl ?_
          exact q_iret (by decide +kernel) rfl rfl (Nat.le_of_ble_eq_true rfl) (Nat.le_of_ble_eq_true rfl)
      · refine q_iconst (-1) (c := -1) 29 rfl (by decide +kernel) rfl ?_
        exact q_iret (by decide +kernel) rfl rfl (Nat.le_of_ble_eq_true rfl) (Nat.le_of_ble_eq_true rfl)
def f_CR_setAbsence (I : q_I) (a1 : Int32) (a2 : Int32) (a3 : Int32) : Option (Int32 × q_I) :=
  q_b1 (f_CR_within a1 0 5) (fun v1 => if v1 = 0 then (some ((-1), I)) else (q_b1 (f_CR_isRange a2 a3) (fun v2 => if v2 = 0 then (some ((-1), I)) else (q_b1 (f_Wo_isBlank I 1) (fun v3 => if v3 = 0 then (some ((-3), I)) else (q_ix a1 6 (fun j1 => q_ix a1 6 (fun j2 => q_l ((I 7 j1) - (I 6 j2) : Int32) (fun x1 => q_ix a1 6 (fun j3 => q_l (q_ui I 6 j3 a2) (fun I1 => q_ix a1 6 (fun j4 => q_l (q_ui I1 7 j4 a3) (fun I2 => some (x1, I2))))))))))))))
def y_CR_setAbsence : MethodName := ⟨"CalendarReplicas", "setAbsence", "(III)I"⟩
def m_CR_setAbsence : q_M := (prog_1_method_3_code, 5, "CalendarReplicas", { frames := 2, cells := 0, slots := 0, locals := 43 }, (some FieldType.int))
theorem yv_CR_setAbsence : q_Y y_CR_setAbsence m_CR_setAbsence 3 := ⟨rfl, ⟨by decide, by decide⟩, by decide +kernel, tw_2_147, tw_1_1⟩
set_option maxRecDepth 100000 in
set_option maxHeartbeats 4000000 in
theorem c_CR_setAbsence (l : Launch) (D : va_G) (tc : Nat → ClassId) (x0 y : Nat) (ad : Nat → Nat) (I : q_I) (J : q_J) (P : q_P) (a1 : Int32) (a2 : Int32) (a3 : Int32) : q_Ct l (cG D tc x0 y ad) y_CR_setAbsence m_CR_setAbsence [q_r (cG D tc x0 y ad) 0, .int a1, .int a2, .int a3] (I, J, P) (f_CR_setAbsence I a1 a2 a3) (fun r : Int32 × q_I => (some (.int r.1), (r.2, J, P))) := by
  refine q_Ct_of (cIn D tc x0 y ad) (by decide) rfl (Nat.le_of_ble_eq_true rfl) rfl (fun X hX => ?_)
  subst hX
  unfold f_CR_setAbsence
  refine q_iload_n 1 1 1 rfl (by decide +kernel) rfl ?_
  refine q_iconst 0 (c := 0) 2 rfl (by decide +kernel) rfl ?_
  refine q_iconst 5 (c := 5) 3 rfl (by decide +kernel) rfl ?_
  refine q_callS_i 6 rfl (av := [.int a1, .int 0, .int 5]) (st := []) (c_CR_within X.1 D tc x0 y ad I J P a1 0 5) yv_CR_within tw_2_134 tw_2_135 rfl (Nat.le_of_ble_eq_true rfl) (by decide +kernel) ⟨Nat.le_of_ble_eq_true rfl, Nat.le_of_ble_eq_true rfl⟩ ⟨Nat.le_of_ble_eq_true rfl, Nat.le_of_ble_eq_true rfl⟩ rfl rfl (fun v1 => ?_)
  refine q_if_eq 9 rfl 17 (off := 11) (by decide +kernel) rfl (fun g3 => ?_) (fun g3 => ?_)
  · refine q_iconst (-1) (c := -1) 18 rfl (by decide +kernel) rfl ?_
    exact q_iret (by decide +kernel) rfl rfl (Nat.le_of_ble_eq_true rfl) (Nat.le_of_ble_eq_true rfl)
  · refine q_iload_n 2 2 10 rfl (by decide +kernel) rfl ?_
    refine q_iload_n 3 3 11 rfl (by decide +kernel) rfl ?_
    refine q_callS_i 14 rfl (av := [.int a2, .int a3]) (st := []) (c_CR_isRange X.1 D tc x0 y ad I J P a2 a3) yv_CR_isRange tw_2_137 tw_2_138 rfl (Nat.le_of_ble_eq_true rfl) (by decide +kernel) ⟨Nat.le_of_ble_eq_true rfl, Nat.le_of_ble_eq_true rfl⟩ ⟨Nat.le_of_ble_eq_true rfl, Nat.le_of_ble_eq_true rfl⟩ rfl rfl (fun v2 => ?_)
    refine q_if_ne 17 rfl 19 (off := 5) (by decide +kernel) rfl (fun g2 => ?_) (fun g2 => ?_)
    · refine q_aload_n 0 0 20 rfl (by decide +kernel) rfl ?_
      refine q_getr (f := 0) 1 23 rfl (by decide +kernel) (cC_CR D tc x0 y ad) k_CR (by decide) rfl rfl tw_2_102 ?_
      refine q_callV_i 26 rfl (av := []) (o := 1) (st := []) (c_Wo_isBlank X.1 D tc x0 y ad I J P k_Wo1) yv_Wo_isBlank tw_2_140 tw_2_141 tw_2_142 (cC_Wo D tc x0 y ad) k_Wo1.1 rfl (Nat.le_of_ble_eq_true rfl) (by decide +kernel) ⟨Nat.le_of_ble_eq_true rfl, Nat.le_of_ble_eq_true rfl⟩ ⟨Nat.le_of_ble_eq_true rfl, Nat.le_of_ble_eq_true rfl⟩ rfl rfl (fun v3 => ?_)
      refine q_if_ne 29 rfl 32 (off := 6) (by decide +kernel) rfl (fun g1 => ?_) (fun g1 => ?_)
      · refine q_aload_n 0 0 33 rfl (by decide +kernel) rfl ?_
        refine q_getr (f := 0) 1 36 rfl (by decide +kernel) (cC_CR D tc x0 y ad) k_CR (by decide) rfl rfl tw_2_102 ?_
        refine q_getr (f := 0) 2 39 rfl (by decide +kernel) (cC_Wo D tc x0 y ad) k_Wo1.1 (by decide) rfl rfl tw_1_207 ?_
        refine q_getr (f := 4) 7 42 rfl (by decide +kernel) (cC_Ru D tc x0 y ad) k_Wo1.2.1.1 (by decide) rfl rfl tw_1_56 ?_
        refine q_iload_n 1 1 43 rfl (by decide +kernel) rfl ?_
        refine q_iald (t := 0) 44 rfl (by decide +kernel) k_Wo1.2.1.2.2.2.2.2.1 rfl (fun j1 hj1 => ?_)
        refine q_aload_n 0 0 45 rfl (by decide +kernel) rfl ?_
        refine q_getr (f := 0) 1 48 rfl (by decide +kernel) (cC_CR D tc x0 y ad) k_CR (by decide) rfl rfl tw_2_102 ?_
        refine q_getr (f := 0) 2 51 rfl (by decide +kernel) (cC_Wo D tc x0 y ad) k_Wo1.1 (by decide) rfl rfl tw_1_207 ?_
        refine q_getr (f := 3) 6 54 rfl (by decide +kernel) (cC_Ru D tc x0 y ad) k_Wo1.2.1.1 (by decide) rfl rfl tw_1_53 ?_
        refine q_iload_n 1 1 55 rfl (by decide +kernel) rfl ?_
        refine q_iald (t := 0) 56 rfl (by decide +kernel) k_Wo1.2.1.2.2.2.2.1 rfl (fun j2 hj2 => ?_)
        refine q_isub 57 rfl (by decide +kernel) ?_
        refine q_leti (fun x1 => ?_)
        refine q_istore 4 59 rfl [(4, .int x1), (0, q_r (cG D tc x0 y ad) 0), (1, .int a1), (2, .int a2), (3, .int a3)] (by decide +kernel) (Nat.le_of_ble_eq_true rfl) rfl ?_
        refine q_aload_n 1 0 60 rfl (by decide +kernel) rfl ?_
        refine q_getr (f := 0) 1 63 rfl (by decide +kernel) (cC_CR D tc x0 y ad) k_CR (by decide) rfl rfl tw_2_102 ?_
        refine q_getr (f := 0) 2 66 rfl (by decide +kernel) (cC_Wo D tc x0 y ad) k_Wo1.1 (by decide) rfl rfl tw_1_207 ?_
        refine q_getr (f := 3) 6 69 rfl (by decide +kernel) (cC_Ru D tc x0 y ad) k_Wo1.2.1.1 (by decide) rfl rfl tw_1_53 ?_
        refine q_iload_n 2 1 70 rfl (by decide +kernel) rfl ?_
        refine q_iload_n 3 2 71 rfl (by decide +kernel) rfl ?_
        refine q_iast (t := 0) 72 rfl (by decide +kernel) k_Wo1.2.1.2.2.2.2.1 rfl (fun j3 hj3 => ?_)
        refine q_letI (fun I1 => ?_)
        refine q_aload_n 1 0 73 rfl (by decide +kernel) rfl ?_
        refine q_getr (f := 0) 1 76 rfl (by decide +kernel) (cC_CR D tc x0 y ad) k_CR (by decide) rfl rfl tw_2_102 ?_
        refine q_getr (f := 0) 2 79 rfl (by decide +kernel) (cC_Wo D tc x0 y ad) k_Wo1.1 (by decide) rfl rfl tw_1_207 ?_
        refine q_getr (f := 4) 7 82 rfl (by decide +kernel) (cC_Ru D tc x0 y ad) k_Wo1.2.1.1 (by decide) rfl rfl tw_1_56 ?_
        refine q_iload_n 2 1 83 rfl (by decide +kernel) rfl ?_
        refine q_iload_n 4 3 84 rfl (by decide +kernel) rfl ?_
        refine q_iast (t := 0) 85 rfl (by decide +kernel) k_Wo1.2.1.2.2.2.2.2.1 rfl (fun j4 hj4 => ?_)
        refine q_letI (fun I2 => ?_)
        refine q_iload 0 4 87 rfl (by decide +kernel) rfl ?_
        exact q_iret (by decide +kernel) rfl rfl (Nat.le_of_ble_eq_true rfl) (Nat.le_of_ble_eq_true rfl)
      · refine q_bipush (-3) (c := -3) 31 rfl (by decide +kernel) rfl ?_
        exact q_iret (by decide +kernel) rfl rfl (Nat.le_of_ble_eq_true rfl) (Nat.le_of_ble_eq_true rfl)
    · refine q_iconst (-1) (c := -1) 18 rfl (by decide +kernel) rfl ?_
      exact q_iret (by decide +kernel) rfl rfl (Nat.le_of_ble_eq_true rfl) (Nat.le_of_ble_eq_true rfl)
def f_CR_mergeAll_L1 : Nat → Int32 → q_I → q_J → q_P → Option (q_I × q_J × q_P)
  | 0, _, _, _, _ => none
  | n + 1, x1, I1, J1, P1 => if (3 : Int32) ≤ x1 then (some (I1, J1, P1)) else (q_ix x1 3 (fun j1 => q_b4 (f_Mg_heaviest I1 J1 P1 53 1 (I1 25 j1) 0) (fun v1 I2 J2 P2 => q_ix x1 3 (fun j2 => q_l (q_ui I2 26 j2 v1) (fun I3 => (f_CR_mergeAll_L1  n (x1 + 1) I3 J2 P2))))))
def f_CR_mergeAll (I : q_I) (J : q_J) (P : q_P) : Option (q_I × q_J × q_P) :=
  f_CR_mergeAll_L1  q_fu 0 I J P
def y_CR_mergeAll : MethodName := ⟨"CalendarReplicas", "mergeAll", "()V"⟩
def m_CR_mergeAll : q_M := (prog_1_method_20_code, 2, "CalendarReplicas", { frames := 20, cells := 0, slots := 0, locals := 525 }, (none : Option FieldType))
theorem yv_CR_mergeAll : q_Y y_CR_mergeAll m_CR_mergeAll 0 := ⟨rfl, ⟨by decide, by decide⟩, by decide +kernel, tw_2_171, tw_1_1⟩
set_option maxRecDepth 100000 in
set_option maxHeartbeats 4000000 in
theorem c_CR_mergeAll (l : Launch) (D : va_G) (tc : Nat → ClassId) (x0 y : Nat) (ad : Nat → Nat) (I : q_I) (J : q_J) (P : q_P) : q_Ct l (cG D tc x0 y ad) y_CR_mergeAll m_CR_mergeAll [q_r (cG D tc x0 y ad) 0] (I, J, P) (f_CR_mergeAll I J P) (fun r : q_I × q_J × q_P => (none, (r.1, r.2.1, r.2.2))) := by
  refine q_Ct_of (cIn D tc x0 y ad) (by decide) rfl (Nat.le_of_ble_eq_true rfl) rfl (fun X hX => ?_)
  subst hX
  unfold f_CR_mergeAll
  refine q_iconst 0 (c := 0) 1 rfl (by decide +kernel) rfl ?_
  refine q_istore_n 1 1 2 rfl [(1, .int 0), (0, q_r (cG D tc x0 y ad) 0)] (by decide +kernel) rfl (Nat.le_of_ble_eq_true rfl) rfl ?_
  have hL1 : ∀ (n1_ : Nat) (x1 : Int32) (I1 : q_I) (J1 : q_J) (P1 : q_P), q_V (cG D tc x0 y ad) m_CR_mergeAll X (fun r : q_I × q_J × q_P => (none, (r.1, r.2.1, r.2.2))) 0 0 2 [(0, q_r (cG D tc x0 y ad) 0), (1, .int x1)] [] I1 J1 P1 (f_CR_mergeAll_L1  n1_ x1 I1 J1 P1) := by
    intro n1_
    induction n1_ with
    | zero => intro x1 I1 J1 P1; exact q_none
    | succ n1_ ih1 =>
      intro x1 I1 J1 P1
      rw [f_CR_mergeAll_L1]
      refine q_iload_n 1 1 3 rfl (by decide +kernel) rfl ?_
      refine q_iconst 3 (c := 3) 4 rfl (by decide +kernel) rfl ?_
      refine q_icmp_ge 7 rfl 43 (off := 39) (by decide +kernel) rfl (fun g1 => ?_) (fun g1 => ?_)
      · exact q_vret (by decide +kernel) rfl rfl (Nat.le_of_ble_eq_true rfl) (Nat.le_of_ble_eq_true rfl)
      · refine q_aload_n 0 0 8 rfl (by decide +kernel) rfl ?_
        refine q_getr (f := 0) 1 11 rfl (by decide +kernel) (cC_CR D tc x0 y ad) k_CR (by decide) rfl rfl tw_2_102 ?_
        refine q_getr (f := 6) 26 14 rfl (by decide +kernel) (cC_Wo D tc x0 y ad) k_Wo1.1 (by decide) rfl rfl tw_1_219 ?_
        refine q_iload_n 1 1 15 rfl (by decide +kernel) rfl ?_
        refine q_aload_n 0 0 16 rfl (by decide +kernel) rfl ?_
        refine q_getr (f := 3) 53 19 rfl (by decide +kernel) (cC_CR D tc x0 y ad) k_CR (by decide) rfl rfl tw_2_105 ?_
        refine q_aload_n 0 0 20 rfl (by decide +kernel) rfl ?_
        refine q_getr (f := 0) 1 23 rfl (by decide +kernel) (cC_CR D tc x0 y ad) k_CR (by decide) rfl rfl tw_2_102 ?_
        refine q_aload_n 0 0 24 rfl (by decide +kernel) rfl ?_
        refine q_getr (f := 0) 1 27 rfl (by decide +kernel) (cC_CR D tc x0 y ad) k_CR (by decide) rfl rfl tw_2_102 ?_
        refine q_getr (f := 5) 25 30 rfl (by decide +kernel) (cC_Wo D tc x0 y ad) k_Wo1.1 (by decide) rfl rfl tw_1_217 ?_
        refine q_iload_n 1 1 31 rfl (by decide +kernel) rfl ?_
        refine q_iald (t := 0) 32 rfl (by decide +kernel) k_Wo1.2.2.2.2.1 rfl (fun j1 hj1 => ?_)
        refine q_iconst 0 (c := 0) 33 rfl (by decide +kernel) rfl ?_
        refine q_callV_iIJP 36 rfl (av := [q_r (cG D tc x0 y ad) 1, .int (I1 25 j1), .int 0]) (o := 53) (st := [.int x1, q_r (cG D tc x0 y ad) 26]) (c_Mg_heaviest X.1 D tc x0 y ad I1 J1 P1 k_Mg53 k_Wo1 (I1 25 j1) 0) yv_Mg_heaviest tw_2_172 tw_2_173 tw_2_174 (cC_Mg D tc x0 y ad) k_Mg53.1 rfl (Nat.le_of_ble_eq_true rfl) (by decide +kernel) ⟨Nat.le_of_ble_eq_true rfl, Nat.le_of_ble_eq_true rfl⟩ ⟨Nat.le_of_ble_eq_true rfl, Nat.le_of_ble_eq_true rfl⟩ rfl rfl (fun v1 I2 J2 P2 => ?_)
        refine q_iast (t := 0) 37 rfl (by decide +kernel) k_Wo1.2.2.2.2.2.1 rfl (fun j2 hj2 => ?_)
        refine q_letI (fun I3 => ?_)
        refine q_iinc (x1 + 1) (c := 1) 1 1 40 rfl [(1, .int (x1 + 1)), (0, q_r (cG D tc x0 y ad) 0)] (by decide +kernel) rfl rfl (Nat.le_of_ble_eq_true rfl) rfl ?_
        refine q_goto (off := -38) 2 (by decide +kernel) rfl ?_
        refine q_sub [1, 0] rfl ?_
        exact ih1 (x1 + 1) I3 J2 P2
  refine q_sub [1, 0] rfl ?_
  exact hL1 _ _ _ _ _
def f_CR_addOrder (I : q_I) (J : q_J) (P : q_P) (a1 : Int32) (a2 : Int32) : Option (Int32 × q_I × q_J × q_P) :=
  if a1 < 0 then (some ((-1), I, J, P)) else (if a2 < 0 then (some ((-1), I, J, P)) else (if a1 = a2 then (some ((-1), I, J, P)) else (if (I 2 7) < 4 then (q_b1 (f_Cal_keepsOrder I P 10 12 a1 a2) (fun v1 => if v1 = 0 then (some ((-3), I, J, P)) else (q_b1 (f_Ru_putOrder I 2 a1 a2) (fun I1 => q_b3 (f_CR_mergeAll I1 J P) (fun I2 J1 P1 => some ((I2 2 7), I2, J1, P1)))))) else (some ((-2), I, J, P)))))
def y_CR_addOrder : MethodName := ⟨"CalendarReplicas", "addOrde\x72", "(II)I"⟩
def m_CR_addOrder : q_M := (prog_1_method_4_code, 3, "CalendarReplicas", { frames := 21, cells := 0, slots := 0, locals := 546 }, (some FieldType.int))
theorem yv_CR_addOrder : q_Y y_CR_addOrder m_CR_addOrder 2 := ⟨rfl, ⟨by decide, by decide⟩, by decide +kernel, tw_2_151, tw_1_1⟩
set_option maxRecDepth 100000 in
set_option maxHeartbeats 4000000 in
theorem c_CR_addOrder (l : Launch) (D : va_G) (tc : Nat → ClassId) (x0 y : Nat) (ad : Nat → Nat) (I : q_I) (J : q_J) (P : q_P) (a1 : Int32) (a2 : Int32) : q_Ct l (cG D tc x0 y ad) y_CR_addOrder m_CR_addOrder [q_r (cG D tc x0 y ad) 0, .int a1, .int a2] (I, J, P) (f_CR_addOrder I J P a1 a2) (fun r : Int32 × q_I × q_J × q_P => (some (.int r.1), (r.2.1, r.2.2.1, r.2.2.2))) := by
  refine q_Ct_of (cIn D tc x0 y ad) (by decide) rfl (Nat.le_of_ble_eq_true rfl) rfl (fun X hX => ?_)
  subst hX
  unfold f_CR_addOrder
  refine q_iload_n 1 1 1 rfl (by decide +kernel) rfl ?_
  refine q_if_lt 4 rfl 13 (off := 12) (by decide +kernel) rfl (fun g5 => ?_) (fun g5 => ?_)
  · refine q_iconst (-1) (c := -1) 14 rfl (by decide +kernel) rfl ?_
    exact q_iret (by decide +kernel) rfl rfl (Nat.le_of_ble_eq_true rfl) (Nat.le_of_ble_eq_true rfl)
  · refine q_iload_n 2 2 5 rfl (by decide +kernel) rfl ?_
    refine q_if_lt 8 rfl 13 (off := 8) (by decide +kernel) rfl (fun g4 => ?_) (fun g4 => ?_)
    · refine q_iconst (-1) (c := -1) 14 rfl (by decide +kernel) rfl ?_
      exact q_iret (by decide +kernel) rfl rfl (Nat.le_of_ble_eq_true rfl) (Nat.le_of_ble_eq_true rfl)
    · refine q_iload_n 1 1 9 rfl (by decide +kernel) rfl ?_
      refine q_iload_n 2 2 10 rfl (by decide +kernel) rfl ?_
      refine q_icmp_ne 13 rfl 15 (off := 5) (by decide +kernel) rfl (fun g3 => ?_) (fun g3 => ?_)
      · refine q_aload_n 0 0 16 rfl (by decide +kernel) rfl ?_
        refine q_getr (f := 0) 1 19 rfl (by decide +kernel) (cC_CR D tc x0 y ad) k_CR (by decide) rfl rfl tw_2_102 ?_
        refine q_getr (f := 0) 2 22 rfl (by decide +kernel) (cC_Wo D tc x0 y ad) k_Wo1.1 (by decide) rfl rfl tw_1_207 ?_
        refine q_geti (f := 7) 25 rfl (by decide +kernel) (cC_Ru D tc x0 y ad) k_Wo1.2.1.1 (by decide) rfl tw_1_60 ?_
        refine q_iconst 4 (c := 4) 26 rfl (by decide +kernel) rfl ?_
        refine q_icmp_lt 29 rfl 32 (off := 6) (by decide +kernel) rfl (fun g2 => ?_) (fun g2 => ?_)
        · refine q_aload_n 0 0 33 rfl (by decide +kernel) rfl ?_
          refine q_getr (f := 0) 1 36 rfl (by decide +kernel) (cC_CR D tc x0 y ad) k_CR (by decide) rfl rfl tw_2_102 ?_
          refine q_getr (f := 1) 10 39 rfl (by decide +kernel) (cC_Wo D tc x0 y ad) k_Wo1.1 (by decide) rfl rfl tw_1_210 ?_
          refine q_iload_n 1 1 40 rfl (by decide +kernel) rfl ?_
          refine q_iload_n 2 2 41 rfl (by decide +kernel) rfl ?_
          refine q_callV_i 44 rfl (av := [.int a1, .int a2]) (o := 10) (st := []) (c_Cal_keepsOrder X.1 D tc x0 y ad I J P k_Wo1.2.2.1 a1 a2) yv_Cal_keepsOrder tw_2_152 tw_2_153 tw_2_154 (cC_Cal D tc x0 y ad) k_Wo1.2.2.1.1 rfl (Nat.le_of_ble_eq_true rfl) (by decide +kernel) ⟨Nat.le_of_ble_eq_true rfl, Nat.le_of_ble_eq_true rfl⟩ ⟨Nat.le_of_ble_eq_true rfl, Nat.le_of_ble_eq_true rfl⟩ rfl rfl (fun v1 => ?_)
          refine q_if_ne 47 rfl 50 (off := 6) (by decide +kernel) rfl (fun g1 => ?_) (fun g1 => ?_)
          · refine q_aload_n 0 0 51 rfl (by decide +kernel) rfl ?_
            refine q_getr (f := 0) 1 54 rfl (by decide +kernel) (cC_CR D tc x0 y ad) k_CR (by decide) rfl rfl tw_2_102 ?_
            refine q_getr (f := 0) 2 57 rfl (by decide +kernel) (cC_Wo D tc x0 y ad) k_Wo1.1 (by decide) rfl rfl tw_1_207 ?_
            refine q_iload_n 1 1 58 rfl (by decide +kernel) rfl ?_
            refine q_iload_n 2 2 59 rfl (by decide +kernel) rfl ?_
            refine q_callV_vI 62 rfl (av := [.int a1, .int a2]) (o := 2) (st := []) (c_Ru_putOrder X.1 D tc x0 y ad I J P k_Wo1.2.1 a1 a2) yv_Ru_putOrder tw_2_164 tw_2_165 tw_2_166 (cC_Ru D tc x0 y ad) k_Wo1.2.1.1 rfl (Nat.le_of_ble_eq_true rfl) (by decide +kernel) ⟨Nat.le_of_ble_eq_true rfl, Nat.le_of_ble_eq_true rfl⟩ ⟨Nat.le_of_ble_eq_true rfl, Nat.le_of_ble_eq_true rfl⟩ rfl rfl (fun I1 => ?_)
            refine q_aload_n 0 0 63 rfl (by decide +kernel) rfl ?_
            refine q_callV_vIJP 66 rfl (av := []) (o := 0) (st := []) (c_CR_mergeAll X.1 D tc x0 y ad I1 J P ) yv_CR_mergeAll tw_2_168 tw_2_170 sw_0 (cC_CR D tc x0 y ad) k_CR rfl (Nat.le_of_ble_eq_true rfl) (by decide +kernel) ⟨Nat.le_of_ble_eq_true rfl, Nat.le_of_ble_eq_true rfl⟩ ⟨Nat.le_of_ble_eq_true rfl, Nat.le_of_ble_eq_true rfl⟩ rfl rfl (fun I2 J1 P1 => ?_)
            refine q_aload_n 0 0 67 rfl (by decide +kernel) rfl ?_
            refine q_getr (f := 0) 1 70 rfl (by decide +kernel) (cC_CR D tc x0 y ad) k_CR (by decide) rfl rfl tw_2_102 ?_
            refine q_getr (f := 0) 2 73 rfl (by decide +kernel) (cC_Wo D tc x0 y ad) k_Wo1.1 (by decide) rfl rfl tw_1_207 ?_
            refine q_geti (f := 7) 76 rfl (by decide +kernel) (cC_Ru D tc x0 y ad) k_Wo1.2.1.1 (by decide) rfl tw_1_60 ?_
            exact q_iret (by decide +kernel) rfl rfl (Nat.le_of_ble_eq_true rfl) (Nat.le_of_ble_eq_true rfl)
          · refine q_bipush (-3) (c := -3) 49 rfl (by decide +kernel) rfl ?_
            exact q_iret (by decide +kernel) rfl rfl (Nat.le_of_ble_eq_true rfl) (Nat.le_of_ble_eq_true rfl)
        · refine q_bipush (-2) (c := -2) 31 rfl (by decide +kernel) rfl ?_
          exact q_iret (by decide +kernel) rfl rfl (Nat.le_of_ble_eq_true rfl) (Nat.le_of_ble_eq_true rfl)
      · refine q_iconst (-1) (c := -1) 14 rfl (by decide +kernel) rfl ?_
        exact q_iret (by decide +kernel) rfl rfl (Nat.le_of_ble_eq_true rfl) (Nat.le_of_ble_eq_true rfl)
def f_CR_clearOrders (I : q_I) (J : q_J) (P : q_P) : Option (Int32 × q_I × q_J × q_P) :=
  q_l (I 2 7 : Int32) (fun x1 => q_l (q_ui I 2 7 0) (fun I1 => q_b3 (f_CR_mergeAll I1 J P) (fun I2 J1 P1 => some (x1, I2, J1, P1))))
def y_CR_clearOrders : MethodName := ⟨"CalendarReplicas", "clearOrders", "()I"⟩
def m_CR_clearOrders : q_M := (prog_1_method_5_code, 2, "CalendarReplicas", { frames := 21, cells := 0, slots := 0, locals := 546 }, (some FieldType.int))
theorem yv_CR_clearOrders : q_Y y_CR_clearOrders m_CR_clearOrders 0 := ⟨rfl, ⟨by decide, by decide⟩, by decide +kernel, tw_3_50, tw_1_1⟩
set_option maxRecDepth 100000 in
set_option maxHeartbeats 4000000 in
theorem c_CR_clearOrders (l : Launch) (D : va_G) (tc : Nat → ClassId) (x0 y : Nat) (ad : Nat → Nat) (I : q_I) (J : q_J) (P : q_P) : q_Ct l (cG D tc x0 y ad) y_CR_clearOrders m_CR_clearOrders [q_r (cG D tc x0 y ad) 0] (I, J, P) (f_CR_clearOrders I J P) (fun r : Int32 × q_I × q_J × q_P => (some (.int r.1), (r.2.1, r.2.2.1, r.2.2.2))) := by
  refine q_Ct_of (cIn D tc x0 y ad) (by decide) rfl (Nat.le_of_ble_eq_true rfl) rfl (fun X hX => ?_)
  subst hX
  unfold f_CR_clearOrders
  refine q_aload_n 0 0 1 rfl (by decide +kernel) rfl ?_
  refine q_getr (f := 0) 1 4 rfl (by decide +kernel) (cC_CR D tc x0 y ad) k_CR (by decide) rfl rfl tw_2_102 ?_
  refine q_getr (f := 0) 2 7 rfl (by decide +kernel) (cC_Wo D tc x0 y ad) k_Wo1.1 (by decide) rfl rfl tw_1_207 ?_
  refine q_geti (f := 7) 10 rfl (by decide +kernel) (cC_Ru D tc x0 y ad) k_Wo1.2.1.1 (by decide) rfl tw_1_60 ?_
  refine q_leti (fun x1 => ?_)
  refine q_istore_n 1 1 11 rfl [(1, .int x1), (0, q_r (cG D tc x0 y ad) 0)] (by decide +kernel) rfl (Nat.le_of_ble_eq_true rfl) rfl ?_
  refine q_aload_n 1 0 12 rfl (by decide +kernel) rfl ?_
  refine q_getr (f := 0) 1 15 rfl (by decide +kernel) (cC_CR D tc x0 y ad) k_CR (by decide) rfl rfl tw_2_102 ?_
  refine q_getr (f := 0) 2 18 rfl (by decide +kernel) (cC_Wo D tc x0 y ad) k_Wo1.1 (by decide) rfl rfl tw_1_207 ?_
  refine q_iconst 0 (c := 0) 19 rfl (by decide +kernel) rfl ?_
  refine q_puti (f := 7) 22 rfl (by decide +kernel) (cC_Ru D tc x0 y ad) k_Wo1.2.1.1 (by decide) rfl rfl rfl tw_1_60 ?_
  refine q_letI (fun I1 => ?_)
  refine q_aload_n 1 0 23 rfl (by decide +kernel) rfl ?_
  refine q_callV_vIJP 26 rfl (av := []) (o := 0) (st := []) (c_CR_mergeAll X.1 D tc x0 y ad I1 J P ) yv_CR_mergeAll tw_2_168 tw_2_170 sw_0 (cC_CR D tc x0 y ad) k_CR rfl (Nat.le_of_ble_eq_true rfl) (by decide +kernel) ⟨Nat.le_of_ble_eq_true rfl, Nat.le_of_ble_eq_true rfl⟩ ⟨Nat.le_of_ble_eq_true rfl, Nat.le_of_ble_eq_true rfl⟩ rfl rfl (fun I2 J1 P1 => ?_)
  refine q_iload_n 0 1 27 rfl (by decide +kernel) rfl ?_
  exact q_iret (by decide +kernel) rfl rfl (Nat.le_of_ble_eq_true rfl) (Nat.le_of_ble_eq_true rfl)
