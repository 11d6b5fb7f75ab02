def f_Mo_of (I : q_I) (J : q_J) (a1 : Int32) (a2 : Int32) (a3 : Int32) : Option (Int32 × q_I × q_J) :=
  q_b3 (f_Mo_isThere I J a1 a2) (fun v1 I1 J1 => if v1 = 0 then (some ((-1), I1, J1)) else (q_b1 (f_Mo_find I1 a2) (fun v2 => q_b1 (f_Mo_meeting v2 a3) (fun v3 => q_ix v3 175 (fun j1 => some ((I1 6 j1), I1, J1))))))
def y_Mo_of : MethodName := ⟨"CalendarReplicasModel", "of", "(III)I"⟩
def m_Mo_of : q_M := (prog_11_method_51_code, 4, "CalendarReplicasModel", { frames := 9, cells := 0, slots := 0, locals := 214 }, (some FieldType.int))
theorem yv_Mo_of : q_Y y_Mo_of m_Mo_of 3 := ⟨rfl, ⟨by decide, by decide⟩, by decide +kernel, tw_7_20, tw_1_15⟩
set_option maxRecDepth 100000 in
set_option maxHeartbeats 4000000 in
theorem c_Mo_of (l : Launch) (D : va_G) (tc : Nat → ClassId) (x0 y : Nat) (I : q_I) (J : q_J) (P : q_P) (a1 : Int32) (a2 : Int32) (a3 : Int32) : q_Ct l (mG D tc x0 y) y_Mo_of m_Mo_of [q_r (mG D tc x0 y) 0, .int a1, .int a2, .int a3] (I, J, P) (f_Mo_of I J a1 a2 a3) (fun r : Int32 × q_I × q_J => (some (.int r.1), (r.2.1, r.2.2, P))) := by
  refine q_Ct_of (mIn D tc x0 y) (by decide) rfl (Nat.le_of_ble_eq_true rfl) rfl (fun X hX => ?_)
  subst hX
  unfold f_Mo_of
  refine q_aload_n 0 0 1 rfl (by decide +kernel) rfl ?_
  refine q_iload_n 1 1 2 rfl (by decide +kernel) rfl ?_
  refine q_iload_n 2 2 3 rfl (by decide +kernel) rfl ?_
  refine q_callV_iIJ 6 rfl (av := [.int a1, .int a2]) (o := 0) (st := []) (c_Mo_isThere X.1 D tc x0 y I J P a1 a2) yv_Mo_isThere tw_6_197 tw_6_199 sw_54 (cC_Mo D tc x0 y) (rfl : mKd 0 = (1, 0, 21, 0, 0)) rfl (Nat.le_of_ble_eq_true rfl) (by decide +kernel) ⟨Nat.le_of_ble_eq_true rfl, Nat.le_of_ble_eq_true rfl⟩ ⟨Nat.le_of_ble_eq_true rfl, Nat.le_of_ble_eq_true rfl⟩ rfl rfl (fun v1 I1 J1 => ?_)
  refine q_if_eq 9 rfl 26 (off := 20) (by decide +kernel) rfl (fun g1 => ?_) (fun g1 => ?_)
  · refine q_iconst (-1) (c := -1) 27 rfl (by decide +kernel) rfl ?_
    exact q_iret (by decide +kernel) rfl rfl (Nat.le_of_ble_eq_true rfl) (Nat.le_of_ble_eq_true rfl)
  · refine q_aload_n 0 0 10 rfl (by decide +kernel) rfl ?_
    refine q_getr (f := 8) 6 13 rfl (by decide +kernel) (cC_Mo D tc x0 y) (rfl : mKd 0 = (1, 0, 21, 0, 0)) (by decide) rfl rfl tw_5_220 ?_
    refine q_aload_n 0 0 14 rfl (by decide +kernel) rfl ?_
    refine q_iload_n 2 2 15 rfl (by decide +kernel) rfl ?_
    refine q_callV_i 18 rfl (av := [.int a2]) (o := 0) (st := [q_r (mG D tc x0 y) 6]) (c_Mo_find X.1 D tc x0 y I1 J1 P a2) yv_Mo_find tw_6_89 tw_6_91 sw_34 (cC_Mo D tc x0 y) (rfl : mKd 0 = (1, 0, 21, 0, 0)) rfl (Nat.le_of_ble_eq_true rfl) (by decide +kernel) ⟨Nat.le_of_ble_eq_true rfl, Nat.le_of_ble_eq_true rfl⟩ ⟨Nat.le_of_ble_eq_true rfl, Nat.le_of_ble_eq_true rfl⟩ rfl rfl (fun v2 => ?_)
    refine q_iload_n 3 3 19 rfl (by decide +kernel) rfl ?_
    refine q_callS_i 22 rfl (av := [.int v2, .int a3]) (st := [q_r (mG D tc x0 y) 6]) (c_Mo_meeting X.1 D tc x0 y I1 J1 P v2 a3) yv_Mo_meeting tw_6_86 tw_6_87 rfl (Nat.le_of_ble_eq_true rfl) (by decide +kernel) ⟨Nat.le_of_ble_eq_true rfl, Nat.le_of_ble_eq_true rfl⟩ ⟨Nat.le_of_ble_eq_true rfl, Nat.le_of_ble_eq_true rfl⟩ rfl rfl (fun v3 => ?_)
    refine q_iald (t := 0) 23 rfl (by decide +kernel) (rfl : mKd 6 = (2, 175, 0, 0, 0)) rfl (fun j1 hj1 => ?_)
    refine q_goto (off := 4) 27 (by decide +kernel) rfl ?_
    exact q_iret (by decide +kernel) rfl rfl (Nat.le_of_ble_eq_true rfl) (Nat.le_of_ble_eq_true rfl)
def f_Mo_startOf (I : q_I) (J : q_J) (a1 : Int32) (a2 : Int32) : Option (Int32 × q_I × q_J) :=
  q_b3 (f_Mo_of I J a1 a2 1) (fun v1 I1 J1 => some (v1, I1, J1))
def y_Mo_startOf : MethodName := ⟨"CalendarReplicasModel", "startOf", "(II)I"⟩
def m_Mo_startOf : q_M := (prog_11_method_52_code, 3, "CalendarReplicasModel", { frames := 10, cells := 0, slots := 0, locals := 237 }, (some FieldType.int))
theorem yv_Mo_startOf : q_Y y_Mo_startOf m_Mo_startOf 2 := ⟨rfl, ⟨by decide, by decide⟩, by decide +kernel, tw_7_16, tw_1_15⟩
set_option maxRecDepth 100000 in
set_option maxHeartbeats 4000000 in
theorem c_Mo_startOf (l : Launch) (D : va_G) (tc : Nat → ClassId) (x0 y : Nat) (I : q_I) (J : q_J) (P : q_P) (a1 : Int32) (a2 : Int32) : q_Ct l (mG D tc x0 y) y_Mo_startOf m_Mo_startOf [q_r (mG D tc x0 y) 0, .int a1, .int a2] (I, J, P) (f_Mo_startOf I J a1 a2) (fun r : Int32 × q_I × q_J => (some (.int r.1), (r.2.1, r.2.2, P))) := by
  refine q_Ct_of (mIn D tc x0 y) (by decide) rfl (Nat.le_of_ble_eq_true rfl) rfl (fun X hX => ?_)
  subst hX
  unfold f_Mo_startOf
  refine q_aload_n 0 0 1 rfl (by decide +kernel) rfl ?_
  refine q_iload_n 1 1 2 rfl (by decide +kernel) rfl ?_
  refine q_iload_n 2 2 3 rfl (by decide +kernel) rfl ?_
  refine q_iconst 1 (c := 1) 4 rfl (by decide +kernel) rfl ?_
  refine q_callV_iIJ 7 rfl (av := [.int a1, .int a2, .int 1]) (o := 0) (st := []) (c_Mo_of X.1 D tc x0 y I J P a1 a2 1) yv_Mo_of tw_7_17 tw_7_19 sw_58 (cC_Mo D tc x0 y) (rfl : mKd 0 = (1, 0, 21, 0, 0)) rfl (Nat.le_of_ble_eq_true rfl) (by decide +kernel) ⟨Nat.le_of_ble_eq_true rfl, Nat.le_of_ble_eq_true rfl⟩ ⟨Nat.le_of_ble_eq_true rfl, Nat.le_of_ble_eq_true rfl⟩ rfl rfl (fun v1 I1 J1 => ?_)
  exact q_iret (by decide +kernel) rfl rfl (Nat.le_of_ble_eq_true rfl) (Nat.le_of_ble_eq_true rfl)
def f_Mo_durationOf (I : q_I) (J : q_J) (a1 : Int32) (a2 : Int32) : Option (Int32 × q_I × q_J) :=
  q_b3 (f_Mo_of I J a1 a2 2) (fun v1 I1 J1 => some (v1, I1, J1))
def y_Mo_durationOf : MethodName := ⟨"CalendarReplicasModel", "durationOf", "(II)I"⟩
def m_Mo_durationOf : q_M := (prog_11_method_53_code, 3, "CalendarReplicasModel", { frames := 10, cells := 0, slots := 0, locals := 237 }, (some FieldType.int))
theorem yv_Mo_durationOf : q_Y y_Mo_durationOf m_Mo_durationOf 2 := ⟨rfl, ⟨by decide, by decide⟩, by decide +kernel, tw_7_24, tw_1_15⟩
set_option maxRecDepth 100000 in
set_option maxHeartbeats 4000000 in
theorem c_Mo_durationOf (l : Launch) (D : va_G) (tc : Nat → ClassId) (x0 y : Nat) (I : q_I) (J : q_J) (P : q_P) (a1 : Int32) (a2 : Int32) : q_Ct l (mG D tc x0 y) y_Mo_durationOf m_Mo_durationOf [q_r (mG D tc x0 y) 0, .int a1, .int a2] (I, J, P) (f_Mo_durationOf I J a1 a2) (fun r : Int32 × q_I × q_J => (some (.int r.1), (r.2.1, r.2.2, P))) := by
  refine q_Ct_of (mIn D tc x0 y) (by decide) rfl (Nat.le_of_ble_eq_true rfl) rfl (fun X hX => ?_)
  subst hX
  unfold f_Mo_durationOf
  refine q_aload_n 0 0 1 rfl (by decide +kernel) rfl ?_
  refine q_iload_n 1 1 2 rfl (by decide +kernel) rfl ?_
  refine q_iload_n 2 2 3 rfl (by decide +kernel) rfl ?_
  refine q_iconst 2 (c := 2) 4 rfl (by decide +kernel) rfl ?_
  refine q_callV_iIJ 7 rfl (av := [.int a1, .int a2, .int 2]) (o := 0) (st := []) (c_Mo_of X.1 D tc x0 y I J P a1 a2 2) yv_Mo_of tw_7_17 tw_7_19 sw_58 (cC_Mo D tc x0 y) (rfl : mKd 0 = (1, 0, 21, 0, 0)) rfl (Nat.le_of_ble_eq_true rfl) (by decide +kernel) ⟨Nat.le_of_ble_eq_true rfl, Nat.le_of_ble_eq_true rfl⟩ ⟨Nat.le_of_ble_eq_true rfl, Nat.le_of_ble_eq_true rfl⟩ rfl rfl (fun v1 I1 J1 => ?_)
  exact q_iret (by decide +kernel) rfl rfl (Nat.le_of_ble_eq_true rfl) (Nat.le_of_ble_eq_true rfl)
def f_Mo_roomOf (I : q_I) (J : q_J) (a1 : Int32) (a2 : Int32) : Option (Int32 × q_I × q_J) :=
  q_b3 (f_Mo_of I J a1 a2 3) (fun v1 I1 J1 => some (v1, I1, J1))
def y_Mo_roomOf : MethodName := ⟨"CalendarReplicasModel", "roomOf", "(II)I"⟩
def m_Mo_roomOf : q_M := (prog_11_method_54_code, 3, "CalendarReplicasModel", { frames := 10, cells := 0, slots := 0, locals := 237 }, (some FieldType.int))
theorem yv_Mo_roomOf : q_Y y_Mo_roomOf m_Mo_roomOf 2 := ⟨rfl, ⟨by decide, by decide⟩, by decide +kernel, tw_7_28, tw_1_15⟩
set_option maxRecDepth 100000 in
set_option maxHeartbeats 4000000 in
theorem c_Mo_roomOf (l : Launch) (D : va_G) (tc : Nat → ClassId) (x0 y : Nat) (I : q_I) (J : q_J) (P : q_P) (a1 : Int32) (a2 : Int32) : q_Ct l (mG D tc x0 y) y_Mo_roomOf m_Mo_roomOf [q_r (mG D tc x0 y) 0, .int a1, .int a2] (I, J, P) (f_Mo_roomOf I J a1 a2) (fun r : Int32 × q_I × q_J => (some (.int r.1), (r.2.1, r.2.2, P))) := by
  refine q_Ct_of (mIn D tc x0 y) (by decide) rfl (Nat.le_of_ble_eq_true rfl) rfl (fun X hX => ?_)
  subst hX
  unfold f_Mo_roomOf
  refine q_aload_n 0 0 1 rfl (by decide +kernel) rfl ?_
  refine q_iload_n 1 1 2 rfl (by decide +kernel) rfl ?_
  refine q_iload_n 2 2 3 rfl (by decide +kernel) rfl ?_
  refine q_iconst 3 (c := 3) 4 rfl (by decide +kernel) rfl ?_
  refine q_callV_iIJ 7 rfl (av := [.int a1, .int a2, .int 3]) (o := 0) (st := []) (c_Mo_of X.1 D tc x0 y I J P a1 a2 3) yv_Mo_of tw_7_17 tw_7_19 sw_58 (cC_Mo D tc x0 y) (rfl : mKd 0 = (1, 0, 21, 0, 0)) rfl (Nat.le_of_ble_eq_true rfl) (by decide +kernel) ⟨Nat.le_of_ble_eq_true rfl, Nat.le_of_ble_eq_true rfl⟩ ⟨Nat.le_of_ble_eq_true rfl, Nat.le_of_ble_eq_true rfl⟩ rfl rfl (fun v1 I1 J1 => ?_)
  exact q_iret (by decide +kernel) rfl rfl (Nat.le_of_ble_eq_true rfl) (Nat.le_of_ble_eq_true rfl)
def f_Mo_personsOf (I : q_I) (J : q_J) (a1 : Int32) (a2 : Int32) : Option (Int32 × q_I × q_J) :=
  q_b3 (f_Mo_of I J a1 a2 4) (fun v1 I1 J1 => some (v1, I1, J1))
def y_Mo_personsOf : MethodName := ⟨"CalendarReplicasModel", "personsOf", "(II)I"⟩
def m_Mo_personsOf : q_M := (prog_11_method_55_code, 3, "CalendarReplicasModel", { frames := 10, cells := 0, slots := 0, locals := 237 }, (some FieldType.int))
theorem yv_Mo_personsOf : q_Y y_Mo_personsOf m_Mo_personsOf 2 := ⟨rfl, ⟨by decide, by decide⟩, by decide +kernel, tw_7_32, tw_1_15⟩
set_option maxRecDepth 100000 in
set_option maxHeartbeats 4000000 in
theorem c_Mo_personsOf (l : Launch) (D : va_G) (tc : Nat → ClassId) (x0 y : Nat) (I : q_I) (J : q_J) (P : q_P) (a1 : Int32) (a2 : Int32) : q_Ct l (mG D tc x0 y) y_Mo_personsOf m_Mo_personsOf [q_r (mG D tc x0 y) 0, .int a1, .int a2] (I, J, P) (f_Mo_personsOf I J a1 a2) (fun r : Int32 × q_I × q_J => (some (.int r.1), (r.2.1, r.2.2, P))) := by
  refine q_Ct_of (mIn D tc x0 y) (by decide) rfl (Nat.le_of_ble_eq_true rfl) rfl (fun X hX => ?_)
  subst hX
  unfold f_Mo_personsOf
  refine q_aload_n 0 0 1 rfl (by decide +kernel) rfl ?_
  refine q_iload_n 1 1 2 rfl (by decide +kernel) rfl ?_
  refine q_iload_n 2 2 3 rfl (by decide +kernel) rfl ?_
  refine q_iconst 4 (c := 4) 4 rfl (by decide +kernel) rfl ?_
  refine q_callV_iIJ 7 rfl (av := [.int a1, .int a2, .int 4]) (o := 0) (st := []) (c_Mo_of X.1 D tc x0 y I J P a1 a2 4) yv_Mo_of tw_7_17 tw_7_19 sw_58 (cC_Mo D tc x0 y) (rfl : mKd 0 = (1, 0, 21, 0, 0)) rfl (Nat.le_of_ble_eq_true rfl) (by decide +kernel) ⟨Nat.le_of_ble_eq_true rfl, Nat.le_of_ble_eq_true rfl⟩ ⟨Nat.le_of_ble_eq_true rfl, Nat.le_of_ble_eq_true rfl⟩ rfl rfl (fun v1 I1 J1 => ?_)
  exact q_iret (by decide +kernel) rfl rfl (Nat.le_of_ble_eq_true rfl) (Nat.le_of_ble_eq_true rfl)
def f_Mo_periodOf (I : q_I) (J : q_J) (a1 : Int32) (a2 : Int32) : Option (Int32 × q_I × q_J) :=
  q_b3 (f_Mo_of I J a1 a2 5) (fun v1 I1 J1 => some (v1, I1, J1))
def y_Mo_periodOf : MethodName := ⟨"CalendarReplicasModel", "periodOf", "(II)I"⟩
def m_Mo_periodOf : q_M := (prog_11_method_56_code, 3, "CalendarReplicasModel", { frames := 10, cells := 0, slots := 0, locals := 237 }, (some FieldType.int))
theorem yv_Mo_periodOf : q_Y y_Mo_periodOf m_Mo_periodOf 2 := ⟨rfl, ⟨by decide, by decide⟩, by decide +kernel, tw_7_36, tw_1_15⟩
set_option maxRecDepth 100000 in
set_option maxHeartbeats 4000000 in
theorem c_Mo_periodOf (l : Launch) (D : va_G) (tc : Nat → ClassId) (x0 y : Nat) (I : q_I) (J : q_J) (P : q_P) (a1 : Int32) (a2 : Int32) : q_Ct l (mG D tc x0 y) y_Mo_periodOf m_Mo_periodOf [q_r (mG D tc x0 y) 0, .int a1, .int a2] (I, J, P) (f_Mo_periodOf I J a1 a2) (fun r : Int32 × q_I × q_J => (some (.int r.1), (r.2.1, r.2.2, P))) := by
  refine q_Ct_of (mIn D tc x0 y) (by decide) rfl (Nat.le_of_ble_eq_true rfl) rfl (fun X hX => ?_)
  subst hX
  unfold f_Mo_periodOf
  refine q_aload_n 0 0 1 rfl (by decide +kernel) rfl ?_
  refine q_iload_n 1 1 2 rfl (by decide +kernel) rfl ?_
  refine q_iload_n 2 2 3 rfl (by decide +kernel) rfl ?_
  refine q_iconst 5 (c := 5) 4 rfl (by decide +kernel) rfl ?_
  refine q_callV_iIJ 7 rfl (av := [.int a1, .int a2, .int 5]) (o := 0) (st := []) (c_Mo_of X.1 D tc x0 y I J P a1 a2 5) yv_Mo_of tw_7_17 tw_7_19 sw_58 (cC_Mo D tc x0 y) (rfl : mKd 0 = (1, 0, 21, 0, 0)) rfl (Nat.le_of_ble_eq_true rfl) (by decide +kernel) ⟨Nat.le_of_ble_eq_true rfl, Nat.le_of_ble_eq_true rfl⟩ ⟨Nat.le_of_ble_eq_true rfl, Nat.le_of_ble_eq_true rfl⟩ rfl rfl (fun v1 I1 J1 => ?_)
  exact q_iret (by decide +kernel) rfl rfl (Nat.le_of_ble_eq_true rfl) (Nat.le_of_ble_eq_true rfl)
def f_Mo_countOf (I : q_I) (J : q_J) (a1 : Int32) (a2 : Int32) : Option (Int32 × q_I × q_J) :=
  q_b3 (f_Mo_of I J a1 a2 6) (fun v1 I1 J1 => some (v1, I1, J1))
def y_Mo_countOf : MethodName := ⟨"CalendarReplicasModel", "countOf", "(II)I"⟩
def m_Mo_countOf : q_M := (prog_11_method_57_code, 3, "CalendarReplicasModel", { frames := 10, cells := 0, slots := 0, locals := 237 }, (some FieldType.int))
theorem yv_Mo_countOf : q_Y y_Mo_countOf m_Mo_countOf 2 := ⟨rfl, ⟨by decide, by decide⟩, by decide +kernel, tw_7_40, tw_1_15⟩
set_option maxRecDepth 100000 in
set_option maxHeartbeats 4000000 in
theorem c_Mo_countOf (l : Launch) (D : va_G) (tc : Nat → ClassId) (x0 y : Nat) (I : q_I) (J : q_J) (P : q_P) (a1 : Int32) (a2 : Int32) : q_Ct l (mG D tc x0 y) y_Mo_countOf m_Mo_countOf [q_r (mG D tc x0 y) 0, .int a1, .int a2] (I, J, P) (f_Mo_countOf I J a1 a2) (fun r : Int32 × q_I × q_J => (some (.int r.1), (r.2.1, r.2.2, P))) := by
  refine q_Ct_of (mIn D tc x0 y) (by decide) rfl (Nat.le_of_ble_eq_true rfl) rfl (fun X hX => ?_)
  subst hX
  unfold f_Mo_countOf
  refine q_aload_n 0 0 1 rfl (by decide +kernel) rfl ?_
  refine q_iload_n 1 1 2 rfl (by decide +kernel) rfl ?_
  refine q_iload_n 2 2 3 rfl (by decide +kernel) rfl ?_
  refine q_bipush 6 (c := 6) 5 rfl (by decide +kernel) rfl ?_
  refine q_callV_iIJ 8 rfl (av := [.int a1, .int a2, .int 6]) (o := 0) (st := []) (c_Mo_of X.1 D tc x0 y I J P a1 a2 6) yv_Mo_of tw_7_17 tw_7_19 sw_58 (cC_Mo D tc x0 y) (rfl : mKd 0 = (1, 0, 21, 0, 0)) rfl (Nat.le_of_ble_eq_true rfl) (by decide +kernel) ⟨Nat.le_of_ble_eq_true rfl, Nat.le_of_ble_eq_true rfl⟩ ⟨Nat.le_of_ble_eq_true rfl, Nat.le_of_ble_eq_true rfl⟩ rfl rfl (fun v1 I1 J1 => ?_)
  exact q_iret (by decide +kernel) rfl rfl (Nat.le_of_ble_eq_true rfl) (Nat.le_of_ble_eq_true rfl)
def f_Mo_edits (I : q_I) : Option (Int32) :=
  q_ix 0 280 (fun j1 => some ((I 1 j1)))
def y_Mo_edits : MethodName := ⟨"CalendarReplicasModel", "edits", "()I"⟩
def m_Mo_edits : q_M := (prog_11_method_58_code, 1, "CalendarReplicasModel", { frames := 0, cells := 0, slots := 0, locals := 0 }, (some FieldType.int))
theorem yv_Mo_edits : q_Y y_Mo_edits m_Mo_edits 0 := ⟨rfl, ⟨by decide, by decide⟩, by decide +kernel, tw_7_44, tw_1_15⟩
set_option maxRecDepth 100000 in
set_option maxHeartbeats 4000000 in
theorem c_Mo_edits (l : Launch) (D : va_G) (tc : Nat → ClassId) (x0 y : Nat) (I : q_I) (J : q_J) (P : q_P) : q_Ct l (mG D tc x0 y) y_Mo_edits m_Mo_edits [q_r (mG D tc x0 y) 0] (I, J, P) (f_Mo_edits I) (fun r : Int32 => (some (.int r), (I, J, P))) := by
  refine q_Ct_of (mIn D tc x0 y) (by decide) rfl (Nat.le_of_ble_eq_true rfl) rfl (fun X hX => ?_)
  subst hX
  unfold f_Mo_edits
  refine q_aload_n 0 0 1 rfl (by decide +kernel) rfl ?_
  refine q_getr (f := 0) 1 4 rfl (by decide +kernel) (cC_Mo D tc x0 y) (rfl : mKd 0 = (1, 0, 21, 0, 0)) (by decide) rfl rfl tw_5_212 ?_
  refine q_iconst 0 (c := 0) 5 rfl (by decide +kernel) rfl ?_
  refine q_iald (t := 0) 6 rfl (by decide +kernel) (rfl : mKd 1 = (2, 280, 0, 0, 0)) rfl (fun j1 hj1 => ?_)
  exact q_iret (by decide +kernel) rfl rfl (Nat.le_of_ble_eq_true rfl) (Nat.le_of_ble_eq_true rfl)
def f_Mo_editAt (I : q_I) (a1 : Int32) : Option (Int32) :=
  q_ix 0 280 (fun j1 => q_b1 (f_Mo_in a1 0 ((I 1 j1) - 1)) (fun v1 => if v1 = 0 then (some ((-1))) else (q_b1 (f_Mo_edit a1 0) (fun v2 => q_ix v2 280 (fun j2 => some ((I 1 j2)))))))
def y_Mo_editAt : MethodName := ⟨"CalendarReplicasModel", "editAt", "(I)I"⟩
def m_Mo_editAt : q_M := (prog_11_method_59_code, 2, "CalendarReplicasModel", { frames := 1, cells := 0, slots := 0, locals := 22 }, (some FieldType.int))
theorem yv_Mo_editAt : q_Y y_Mo_editAt m_Mo_editAt 1 := ⟨rfl, ⟨by decide, by decide⟩, by decide +kernel, tw_7_48, tw_1_15⟩
set_option maxRecDepth 100000 in
set_option maxHeartbeats 4000000 in
theorem c_Mo_editAt (l : Launch) (D : va_G) (tc : Nat → ClassId) (x0 y : Nat) (I : q_I) (J : q_J) (P : q_P) (a1 : Int32) : q_Ct l (mG D tc x0 y) y_Mo_editAt m_Mo_editAt [q_r (mG D tc x0 y) 0, .int a1] (I, J, P) (f_Mo_editAt I a1) (fun r : Int32 => (some (.int r), (I, J, P))) := by
  refine q_Ct_of (mIn D tc x0 y) (by decide) rfl (Nat.le_of_ble_eq_true rfl) rfl (fun X hX => ?_)
  subst hX
  unfold f_Mo_editAt
  refine q_iload_n 1 1 1 rfl (by decide +kernel) rfl ?_
  refine q_iconst 0 (c := 0) 2 rfl (by decide +kernel) rfl ?_
  refine q_aload_n 0 0 3 rfl (by decide +kernel) rfl ?_
  refine q_getr (f := 0) 1 6 rfl (by decide +kernel) (cC_Mo D tc x0 y) (rfl : mKd 0 = (1, 0, 21, 0, 0)) (by decide) rfl rfl tw_5_212 ?_
  refine q_iconst 0 (c := 0) 7 rfl (by decide +kernel) rfl ?_
  refine q_iald (t := 0) 8 rfl (by decide +kernel) (rfl : mKd 1 = (2, 280, 0, 0, 0)) rfl (fun j1 hj1 => ?_)
  refine q_iconst 1 (c := 1) 9 rfl (by decide +kernel) rfl ?_
  refine q_isub 10 rfl (by decide +kernel) ?_
  refine q_callS_i 13 rfl (av := [.int a1, .int 0, .int ((I 1 j1) - 1)]) (st := []) (c_Mo_in X.1 D tc x0 y I J P a1 0 ((I 1 j1) - 1)) yv_Mo_in tw_6_40 tw_6_41 rfl (Nat.le_of_ble_eq_true rfl) (by decide +kernel) ⟨Nat.le_of_ble_eq_true rfl, Nat.le_of_ble_eq_true rfl⟩ ⟨Nat.le_of_ble_eq_true rfl, Nat.le_of_ble_eq_true rfl⟩ rfl rfl (fun v1 => ?_)
  refine q_if_eq 16 rfl 29 (off := 16) (by decide +kernel) rfl (fun g1 => ?_) (fun g1 => ?_)
  · refine q_iconst (-1) (c := -1) 30 rfl (by decide +kernel) rfl ?_
    exact q_iret (by decide +kernel) rfl rfl (Nat.le_of_ble_eq_true rfl) (Nat.le_of_ble_eq_true rfl)
  · refine q_aload_n 0 0 17 rfl (by decide +kernel) rfl ?_
    refine q_getr (f := 0) 1 20 rfl (by decide +kernel) (cC_Mo D tc x0 y) (rfl : mKd 0 = (1, 0, 21, 0, 0)) (by decide) rfl rfl tw_5_212 ?_
    refine q_iload_n 1 1 21 rfl (by decide +kernel) rfl ?_
    refine q_iconst 0 (c := 0) 22 rfl (by decide +kernel) rfl ?_
    refine q_callS_i 25 rfl (av := [.int a1, .int 0]) (st := [q_r (mG D tc x0 y) 1]) (c_Mo_edit X.1 D tc x0 y I J P a1 0) yv_Mo_edit tw_6_63 tw_6_64 rfl (Nat.le_of_ble_eq_true rfl) (by decide +kernel) ⟨Nat.le_of_ble_eq_true rfl, Nat.le_of_ble_eq_true rfl⟩ ⟨Nat.le_of_ble_eq_true rfl, Nat.le_of_ble_eq_true rfl⟩ rfl rfl (fun v2 => ?_)
    refine q_iald (t := 0) 26 rfl (by decide +kernel) (rfl : mKd 1 = (2, 280, 0, 0, 0)) rfl (fun j2 hj2 => ?_)
    refine q_goto (off := 4) 30 (by decide +kernel) rfl ?_
    exact q_iret (by decide +kernel) rfl rfl (Nat.le_of_ble_eq_true rfl) (Nat.le_of_ble_eq_true rfl)
def f_Mo_ofEdit (I : q_I) (a1 : Int32) (a2 : Int32) : Option (Int32) :=
  q_b1 (f_Mo_findEdit I a1) (fun v1 => if (0 : Int32) ≤ v1 then (q_b1 (f_Mo_edit v1 a2) (fun v2 => q_ix v2 280 (fun j1 => some ((I 1 j1))))) else (some ((-1))))
def y_Mo_ofEdit : MethodName := ⟨"CalendarReplicasModel", "ofEdit", "(II)I"⟩
def m_Mo_ofEdit : q_M := (prog_11_method_60_code, 4, "CalendarReplicasModel", { frames := 2, cells := 0, slots := 0, locals := 43 }, (some FieldType.int))
theorem yv_Mo_ofEdit : q_Y y_Mo_ofEdit m_Mo_ofEdit 2 := ⟨rfl, ⟨by decide, by decide⟩, by decide +kernel, tw_7_56, tw_1_15⟩
set_option maxRecDepth 100000 in
set_option maxHeartbeats 4000000 in
theorem c_Mo_ofEdit (l : Launch) (D : va_G) (tc : Nat → ClassId) (x0 y : Nat) (I : q_I) (J : q_J) (P : q_P) (a1 : Int32) (a2 : Int32) : q_Ct l (mG D tc x0 y) y_Mo_ofEdit m_Mo_ofEdit [q_r (mG D tc x0 y) 0, .int a1, .int a2] (I, J, P) (f_Mo_ofEdit I a1 a2) (fun r : Int32 => (some (.int r), (I, J, P))) := by
  refine q_Ct_of (mIn D tc x0 y) (by decide) rfl (Nat.le_of_ble_eq_true rfl) rfl (fun X hX => ?_)
  subst hX
  unfold f_Mo_ofEdit
  refine q_aload_n 0 0 1 rfl (by decide +kernel) rfl ?_
  refine q_iload_n 1 1 2 rfl (by decide +kernel) rfl ?_
  refine q_callV_i 5 rfl (av := [.int a1]) (o := 0) (st := []) (c_Mo_findEdit X.1 D tc x0 y I J P a1) yv_Mo_findEdit tw_6_233 tw_6_235 sw_56 (cC_Mo D tc x0 y) (rfl : mKd 0 = (1, 0, 21, 0, 0)) rfl (Nat.le_of_ble_eq_true rfl) (by decide +kernel) ⟨Nat.le_of_ble_eq_true rfl, Nat.le_of_ble_eq_true rfl⟩ ⟨Nat.le_of_ble_eq_true rfl, Nat.le_of_ble_eq_true rfl⟩ rfl rfl (fun v1 => ?_)
  refine q_istore_n 3 3 6 rfl [(3, .int v1), (0, q_r (mG D tc x0 y) 0), (1, .int a1), (2, .int a2)] (by decide +kernel) rfl (Nat.le_of_ble_eq_true rfl) rfl ?_
  refine q_iload_n 0 3 7 rfl (by decide +kernel) rfl ?_
  refine q_if_ge 10 rfl 14 (off := 7) (by decide +kernel) rfl (fun g1 => ?_) (fun g1 => ?_)
  · refine q_aload_n 1 0 15 rfl (by decide +kernel) rfl ?_
    refine q_getr (f := 0) 1 18 rfl (by decide +kernel) (cC_Mo D tc x0 y) (rfl : mKd 0 = (1, 0, 21, 0, 0)) (by decide) rfl rfl tw_5_212 ?_
    refine q_iload_n 0 3 19 rfl (by decide +kernel) rfl ?_
    refine q_iload_n 3 2 20 rfl (by decide +kernel) rfl ?_
    refine q_callS_i 23 rfl (av := [.int v1, .int a2]) (st := [q_r (mG D tc x0 y) 1]) (c_Mo_edit X.1 D tc x0 y I J P v1 a2) yv_Mo_edit tw_6_63 tw_6_64 rfl (Nat.le_of_ble_eq_true rfl) (by decide +kernel) ⟨Nat.le_of_ble_eq_true rfl, Nat.le_of_ble_eq_true rfl⟩ ⟨Nat.le_of_ble_eq_true rfl, Nat.le_of_ble_eq_true rfl⟩ rfl rfl (fun v2 => ?_)
    refine q_iald (t := 0) 24 rfl (by decide +kernel) (rfl : mKd 1 = (2, 280, 0, 0, 0)) rfl (fun j1 hj1 => ?_)
    exact q_iret (by decide +kernel) rfl rfl (Nat.le_of_ble_eq_true rfl) (Nat.le_of_ble_eq_true rfl)
  · refine q_iconst (-1) (c := -1) 11 rfl (by decide +kernel) rfl ?_
    refine q_goto (off := 13) 24 (by decide +kernel) rfl ?_
    exact q_iret (by decide +kernel) rfl rfl (Nat.le_of_ble_eq_true rfl) (Nat.le_of_ble_eq_true rfl)
def f_Mo_kindOf (I : q_I) (a1 : Int32) : Option (Int32) :=
  q_b1 (f_Mo_ofEdit I a1 3) (fun v1 => some (v1))
def y_Mo_kindOf : MethodName := ⟨"CalendarReplicasModel", "kindOf", "(I)I"⟩
def m_Mo_kindOf : q_M := (prog_11_method_61_code, 2, "CalendarReplicasModel", { frames := 3, cells := 0, slots := 0, locals := 66 }, (some FieldType.int))
theorem yv_Mo_kindOf : q_Y y_Mo_kindOf m_Mo_kindOf 1 := ⟨rfl, ⟨by decide, by decide⟩, by decide +kernel, tw_7_52, tw_1_15⟩
set_option maxRecDepth 100000 in
set_option maxHeartbeats 4000000 in
theorem c_Mo_kindOf (l : Launch) (D : va_G) (tc : Nat → ClassId) (x0 y : Nat) (I : q_I) (J : q_J) (P : q_P) (a1 : Int32) : q_Ct l (mG D tc x0 y) y_Mo_kindOf m_Mo_kindOf [q_r (mG D tc x0 y) 0, .int a1] (I, J, P) (f_Mo_kindOf I a1) (fun r : Int32 => (some (.int r), (I, J, P))) := by
  refine q_Ct_of (mIn D tc x0 y) (by decide) rfl (Nat.le_of_ble_eq_true rfl) rfl (fun X hX => ?_)
  subst hX
  unfold f_Mo_kindOf
  refine q_aload_n 0 0 1 rfl (by decide +kernel) rfl ?_
  refine q_iload_n 1 1 2 rfl (by decide +kernel) rfl ?_
  refine q_iconst 3 (c := 3) 3 rfl (by decide +kernel) rfl ?_
  refine q_callV_i 6 rfl (av := [.int a1, .int 3]) (o := 0) (st := []) (c_Mo_ofEdit X.1 D tc x0 y I J P a1 3) yv_Mo_ofEdit tw_7_53 tw_7_55 sw_59 (cC_Mo D tc x0 y) (rfl : mKd 0 = (1, 0, 21, 0, 0)) rfl (Nat.le_of_ble_eq_true rfl) (by decide +kernel) ⟨Nat.le_of_ble_eq_true rfl, Nat.le_of_ble_eq_true rfl⟩ ⟨Nat.le_of_ble_eq_true rfl, Nat.le_of_ble_eq_true rfl⟩ rfl rfl (fun v1 => ?_)
  exact q_iret (by decide +kernel) rfl rfl (Nat.le_of_ble_eq_true rfl) (Nat.le_of_ble_eq_true rfl)
def f_Mo_meetingOf (I : q_I) (a1 : Int32) : Option (Int32) :=
  q_b1 (f_Mo_ofEdit I a1 4) (fun v1 => some (v1))
def y_Mo_meetingOf : MethodName := ⟨"CalendarReplicasModel", "meetingOf", "(I)I"⟩
def m_Mo_meetingOf : q_M := (prog_11_method_62_code, 2, "CalendarReplicasModel", { frames := 3, cells := 0, slots := 0, locals := 66 }, (some FieldType.int))
theorem yv_Mo_meetingOf : q_Y y_Mo_meetingOf m_Mo_meetingOf 1 := ⟨rfl, ⟨by decide, by decide⟩, by decide +kernel, tw_7_60, tw_1_15⟩
set_option maxRecDepth 100000 in
set_option maxHeartbeats 4000000 in
theorem c_Mo_meetingOf (l : Launch) (D : va_G) (tc : Nat → ClassId) (x0 y : Nat) (I : q_I) (J : q_J) (P : q_P) (a1 : Int32) : q_Ct l (mG D tc x0 y) y_Mo_meetingOf m_Mo_meetingOf [q_r (mG D tc x0 y) 0, .int a1] (I, J, P) (f_Mo_meetingOf I a1) (fun r : Int32 => (some (.int r), (I, J, P))) := by
  refine q_Ct_of (mIn D tc x0 y) (by decide) rfl (Nat.le_of_ble_eq_true rfl) rfl (fun X hX => ?_)
  subst hX
  unfold f_Mo_meetingOf
  refine q_aload_n 0 0 1 rfl (by decide +kernel) rfl ?_
  refine q_iload_n 1 1 2 rfl (by decide +kernel) rfl ?_
  refine q_iconst 4 (c := 4) 3 rfl (by decide +kernel) rfl ?_
  refine q_callV_i 6 rfl (av := [.int a1, .int 4]) (o := 0) (st := []) (c_Mo_ofEdit X.1 D tc x0 y I J P a1 4) yv_Mo_ofEdit tw_7_53 tw_7_55 sw_59 (cC_Mo D tc x0 y) (rfl : mKd 0 = (1, 0, 21, 0, 0)) rfl (Nat.le_of_ble_eq_true rfl) (by decide +kernel) ⟨Nat.le_of_ble_eq_true rfl, Nat.le_of_ble_eq_true rfl⟩ ⟨Nat.le_of_ble_eq_true rfl, Nat.le_of_ble_eq_true rfl⟩ rfl rfl (fun v1 => ?_)
  exact q_iret (by decide +kernel) rfl rfl (Nat.le_of_ble_eq_true rfl) (Nat.le_of_ble_eq_true rfl)
def f_Mo_authorOf (I : q_I) (a1 : Int32) : Option (Int32) :=
  q_b1 (f_Mo_ofEdit I a1 1) (fun v1 => some (v1))
def y_Mo_authorOf : MethodName := ⟨"CalendarReplicasModel", "authorOf", "(I)I"⟩
def m_Mo_authorOf : q_M := (prog_11_method_63_code, 2, "CalendarReplicasModel", { frames := 3, cells := 0, slots := 0, locals := 66 }, (some FieldType.int))
theorem yv_Mo_authorOf : q_Y y_Mo_authorOf m_Mo_authorOf 1 := ⟨rfl, ⟨by decide, by decide⟩, by decide +kernel, tw_7_64, tw_1_15⟩
set_option maxRecDepth 100000 in
set_option maxHeartbeats 4000000 in
theorem c_Mo_authorOf (l : Launch) (D : va_G) (tc : Nat → ClassId) (x0 y : Nat) (I : q_I) (J : q_J) (P : q_P) (a1 : Int32) : q_Ct l (mG D tc x0 y) y_Mo_authorOf m_Mo_authorOf [q_r (mG D tc x0 y) 0, .int a1] (I, J, P) (f_Mo_authorOf I a1) (fun r : Int32 => (some (.int r), (I, J, P))) := by
  refine q_Ct_of (mIn D tc x0 y) (by decide) rfl (Nat.le_of_ble_eq_true rfl) rfl (fun X hX => ?_)
  subst hX
  unfold f_Mo_authorOf
  refine q_aload_n 0 0 1 rfl (by decide +kernel) rfl ?_
  refine q_iload_n 1 1 2 rfl (by decide +kernel) rfl ?_
  refine q_iconst 1 (c := 1) 3 rfl (by decide +kernel) rfl ?_
  refine q_callV_i 6 rfl (av := [.int a1, .int 1]) (o := 0) (st := []) (c_Mo_ofEdit X.1 D tc x0 y I J P a1 1) yv_Mo_ofEdit tw_7_53 tw_7_55 sw_59 (cC_Mo D tc x0 y) (rfl : mKd 0 = (1, 0, 21, 0, 0)) rfl (Nat.le_of_ble_eq_true rfl) (by decide +kernel) ⟨Nat.le_of_ble_eq_true rfl, Nat.le_of_ble_eq_true rfl⟩ ⟨Nat.le_of_ble_eq_true rfl, Nat.le_of_ble_eq_true rfl⟩ rfl rfl (fun v1 => ?_)
  exact q_iret (by decide +kernel) rfl rfl (Nat.le_of_ble_eq_true rfl) (Nat.le_of_ble_eq_true rfl)
def f_Mo_weightOf (I : q_I) (a1 : Int32) : Option (Int32) :=
  q_b1 (f_Mo_ofEdit I a1 2) (fun v1 => some (v1))
def y_Mo_weightOf : MethodName := ⟨"CalendarReplicasModel", "weightOf", "(I)I"⟩
def m_Mo_weightOf : q_M := (prog_11_method_64_code, 2, "CalendarReplicasModel", { frames := 3, cells := 0, slots := 0, locals := 66 }, (some FieldType.int))
theorem yv_Mo_weightOf : q_Y y_Mo_weightOf m_Mo_weightOf 1 := ⟨rfl, ⟨by decide, by decide⟩, by decide +kernel, tw_7_68, tw_1_15⟩
set_option maxRecDepth 100000 in
set_option maxHeartbeats 4000000 in
theorem c_Mo_weightOf (l : Launch) (D : va_G) (tc : Nat → ClassId) (x0 y : Nat) (I : q_I) (J : q_J) (P : q_P) (a1 : Int32) : q_Ct l (mG D tc x0 y) y_Mo_weightOf m_Mo_weightOf [q_r (mG D tc x0 y) 0, .int a1] (I, J, P) (f_Mo_weightOf I a1) (fun r : Int32 => (some (.int r), (I, J, P))) := by
  refine q_Ct_of (mIn D tc x0 y) (by decide) rfl (Nat.le_of_ble_eq_true rfl) rfl (fun X hX => ?_)
  subst hX
  unfold f_Mo_weightOf
  refine q_aload_n 0 0 1 rfl (by decide +kernel) rfl ?_
  refine q_iload_n 1 1 2 rfl (by decide +kernel) rfl ?_
  refine q_iconst 2 (c := 2) 3 rfl (by decide +kernel) rfl ?_
  refine q_callV_i 6 rfl (av := [.int a1, .int 2]) (o := 0) (st := []) (c_Mo_ofEdit X.1 D tc x0 y I J P a1 2) yv_Mo_ofEdit tw_7_53 tw_7_55 sw_59 (cC_Mo D tc x0 y) (rfl : mKd 0 = (1, 0, 21, 0, 0)) rfl (Nat.le_of_ble_eq_true rfl) (by decide +kernel) ⟨Nat.le_of_ble_eq_true rfl, Nat.le_of_ble_eq_true rfl⟩ ⟨Nat.le_of_ble_eq_true rfl, Nat.le_of_ble_eq_true rfl⟩ rfl rfl (fun v1 => ?_)
  exact q_iret (by decide +kernel) rfl rfl (Nat.le_of_ble_eq_true rfl) (Nat.le_of_ble_eq_true rfl)
