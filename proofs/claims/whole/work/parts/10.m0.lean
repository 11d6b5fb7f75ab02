def f_Mo_in (a0 : Int32) (a1 : Int32) (a2 : Int32) : Option (Int32) :=
  if a0 < a1 then (some (0)) else (if a2 < a0 then (some (0)) else (some (1)))
def y_Mo_in : MethodName := ⟨"CalendarReplicasModel", "in", "(III)Z"⟩
def m_Mo_in : q_M := (prog_11_method_3_code, 3, "CalendarReplicasModel", { frames := 0, cells := 0, slots := 0, locals := 0 }, (some FieldType.boolean))
theorem yv_Mo_in : q_Y y_Mo_in m_Mo_in 3 := ⟨rfl, ⟨by decide, by decide⟩, by decide +kernel, tw_6_42, tw_1_15⟩
set_option maxRecDepth 100000 in
set_option maxHeartbeats 4000000 in
theorem c_Mo_in (l : Launch) (D : va_G) (tc : Nat → ClassId) (x0 y : Nat) (I : q_I) (J : q_J) (P : q_P) (a0 : Int32) (a1 : Int32) (a2 : Int32) : q_Ct l (mG D tc x0 y) y_Mo_in m_Mo_in [.int a0, .int a1, .int a2] (I, J, P) (f_Mo_in a0 a1 a2) (fun r : Int32 => (some (.int r), (I, J, P))) := by
  refine q_Ct_of (mIn D tc x0 y) (by decide) rfl (Nat.le_of_ble_eq_true rfl) rfl (fun X hX => ?_)
  subst hX
  unfold f_Mo_in
  refine q_iload_n 0 0 1 rfl (by decide +kernel) rfl ?_
  refine q_iload_n 1 1 2 rfl (by decide +kernel) rfl ?_
  refine q_icmp_lt 5 rfl 14 (off := 12) (by decide +kernel) rfl (fun g2 => ?_) (fun g2 => ?_)
  · refine q_iconst 0 (c := 0) 15 rfl (by decide +kernel) rfl ?_
    exact q_zret (w := 0) (by decide +kernel) rfl rfl rfl (Nat.le_of_ble_eq_true rfl) (Nat.le_of_ble_eq_true rfl)
  · refine q_iload_n 0 0 6 rfl (by decide +kernel) rfl ?_
    refine q_iload_n 2 2 7 rfl (by decide +kernel) rfl ?_
    refine q_icmp_gt 10 rfl 14 (off := 7) (by decide +kernel) rfl (fun g1 => ?_) (fun g1 => ?_)
    · refine q_iconst 0 (c := 0) 15 rfl (by decide +kernel) rfl ?_
      exact q_zret (w := 0) (by decide +kernel) rfl rfl rfl (Nat.le_of_ble_eq_true rfl) (Nat.le_of_ble_eq_true rfl)
    · refine q_iconst 1 (c := 1) 11 rfl (by decide +kernel) rfl ?_
      refine q_goto (off := 4) 15 (by decide +kernel) rfl ?_
      exact q_zret (w := 1) (by decide +kernel) rfl rfl rfl (Nat.le_of_ble_eq_true rfl) (Nat.le_of_ble_eq_true rfl)
def f_Mo_bits_L1 : Nat → Int32 → Int32 → Option (Int32)
  | 0, _, _ => none
  | n + 1, x1, x2 => if x2 = 0 then (some (x1)) else (q_l (x2 &&& (x2 - 1) : Int32) (fun x3 => (f_Mo_bits_L1  n (x1 + 1) x3)))
def f_Mo_bits (a0 : Int32) : Option (Int32) :=
  f_Mo_bits_L1  q_fu 0 a0
def y_Mo_bits : MethodName := ⟨"CalendarReplicasModel", "bits", "(I)I"⟩
def m_Mo_bits : q_M := (prog_11_method_4_code, 3, "CalendarReplicasModel", { frames := 0, cells := 0, slots := 0, locals := 0 }, (some FieldType.int))
theorem yv_Mo_bits : q_Y y_Mo_bits m_Mo_bits 1 := ⟨rfl, ⟨by decide, by decide⟩, by decide +kernel, tw_6_107, tw_1_15⟩
set_option maxRecDepth 100000 in
set_option maxHeartbeats 4000000 in
theorem c_Mo_bits (l : Launch) (D : va_G) (tc : Nat → ClassId) (x0 y : Nat) (I : q_I) (J : q_J) (P : q_P) (a0 : Int32) : q_Ct l (mG D tc x0 y) y_Mo_bits m_Mo_bits [.int a0] (I, J, P) (f_Mo_bits a0) (fun r : Int32 => (some (.int r), (I, J, P))) := by
  refine q_Ct_of (mIn D tc x0 y) (by decide) rfl (Nat.le_of_ble_eq_true rfl) rfl (fun X hX => ?_)
  subst hX
  unfold f_Mo_bits
  refine q_iconst 0 (c := 0) 1 rfl (by decide +kernel) rfl ?_
  refine q_istore_n 1 1 2 rfl [(1, .int 0), (0, .int a0)] (by decide +kernel) rfl (Nat.le_of_ble_eq_true rfl) rfl ?_
  refine q_iload_n 1 0 3 rfl (by decide +kernel) rfl ?_
  refine q_istore_n 2 2 4 rfl [(2, .int a0), (1, .int 0), (0, .int a0)] (by decide +kernel) rfl (Nat.le_of_ble_eq_true rfl) rfl ?_
  have hL1 : ∀ (n1_ : Nat) (x1 : Int32) (x2 : Int32), q_V (mG D tc x0 y) m_Mo_bits X (fun r : Int32 => (some (.int r), (I, J, P))) 0 0 4 [(1, .int x1), (2, .int x2)] [] I J P (f_Mo_bits_L1  n1_ x1 x2) := by
    intro n1_
    induction n1_ with
    | zero => intro x1 x2; exact q_none
    | succ n1_ ih1 =>
      intro x1 x2
      rw [f_Mo_bits_L1]
      refine q_iload_n 1 2 5 rfl (by decide +kernel) rfl ?_
      refine q_if_eq 8 rfl 20 (off := 15) (by decide +kernel) rfl (fun g1 => ?_) (fun g1 => ?_)
      · refine q_iload_n 0 1 21 rfl (by decide +kernel) rfl ?_
        exact q_iret (by decide +kernel) rfl rfl (Nat.le_of_ble_eq_true rfl) (Nat.le_of_ble_eq_true rfl)
      · refine q_iinc (x1 + 1) (c := 1) 1 0 11 rfl [(1, .int (x1 + 1)), (2, .int x2)] (by decide +kernel) rfl rfl (Nat.le_of_ble_eq_true rfl) rfl ?_
        refine q_iload_n 1 2 12 rfl (by decide +kernel) rfl ?_
        refine q_iload_n 1 2 13 rfl (by decide +kernel) rfl ?_
        refine q_iconst 1 (c := 1) 14 rfl (by decide +kernel) rfl ?_
        refine q_isub 15 rfl (by decide +kernel) ?_
        refine q_iand 16 rfl (by decide +kernel) ?_
        refine q_leti (fun x3 => ?_)
        refine q_istore_n 2 2 17 rfl [(2, .int x3), (1, .int (x1 + 1))] (by decide +kernel) rfl (Nat.le_of_ble_eq_true rfl) rfl ?_
        refine q_goto (off := -13) 4 (by decide +kernel) rfl ?_
        refine q_sub [1, 0] rfl ?_
        exact ih1 (x1 + 1) x3
  refine q_sub [1, 0] rfl ?_
  exact hL1 _ _ _
def f_Mo_isReplica (a0 : Int32) : Option (Int32) :=
  q_b1 (f_Mo_in a0 0 2) (fun v1 => some ((v1 &&& 1)))
def y_Mo_isReplica : MethodName := ⟨"CalendarReplicasModel", "isReplica", "(I)Z"⟩
def m_Mo_isReplica : q_M := (prog_11_method_5_code, 1, "CalendarReplicasModel", { frames := 1, cells := 0, slots := 0, locals := 22 }, (some FieldType.boolean))
theorem yv_Mo_isReplica : q_Y y_Mo_isReplica m_Mo_isReplica 1 := ⟨rfl, ⟨by decide, by decide⟩, by decide +kernel, tw_6_129, tw_1_15⟩
set_option maxRecDepth 100000 in
set_option maxHeartbeats 4000000 in
theorem c_Mo_isReplica (l : Launch) (D : va_G) (tc : Nat → ClassId) (x0 y : Nat) (I : q_I) (J : q_J) (P : q_P) (a0 : Int32) : q_Ct l (mG D tc x0 y) y_Mo_isReplica m_Mo_isReplica [.int a0] (I, J, P) (f_Mo_isReplica a0) (fun r : Int32 => (some (.int r), (I, J, P))) := by
  refine q_Ct_of (mIn D tc x0 y) (by decide) rfl (Nat.le_of_ble_eq_true rfl) rfl (fun X hX => ?_)
  subst hX
  unfold f_Mo_isReplica
  refine q_iload_n 0 0 1 rfl (by decide +kernel) rfl ?_
  refine q_iconst 0 (c := 0) 2 rfl (by decide +kernel) rfl ?_
  refine q_iconst 2 (c := 2) 3 rfl (by decide +kernel) rfl ?_
  refine q_callS_i 6 rfl (av := [.int a0, .int 0, .int 2]) (st := []) (c_Mo_in X.1 D tc x0 y I J P a0 0 2) yv_Mo_in tw_6_40 tw_6_41 rfl (Nat.le_of_ble_eq_true rfl) (by decide +kernel) ⟨Nat.le_of_ble_eq_true rfl, Nat.le_of_ble_eq_true rfl⟩ ⟨Nat.le_of_ble_eq_true rfl, Nat.le_of_ble_eq_true rfl⟩ rfl rfl (fun v1 => ?_)
  exact q_zret (w := (v1 &&& 1)) (by decide +kernel) rfl rfl rfl (Nat.le_of_ble_eq_true rfl) (Nat.le_of_ble_eq_true rfl)
def f_Mo_edit (a0 : Int32) (a1 : Int32) : Option (Int32) :=
  some (((124 + (13 * a0)) + a1))
def y_Mo_edit : MethodName := ⟨"CalendarReplicasModel", "edit", "(II)I"⟩
def m_Mo_edit : q_M := (prog_11_method_6_code, 2, "CalendarReplicasModel", { frames := 0, cells := 0, slots := 0, locals := 0 }, (some FieldType.int))
theorem yv_Mo_edit : q_Y y_Mo_edit m_Mo_edit 2 := ⟨rfl, ⟨by decide, by decide⟩, by decide +kernel, tw_6_65, tw_1_15⟩
set_option maxRecDepth 100000 in
set_option maxHeartbeats 4000000 in
theorem c_Mo_edit (l : Launch) (D : va_G) (tc : Nat → ClassId) (x0 y : Nat) (I : q_I) (J : q_J) (P : q_P) (a0 : Int32) (a1 : Int32) : q_Ct l (mG D tc x0 y) y_Mo_edit m_Mo_edit [.int a0, .int a1] (I, J, P) (f_Mo_edit a0 a1) (fun r : Int32 => (some (.int r), (I, J, P))) := by
  refine q_Ct_of (mIn D tc x0 y) (by decide) rfl (Nat.le_of_ble_eq_true rfl) rfl (fun X hX => ?_)
  subst hX
  unfold f_Mo_edit
  refine q_bipush 124 (c := 124) 2 rfl (by decide +kernel) rfl ?_
  refine q_bipush 13 (c := 13) 4 rfl (by decide +kernel) rfl ?_
  refine q_iload_n 0 0 5 rfl (by decide +kernel) rfl ?_
  refine q_imul 6 rfl (by decide +kernel) ?_
  refine q_iadd 7 rfl (by decide +kernel) ?_
  refine q_iload_n 1 1 8 rfl (by decide +kernel) rfl ?_
  refine q_iadd 9 rfl (by decide +kernel) ?_
  exact q_iret (by decide +kernel) rfl rfl (Nat.le_of_ble_eq_true rfl) (Nat.le_of_ble_eq_true rfl)
def f_Mo_meeting (a0 : Int32) (a1 : Int32) : Option (Int32) :=
  some (((7 * a0) + a1))
def y_Mo_meeting : MethodName := ⟨"CalendarReplicasModel", "meeting", "(II)I"⟩
def m_Mo_meeting : q_M := (prog_11_method_7_code, 2, "CalendarReplicasModel", { frames := 0, cells := 0, slots := 0, locals := 0 }, (some FieldType.int))
theorem yv_Mo_meeting : q_Y y_Mo_meeting m_Mo_meeting 2 := ⟨rfl, ⟨by decide, by decide⟩, by decide +kernel, tw_6_88, tw_1_15⟩
set_option maxRecDepth 100000 in
set_option maxHeartbeats 4000000 in
theorem c_Mo_meeting (l : Launch) (D : va_G) (tc : Nat → ClassId) (x0 y : Nat) (I : q_I) (J : q_J) (P : q_P) (a0 : Int32) (a1 : Int32) : q_Ct l (mG D tc x0 y) y_Mo_meeting m_Mo_meeting [.int a0, .int a1] (I, J, P) (f_Mo_meeting a0 a1) (fun r : Int32 => (some (.int r), (I, J, P))) := by
  refine q_Ct_of (mIn D tc x0 y) (by decide) rfl (Nat.le_of_ble_eq_true rfl) rfl (fun X hX => ?_)
  subst hX
  unfold f_Mo_meeting
  refine q_bipush 7 (c := 7) 2 rfl (by decide +kernel) rfl ?_
  refine q_iload_n 0 0 3 rfl (by decide +kernel) rfl ?_
  refine q_imul 4 rfl (by decide +kernel) ?_
  refine q_iload_n 1 1 5 rfl (by decide +kernel) rfl ?_
  refine q_iadd 6 rfl (by decide +kernel) ?_
  exact q_iret (by decide +kernel) rfl rfl (Nat.le_of_ble_eq_true rfl) (Nat.le_of_ble_eq_true rfl)
def f_Mo_find_L1 (I : q_I) (a1 : Int32) : Nat → Int32 → Option (Int32)
  | 0, _ => none
  | n + 1, x1 => if (I 0 7) ≤ x1 then (some ((-1))) else (q_b1 (f_Mo_meeting x1 0) (fun v1 => q_ix v1 175 (fun j1 => if (I 6 j1) = a1 then (some (x1)) else ((f_Mo_find_L1 I a1 n (x1 + 1))))))
def f_Mo_find (I : q_I) (a1 : Int32) : Option (Int32) :=
  f_Mo_find_L1 I a1 q_fu 0
def y_Mo_find : MethodName := ⟨"CalendarReplicasModel", "find", "(I)I"⟩
def m_Mo_find : q_M := (prog_11_method_8_code, 3, "CalendarReplicasModel", { frames := 1, cells := 0, slots := 0, locals := 21 }, (some FieldType.int))
theorem yv_Mo_find : q_Y y_Mo_find m_Mo_find 1 := ⟨rfl, ⟨by decide, by decide⟩, by decide +kernel, tw_6_92, tw_1_15⟩
set_option maxRecDepth 100000 in
set_option maxHeartbeats 4000000 in
theorem c_Mo_find (l : Launch) (D : va_G) (tc : Nat → ClassId) (x0 y : Nat) (I : q_I) (J : q_J) (P : q_P) (a1 : Int32) : q_Ct l (mG D tc x0 y) y_Mo_find m_Mo_find [q_r (mG D tc x0 y) 0, .int a1] (I, J, P) (f_Mo_find I a1) (fun r : Int32 => (some (.int r), (I, J, P))) := by
  refine q_Ct_of (mIn D tc x0 y) (by decide) rfl (Nat.le_of_ble_eq_true rfl) rfl (fun X hX => ?_)
  subst hX
  unfold f_Mo_find
  refine q_iconst 0 (c := 0) 1 rfl (by decide +kernel) rfl ?_
  refine q_istore_n 2 2 2 rfl [(2, .int 0), (0, q_r (mG D tc x0 y) 0), (1, .int a1)] (by decide +kernel) rfl (Nat.le_of_ble_eq_true rfl) rfl ?_
  have hL1 : ∀ (n1_ : Nat) (x1 : Int32), q_V (mG D tc x0 y) m_Mo_find X (fun r : Int32 => (some (.int r), (I, J, P))) 0 0 2 [(0, q_r (mG D tc x0 y) 0), (1, .int a1), (2, .int x1)] [] I J P (f_Mo_find_L1 I a1 n1_ x1) := by
    intro n1_
    induction n1_ with
    | zero => intro x1; exact q_none
    | succ n1_ ih1 =>
      intro x1
      rw [f_Mo_find_L1]
      refine q_iload_n 2 2 3 rfl (by decide +kernel) rfl ?_
      refine q_aload_n 0 0 4 rfl (by decide +kernel) rfl ?_
      refine q_geti (f := 7) 7 rfl (by decide +kernel) (cC_Mo D tc x0 y) (rfl : mKd 0 = (1, 0, 21, 0, 0)) (by decide) rfl tw_5_219 ?_
      refine q_icmp_ge 10 rfl 32 (off := 25) (by decide +kernel) rfl (fun g2 => ?_) (fun g2 => ?_)
      · refine q_iconst (-1) (c := -1) 33 rfl (by decide +kernel) rfl ?_
        exact q_iret (by decide +kernel) rfl rfl (Nat.le_of_ble_eq_true rfl) (Nat.le_of_ble_eq_true rfl)
      · refine q_aload_n 0 0 11 rfl (by decide +kernel) rfl ?_
        refine q_getr (f := 8) 6 14 rfl (by decide +kernel) (cC_Mo D tc x0 y) (rfl : mKd 0 = (1, 0, 21, 0, 0)) (by decide) rfl rfl tw_5_220 ?_
        refine q_iload_n 2 2 15 rfl (by decide +kernel) rfl ?_
        refine q_iconst 0 (c := 0) 16 rfl (by decide +kernel) rfl ?_
        refine q_callS_i 19 rfl (av := [.int x1, .int 0]) (st := [q_r (mG D tc x0 y) 6]) (c_Mo_meeting X.1 D tc x0 y I J P x1 0) yv_Mo_meeting tw_6_86 tw_6_87 rfl (Nat.le_of_ble_eq_true rfl) (by decide +kernel) ⟨Nat.le_of_ble_eq_true rfl, Nat.le_of_ble_eq_true rfl⟩ ⟨Nat.le_of_ble_eq_true rfl, Nat.le_of_ble_eq_true rfl⟩ rfl rfl (fun v1 => ?_)
        refine q_iald (t := 0) 20 rfl (by decide +kernel) (rfl : mKd 6 = (2, 175, 0, 0, 0)) rfl (fun j1 hj1 => ?_)
        refine q_iload_n 1 1 21 rfl (by decide +kernel) rfl ?_
        refine q_icmp_ne 24 rfl 26 (off := 5) (by decide +kernel) rfl (fun g1 => ?_) (fun g1 => ?_)
        · refine q_iinc (x1 + 1) (c := 1) 2 2 29 rfl [(2, .int (x1 + 1)), (0, q_r (mG D tc x0 y) 0), (1, .int a1)] (by decide +kernel) rfl rfl (Nat.le_of_ble_eq_true rfl) rfl ?_
          refine q_goto (off := -27) 2 (by decide +kernel) rfl ?_
          refine q_sub [1, 2, 0] rfl ?_
          exact ih1 (x1 + 1)
        · refine q_iload_n 2 2 25 rfl (by decide +kernel) rfl ?_
          exact q_iret (by decide +kernel) rfl rfl (Nat.le_of_ble_eq_true rfl) (Nat.le_of_ble_eq_true rfl)
  refine q_sub [1, 2, 0] rfl ?_
  exact hL1 _ _
def f_Mo_lastSlot (I : q_I) (a1 : Int32) : Option (Int32) :=
  q_b1 (f_Mo_meeting a1 1) (fun v1 => q_ix v1 175 (fun j1 => q_b1 (f_Mo_meeting a1 6) (fun v2 => q_ix v2 175 (fun j2 => q_b1 (f_Mo_meeting a1 5) (fun v3 => q_ix v3 175 (fun j3 => q_b1 (f_Mo_meeting a1 2) (fun v4 => q_ix v4 175 (fun j4 => some (((((I 6 j1) + (((I 6 j2) - 1) * (I 6 j3))) + (I 6 j4)) - 1))))))))))
def y_Mo_lastSlot : MethodName := ⟨"CalendarReplicasModel", "lastSlot", "(I)I"⟩
def m_Mo_lastSlot : q_M := (prog_11_method_9_code, 2, "CalendarReplicasModel", { frames := 1, cells := 0, slots := 0, locals := 21 }, (some FieldType.int))
theorem yv_Mo_lastSlot : q_Y y_Mo_lastSlot m_Mo_lastSlot 1 := ⟨rfl, ⟨by decide, by decide⟩, by decide +kernel, tw_6_104, tw_1_15⟩
set_option maxRecDepth 100000 in
set_option maxHeartbeats 4000000 in
theorem c_Mo_lastSlot (l : Launch) (D : va_G) (tc : Nat → ClassId) (x0 y : Nat) (I : q_I) (J : q_J) (P : q_P) (a1 : Int32) : q_Ct l (mG D tc x0 y) y_Mo_lastSlot m_Mo_lastSlot [q_r (mG D tc x0 y) 0, .int a1] (I, J, P) (f_Mo_lastSlot I a1) (fun r : Int32 => (some (.int r), (I, J, P))) := by
  refine q_Ct_of (mIn D tc x0 y) (by decide) rfl (Nat.le_of_ble_eq_true rfl) rfl (fun X hX => ?_)
  subst hX
  unfold f_Mo_lastSlot
  refine q_aload_n 0 0 1 rfl (by decide +kernel) rfl ?_
  refine q_getr (f := 8) 6 4 rfl (by decide +kernel) (cC_Mo D tc x0 y) (rfl : mKd 0 = (1, 0, 21, 0, 0)) (by decide) rfl rfl tw_5_220 ?_
  refine q_iload_n 1 1 5 rfl (by decide +kernel) rfl ?_
  refine q_iconst 1 (c := 1) 6 rfl (by decide +kernel) rfl ?_
  refine q_callS_i 9 rfl (av := [.int a1, .int 1]) (st := [q_r (mG D tc x0 y) 6]) (c_Mo_meeting X.1 D tc x0 y I J P a1 1) yv_Mo_meeting tw_6_86 tw_6_87 rfl (Nat.le_of_ble_eq_true rfl) (by decide +kernel) ⟨Nat.le_of_ble_eq_true rfl, Nat.le_of_ble_eq_true rfl⟩ ⟨Nat.le_of_ble_eq_true rfl, Nat.le_of_ble_eq_true rfl⟩ rfl rfl (fun v1 => ?_)
  refine q_iald (t := 0) 10 rfl (by decide +kernel) (rfl : mKd 6 = (2, 175, 0, 0, 0)) rfl (fun j1 hj1 => ?_)
  refine q_aload_n 0 0 11 rfl (by decide +kernel) rfl ?_
  refine q_getr (f := 8) 6 14 rfl (by decide +kernel) (cC_Mo D tc x0 y) (rfl : mKd 0 = (1, 0, 21, 0, 0)) (by decide) rfl rfl tw_5_220 ?_
  refine q_iload_n 1 1 15 rfl (by decide +kernel) rfl ?_
  refine q_bipush 6 (c := 6) 17 rfl (by decide +kernel) rfl ?_
  refine q_callS_i 20 rfl (av := [.int a1, .int 6]) (st := [q_r (mG D tc x0 y) 6, .int (I 6 j1)]) (c_Mo_meeting X.1 D tc x0 y I J P a1 6) yv_Mo_meeting tw_6_86 tw_6_87 rfl (Nat.le_of_ble_eq_true rfl) (by decide +kernel) ⟨Nat.le_of_ble_eq_true rfl, Nat.le_of_ble_eq_true rfl⟩ ⟨Nat.le_of_ble_eq_true rfl, Nat.le_of_ble_eq_true rfl⟩ rfl rfl (fun v2 => ?_)
  refine q_iald (t := 0) 21 rfl (by decide +kernel) (rfl : mKd 6 = (2, 175, 0, 0, 0)) rfl (fun j2 hj2 => ?_)
  refine q_iconst 1 (c := 1) 22 rfl (by decide +kernel) rfl ?_
  refine q_isub 23 rfl (by decide +kernel) ?_
  refine q_aload_n 0 0 24 rfl (by decide +kernel) rfl ?_
  refine q_getr (f := 8) 6 27 rfl (by decide +kernel) (cC_Mo D tc x0 y) (rfl : mKd 0 = (1, 0, 21, 0, 0)) (by decide) rfl rfl tw_5_220 ?_
  refine q_iload_n 1 1 28 rfl (by decide +kernel) rfl ?_
  refine q_iconst 5 (c := 5) 29 rfl (by decide +kernel) rfl ?_
  refine q_callS_i 32 rfl (av := [.int a1, .int 5]) (st := [q_r (mG D tc x0 y) 6, .int ((I 6 j2) - 1), .int (I 6 j1)]) (c_Mo_meeting X.1 D tc x0 y I J P a1 5) yv_Mo_meeting tw_6_86 tw_6_87 rfl (Nat.le_of_ble_eq_true rfl) (by decide +kernel) ⟨Nat.le_of_ble_eq_true rfl, Nat.le_of_ble_eq_true rfl⟩ ⟨Nat.le_of_ble_eq_true rfl, Nat.le_of_ble_eq_true rfl⟩ rfl rfl (fun v3 => ?_)
  refine q_iald (t := 0) 33 rfl (by decide +kernel) (rfl : mKd 6 = (2, 175, 0, 0, 0)) rfl (fun j3 hj3 => ?_)
  refine q_imul 34 rfl (by decide +kernel) ?_
  refine q_iadd 35 rfl (by decide +kernel) ?_
  refine q_aload_n 0 0 36 rfl (by decide +kernel) rfl ?_
  refine q_getr (f := 8) 6 39 rfl (by decide +kernel) (cC_Mo D tc x0 y) (rfl : mKd 0 = (1, 0, 21, 0, 0)) (by decide) rfl rfl tw_5_220 ?_
  refine q_iload_n 1 1 40 rfl (by decide +kernel) rfl ?_
  refine q_iconst 2 (c := 2) 41 rfl (by decide +kernel) rfl ?_
  refine q_callS_i 44 rfl (av := [.int a1, .int 2]) (st := [q_r (mG D tc x0 y) 6, .int ((I 6 j1) + (((I 6 j2) - 1) * (I 6 j3)))]) (c_Mo_meeting X.1 D tc x0 y I J P a1 2) yv_Mo_meeting tw_6_86 tw_6_87 rfl (Nat.le_of_ble_eq_true rfl) (by decide +kernel) ⟨Nat.le_of_ble_eq_true rfl, Nat.le_of_ble_eq_true rfl⟩ ⟨Nat.le_of_ble_eq_true rfl, Nat.le_of_ble_eq_true rfl⟩ rfl rfl (fun v4 => ?_)
  refine q_iald (t := 0) 45 rfl (by decide +kernel) (rfl : mKd 6 = (2, 175, 0, 0, 0)) rfl (fun j4 hj4 => ?_)
  refine q_iadd 46 rfl (by decide +kernel) ?_
  refine q_iconst 1 (c := 1) 47 rfl (by decide +kernel) rfl ?_
  refine q_isub 48 rfl (by decide +kernel) ?_
  exact q_iret (by decide +kernel) rfl rfl (Nat.le_of_ble_eq_true rfl) (Nat.le_of_ble_eq_true rfl)
def f_Mo_carriesOut_L1 : Nat → Int32 → q_I → Option (q_I)
  | 0, _, _ => none
  | n + 1, x3, I7 => q_b1 (f_Mo_meeting (I7 0 7) 0) (fun v11 => if v11 ≤ x3 then (some (I7)) else (q_ix (x3 + 7) 175 (fun j11 => q_ix x3 175 (fun j12 => q_l (q_ui I7 6 j12 (I7 6 j11)) (fun I8 => (f_Mo_carriesOut_L1  n (x3 + 1) I8))))))
def f_Mo_carriesOut_L2 (a1 : Int32) (K : q_I → Option (q_I)) : Nat → Int32 → q_I → Option (q_I)
  | 0, _, _ => none
  | n + 1, x4, I10 => if (6 : Int32) < x4 then ((K I10)) else (q_b1 (f_Mo_meeting (I10 0 7) x4) (fun v14 => q_b1 (f_Mo_edit a1 (6 + x4)) (fun v15 => q_ix v15 280 (fun j15 => q_ix v14 175 (fun j16 => q_l (q_ui I10 6 j16 (I10 1 j15)) (fun I11 => (f_Mo_carriesOut_L2 a1 K n (x4 + 1) I11)))))))
def f_Mo_carriesOut (I : q_I) (a1 : Int32) : Option (q_I) :=
  q_b1 (f_Mo_edit a1 3) (fun v1 => q_ix v1 280 (fun j1 => q_l (I 1 j1 : Int32) (fun x1 => q_b1 (f_Mo_edit a1 5) (fun v2 => q_ix v2 280 (fun j2 => q_l (I 1 j2 : Int32) (fun x2 => if x1 = 0 then (q_b1 (f_Mo_meeting (I 0 7) 0) (fun v12 => q_b1 (f_Mo_edit a1 0) (fun v13 => q_ix v13 280 (fun j13 => q_ix v12 175 (fun j14 => q_l (q_ui I 6 j14 (I 1 j13)) (fun I9 => f_Mo_carriesOut_L2 a1 (fun (I12 : q_I) => q_l (q_ui I12 0 7 ((I12 0 7) + 1)) (fun I13 => some (I13))) q_fu 1 I9)))))) else (q_b1 (f_Mo_edit a1 4) (fun v3 => q_ix v3 280 (fun j3 => q_b1 (f_Mo_find I (I 1 j3)) (fun v4 => if x1 = 1 then (q_b1 (f_Mo_meeting v4 1) (fun v5 => q_ix v5 175 (fun j4 => q_l (q_ui I 6 j4 x2) (fun I1 => some (I1))))) else (if x1 = 2 then (q_b1 (f_Mo_meeting v4 3) (fun v6 => q_ix v6 175 (fun j5 => q_l (q_ui I 6 j5 x2) (fun I2 => some (I2))))) else (if x1 = 3 then (q_b1 (f_Mo_meeting v4 2) (fun v7 => q_ix v7 175 (fun j6 => q_l (q_ui I 6 j6 x2) (fun I3 => some (I3))))) else (if x1 = 4 then (q_b1 (f_Mo_meeting v4 4) (fun v8 => q_ix v8 175 (fun j7 => q_ix v8 175 (fun j8 => q_l (q_ui I 6 j8 ((I 6 j7) ||| (1 <<< (x2 &&& 31)))) (fun I4 => some (I4)))))) else (if x1 = 5 then (q_b1 (f_Mo_meeting v4 4) (fun v9 => q_ix v9 175 (fun j9 => q_ix v9 175 (fun j10 => q_l (q_ui I 6 j10 ((I 6 j9) &&& ((1 <<< (x2 &&& 31)) ^^^ (-1)))) (fun I5 => some (I5)))))) else (q_l (q_ui I 0 7 ((I 0 7) - 1)) (fun I6 => q_b1 (f_Mo_meeting v4 0) (fun v10 => f_Mo_carriesOut_L1  q_fu v10 I6)))))))))))))))))
def y_Mo_carriesOut : MethodName := ⟨"CalendarReplicasModel", "carriesOut", "(I)V"⟩
def m_Mo_carriesOut : q_M := (prog_11_method_10_code, 6, "CalendarReplicasModel", { frames := 2, cells := 0, slots := 0, locals := 43 }, (none : Option FieldType))
theorem yv_Mo_carriesOut : q_Y y_Mo_carriesOut m_Mo_carriesOut 1 := ⟨rfl, ⟨by decide, by decide⟩, by decide +kernel, tw_6_85, tw_1_15⟩
set_option maxRecDepth 100000 in
set_option maxHeartbeats 4000000 in
theorem c_Mo_carriesOut (l : Launch) (D : va_G) (tc : Nat → ClassId) (x0 y : Nat) (I : q_I) (J : q_J) (P : q_P) (a1 : Int32) : q_Ct l (mG D tc x0 y) y_Mo_carriesOut m_Mo_carriesOut [q_r (mG D tc x0 y) 0, .int a1] (I, J, P) (f_Mo_carriesOut I a1) (fun r : q_I => (none, (r, J, P))) := by
  refine q_Ct_of (mIn D tc x0 y) (by decide) rfl (Nat.le_of_ble_eq_true rfl) rfl (fun X hX => ?_)
  subst hX
  unfold f_Mo_carriesOut
  refine q_aload_n 0 0 1 rfl (by decide +kernel) rfl ?_
  refine q_getr (f := 0) 1 4 rfl (by decide +kernel) (cC_Mo D tc x0 y) (rfl : mKd 0 = (1, 0, 21, 0, 0)) (by decide) rfl rfl tw_5_212 ?_
  refine q_iload_n 1 1 5 rfl (by decide +kernel) rfl ?_
  refine q_iconst 3 (c := 3) 6 rfl (by decide +kernel) rfl ?_
  refine q_callS_i 9 rfl (av := [.int a1, .int 3]) (st := [q_r (mG D tc x0 y) 1]) (c_Mo_edit X.1 D tc x0 y I J P a1 3) yv_Mo_edit tw_6_63 tw_6_64 rfl (Nat.le_of_ble_eq_true rfl) (by decide +kernel) ⟨Nat.le_of_ble_eq_true rfl, Nat.le_of_ble_eq_true rfl⟩ ⟨Nat.le_of_ble_eq_true rfl, Nat.le_of_ble_eq_true rfl⟩ rfl rfl (fun v1 => ?_)
  refine q_iald (t := 0) 10 rfl (by decide +kernel) (rfl : mKd 1 = (2, 280, 0, 0, 0)) rfl (fun j1 hj1 => ?_)
  refine q_leti (fun x1 => ?_)
  refine q_istore_n 2 2 11 rfl [(2, .int x1), (0, q_r (mG D tc x0 y) 0), (1, .int a1)] (by decide +kernel) rfl (Nat.le_of_ble_eq_true rfl) rfl ?_
  refine q_aload_n 1 0 12 rfl (by decide +kernel) rfl ?_
  refine q_getr (f := 0) 1 15 rfl (by decide +kernel) (cC_Mo D tc x0 y) (rfl : mKd 0 = (1, 0, 21, 0, 0)) (by decide) rfl rfl tw_5_212 ?_
  refine q_iload_n 2 1 16 rfl (by decide +kernel) rfl ?_
  refine q_iconst 5 (c := 5) 17 rfl (by decide +kernel) rfl ?_
  refine q_callS_i 20 rfl (av := [.int a1, .int 5]) (st := [q_r (mG D tc x0 y) 1]) (c_Mo_edit X.1 D tc x0 y I J P a1 5) yv_Mo_edit tw_6_63 tw_6_64 rfl (Nat.le_of_ble_eq_true rfl) (by decide +kernel) ⟨Nat.le_of_ble_eq_true rfl, Nat.le_of_ble_eq_true rfl⟩ ⟨Nat.le_of_ble_eq_true rfl, Nat.le_of_ble_eq_true rfl⟩ rfl rfl (fun v2 => ?_)
  refine q_iald (t := 0) 21 rfl (by decide +kernel) (rfl : mKd 1 = (2, 280, 0, 0, 0)) rfl (fun j2 hj2 => ?_)
  refine q_leti (fun x2 => ?_)
  refine q_istore_n 3 3 22 rfl [(3, .int x2), (2, .int x1), (0, q_r (mG D tc x0 y) 0), (1, .int a1)] (by decide +kernel) rfl (Nat.le_of_ble_eq_true rfl) rfl ?_
  refine q_iload_n 1 2 23 rfl (by decide +kernel) rfl ?_
  refine q_if_ne 26 rfl 104 (off := 81) (by decide +kernel) rfl (fun g8 => ?_) (fun g8 => ?_)
  · refine q_aload_n 2 0 105 rfl (by decide +kernel) rfl ?_
    refine q_aload_n 2 0 106 rfl (by decide +kernel) rfl ?_
    refine q_getr (f := 0) 1 109 rfl (by decide +kernel) (cC_Mo D tc x0 y) (rfl : mKd 0 = (1, 0, 21, 0, 0)) (by decide) rfl rfl tw_5_212 ?_
    refine q_iload_n 3 1 110 rfl (by decide +kernel) rfl ?_
    refine q_iconst 4 (c := 4) 111 rfl (by decide +kernel) rfl ?_
    refine q_callS_i 114 rfl (av := [.int a1, .int 4]) (st := [q_r (mG D tc x0 y) 1, q_r (mG D tc x0 y) 0]) (c_Mo_edit X.1 D tc x0 y I J P a1 4) yv_Mo_edit tw_6_63 tw_6_64 rfl (Nat.le_of_ble_eq_true rfl) (by decide +kernel) ⟨Nat.le_of_ble_eq_true rfl, Nat.le_of_ble_eq_true rfl⟩ ⟨Nat.le_of_ble_eq_true rfl, Nat.le_of_ble_eq_true rfl⟩ rfl rfl (fun v3 => ?_)
    refine q_iald (t := 0) 115 rfl (by decide +kernel) (rfl : mKd 1 = (2, 280, 0, 0, 0)) rfl (fun j3 hj3 => ?_)
    refine q_callV_i 118 rfl (av := [.int (I 1 j3)]) (o := 0) (st := []) (c_Mo_find X.1 D tc x0 y I J P (I 1 j3)) yv_Mo_find tw_6_89 tw_6_91 sw_34 (cC_Mo D tc x0 y) (rfl : mKd 0 = (1, 0, 21, 0, 0)) rfl (Nat.le_of_ble_eq_true rfl) (by decide +kernel) ⟨Nat.le_of_ble_eq_true rfl, Nat.le_of_ble_eq_true rfl⟩ ⟨Nat.le_of_ble_eq_true rfl, Nat.le_of_ble_eq_true rfl⟩ rfl rfl (fun v4 => ?_)
    refine q_istore 4 120 rfl [(4, .int v4), (3, .int x2), (2, .int x1), (0, q_r (mG D tc x0 y) 0), (1, .int a1)] (by decide +kernel) (Nat.le_of_ble_eq_true rfl) rfl ?_
    refine q_iload_n 2 2 121 rfl (by decide +kernel) rfl ?_
    refine q_case (fun g1 => ?_) (fun g1 => ?_)
    · refine q_tableInE (dflt := 122) (lo := 1) (hi := 5) (offs := #[35, 50, 65, 80, 100]) (len := 35) (c := 1) (off := 35) g1 156 (by decide +kernel) (by decide) (by decide) rfl (by decide) ?_
      refine q_aload_n 3 0 157 rfl (by decide +kernel) rfl ?_
      refine q_getr (f := 8) 6 160 rfl (by decide +kernel) (cC_Mo D tc x0 y) (rfl : mKd 0 = (1, 0, 21, 0, 0)) (by decide) rfl rfl tw_5_220 ?_
      refine q_iload 0 4 162 rfl (by decide +kernel) rfl ?_
      refine q_iconst 1 (c := 1) 163 rfl (by decide +kernel) rfl ?_
      refine q_callS_i 166 rfl (av := [.int v4, .int 1]) (st := [q_r (mG D tc x0 y) 6]) (c_Mo_meeting X.1 D tc x0 y I J P v4 1) yv_Mo_meeting tw_6_86 tw_6_87 rfl (Nat.le_of_ble_eq_true rfl) (by decide +kernel) ⟨Nat.le_of_ble_eq_true rfl, Nat.le_of_ble_eq_true rfl⟩ ⟨Nat.le_of_ble_eq_true rfl, Nat.le_of_ble_eq_true rfl⟩ rfl rfl (fun v5 => ?_)
      refine q_iload_n 1 3 167 rfl (by decide +kernel) rfl ?_
      refine q_iast (t := 0) 168 rfl (by decide +kernel) (rfl : mKd 6 = (2, 175, 0, 0, 0)) rfl (fun j4 hj4 => ?_)
      refine q_letI (fun I1 => ?_)
      refine q_goto (off := 129) 297 (by decide +kernel) rfl ?_
      exact q_vret (by decide +kernel) rfl rfl (Nat.le_of_ble_eq_true rfl) (Nat.le_of_ble_eq_true rfl)
    refine q_case (fun g2 => ?_) (fun g2 => ?_)
    · refine q_tableInE (dflt := 122) (lo := 1) (hi := 5) (offs := #[35, 50, 65, 80, 100]) (len := 35) (c := 2) (off := 50) g2 171 (by decide +kernel) (by decide) (by decide) rfl (by decide) ?_
      refine q_aload_n 3 0 172 rfl (by decide +kernel) rfl ?_
      refine q_getr (f := 8) 6 175 rfl (by decide +kernel) (cC_Mo D tc x0 y) (rfl : mKd 0 = (1, 0, 21, 0, 0)) (by decide) rfl rfl tw_5_220 ?_
      refine q_iload 0 4 177 rfl (by decide +kernel) rfl ?_
      refine q_iconst 3 (c := 3) 178 rfl (by decide +kernel) rfl ?_
      refine q_callS_i 181 rfl (av := [.int v4, .int 3]) (st := [q_r (mG D tc x0 y) 6]) (c_Mo_meeting X.1 D tc x0 y I J P v4 3) yv_Mo_meeting tw_6_86 tw_6_87 rfl (Nat.le_of_ble_eq_true rfl) (by decide +kernel) ⟨Nat.le_of_ble_eq_true rfl, Nat.le_of_ble_eq_true rfl⟩ ⟨Nat.le_of_ble_eq_true rfl, Nat.le_of_ble_eq_true rfl⟩ rfl rfl (fun v6 => ?_)
      refine q_iload_n 1 3 182 rfl (by decide +kernel) rfl ?_
      refine q_iast (t := 0) 183 rfl (by decide +kernel) (rfl : mKd 6 = (2, 175, 0, 0, 0)) rfl (fun j5 hj5 => ?_)
      refine q_letI (fun I2 => ?_)
      refine q_goto (off := 114) 297 (by decide +kernel) rfl ?_
      exact q_vret (by decide +kernel) rfl rfl (Nat.le_of_ble_eq_true rfl) (Nat.le_of_ble_eq_true rfl)
    refine q_case (fun g3 => ?_) (fun g3 => ?_)
    · refine q_tableInE (dflt := 122) (lo := 1) (hi := 5) (offs := #[35, 50, 65, 80, 100]) (len := 35) (c := 3) (off := 65) g3 186 (by decide +kernel) (by decide) (by decide) rfl (by decide) ?_
      refine q_aload_n 3 0 187 rfl (by decide +kernel) rfl ?_
      refine q_getr (f := 8) 6 190 rfl (by decide +kernel) (cC_Mo D tc x0 y) (rfl : mKd 0 = (1, 0, 21, 0, 0)) (by decide) rfl rfl tw_5_220 ?_
      refine q_iload 0 4 192 rfl (by decide +kernel) rfl ?_
      refine q_iconst 2 (c := 2) 193 rfl (by decide +kernel) rfl ?_
      refine q_callS_i 196 rfl (av := [.int v4, .int 2]) (st := [q_r (mG D tc x0 y) 6]) (c_Mo_meeting X.1 D tc x0 y I J P v4 2) yv_Mo_meeting tw_6_86 tw_6_87 rfl (Nat.le_of_ble_eq_true rfl) (by decide +kernel) ⟨Nat.le_of_ble_eq_true rfl, Nat.le_of_ble_eq_true rfl⟩ ⟨Nat.le_of_ble_eq_true rfl, Nat.le_of_ble_eq_true rfl⟩ rfl rfl (fun v7 => ?_)
      refine q_iload_n 1 3 197 rfl (by decide +kernel) rfl ?_
      refine q_iast (t := 0) 198 rfl (by decide +kernel) (rfl : mKd 6 = (2, 175, 0, 0, 0)) rfl (fun j6 hj6 => ?_)
      refine q_letI (fun I3 => ?_)
      refine q_goto (off := 99) 297 (by decide +kernel) rfl ?_
      exact q_vret (by decide +kernel) rfl rfl (Nat.le_of_ble_eq_true rfl) (Nat.le_of_ble_eq_true rfl)
    refine q_case (fun g4 => ?_) (fun g4 => ?_)
    · refine q_tableInE (dflt := 122) (lo := 1) (hi := 5) (offs := #[35, 50, 65, 80, 100]) (len := 35) (c := 4) (off := 80) g4 201 (by decide +kernel) (by decide) (by decide) rfl (by decide) ?_
      refine q_aload_n 3 0 202 rfl (by decide +kernel) rfl ?_
      refine q_getr (f := 8) 6 205 rfl (by decide +kernel) (cC_Mo D tc x0 y) (rfl : mKd 0 = (1, 0, 21, 0, 0)) (by decide) rfl rfl tw_5_220 ?_
      refine q_iload 0 4 207 rfl (by decide +kernel) rfl ?_
      refine q_iconst 4 (c := 4) 208 rfl (by decide +kernel) rfl ?_
      refine q_callS_i 211 rfl (av := [.int v4, .int 4]) (st := [q_r (mG D tc x0 y) 6]) (c_Mo_meeting X.1 D tc x0 y I J P v4 4) yv_Mo_meeting tw_6_86 tw_6_87 rfl (Nat.le_of_ble_eq_true rfl) (by decide +kernel) ⟨Nat.le_of_ble_eq_true rfl, Nat.le_of_ble_eq_true rfl⟩ ⟨Nat.le_of_ble_eq_true rfl, Nat.le_of_ble_eq_true rfl⟩ rfl rfl (fun v8 => ?_)
      refine q_dup2 212 rfl (by decide +kernel) rfl rfl ?_
      refine q_iald (t := 0) 213 rfl (by decide +kernel) (rfl : mKd 6 = (2, 175, 0, 0, 0)) rfl (fun j7 hj7 => ?_)
      refine q_iconst 1 (c := 1) 214 rfl (by decide +kernel) rfl ?_
      refine q_iload_n 1 3 215 rfl (by decide +kernel) rfl ?_
      refine q_ishl 216 rfl (by decide +kernel) ?_
      refine q_ior 217 rfl (by decide +kernel) ?_
      refine q_iast (t := 0) 218 rfl (by decide +kernel) (rfl : mKd 6 = (2, 175, 0, 0, 0)) rfl (fun j8 hj8 => ?_)
      refine q_letI (fun I4 => ?_)
      refine q_goto (off := 79) 297 (by decide +kernel) rfl ?_
      exact q_vret (by decide +kernel) rfl rfl (Nat.le_of_ble_eq_true rfl) (Nat.le_of_ble_eq_true rfl)
    refine q_case (fun g5 => ?_) (fun g5 => ?_)
    · refine q_tableInE (dflt := 122) (lo := 1) (hi := 5) (offs := #[35, 50, 65, 80, 100]) (len := 35) (c := 5) (off := 100) g5 221 (by decide +kernel) (by decide) (by decide) rfl (by decide) ?_
      refine q_aload_n 3 0 222 rfl (by decide +kernel) rfl ?_
      refine q_getr (f := 8) 6 225 rfl (by decide +kernel) (cC_Mo D tc x0 y) (rfl : mKd 0 = (1, 0, 21, 0, 0)) (by decide) rfl rfl tw_5_220 ?_
      refine q_iload 0 4 227 rfl (by decide +kernel) rfl ?_
      refine q_iconst 4 (c := 4) 228 rfl (by decide +kernel) rfl ?_
      refine q_callS_i 231 rfl (av := [.int v4, .int 4]) (st := [q_r (mG D tc x0 y) 6]) (c_Mo_meeting X.1 D tc x0 y I J P v4 4) yv_Mo_meeting tw_6_86 tw_6_87 rfl (Nat.le_of_ble_eq_true rfl) (by decide +kernel) ⟨Nat.le_of_ble_eq_true rfl, Nat.le_of_ble_eq_true rfl⟩ ⟨Nat.le_of_ble_eq_true rfl, Nat.le_of_ble_eq_true rfl⟩ rfl rfl (fun v9 => ?_)
      refine q_dup2 232 rfl (by decide +kernel) rfl rfl ?_
      refine q_iald (t := 0) 233 rfl (by decide +kernel) (rfl : mKd 6 = (2, 175, 0, 0, 0)) rfl (fun j9 hj9 => ?_)
      refine q_iconst 1 (c := 1) 234 rfl (by decide +kernel) rfl ?_
      refine q_iload_n 1 3 235 rfl (by decide +kernel) rfl ?_
      refine q_ishl 236 rfl (by decide +kernel) ?_
      refine q_iconst (-1) (c := -1) 237 rfl (by decide +kernel) rfl ?_
      refine q_ixor 238 rfl (by decide +kernel) ?_
      refine q_iand 239 rfl (by decide +kernel) ?_
      refine q_iast (t := 0) 240 rfl (by decide +kernel) (rfl : mKd 6 = (2, 175, 0, 0, 0)) rfl (fun j10 hj10 => ?_)
      refine q_letI (fun I5 => ?_)
      refine q_goto (off := 57) 297 (by decide +kernel) rfl ?_
      exact q_vret (by decide +kernel) rfl rfl (Nat.le_of_ble_eq_true rfl) (Nat.le_of_ble_eq_true rfl)
    have eg1 := q_neI (z := 1) (by decide) g1
    have eg2 := q_neI (z := 2) (by decide) g2
    have eg3 := q_neI (z := 3) (by decide) g3
    have eg4 := q_neI (z := 4) (by decide) g4
    have eg5 := q_neI (z := 5) (by decide) g5
    refine q_tableOut (dflt := 122) (lo := 1) (hi := 5) (offs := #[35, 50, 65, 80, 100]) (len := 35) 243 (by decide +kernel) (by omega) (by decide) ?_
    refine q_aload_n 3 0 244 rfl (by decide +kernel) rfl ?_
    refine q_dup 245 rfl (by decide +kernel) rfl ?_
    refine q_geti (f := 7) 248 rfl (by decide +kernel) (cC_Mo D tc x0 y) (rfl : mKd 0 = (1, 0, 21, 0, 0)) (by decide) rfl tw_5_219 ?_
    refine q_iconst 1 (c := 1) 249 rfl (by decide +kernel) rfl ?_
    refine q_isub 250 rfl (by decide +kernel) ?_
    refine q_puti (f := 7) 253 rfl (by decide +kernel) (cC_Mo D tc x0 y) (rfl : mKd 0 = (1, 0, 21, 0, 0)) (by decide) rfl rfl rfl tw_5_219 ?_
    refine q_letI (fun I6 => ?_)
    refine q_iload 0 4 255 rfl (by decide +kernel) rfl ?_
    refine q_iconst 0 (c := 0) 256 rfl (by decide +kernel) rfl ?_
    refine q_callS_i 259 rfl (av := [.int v4, .int 0]) (st := []) (c_Mo_meeting X.1 D tc x0 y I6 J P v4 0) yv_Mo_meeting tw_6_86 tw_6_87 rfl (Nat.le_of_ble_eq_true rfl) (by decide +kernel) ⟨Nat.le_of_ble_eq_true rfl, Nat.le_of_ble_eq_true rfl⟩ ⟨Nat.le_of_ble_eq_true rfl, Nat.le_of_ble_eq_true rfl⟩ rfl rfl (fun v10 => ?_)
    refine q_istore 5 261 rfl [(5, .int v10), (4, .int v4), (3, .int x2), (2, .int x1), (0, q_r (mG D tc x0 y) 0), (1, .int a1)] (by decide +kernel) (Nat.le_of_ble_eq_true rfl) rfl ?_
    have hL1 : ∀ (n1_ : Nat) (x3 : Int32) (I7 : q_I), q_V (mG D tc x0 y) m_Mo_carriesOut X (fun r : q_I => (none, (r, J, P))) 0 0 261 [(0, q_r (mG D tc x0 y) 0), (5, .int x3)] [] I7 J P (f_Mo_carriesOut_L1  n1_ x3 I7) := by
      intro n1_
      induction n1_ with
      | zero => intro x3 I7; exact q_none
      | succ n1_ ih1 =>
        intro x3 I7
        rw [f_Mo_carriesOut_L1]
        refine q_iload 1 5 263 rfl (by decide +kernel) rfl ?_
        refine q_aload_n 0 0 264 rfl (by decide +kernel) rfl ?_
        refine q_geti (f := 7) 267 rfl (by decide +kernel) (cC_Mo D tc x0 y) (rfl : mKd 0 = (1, 0, 21, 0, 0)) (by decide) rfl tw_5_219 ?_
        refine q_iconst 0 (c := 0) 268 rfl (by decide +kernel) rfl ?_
        refine q_callS_i 271 rfl (av := [.int (I7 0 7), .int 0]) (st := [.int x3]) (c_Mo_meeting X.1 D tc x0 y I7 J P (I7 0 7) 0) yv_Mo_meeting tw_6_86 tw_6_87 rfl (Nat.le_of_ble_eq_true rfl) (by decide +kernel) ⟨Nat.le_of_ble_eq_true rfl, Nat.le_of_ble_eq_true rfl⟩ ⟨Nat.le_of_ble_eq_true rfl, Nat.le_of_ble_eq_true rfl⟩ rfl rfl (fun v11 => ?_)
        refine q_icmp_ge 274 rfl 297 (off := 26) (by decide +kernel) rfl (fun g6 => ?_) (fun g6 => ?_)
        · exact q_vret (by decide +kernel) rfl rfl (Nat.le_of_ble_eq_true rfl) (Nat.le_of_ble_eq_true rfl)
        · refine q_aload_n 0 0 275 rfl (by decide +kernel) rfl ?_
          refine q_getr (f := 8) 6 278 rfl (by decide +kernel) (cC_Mo D tc x0 y) (rfl : mKd 0 = (1, 0, 21, 0, 0)) (by decide) rfl rfl tw_5_220 ?_
          refine q_iload 1 5 280 rfl (by decide +kernel) rfl ?_
          refine q_aload_n 0 0 281 rfl (by decide +kernel) rfl ?_
          refine q_getr (f := 8) 6 284 rfl (by decide +kernel) (cC_Mo D tc x0 y) (rfl : mKd 0 = (1, 0, 21, 0, 0)) (by decide) rfl rfl tw_5_220 ?_
          refine q_iload 1 5 286 rfl (by decide +kernel) rfl ?_
          refine q_bipush 7 (c := 7) 288 rfl (by decide +kernel) rfl ?_
          refine q_iadd 289 rfl (by decide +kernel) ?_
          refine q_iald (t := 0) 290 rfl (by decide +kernel) (rfl : mKd 6 = (2, 175, 0, 0, 0)) rfl (fun j11 hj11 => ?_)
          refine q_iast (t := 0) 291 rfl (by decide +kernel) (rfl : mKd 6 = (2, 175, 0, 0, 0)) rfl (fun j12 hj12 => ?_)
          refine q_letI (fun I8 => ?_)
          refine q_iinc (x3 + 1) (c := 1) 5 1 294 rfl [(5, .int (x3 + 1)), (0, q_r (mG D tc x0 y) 0)] (by decide +kernel) rfl rfl (Nat.le_of_ble_eq_true rfl) rfl ?_
          refine q_goto (off := -33) 261 (by decide +kernel) rfl ?_
          refine q_sub [1, 0] rfl ?_
          exact ih1 (x3 + 1) I8
    refine q_sub [4, 0] rfl ?_
    exact hL1 _ _ _
  · refine q_aload_n 2 0 27 rfl (by decide +kernel) rfl ?_
    refine q_getr (f := 8) 6 30 rfl (by decide +kernel) (cC_Mo D tc x0 y) (rfl : mKd 0 = (1, 0, 21, 0, 0)) (by decide) rfl rfl tw_5_220 ?_
    refine q_aload_n 2 0 31 rfl (by decide +kernel) rfl ?_
    refine q_geti (f := 7) 34 rfl (by decide +kernel) (cC_Mo D tc x0 y) (rfl : mKd 0 = (1, 0, 21, 0, 0)) (by decide) rfl tw_5_219 ?_
    refine q_iconst 0 (c := 0) 35 rfl (by decide +kernel) rfl ?_
    refine q_callS_i 38 rfl (av := [.int (I 0 7), .int 0]) (st := [q_r (mG D tc x0 y) 6]) (c_Mo_meeting X.1 D tc x0 y I J P (I 0 7) 0) yv_Mo_meeting tw_6_86 tw_6_87 rfl (Nat.le_of_ble_eq_true rfl) (by decide +kernel) ⟨Nat.le_of_ble_eq_true rfl, Nat.le_of_ble_eq_true rfl⟩ ⟨Nat.le_of_ble_eq_true rfl, Nat.le_of_ble_eq_true rfl⟩ rfl rfl (fun v12 => ?_)
    refine q_aload_n 2 0 39 rfl (by decide +kernel) rfl ?_
    refine q_getr (f := 0) 1 42 rfl (by decide +kernel) (cC_Mo D tc x0 y) (rfl : mKd 0 = (1, 0, 21, 0, 0)) (by decide) rfl rfl tw_5_212 ?_
    refine q_iload_n 3 1 43 rfl (by decide +kernel) rfl ?_
    refine q_iconst 0 (c := 0) 44 rfl (by decide +kernel) rfl ?_
    refine q_callS_i 47 rfl (av := [.int a1, .int 0]) (st := [q_r (mG D tc x0 y) 1, .int v12, q_r (mG D tc x0 y) 6]) (c_Mo_edit X.1 D tc x0 y I J P a1 0) yv_Mo_edit tw_6_63 tw_6_64 rfl (Nat.le_of_ble_eq_true rfl) (by decide +kernel) ⟨Nat.le_of_ble_eq_true rfl, Nat.le_of_ble_eq_true rfl⟩ ⟨Nat.le_of_ble_eq_true rfl, Nat.le_of_ble_eq_true rfl⟩ rfl rfl (fun v13 => ?_)
    refine q_iald (t := 0) 48 rfl (by decide +kernel) (rfl : mKd 1 = (2, 280, 0, 0, 0)) rfl (fun j13 hj13 => ?_)
    refine q_iast (t := 0) 49 rfl (by decide +kernel) (rfl : mKd 6 = (2, 175, 0, 0, 0)) rfl (fun j14 hj14 => ?_)
    refine q_letI (fun I9 => ?_)
    refine q_iconst 1 (c := 1) 50 rfl (by decide +kernel) rfl ?_
    refine q_istore 4 52 rfl [(4, .int 1), (3, .int x2), (2, .int x1), (0, q_r (mG D tc x0 y) 0), (1, .int a1)] (by decide +kernel) (Nat.le_of_ble_eq_true rfl) rfl ?_
    have hL2 : ∀ (K2 : q_I → Option (q_I)) (hK2 : ∀ (I12 : q_I), q_V (mG D tc x0 y) m_Mo_carriesOut X (fun r : q_I => (none, (r, J, P))) 0 0 93 [(0, q_r (mG D tc x0 y) 0)] [] I12 J P (K2 I12)) (n2_ : Nat) (x4 : Int32) (I10 : q_I), q_V (mG D tc x0 y) m_Mo_carriesOut X (fun r : q_I => (none, (r, J, P))) 0 0 52 [(0, q_r (mG D tc x0 y) 0), (1, .int a1), (4, .int x4)] [] I10 J P (f_Mo_carriesOut_L2 a1 K2 n2_ x4 I10) := by
      intro K2 hK2 n2_
      induction n2_ with
      | zero => intro x4 I10; exact q_none
      | succ n2_ ih2 =>
        intro x4 I10
        rw [f_Mo_carriesOut_L2]
        refine q_iload 2 4 54 rfl (by decide +kernel) rfl ?_
        refine q_bipush 6 (c := 6) 56 rfl (by decide +kernel) rfl ?_
        refine q_icmp_gt 59 rfl 93 (off := 37) (by decide +kernel) rfl (fun g7 => ?_) (fun g7 => ?_)
        · refine q_sub [0] rfl ?_
          exact hK2 I10
        · refine q_aload_n 0 0 60 rfl (by decide +kernel) rfl ?_
          refine q_getr (f := 8) 6 63 rfl (by decide +kernel) (cC_Mo D tc x0 y) (rfl : mKd 0 = (1, 0, 21, 0, 0)) (by decide) rfl rfl tw_5_220 ?_
          refine q_aload_n 0 0 64 rfl (by decide +kernel) rfl ?_
          refine q_geti (f := 7) 67 rfl (by decide +kernel) (cC_Mo D tc x0 y) (rfl : mKd 0 = (1, 0, 21, 0, 0)) (by decide) rfl tw_5_219 ?_
          refine q_iload 2 4 69 rfl (by decide +kernel) rfl ?_
          refine q_callS_i 72 rfl (av := [.int (I10 0 7), .int x4]) (st := [q_r (mG D tc x0 y) 6]) (c_Mo_meeting X.1 D tc x0 y I10 J P (I10 0 7) x4) yv_Mo_meeting tw_6_86 tw_6_87 rfl (Nat.le_of_ble_eq_true rfl) (by decide +kernel) ⟨Nat.le_of_ble_eq_true rfl, Nat.le_of_ble_eq_true rfl⟩ ⟨Nat.le_of_ble_eq_true rfl, Nat.le_of_ble_eq_true rfl⟩ rfl rfl (fun v14 => ?_)
          refine q_aload_n 0 0 73 rfl (by decide +kernel) rfl ?_
          refine q_getr (f := 0) 1 76 rfl (by decide +kernel) (cC_Mo D tc x0 y) (rfl : mKd 0 = (1, 0, 21, 0, 0)) (by decide) rfl rfl tw_5_212 ?_
          refine q_iload_n 1 1 77 rfl (by decide +kernel) rfl ?_
          refine q_bipush 6 (c := 6) 79 rfl (by decide +kernel) rfl ?_
          refine q_iload 2 4 81 rfl (by decide +kernel) rfl ?_
          refine q_iadd 82 rfl (by decide +kernel) ?_
          refine q_callS_i 85 rfl (av := [.int a1, .int (6 + x4)]) (st := [q_r (mG D tc x0 y) 1, .int v14, q_r (mG D tc x0 y) 6]) (c_Mo_edit X.1 D tc x0 y I10 J P a1 (6 + x4)) yv_Mo_edit tw_6_63 tw_6_64 rfl (Nat.le_of_ble_eq_true rfl) (by decide +kernel) ⟨Nat.le_of_ble_eq_true rfl, Nat.le_of_ble_eq_true rfl⟩ ⟨Nat.le_of_ble_eq_true rfl, Nat.le_of_ble_eq_true rfl⟩ rfl rfl (fun v15 => ?_)
          refine q_iald (t := 0) 86 rfl (by decide +kernel) (rfl : mKd 1 = (2, 280, 0, 0, 0)) rfl (fun j15 hj15 => ?_)
          refine q_iast (t := 0) 87 rfl (by decide +kernel) (rfl : mKd 6 = (2, 175, 0, 0, 0)) rfl (fun j16 hj16 => ?_)
          refine q_letI (fun I11 => ?_)
          refine q_iinc (x4 + 1) (c := 1) 4 2 90 rfl [(4, .int (x4 + 1)), (0, q_r (mG D tc x0 y) 0), (1, .int a1)] (by decide +kernel) rfl rfl (Nat.le_of_ble_eq_true rfl) rfl ?_
          refine q_goto (off := -38) 52 (by decide +kernel) rfl ?_
          refine q_sub [1, 2, 0] rfl ?_
          exact ih2 (x4 + 1) I11
    refine q_sub [3, 4, 0] rfl ?_
    refine hL2 _ (fun I12 => ?_) _ _ _
    refine q_aload_n 0 0 94 rfl (by decide +kernel) rfl ?_
    refine q_dup 95 rfl (by decide +kernel) rfl ?_
    refine q_geti (f := 7) 98 rfl (by decide +kernel) (cC_Mo D tc x0 y) (rfl : mKd 0 = (1, 0, 21, 0, 0)) (by decide) rfl tw_5_219 ?_
    refine q_iconst 1 (c := 1) 99 rfl (by decide +kernel) rfl ?_
    refine q_iadd 100 rfl (by decide +kernel) ?_
    refine q_puti (f := 7) 103 rfl (by decide +kernel) (cC_Mo D tc x0 y) (rfl : mKd 0 = (1, 0, 21, 0, 0)) (by decide) rfl rfl rfl tw_5_219 ?_
    refine q_letI (fun I13 => ?_)
    exact q_vret (by decide +kernel) rfl rfl (Nat.le_of_ble_eq_true rfl) (Nat.le_of_ble_eq_true rfl)
def f_Mo_forms_L1 (K : q_I → Option (q_I)) : Nat → Int32 → q_I → Option (q_I)
  | 0, _, _ => none
  | n + 1, x1, I2 => if (7 * (I2 0 7)) ≤ x1 then ((K I2)) else (q_ix (40 + x1) 280 (fun j2 => q_ix x1 175 (fun j3 => q_l (q_ui I2 6 j3 (I2 1 j2)) (fun I3 => (f_Mo_forms_L1  K n (x1 + 1) I3)))))
def f_Mo_forms_L2 (a1 : Int32) : Nat → Int32 → q_I → Option (q_I)
  | 0, _, _ => none
  | n + 1, x2, I5 => q_ix 0 280 (fun j4 => if (I5 1 j4) ≤ x2 then (some (I5)) else (if ((a1 >>> (x2 &&& 31)) &&& 1) = 1 then (q_b1 (f_Mo_carriesOut I5 x2) (fun I6 => (f_Mo_forms_L2 a1 n (x2 + 1) I6))) else ((f_Mo_forms_L2 a1 n (x2 + 1) I5))))
def f_Mo_forms (I : q_I) (a1 : Int32) : Option (q_I) :=
  q_ix 2 280 (fun j1 => q_l (q_ui I 0 7 (I 1 j1)) (fun I1 => f_Mo_forms_L1  (fun (I4 : q_I) => f_Mo_forms_L2 a1 q_fu 0 I4) q_fu 0 I1))
def y_Mo_forms : MethodName := ⟨"CalendarReplicasModel", "forms", "(I)V"⟩
def m_Mo_forms : q_M := (prog_11_method_11_code, 3, "CalendarReplicasModel", { frames := 3, cells := 0, slots := 0, locals := 68 }, (none : Option FieldType))
theorem yv_Mo_forms : q_Y y_Mo_forms m_Mo_forms 1 := ⟨rfl, ⟨by decide, by decide⟩, by decide +kernel, tw_6_81, tw_1_15⟩
set_option maxRecDepth 100000 in
set_option maxHeartbeats 4000000 in
theorem c_Mo_forms (l : Launch) (D : va_G) (tc : Nat → ClassId) (x0 y : Nat) (I : q_I) (J : q_J) (P : q_P) (a1 : Int32) : q_Ct l (mG D tc x0 y) y_Mo_forms m_Mo_forms [q_r (mG D tc x0 y) 0, .int a1] (I, J, P) (f_Mo_forms I a1) (fun r : q_I => (none, (r, J, P))) := by
  refine q_Ct_of (mIn D tc x0 y) (by decide) rfl (Nat.le_of_ble_eq_true rfl) rfl (fun X hX => ?_)
  subst hX
  unfold f_Mo_forms
  refine q_aload_n 0 0 1 rfl (by decide +kernel) rfl ?_
  refine q_aload_n 0 0 2 rfl (by decide +kernel) rfl ?_
  refine q_getr (f := 0) 1 5 rfl (by decide +kernel) (cC_Mo D tc x0 y) (rfl : mKd 0 = (1, 0, 21, 0, 0)) (by decide) rfl rfl tw_5_212 ?_
  refine q_iconst 2 (c := 2) 6 rfl (by decide +kernel) rfl ?_
  refine q_iald (t := 0) 7 rfl (by decide +kernel) (rfl : mKd 1 = (2, 280, 0, 0, 0)) rfl (fun j1 hj1 => ?_)
  refine q_puti (f := 7) 10 rfl (by decide +kernel) (cC_Mo D tc x0 y) (rfl : mKd 0 = (1, 0, 21, 0, 0)) (by decide) rfl rfl rfl tw_5_219 ?_
  refine q_letI (fun I1 => ?_)
  refine q_iconst 0 (c := 0) 11 rfl (by decide +kernel) rfl ?_
  refine q_istore_n 2 2 12 rfl [(2, .int 0), (0, q_r (mG D tc x0 y) 0), (1, .int a1)] (by decide +kernel) rfl (Nat.le_of_ble_eq_true rfl) rfl ?_
  have hL1 : ∀ (K1 : q_I → Option (q_I)) (hK1 : ∀ (I4 : q_I), q_V (mG D tc x0 y) m_Mo_forms X (fun r : q_I => (none, (r, J, P))) 0 0 44 [(0, q_r (mG D tc x0 y) 0), (1, .int a1)] [] I4 J P (K1 I4)) (n1_ : Nat) (x1 : Int32) (I2 : q_I), q_V (mG D tc x0 y) m_Mo_forms X (fun r : q_I => (none, (r, J, P))) 0 0 12 [(0, q_r (mG D tc x0 y) 0), (1, .int a1), (2, .int x1)] [] I2 J P (f_Mo_forms_L1  K1 n1_ x1 I2) := by
    intro K1 hK1 n1_
    induction n1_ with
    | zero => intro x1 I2; exact q_none
    | succ n1_ ih1 =>
      intro x1 I2
      rw [f_Mo_forms_L1]
      refine q_iload_n 2 2 13 rfl (by decide +kernel) rfl ?_
      refine q_bipush 7 (c := 7) 15 rfl (by decide +kernel) rfl ?_
      refine q_aload_n 0 0 16 rfl (by decide +kernel) rfl ?_
      refine q_geti (f := 7) 19 rfl (by decide +kernel) (cC_Mo D tc x0 y) (rfl : mKd 0 = (1, 0, 21, 0, 0)) (by decide) rfl tw_5_219 ?_
      refine q_imul 20 rfl (by decide +kernel) ?_
      refine q_icmp_ge 23 rfl 44 (off := 24) (by decide +kernel) rfl (fun g1 => ?_) (fun g1 => ?_)
      · refine q_sub [0, 1] rfl ?_
        exact hK1 I2
      · refine q_aload_n 0 0 24 rfl (by decide +kernel) rfl ?_
        refine q_getr (f := 8) 6 27 rfl (by decide +kernel) (cC_Mo D tc x0 y) (rfl : mKd 0 = (1, 0, 21, 0, 0)) (by decide) rfl rfl tw_5_220 ?_
        refine q_iload_n 2 2 28 rfl (by decide +kernel) rfl ?_
        refine q_aload_n 0 0 29 rfl (by decide +kernel) rfl ?_
        refine q_getr (f := 0) 1 32 rfl (by decide +kernel) (cC_Mo D tc x0 y) (rfl : mKd 0 = (1, 0, 21, 0, 0)) (by decide) rfl rfl tw_5_212 ?_
        refine q_bipush 40 (c := 40) 34 rfl (by decide +kernel) rfl ?_
        refine q_iload_n 2 2 35 rfl (by decide +kernel) rfl ?_
        refine q_iadd 36 rfl (by decide +kernel) ?_
        refine q_iald (t := 0) 37 rfl (by decide +kernel) (rfl : mKd 1 = (2, 280, 0, 0, 0)) rfl (fun j2 hj2 => ?_)
        refine q_iast (t := 0) 38 rfl (by decide +kernel) (rfl : mKd 6 = (2, 175, 0, 0, 0)) rfl (fun j3 hj3 => ?_)
        refine q_letI (fun I3 => ?_)
        refine q_iinc (x1 + 1) (c := 1) 2 2 41 rfl [(2, .int (x1 + 1)), (0, q_r (mG D tc x0 y) 0), (1, .int a1)] (by decide +kernel) rfl rfl (Nat.le_of_ble_eq_true rfl) rfl ?_
        refine q_goto (off := -29) 12 (by decide +kernel) rfl ?_
        refine q_sub [1, 2, 0] rfl ?_
        exact ih1 (x1 + 1) I3
  refine q_sub [1, 2, 0] rfl ?_
  refine hL1 _ (fun I4 => ?_) _ _ _
  refine q_iconst 0 (c := 0) 45 rfl (by decide +kernel) rfl ?_
  refine q_istore_n 2 2 46 rfl [(2, .int 0), (0, q_r (mG D tc x0 y) 0), (1, .int a1)] (by decide +kernel) rfl (Nat.le_of_ble_eq_true rfl) rfl ?_
  have hL2 : ∀ (n2_ : Nat) (x2 : Int32) (I5 : q_I), q_V (mG D tc x0 y) m_Mo_forms X (fun r : q_I => (none, (r, J, P))) 0 0 46 [(0, q_r (mG D tc x0 y) 0), (1, .int a1), (2, .int x2)] [] I5 J P (f_Mo_forms_L2 a1 n2_ x2 I5) := by
    intro n2_
    induction n2_ with
    | zero => intro x2 I5; exact q_none
    | succ n2_ ih2 =>
      intro x2 I5
      rw [f_Mo_forms_L2]
      refine q_iload_n 2 2 47 rfl (by decide +kernel) rfl ?_
      refine q_aload_n 0 0 48 rfl (by decide +kernel) rfl ?_
      refine q_getr (f := 0) 1 51 rfl (by decide +kernel) (cC_Mo D tc x0 y) (rfl : mKd 0 = (1, 0, 21, 0, 0)) (by decide) rfl rfl tw_5_212 ?_
      refine q_iconst 0 (c := 0) 52 rfl (by decide +kernel) rfl ?_
      refine q_iald (t := 0) 53 rfl (by decide +kernel) (rfl : mKd 1 = (2, 280, 0, 0, 0)) rfl (fun j4 hj4 => ?_)
      refine q_icmp_ge 56 rfl 76 (off := 23) (by decide +kernel) rfl (fun g3 => ?_) (fun g3 => ?_)
      · exact q_vret (by decide +kernel) rfl rfl (Nat.le_of_ble_eq_true rfl) (Nat.le_of_ble_eq_true rfl)
      · refine q_iload_n 1 1 57 rfl (by decide +kernel) rfl ?_
        refine q_iload_n 2 2 58 rfl (by decide +kernel) rfl ?_
        refine q_ishr 59 rfl (by decide +kernel) ?_
        refine q_iconst 1 (c := 1) 60 rfl (by decide +kernel) rfl ?_
        refine q_iand 61 rfl (by decide +kernel) ?_
        refine q_iconst 1 (c := 1) 62 rfl (by decide +kernel) rfl ?_
        refine q_icmp_ne 65 rfl 70 (off := 8) (by decide +kernel) rfl (fun g2 => ?_) (fun g2 => ?_)
        · refine q_iinc (x2 + 1) (c := 1) 2 2 73 rfl [(2, .int (x2 + 1)), (0, q_r (mG D tc x0 y) 0), (1, .int a1)] (by decide +kernel) rfl rfl (Nat.le_of_ble_eq_true rfl) rfl ?_
          refine q_goto (off := -27) 46 (by decide +kernel) rfl ?_
          refine q_sub [1, 2, 0] rfl ?_
          exact ih2 (x2 + 1) I5
        · refine q_aload_n 0 0 66 rfl (by decide +kernel) rfl ?_
          refine q_iload_n 2 2 67 rfl (by decide +kernel) rfl ?_
          refine q_callV_vI 70 rfl (av := [.int x2]) (o := 0) (st := []) (c_Mo_carriesOut X.1 D tc x0 y I5 J P x2) yv_Mo_carriesOut tw_6_82 tw_6_84 sw_33 (cC_Mo D tc x0 y) (rfl : mKd 0 = (1, 0, 21, 0, 0)) rfl (Nat.le_of_ble_eq_true rfl) (by decide +kernel) ⟨Nat.le_of_ble_eq_true rfl, Nat.le_of_ble_eq_true rfl⟩ ⟨Nat.le_of_ble_eq_true rfl, Nat.le_of_ble_eq_true rfl⟩ rfl rfl (fun I6 => ?_)
          refine q_iinc (x2 + 1) (c := 1) 2 2 73 rfl [(2, .int (x2 + 1)), (0, q_r (mG D tc x0 y) 0), (1, .int a1)] (by decide +kernel) rfl rfl (Nat.le_of_ble_eq_true rfl) rfl ?_
          refine q_goto (off := -27) 46 (by decide +kernel) rfl ?_
          refine q_sub [1, 2, 0] rfl ?_
          exact ih2 (x2 + 1) I6
  refine q_sub [1, 2, 0] rfl ?_
  exact hL2 _ _ _
def f_Mo_slots (a0 : Int32) (a1 : Int32) (a2 : Int32) : Option (Int64) :=
  q_b1 (if (0 : Int32) ≤ (a0 - a2) then ((some ((a0 - a2)))) else ((some (0))) : Option (Int32)) (fun (x1 : Int32) => q_b1 (if (a1 - a2) ≤ 48 then ((some ((a1 - a2)))) else ((some (48))) : Option (Int32)) (fun (x2 : Int32) => if x1 < x2 then (some ((((1 : Int64) <<< (x2.toInt64 &&& 63)) - ((1 : Int64) <<< (x1.toInt64 &&& 63))))) else (some (0))))
def y_Mo_slots : MethodName := ⟨"CalendarReplicasModel", "slots", "(III)J"⟩
def m_Mo_slots : q_M := (prog_11_method_12_code, 5, "CalendarReplicasModel", { frames := 0, cells := 0, slots := 0, locals := 0 }, (some FieldType.long))
theorem yv_Mo_slots : q_Y y_Mo_slots m_Mo_slots 3 := ⟨rfl, ⟨by decide, by decide⟩, by decide +kernel, tw_6_114, tw_1_15⟩
set_option maxRecDepth 100000 in
set_option maxHeartbeats 4000000 in
theorem c_Mo_slots (l : Launch) (D : va_G) (tc : Nat → ClassId) (x0 y : Nat) (I : q_I) (J : q_J) (P : q_P) (a0 : Int32) (a1 : Int32) (a2 : Int32) : q_Ct l (mG D tc x0 y) y_Mo_slots m_Mo_slots [.int a0, .int a1, .int a2] (I, J, P) (f_Mo_slots a0 a1 a2) (fun r : Int64 => (some (.long r), (I, J, P))) := by
  refine q_Ct_of (mIn D tc x0 y) (by decide) rfl (Nat.le_of_ble_eq_true rfl) rfl (fun X hX => ?_)
  subst hX
  unfold f_Mo_slots
  refine q_iload_n 0 0 1 rfl (by decide +kernel) rfl ?_
  refine q_iload_n 2 2 2 rfl (by decide +kernel) rfl ?_
  refine q_isub 3 rfl (by decide +kernel) ?_
  refine q_jn1 13 (fun x1 => [(1, .int a1), (2, .int a2)]) (fun x1 => [.int x1]) (fun x1 => I) (fun x1 => J) (fun x1 => P) (fun jk1 => if (0 : Int32) ≤ (a0 - a2) then ((jk1 ((a0 - a2)))) else ((jk1 (0)))) (by intro jk1; simp only [q_b1_if, q_b1_s, q_b1_n, q_b1_ix, q_b1_b1, q_b1_b2, q_b1_b3, q_b1_l, q_b1_ck, q_b1_el]) ?_ ?_
  · intro x1
    refine q_istore_n 3 3 14 rfl [(3, .int x1), (1, .int a1), (2, .int a2)] (by decide +kernel) rfl (Nat.le_of_ble_eq_true rfl) rfl ?_
    refine q_iload_n 1 1 15 rfl (by decide +kernel) rfl ?_
    refine q_iload_n 2 2 16 rfl (by decide +kernel) rfl ?_
    refine q_isub 17 rfl (by decide +kernel) ?_
    refine q_bipush 48 (c := 48) 19 rfl (by decide +kernel) rfl ?_
    refine q_jn1 30 (fun x2 => [(3, .int x1)]) (fun x2 => [.int x2]) (fun x2 => I) (fun x2 => J) (fun x2 => P) (fun jk2 => if (a1 - a2) ≤ 48 then ((jk2 ((a1 - a2)))) else ((jk2 (48)))) (by intro jk2; simp only [q_b1_if, q_b1_s, q_b1_n, q_b1_ix, q_b1_b1, q_b1_b2, q_b1_b3, q_b1_l, q_b1_ck, q_b1_el]) ?_ ?_
    · intro x2
      refine q_istore 4 32 rfl [(4, .int x2), (3, .int x1)] (by decide +kernel) (Nat.le_of_ble_eq_true rfl) rfl ?_
      refine q_iload 0 4 34 rfl (by decide +kernel) rfl ?_
      refine q_iload_n 1 3 35 rfl (by decide +kernel) rfl ?_
      refine q_icmp_gt 38 rfl 42 (off := 7) (by decide +kernel) rfl (fun g1 => ?_) (fun g1 => ?_)
      · refine q_lconst 1 (c := 1) 43 rfl (by decide +kernel) rfl ?_
        refine q_iload 0 4 45 rfl (by decide +kernel) rfl ?_
        refine q_lshl 46 rfl (by decide +kernel) ?_
        refine q_lconst 1 (c := 1) 47 rfl (by decide +kernel) rfl ?_
        refine q_iload_n 1 3 48 rfl (by decide +kernel) rfl ?_
        refine q_lshl 49 rfl (by decide +kernel) ?_
        refine q_lsub 50 rfl (by decide +kernel) ?_
        exact q_lret (by decide +kernel) rfl rfl (Nat.le_of_ble_eq_true rfl) (Nat.le_of_ble_eq_true rfl)
      · refine q_lconst 0 (c := 0) 39 rfl (by decide +kernel) rfl ?_
        refine q_goto (off := 11) 50 (by decide +kernel) rfl ?_
        exact q_lret (by decide +kernel) rfl rfl (Nat.le_of_ble_eq_true rfl) (Nat.le_of_ble_eq_true rfl)
    · intro jk2 hq2
      refine q_icmp_le 22 rfl 27 (off := 8) (by decide +kernel) rfl (fun g2 => ?_) (fun g2 => ?_)
      · refine q_iload_n 1 1 28 rfl (by decide +kernel) rfl ?_
        refine q_iload_n 2 2 29 rfl (by decide +kernel) rfl ?_
        refine q_isub 30 rfl (by decide +kernel) ?_
        refine q_sub [0] rfl ?_
        exact hq2 (a1 - a2)
      · refine q_bipush 48 (c := 48) 24 rfl (by decide +kernel) rfl ?_
        refine q_goto (off := 6) 30 (by decide +kernel) rfl ?_
        refine q_sub [0] rfl ?_
        exact hq2 48
  · intro jk1 hq1
    refine q_if_ge 6 rfl 10 (off := 7) (by decide +kernel) rfl (fun g3 => ?_) (fun g3 => ?_)
    · refine q_iload_n 0 0 11 rfl (by decide +kernel) rfl ?_
      refine q_iload_n 2 2 12 rfl (by decide +kernel) rfl ?_
      refine q_isub 13 rfl (by decide +kernel) ?_
      refine q_sub [1, 2] rfl ?_
      exact hq1 (a0 - a2)
    · refine q_iconst 0 (c := 0) 7 rfl (by decide +kernel) rfl ?_
      refine q_goto (off := 6) 13 (by decide +kernel) rfl ?_
      refine q_sub [1, 2] rfl ?_
      exact hq1 0
def f_Mo_findSlots_L1 (I : q_I) (a1 : Int32) : Nat → Int32 → q_J → Option (q_J)
  | 0, _, _ => none
  | n + 1, x1, J3 => q_b1 (f_Mo_meeting a1 6) (fun v1 => q_ix v1 175 (fun j3 => if (I 6 j3) ≤ x1 then (some (J3)) else (q_b1 (f_Mo_meeting a1 1) (fun v2 => q_ix v2 175 (fun j4 => q_b1 (f_Mo_meeting a1 5) (fun v3 => q_ix v3 175 (fun j5 => q_l ((I 6 j4) + (x1 * (I 6 j5)) : Int32) (fun x2 => q_ix a1 25 (fun j6 => q_b1 (f_Mo_meeting a1 2) (fun v4 => q_ix v4 175 (fun j7 => q_b1 (f_Mo_slots x2 (x2 + (I 6 j7)) 0) (fun w1 => q_ix a1 25 (fun j8 => q_l (q_uj J3 7 j8 ((J3 7 j6) ||| w1)) (fun J4 => q_ix a1 25 (fun j9 => q_b1 (f_Mo_meeting a1 2) (fun v5 => q_ix v5 175 (fun j10 => q_b1 (f_Mo_slots x2 (x2 + (I 6 j10)) 48) (fun w2 => q_ix a1 25 (fun j11 => q_l (q_uj J4 8 j11 ((J4 8 j9) ||| w2)) (fun J5 => (f_Mo_findSlots_L1 I a1 n (x1 + 1) J5)))))))))))))))))))))
def f_Mo_findSlots (I : q_I) (J : q_J) (a1 : Int32) : Option (q_J) :=
  q_ix a1 25 (fun j1 => q_l (q_uj J 7 j1 0) (fun J1 => q_ix a1 25 (fun j2 => q_l (q_uj J1 8 j2 0) (fun J2 => f_Mo_findSlots_L1 I a1 q_fu 0 J2))))
def y_Mo_findSlots : MethodName := ⟨"CalendarReplicasModel", "findSlots", "(I)V"⟩
def m_Mo_findSlots : q_M := (prog_11_method_13_code, 4, "CalendarReplicasModel", { frames := 1, cells := 0, slots := 0, locals := 24 }, (none : Option FieldType))
theorem yv_Mo_findSlots : q_Y y_Mo_findSlots m_Mo_findSlots 1 := ⟨rfl, ⟨by decide, by decide⟩, by decide +kernel, tw_6_111, tw_1_15⟩
set_option maxRecDepth 100000 in
set_option maxHeartbeats 4000000 in
theorem c_Mo_findSlots (l : Launch) (D : va_G) (tc : Nat → ClassId) (x0 y : Nat) (I : q_I) (J : q_J) (P : q_P) (a1 : Int32) : q_Ct l (mG D tc x0 y) y_Mo_findSlots m_Mo_findSlots [q_r (mG D tc x0 y) 0, .int a1] (I, J, P) (f_Mo_findSlots I J a1) (fun r : q_J => (none, (I, r, P))) := by
  refine q_Ct_of (mIn D tc x0 y) (by decide) rfl (Nat.le_of_ble_eq_true rfl) rfl (fun X hX => ?_)
  subst hX
  unfold f_Mo_findSlots
  refine q_aload_n 0 0 1 rfl (by decide +kernel) rfl ?_
  refine q_getr (f := 9) 7 4 rfl (by decide +kernel) (cC_Mo D tc x0 y) (rfl : mKd 0 = (1, 0, 21, 0, 0)) (by decide) rfl rfl tw_5_221 ?_
  refine q_iload_n 1 1 5 rfl (by decide +kernel) rfl ?_
  refine q_lconst 0 (c := 0) 6 rfl (by decide +kernel) rfl ?_
  refine q_last (t := 2) 7 rfl (by decide +kernel) (rfl : mKd 7 = (3, 25, 2, 0, 0)) rfl (fun j1 hj1 => ?_)
  refine q_letJ (fun J1 => ?_)
  refine q_aload_n 0 0 8 rfl (by decide +kernel) rfl ?_
  refine q_getr (f := 10) 8 11 rfl (by decide +kernel) (cC_Mo D tc x0 y) (rfl : mKd 0 = (1, 0, 21, 0, 0)) (by decide) rfl rfl tw_5_222 ?_
  refine q_iload_n 1 1 12 rfl (by decide +kernel) rfl ?_
  refine q_lconst 0 (c := 0) 13 rfl (by decide +kernel) rfl ?_
  refine q_last (t := 2) 14 rfl (by decide +kernel) (rfl : mKd 8 = (3, 25, 2, 0, 0)) rfl (fun j2 hj2 => ?_)
  refine q_letJ (fun J2 => ?_)
  refine q_iconst 0 (c := 0) 15 rfl (by decide +kernel) rfl ?_
  refine q_istore_n 2 2 16 rfl [(2, .int 0), (0, q_r (mG D tc x0 y) 0), (1, .int a1)] (by decide +kernel) rfl (Nat.le_of_ble_eq_true rfl) rfl ?_
  have hL1 : ∀ (n1_ : Nat) (x1 : Int32) (J3 : q_J), q_V (mG D tc x0 y) m_Mo_findSlots X (fun r : q_J => (none, (I, r, P))) 0 0 16 [(0, q_r (mG D tc x0 y) 0), (1, .int a1), (2, .int x1)] [] I J3 P (f_Mo_findSlots_L1 I a1 n1_ x1 J3) := by
    intro n1_
    induction n1_ with
    | zero => intro x1 J3; exact q_none
    | succ n1_ ih1 =>
      intro x1 J3
      rw [f_Mo_findSlots_L1]
      refine q_iload_n 2 2 17 rfl (by decide +kernel) rfl ?_
      refine q_aload_n 0 0 18 rfl (by decide +kernel) rfl ?_
      refine q_getr (f := 8) 6 21 rfl (by decide +kernel) (cC_Mo D tc x0 y) (rfl : mKd 0 = (1, 0, 21, 0, 0)) (by decide) rfl rfl tw_5_220 ?_
      refine q_iload_n 1 1 22 rfl (by decide +kernel) rfl ?_
      refine q_bipush 6 (c := 6) 24 rfl (by decide +kernel) rfl ?_
      refine q_callS_i 27 rfl (av := [.int a1, .int 6]) (st := [q_r (mG D tc x0 y) 6, .int x1]) (c_Mo_meeting X.1 D tc x0 y I J3 P a1 6) yv_Mo_meeting tw_6_86 tw_6_87 rfl (Nat.le_of_ble_eq_true rfl) (by decide +kernel) ⟨Nat.le_of_ble_eq_true rfl, Nat.le_of_ble_eq_true rfl⟩ ⟨Nat.le_of_ble_eq_true rfl, Nat.le_of_ble_eq_true rfl⟩ rfl rfl (fun v1 => ?_)
      refine q_iald (t := 0) 28 rfl (by decide +kernel) (rfl : mKd 6 = (2, 175, 0, 0, 0)) rfl (fun j3 hj3 => ?_)
      refine q_icmp_ge 31 rfl 114 (off := 86) (by decide +kernel) rfl (fun g1 => ?_) (fun g1 => ?_)
      · exact q_vret (by decide +kernel) rfl rfl (Nat.le_of_ble_eq_true rfl) (Nat.le_of_ble_eq_true rfl)
      · refine q_aload_n 0 0 32 rfl (by decide +kernel) rfl ?_
        refine q_getr (f := 8) 6 35 rfl (by decide +kernel) (cC_Mo D tc x0 y) (rfl : mKd 0 = (1, 0, 21, 0, 0)) (by decide) rfl rfl tw_5_220 ?_
        refine q_iload_n 1 1 36 rfl (by decide +kernel) rfl ?_
        refine q_iconst 1 (c := 1) 37 rfl (by decide +kernel) rfl ?_
        refine q_callS_i 40 rfl (av := [.int a1, .int 1]) (st := [q_r (mG D tc x0 y) 6]) (c_Mo_meeting X.1 D tc x0 y I J3 P a1 1) yv_Mo_meeting tw_6_86 tw_6_87 rfl (Nat.le_of_ble_eq_true rfl) (by decide +kernel) ⟨Nat.le_of_ble_eq_true rfl, Nat.le_of_ble_eq_true rfl⟩ ⟨Nat.le_of_ble_eq_true rfl, Nat.le_of_ble_eq_true rfl⟩ rfl rfl (fun v2 => ?_)
        refine q_iald (t := 0) 41 rfl (by decide +kernel) (rfl : mKd 6 = (2, 175, 0, 0, 0)) rfl (fun j4 hj4 => ?_)
        refine q_iload_n 2 2 42 rfl (by decide +kernel) rfl ?_
        refine q_aload_n 0 0 43 rfl (by decide +kernel) rfl ?_
        refine q_getr (f := 8) 6 46 rfl (by decide +kernel) (cC_Mo D tc x0 y) (rfl : mKd 0 = (1, 0, 21, 0, 0)) (by decide) rfl rfl tw_5_220 ?_
        refine q_iload_n 1 1 47 rfl (by decide +kernel) rfl ?_
        refine q_iconst 5 (c := 5) 48 rfl (by decide +kernel) rfl ?_
        refine q_callS_i 51 rfl (av := [.int a1, .int 5]) (st := [q_r (mG D tc x0 y) 6, .int x1, .int (I 6 j4)]) (c_Mo_meeting X.1 D tc x0 y I J3 P a1 5) yv_Mo_meeting tw_6_86 tw_6_87 rfl (Nat.le_of_ble_eq_true rfl) (by decide +kernel) ⟨Nat.le_of_ble_eq_true rfl, Nat.le_of_ble_eq_true rfl⟩ ⟨Nat.le_of_ble_eq_true rfl, Nat.le_of_ble_eq_true rfl⟩ rfl rfl (fun v3 => ?_)
        refine q_iald (t := 0) 52 rfl (by decide +kernel) (rfl : mKd 6 = (2, 175, 0, 0, 0)) rfl (fun j5 hj5 => ?_)
        refine q_imul 53 rfl (by decide +kernel) ?_
        refine q_iadd 54 rfl (by decide +kernel) ?_
        refine q_leti (fun x2 => ?_)
        refine q_istore_n 3 3 55 rfl [(3, .int x2), (0, q_r (mG D tc x0 y) 0), (1, .int a1), (2, .int x1)] (by decide +kernel) rfl (Nat.le_of_ble_eq_true rfl) rfl ?_
        refine q_aload_n 1 0 56 rfl (by decide +kernel) rfl ?_
        refine q_getr (f := 9) 7 59 rfl (by decide +kernel) (cC_Mo D tc x0 y) (rfl : mKd 0 = (1, 0, 21, 0, 0)) (by decide) rfl rfl tw_5_221 ?_
        refine q_iload_n 2 1 60 rfl (by decide +kernel) rfl ?_
        refine q_dup2 61 rfl (by decide +kernel) rfl rfl ?_
        refine q_lald (t := 2) 62 rfl (by decide +kernel) (rfl : mKd 7 = (3, 25, 2, 0, 0)) rfl (fun j6 hj6 => ?_)
        refine q_iload_n 0 3 63 rfl (by decide +kernel) rfl ?_
        refine q_iload_n 0 3 64 rfl (by decide +kernel) rfl ?_
        refine q_aload_n 1 0 65 rfl (by decide +kernel) rfl ?_
        refine q_getr (f := 8) 6 68 rfl (by decide +kernel) (cC_Mo D tc x0 y) (rfl : mKd 0 = (1, 0, 21, 0, 0)) (by decide) rfl rfl tw_5_220 ?_
        refine q_iload_n 2 1 69 rfl (by decide +kernel) rfl ?_
        refine q_iconst 2 (c := 2) 70 rfl (by decide +kernel) rfl ?_
        refine q_callS_i 73 rfl (av := [.int a1, .int 2]) (st := [q_r (mG D tc x0 y) 6, .int x2, .int x2, .long (J3 7 j6), .int a1, q_r (mG D tc x0 y) 7]) (c_Mo_meeting X.1 D tc x0 y I J3 P a1 2) yv_Mo_meeting tw_6_86 tw_6_87 rfl (Nat.le_of_ble_eq_true rfl) (by decide +kernel) ⟨Nat.le_of_ble_eq_true rfl, Nat.le_of_ble_eq_true rfl⟩ ⟨Nat.le_of_ble_eq_true rfl, Nat.le_of_ble_eq_true rfl⟩ rfl rfl (fun v4 => ?_)
        refine q_iald (t := 0) 74 rfl (by decide +kernel) (rfl : mKd 6 = (2, 175, 0, 0, 0)) rfl (fun j7 hj7 => ?_)
        refine q_iadd 75 rfl (by decide +kernel) ?_
        refine q_iconst 0 (c := 0) 76 rfl (by decide +kernel) rfl ?_
        refine q_callS_l 79 rfl (av := [.int x2, .int (x2 + (I 6 j7)), .int 0]) (st := [.long (J3 7 j6), .int a1, q_r (mG D tc x0 y) 7]) (c_Mo_slots X.1 D tc x0 y I J3 P x2 (x2 + (I 6 j7)) 0) yv_Mo_slots tw_6_112 tw_6_113 rfl (Nat.le_of_ble_eq_true rfl) (by decide +kernel) ⟨Nat.le_of_ble_eq_true rfl, Nat.le_of_ble_eq_true rfl⟩ ⟨Nat.le_of_ble_eq_true rfl, Nat.le_of_ble_eq_true rfl⟩ rfl rfl (fun w1 => ?_)
        refine q_lor 80 rfl (by decide +kernel) ?_
        refine q_last (t := 2) 81 rfl (by decide +kernel) (rfl : mKd 7 = (3, 25, 2, 0, 0)) rfl (fun j8 hj8 => ?_)
        refine q_letJ (fun J4 => ?_)
        refine q_aload_n 1 0 82 rfl (by decide +kernel) rfl ?_
        refine q_getr (f := 10) 8 85 rfl (by decide +kernel) (cC_Mo D tc x0 y) (rfl : mKd 0 = (1, 0, 21, 0, 0)) (by decide) rfl rfl tw_5_222 ?_
        refine q_iload_n 2 1 86 rfl (by decide +kernel) rfl ?_
        refine q_dup2 87 rfl (by decide +kernel) rfl rfl ?_
        refine q_lald (t := 2) 88 rfl (by decide +kernel) (rfl : mKd 8 = (3, 25, 2, 0, 0)) rfl (fun j9 hj9 => ?_)
        refine q_iload_n 0 3 89 rfl (by decide +kernel) rfl ?_
        refine q_iload_n 0 3 90 rfl (by decide +kernel) rfl ?_
        refine q_aload_n 1 0 91 rfl (by decide +kernel) rfl ?_
        refine q_getr (f := 8) 6 94 rfl (by decide +kernel) (cC_Mo D tc x0 y) (rfl : mKd 0 = (1, 0, 21, 0, 0)) (by decide) rfl rfl tw_5_220 ?_
        refine q_iload_n 2 1 95 rfl (by decide +kernel) rfl ?_
        refine q_iconst 2 (c := 2) 96 rfl (by decide +kernel) rfl ?_
        refine q_callS_i 99 rfl (av := [.int a1, .int 2]) (st := [q_r (mG D tc x0 y) 6, .int x2, .int x2, .long (J4 8 j9), .int a1, q_r (mG D tc x0 y) 8]) (c_Mo_meeting X.1 D tc x0 y I J4 P a1 2) yv_Mo_meeting tw_6_86 tw_6_87 rfl (Nat.le_of_ble_eq_true rfl) (by decide +kernel) ⟨Nat.le_of_ble_eq_true rfl, Nat.le_of_ble_eq_true rfl⟩ ⟨Nat.le_of_ble_eq_true rfl, Nat.le_of_ble_eq_true rfl⟩ rfl rfl (fun v5 => ?_)
        refine q_iald (t := 0) 100 rfl (by decide +kernel) (rfl : mKd 6 = (2, 175, 0, 0, 0)) rfl (fun j10 hj10 => ?_)
        refine q_iadd 101 rfl (by decide +kernel) ?_
        refine q_bipush 48 (c := 48) 103 rfl (by decide +kernel) rfl ?_
        refine q_callS_l 106 rfl (av := [.int x2, .int (x2 + (I 6 j10)), .int 48]) (st := [.long (J4 8 j9), .int a1, q_r (mG D tc x0 y) 8]) (c_Mo_slots X.1 D tc x0 y I J4 P x2 (x2 + (I 6 j10)) 48) yv_Mo_slots tw_6_112 tw_6_113 rfl (Nat.le_of_ble_eq_true rfl) (by decide +kernel) ⟨Nat.le_of_ble_eq_true rfl, Nat.le_of_ble_eq_true rfl⟩ ⟨Nat.le_of_ble_eq_true rfl, Nat.le_of_ble_eq_true rfl⟩ rfl rfl (fun w2 => ?_)
        refine q_lor 107 rfl (by decide +kernel) ?_
        refine q_last (t := 2) 108 rfl (by decide +kernel) (rfl : mKd 8 = (3, 25, 2, 0, 0)) rfl (fun j11 hj11 => ?_)
        refine q_letJ (fun J5 => ?_)
        refine q_iinc (x1 + 1) (c := 1) 2 3 111 rfl [(2, .int (x1 + 1)), (3, .int x2), (0, q_r (mG D tc x0 y) 0), (1, .int a1)] (by decide +kernel) rfl rfl (Nat.le_of_ble_eq_true rfl) rfl ?_
        refine q_goto (off := -95) 16 (by decide +kernel) rfl ?_
        refine q_sub [2, 3, 0] rfl ?_
        exact ih1 (x1 + 1) J5
  refine q_sub [1, 2, 0] rfl ?_
  exact hL1 _ _ _
def f_Mo_meets (J : q_J) (a1 : Int32) (a2 : Int32) (a3 : Int32) : Option (Int32) :=
  q_ix a1 25 (fun j1 => q_b1 (f_Mo_slots a2 a3 0) (fun w1 => if (lg_cmp ((J 7 j1) &&& w1) 0) = 0 then (q_ix a1 25 (fun j2 => q_b1 (f_Mo_slots a2 a3 48) (fun w2 => if (lg_cmp ((J 8 j2) &&& w2) 0) = 0 then (some (0)) else (some (1))))) else (some (1))))
def y_Mo_meets : MethodName := ⟨"CalendarReplicasModel", "meets", "(III)Z"⟩
def m_Mo_meets : q_M := (prog_11_method_14_code, 4, "CalendarReplicasModel", { frames := 1, cells := 0, slots := 0, locals := 24 }, (some FieldType.boolean))
theorem yv_Mo_meets : q_Y y_Mo_meets m_Mo_meets 3 := ⟨rfl, ⟨by decide, by decide⟩, by decide +kernel, tw_6_118, tw_1_15⟩
set_option maxRecDepth 100000 in
set_option maxHeartbeats 4000000 in
theorem c_Mo_meets (l : Launch) (D : va_G) (tc : Nat → ClassId) (x0 y : Nat) (I : q_I) (J : q_J) (P : q_P) (a1 : Int32) (a2 : Int32) (a3 : Int32) : q_Ct l (mG D tc x0 y) y_Mo_meets m_Mo_meets [q_r (mG D tc x0 y) 0, .int a1, .int a2, .int a3] (I, J, P) (f_Mo_meets J a1 a2 a3) (fun r : Int32 => (some (.int r), (I, J, P))) := by
  refine q_Ct_of (mIn D tc x0 y) (by decide) rfl (Nat.le_of_ble_eq_true rfl) rfl (fun X hX => ?_)
  subst hX
  unfold f_Mo_meets
  refine q_aload_n 0 0 1 rfl (by decide +kernel) rfl ?_
  refine q_getr (f := 9) 7 4 rfl (by decide +kernel) (cC_Mo D tc x0 y) (rfl : mKd 0 = (1, 0, 21, 0, 0)) (by decide) rfl rfl tw_5_221 ?_
  refine q_iload_n 1 1 5 rfl (by decide +kernel) rfl ?_
  refine q_lald (t := 2) 6 rfl (by decide +kernel) (rfl : mKd 7 = (3, 25, 2, 0, 0)) rfl (fun j1 hj1 => ?_)
  refine q_iload_n 2 2 7 rfl (by decide +kernel) rfl ?_
  refine q_iload_n 3 3 8 rfl (by decide +kernel) rfl ?_
  refine q_iconst 0 (c := 0) 9 rfl (by decide +kernel) rfl ?_
  refine q_callS_l 12 rfl (av := [.int a2, .int a3, .int 0]) (st := [.long (J 7 j1)]) (c_Mo_slots X.1 D tc x0 y I J P a2 a3 0) yv_Mo_slots tw_6_112 tw_6_113 rfl (Nat.le_of_ble_eq_true rfl) (by decide +kernel) ⟨Nat.le_of_ble_eq_true rfl, Nat.le_of_ble_eq_true rfl⟩ ⟨Nat.le_of_ble_eq_true rfl, Nat.le_of_ble_eq_true rfl⟩ rfl rfl (fun w1 => ?_)
  refine q_land 13 rfl (by decide +kernel) ?_
  refine q_lconst 0 (c := 0) 14 rfl (by decide +kernel) rfl ?_
  refine q_lcmp 15 rfl (by decide +kernel) ?_
  refine q_if_ne 18 rfl 37 (off := 22) (by decide +kernel) rfl (fun g2 => ?_) (fun g2 => ?_)
  · refine q_iconst 1 (c := 1) 38 rfl (by decide +kernel) rfl ?_
    refine q_goto (off := 4) 42 (by decide +kernel) rfl ?_
    exact q_zret (w := 1) (by decide +kernel) rfl rfl rfl (Nat.le_of_ble_eq_true rfl) (Nat.le_of_ble_eq_true rfl)
  · refine q_aload_n 0 0 19 rfl (by decide +kernel) rfl ?_
    refine q_getr (f := 10) 8 22 rfl (by decide +kernel) (cC_Mo D tc x0 y) (rfl : mKd 0 = (1, 0, 21, 0, 0)) (by decide) rfl rfl tw_5_222 ?_
    refine q_iload_n 1 1 23 rfl (by decide +kernel) rfl ?_
    refine q_lald (t := 2) 24 rfl (by decide +kernel) (rfl : mKd 8 = (3, 25, 2, 0, 0)) rfl (fun j2 hj2 => ?_)
    refine q_iload_n 2 2 25 rfl (by decide +kernel) rfl ?_
    refine q_iload_n 3 3 26 rfl (by decide +kernel) rfl ?_
    refine q_bipush 48 (c := 48) 28 rfl (by decide +kernel) rfl ?_
    refine q_callS_l 31 rfl (av := [.int a2, .int a3, .int 48]) (st := [.long (J 8 j2)]) (c_Mo_slots X.1 D tc x0 y I J P a2 a3 48) yv_Mo_slots tw_6_112 tw_6_113 rfl (Nat.le_of_ble_eq_true rfl) (by decide +kernel) ⟨Nat.le_of_ble_eq_true rfl, Nat.le_of_ble_eq_true rfl⟩ ⟨Nat.le_of_ble_eq_true rfl, Nat.le_of_ble_eq_true rfl⟩ rfl rfl (fun w2 => ?_)
    refine q_land 32 rfl (by decide +kernel) ?_
    refine q_lconst 0 (c := 0) 33 rfl (by decide +kernel) rfl ?_
    refine q_lcmp 34 rfl (by decide +kernel) ?_
    refine q_if_eq 37 rfl 41 (off := 7) (by decide +kernel) rfl (fun g1 => ?_) (fun g1 => ?_)
    · refine q_iconst 0 (c := 0) 42 rfl (by decide +kernel) rfl ?_
      exact q_zret (w := 0) (by decide +kernel) rfl rfl rfl (Nat.le_of_ble_eq_true rfl) (Nat.le_of_ble_eq_true rfl)
    · refine q_iconst 1 (c := 1) 38 rfl (by decide +kernel) rfl ?_
      refine q_goto (off := 4) 42 (by decide +kernel) rfl ?_
      exact q_zret (w := 1) (by decide +kernel) rfl rfl rfl (Nat.le_of_ble_eq_true rfl) (Nat.le_of_ble_eq_true rfl)
def f_Mo_isWell_L1 (I : q_I) (a1 : Int32) (x2 : Int32) (J1 : q_J) : Nat → Int32 → Int32 → Option (Int32 × q_J)
  | 0, _, _ => none
  | n + 1, x5, x6 => if (6 : Int32) ≤ x6 then (some ((x5 &&& 1), J1)) else (if x5 = 0 then ((f_Mo_isWell_L1 I a1 x2 J1 n 0 (x6 + 1))) else (if ((x2 >>> (x6 &&& 31)) &&& 1) = 0 then ((f_Mo_isWell_L1 I a1 x2 J1 n 1 (x6 + 1))) else (q_ix (20 + x6) 280 (fun j6 => q_ix (26 + x6) 280 (fun j7 => q_b1 (f_Mo_meets J1 a1 (I 1 j6) (I 1 j7)) (fun v6 => if v6 = 0 then ((f_Mo_isWell_L1 I a1 x2 J1 n 1 (x6 + 1))) else ((f_Mo_isWell_L1 I a1 x2 J1 n 0 (x6 + 1)))))))))
def f_Mo_isWell (I : q_I) (J : q_J) (a1 : Int32) : Option (Int32 × q_J) :=
  q_b1 (f_Mo_meeting a1 3) (fun v1 => q_ix v1 175 (fun j1 => q_l (I 6 j1 : Int32) (fun x1 => q_b1 (f_Mo_meeting a1 4) (fun v2 => q_ix v2 175 (fun j2 => q_l (I 6 j2 : Int32) (fun x2 => q_b1 (f_Mo_lastSlot I a1) (fun v3 => q_b1 (if (95 : Int32) < v3 then ((some (0))) else (q_b1 (f_Mo_meeting a1 6) (fun v7 => q_ix v7 175 (fun j8 => if (I 6 j8) = 1 then ((some (1))) else (q_b1 (f_Mo_meeting a1 5) (fun v8 => q_ix v8 175 (fun j9 => q_b1 (f_Mo_meeting a1 2) (fun v9 => q_ix v9 175 (fun j10 => if (I 6 j9) < (I 6 j10) then ((some (0))) else ((some (1))))))))))) : Option (Int32)) (fun (x3 : Int32) => if x3 = 0 then (some (0, J)) else (if x2 = 0 then (some (0, J)) else (q_b1 (f_Mo_bits x2) (fun v4 => q_ix (8 + x1) 280 (fun j3 => if v4 ≤ (I 1 j3) then (q_b1 (f_Mo_findSlots I J a1) (fun J1 => q_ix (12 + x1) 280 (fun j4 => q_ix (16 + x1) 280 (fun j5 => q_b1 (f_Mo_meets J1 a1 (I 1 j4) (I 1 j5)) (fun v5 => q_b1 (if v5 = 0 then ((some (1))) else ((some (0))) : Option (Int32)) (fun (x4 : Int32) => f_Mo_isWell_L1 I a1 x2 J1 q_fu x4 0)))))) else (some (0, J))))))))))))))
def y_Mo_isWell : MethodName := ⟨"CalendarReplicasModel", "isWell", "(I)Z"⟩
def m_Mo_isWell : q_M := (prog_11_method_15_code, 6, "CalendarReplicasModel", { frames := 2, cells := 0, slots := 0, locals := 47 }, (some FieldType.boolean))
theorem yv_Mo_isWell : q_Y y_Mo_isWell m_Mo_isWell 1 := ⟨rfl, ⟨by decide, by decide⟩, by decide +kernel, tw_6_100, tw_1_15⟩
set_option maxRecDepth 100000 in
set_option maxHeartbeats 4000000 in
theorem c_Mo_isWell (l : Launch) (D : va_G) (tc : Nat → ClassId) (x0 y : Nat) (I : q_I) (J : q_J) (P : q_P) (a1 : Int32) : q_Ct l (mG D tc x0 y) y_Mo_isWell m_Mo_isWell [q_r (mG D tc x0 y) 0, .int a1] (I, J, P) (f_Mo_isWell I J a1) (fun r : Int32 × q_J => (some (.int r.1), (I, r.2, P))) := by
  refine q_Ct_of (mIn D tc x0 y) (by decide) rfl (Nat.le_of_ble_eq_true rfl) rfl (fun X hX => ?_)
  subst hX
  unfold f_Mo_isWell
  refine q_aload_n 0 0 1 rfl (by decide +kernel) rfl ?_
  refine q_getr (f := 8) 6 4 rfl (by decide +kernel) (cC_Mo D tc x0 y) (rfl : mKd 0 = (1, 0, 21, 0, 0)) (by decide) rfl rfl tw_5_220 ?_
  refine q_iload_n 1 1 5 rfl (by decide +kernel) rfl ?_
  refine q_iconst 3 (c := 3) 6 rfl (by decide +kernel) rfl ?_
  refine q_callS_i 9 rfl (av := [.int a1, .int 3]) (st := [q_r (mG D tc x0 y) 6]) (c_Mo_meeting X.1 D tc x0 y I J P a1 3) yv_Mo_meeting tw_6_86 tw_6_87 rfl (Nat.le_of_ble_eq_true rfl) (by decide +kernel) ⟨Nat.le_of_ble_eq_true rfl, Nat.le_of_ble_eq_true rfl⟩ ⟨Nat.le_of_ble_eq_true rfl, Nat.le_of_ble_eq_true rfl⟩ rfl rfl (fun v1 => ?_)
  refine q_iald (t := 0) 10 rfl (by decide +kernel) (rfl : mKd 6 = (2, 175, 0, 0, 0)) rfl (fun j1 hj1 => ?_)
  refine q_leti (fun x1 => ?_)
  refine q_istore_n 2 2 11 rfl [(2, .int x1), (0, q_r (mG D tc x0 y) 0), (1, .int a1)] (by decide +kernel) rfl (Nat.le_of_ble_eq_true rfl) rfl ?_
  refine q_aload_n 1 0 12 rfl (by decide +kernel) rfl ?_
  refine q_getr (f := 8) 6 15 rfl (by decide +kernel) (cC_Mo D tc x0 y) (rfl : mKd 0 = (1, 0, 21, 0, 0)) (by decide) rfl rfl tw_5_220 ?_
  refine q_iload_n 2 1 16 rfl (by decide +kernel) rfl ?_
  refine q_iconst 4 (c := 4) 17 rfl (by decide +kernel) rfl ?_
  refine q_callS_i 20 rfl (av := [.int a1, .int 4]) (st := [q_r (mG D tc x0 y) 6]) (c_Mo_meeting X.1 D tc x0 y I J P a1 4) yv_Mo_meeting tw_6_86 tw_6_87 rfl (Nat.le_of_ble_eq_true rfl) (by decide +kernel) ⟨Nat.le_of_ble_eq_true rfl, Nat.le_of_ble_eq_true rfl⟩ ⟨Nat.le_of_ble_eq_true rfl, Nat.le_of_ble_eq_true rfl⟩ rfl rfl (fun v2 => ?_)
  refine q_iald (t := 0) 21 rfl (by decide +kernel) (rfl : mKd 6 = (2, 175, 0, 0, 0)) rfl (fun j2 hj2 => ?_)
  refine q_leti (fun x2 => ?_)
  refine q_istore_n 3 3 22 rfl [(3, .int x2), (2, .int x1), (0, q_r (mG D tc x0 y) 0), (1, .int a1)] (by decide +kernel) rfl (Nat.le_of_ble_eq_true rfl) rfl ?_
  refine q_aload_n 2 0 23 rfl (by decide +kernel) rfl ?_
  refine q_iload_n 3 1 24 rfl (by decide +kernel) rfl ?_
  refine q_callV_i 27 rfl (av := [.int a1]) (o := 0) (st := []) (c_Mo_lastSlot X.1 D tc x0 y I J P a1) yv_Mo_lastSlot tw_6_101 tw_6_103 sw_37 (cC_Mo D tc x0 y) (rfl : mKd 0 = (1, 0, 21, 0, 0)) rfl (Nat.le_of_ble_eq_true rfl) (by decide +kernel) ⟨Nat.le_of_ble_eq_true rfl, Nat.le_of_ble_eq_true rfl⟩ ⟨Nat.le_of_ble_eq_true rfl, Nat.le_of_ble_eq_true rfl⟩ rfl rfl (fun v3 => ?_)
  refine q_bipush 95 (c := 95) 29 rfl (by decide +kernel) rfl ?_
  refine q_jn1 75 (fun x3 => [(0, q_r (mG D tc x0 y) 0), (1, .int a1), (2, .int x1), (3, .int x2)]) (fun x3 => [.int x3]) (fun x3 => I) (fun x3 => J) (fun x3 => P) (fun jk1 => if (95 : Int32) < v3 then ((jk1 (0))) else (q_b1 (f_Mo_meeting a1 6) (fun v7 => q_ix v7 175 (fun j8 => if (I 6 j8) = 1 then ((jk1 (1))) else (q_b1 (f_Mo_meeting a1 5) (fun v8 => q_ix v8 175 (fun j9 => q_b1 (f_Mo_meeting a1 2) (fun v9 => q_ix v9 175 (fun j10 => if (I 6 j9) < (I 6 j10) then ((jk1 (0))) else ((jk1 (1)))))))))))) (by intro jk1; simp only [q_b1_if, q_b1_s, q_b1_n, q_b1_ix, q_b1_b1, q_b1_b2, q_b1_b3, q_b1_l, q_b1_ck, q_b1_el]) ?_ ?_
  · intro x3
    refine q_istore 4 77 rfl [(4, .int x3), (0, q_r (mG D tc x0 y) 0), (1, .int a1), (2, .int x1), (3, .int x2)] (by decide +kernel) (Nat.le_of_ble_eq_true rfl) rfl ?_
    refine q_iload 0 4 79 rfl (by decide +kernel) rfl ?_
    refine q_if_eq 82 rfl 102 (off := 23) (by decide +kernel) rfl (fun g8 => ?_) (fun g8 => ?_)
    · refine q_iconst 0 (c := 0) 103 rfl (by decide +kernel) rfl ?_
      exact q_zret (w := 0) (by decide +kernel) rfl rfl rfl (Nat.le_of_ble_eq_true rfl) (Nat.le_of_ble_eq_true rfl)
    · refine q_iload_n 4 3 83 rfl (by decide +kernel) rfl ?_
      refine q_if_eq 86 rfl 102 (off := 19) (by decide +kernel) rfl (fun g7 => ?_) (fun g7 => ?_)
      · refine q_iconst 0 (c := 0) 103 rfl (by decide +kernel) rfl ?_
        exact q_zret (w := 0) (by decide +kernel) rfl rfl rfl (Nat.le_of_ble_eq_true rfl) (Nat.le_of_ble_eq_true rfl)
      · refine q_iload_n 4 3 87 rfl (by decide +kernel) rfl ?_
        refine q_callS_i 90 rfl (av := [.int x2]) (st := []) (c_Mo_bits X.1 D tc x0 y I J P x2) yv_Mo_bits tw_6_105 tw_6_106 rfl (Nat.le_of_ble_eq_true rfl) (by decide +kernel) ⟨Nat.le_of_ble_eq_true rfl, Nat.le_of_ble_eq_true rfl⟩ ⟨Nat.le_of_ble_eq_true rfl, Nat.le_of_ble_eq_true rfl⟩ rfl rfl (fun v4 => ?_)
        refine q_aload_n 1 0 91 rfl (by decide +kernel) rfl ?_
        refine q_getr (f := 0) 1 94 rfl (by decide +kernel) (cC_Mo D tc x0 y) (rfl : mKd 0 = (1, 0, 21, 0, 0)) (by decide) rfl rfl tw_5_212 ?_
        refine q_bipush 8 (c := 8) 96 rfl (by decide +kernel) rfl ?_
        refine q_iload_n 3 2 97 rfl (by decide +kernel) rfl ?_
        refine q_iadd 98 rfl (by decide +kernel) ?_
        refine q_iald (t := 0) 99 rfl (by decide +kernel) (rfl : mKd 1 = (2, 280, 0, 0, 0)) rfl (fun j3 hj3 => ?_)
        refine q_icmp_le 102 rfl 104 (off := 5) (by decide +kernel) rfl (fun g6 => ?_) (fun g6 => ?_)
        · refine q_aload_n 1 0 105 rfl (by decide +kernel) rfl ?_
          refine q_iload_n 2 1 106 rfl (by decide +kernel) rfl ?_
          refine q_callV_vJ 109 rfl (av := [.int a1]) (o := 0) (st := []) (c_Mo_findSlots X.1 D tc x0 y I J P a1) yv_Mo_findSlots tw_6_108 tw_6_110 sw_38 (cC_Mo D tc x0 y) (rfl : mKd 0 = (1, 0, 21, 0, 0)) rfl (Nat.le_of_ble_eq_true rfl) (by decide +kernel) ⟨Nat.le_of_ble_eq_true rfl, Nat.le_of_ble_eq_true rfl⟩ ⟨Nat.le_of_ble_eq_true rfl, Nat.le_of_ble_eq_true rfl⟩ rfl rfl (fun J1 => ?_)
          refine q_aload_n 1 0 110 rfl (by decide +kernel) rfl ?_
          refine q_iload_n 2 1 111 rfl (by decide +kernel) rfl ?_
          refine q_aload_n 1 0 112 rfl (by decide +kernel) rfl ?_
          refine q_getr (f := 0) 1 115 rfl (by decide +kernel) (cC_Mo D tc x0 y) (rfl : mKd 0 = (1, 0, 21, 0, 0)) (by decide) rfl rfl tw_5_212 ?_
          refine q_bipush 12 (c := 12) 117 rfl (by decide +kernel) rfl ?_
          refine q_iload_n 3 2 118 rfl (by decide +kernel) rfl ?_
          refine q_iadd 119 rfl (by decide +kernel) ?_
          refine q_iald (t := 0) 120 rfl (by decide +kernel) (rfl : mKd 1 = (2, 280, 0, 0, 0)) rfl (fun j4 hj4 => ?_)
          refine q_aload_n 1 0 121 rfl (by decide +kernel) rfl ?_
          refine q_getr (f := 0) 1 124 rfl (by decide +kernel) (cC_Mo D tc x0 y) (rfl : mKd 0 = (1, 0, 21, 0, 0)) (by decide) rfl rfl tw_5_212 ?_
          refine q_bipush 16 (c := 16) 126 rfl (by decide +kernel) rfl ?_
          refine q_iload_n 3 2 127 rfl (by decide +kernel) rfl ?_
          refine q_iadd 128 rfl (by decide +kernel) ?_
          refine q_iald (t := 0) 129 rfl (by decide +kernel) (rfl : mKd 1 = (2, 280, 0, 0, 0)) rfl (fun j5 hj5 => ?_)
          refine q_callV_i 132 rfl (av := [.int a1, .int (I 1 j4), .int (I 1 j5)]) (o := 0) (st := []) (c_Mo_meets X.1 D tc x0 y I J1 P a1 (I 1 j4) (I 1 j5)) yv_Mo_meets tw_6_115 tw_6_117 sw_39 (cC_Mo D tc x0 y) (rfl : mKd 0 = (1, 0, 21, 0, 0)) rfl (Nat.le_of_ble_eq_true rfl) (by decide +kernel) ⟨Nat.le_of_ble_eq_true rfl, Nat.le_of_ble_eq_true rfl⟩ ⟨Nat.le_of_ble_eq_true rfl, Nat.le_of_ble_eq_true rfl⟩ rfl rfl (fun v5 => ?_)
          refine q_jn1 140 (fun x4 => [(0, q_r (mG D tc x0 y) 0), (1, .int a1), (3, .int x2)]) (fun x4 => [.int x4]) (fun x4 => I) (fun x4 => J1) (fun x4 => P) (fun jk2 => if v5 = 0 then ((jk2 (1))) else ((jk2 (0)))) (by intro jk2; simp only [q_b1_if, q_b1_s, q_b1_n, q_b1_ix, q_b1_b1, q_b1_b2, q_b1_b3, q_b1_l, q_b1_ck, q_b1_el]) ?_ ?_
          · intro x4
            refine q_istore 4 142 rfl [(4, .int x4), (0, q_r (mG D tc x0 y) 0), (1, .int a1), (3, .int x2)] (by decide +kernel) (Nat.le_of_ble_eq_true rfl) rfl ?_
            refine q_iconst 0 (c := 0) 143 rfl (by decide +kernel) rfl ?_
            refine q_istore 5 145 rfl [(5, .int 0), (4, .int x4), (0, q_r (mG D tc x0 y) 0), (1, .int a1), (3, .int x2)] (by decide +kernel) (Nat.le_of_ble_eq_true rfl) rfl ?_
            have hL1 : ∀ (n1_ : Nat) (x5 : Int32) (x6 : Int32), q_V (mG D tc x0 y) m_Mo_isWell X (fun r : Int32 × q_J => (some (.int r.1), (I, r.2, P))) 0 0 145 [(0, q_r (mG D tc x0 y) 0), (1, .int a1), (3, .int x2), (4, .int x5), (5, .int x6)] [] I J1 P (f_Mo_isWell_L1 I a1 x2 J1 n1_ x5 x6) := by
              intro n1_
              induction n1_ with
              | zero => intro x5 x6; exact q_none
              | succ n1_ ih1 =>
                intro x5 x6
                rw [f_Mo_isWell_L1]
                refine q_iload 4 5 147 rfl (by decide +kernel) rfl ?_
                refine q_bipush 6 (c := 6) 149 rfl (by decide +kernel) rfl ?_
                refine q_icmp_ge 152 rfl 207 (off := 58) (by decide +kernel) rfl (fun g4 => ?_) (fun g4 => ?_)
                · refine q_iload 3 4 209 rfl (by decide +kernel) rfl ?_
                  exact q_zret (w := (x5 &&& 1)) (by decide +kernel) rfl rfl rfl (Nat.le_of_ble_eq_true rfl) (Nat.le_of_ble_eq_true rfl)
                · refine q_iload 3 4 154 rfl (by decide +kernel) rfl ?_
                  refine q_if_eq 157 rfl 198 (off := 44) (by decide +kernel) rfl (fun g3 => ?_) (fun g3 => ?_)
                  · refine q_iconst 0 (c := 0) 199 rfl (by decide +kernel) rfl ?_
                    refine q_istore 4 201 rfl [(4, .int 0), (0, q_r (mG D tc x0 y) 0), (1, .int a1), (3, .int x2), (5, .int x6)] (by decide +kernel) (Nat.le_of_ble_eq_true rfl) rfl ?_
                    refine q_iinc (x6 + 1) (c := 1) 5 4 204 rfl [(5, .int (x6 + 1)), (4, .int 0), (0, q_r (mG D tc x0 y) 0), (1, .int a1), (3, .int x2)] (by decide +kernel) rfl rfl (Nat.le_of_ble_eq_true rfl) rfl ?_
                    refine q_goto (off := -59) 145 (by decide +kernel) rfl ?_
                    refine q_sub [2, 3, 4, 1, 0] rfl ?_
                    exact ih1 0 (x6 + 1)
                  · refine q_iload_n 2 3 158 rfl (by decide +kernel) rfl ?_
                    refine q_iload 4 5 160 rfl (by decide +kernel) rfl ?_
                    refine q_ishr 161 rfl (by decide +kernel) ?_
                    refine q_iconst 1 (c := 1) 162 rfl (by decide +kernel) rfl ?_
                    refine q_iand 163 rfl (by decide +kernel) ?_
                    refine q_if_eq 166 rfl 194 (off := 31) (by decide +kernel) rfl (fun g2 => ?_) (fun g2 => ?_)
                    · refine q_iconst 1 (c := 1) 195 rfl (by decide +kernel) rfl ?_
                      refine q_goto (off := 4) 199 (by decide +kernel) rfl ?_
                      refine q_istore 4 201 rfl [(4, .int 1), (0, q_r (mG D tc x0 y) 0), (1, .int a1), (3, .int x2), (5, .int x6)] (by decide +kernel) (Nat.le_of_ble_eq_true rfl) rfl ?_
                      refine q_iinc (x6 + 1) (c := 1) 5 4 204 rfl [(5, .int (x6 + 1)), (4, .int 1), (0, q_r (mG D tc x0 y) 0), (1, .int a1), (3, .int x2)] (by decide +kernel) rfl rfl (Nat.le_of_ble_eq_true rfl) rfl ?_
                      refine q_goto (off := -59) 145 (by decide +kernel) rfl ?_
                      refine q_sub [2, 3, 4, 1, 0] rfl ?_
                      exact ih1 1 (x6 + 1)
                    · refine q_aload_n 0 0 167 rfl (by decide +kernel) rfl ?_
                      refine q_iload_n 1 1 168 rfl (by decide +kernel) rfl ?_
                      refine q_aload_n 0 0 169 rfl (by decide +kernel) rfl ?_
                      refine q_getr (f := 0) 1 172 rfl (by decide +kernel) (cC_Mo D tc x0 y) (rfl : mKd 0 = (1, 0, 21, 0, 0)) (by decide) rfl rfl tw_5_212 ?_
                      refine q_bipush 20 (c := 20) 174 rfl (by decide +kernel) rfl ?_
                      refine q_iload 4 5 176 rfl (by decide +kernel) rfl ?_
                      refine q_iadd 177 rfl (by decide +kernel) ?_
                      refine q_iald (t := 0) 178 rfl (by decide +kernel) (rfl : mKd 1 = (2, 280, 0, 0, 0)) rfl (fun j6 hj6 => ?_)
                      refine q_aload_n 0 0 179 rfl (by decide +kernel) rfl ?_
                      refine q_getr (f := 0) 1 182 rfl (by decide +kernel) (cC_Mo D tc x0 y) (rfl : mKd 0 = (1, 0, 21, 0, 0)) (by decide) rfl rfl tw_5_212 ?_
                      refine q_bipush 26 (c := 26) 184 rfl (by decide +kernel) rfl ?_
                      refine q_iload 4 5 186 rfl (by decide +kernel) rfl ?_
                      refine q_iadd 187 rfl (by decide +kernel) ?_
                      refine q_iald (t := 0) 188 rfl (by decide +kernel) (rfl : mKd 1 = (2, 280, 0, 0, 0)) rfl (fun j7 hj7 => ?_)
                      refine q_callV_i 191 rfl (av := [.int a1, .int (I 1 j6), .int (I 1 j7)]) (o := 0) (st := []) (c_Mo_meets X.1 D tc x0 y I J1 P a1 (I 1 j6) (I 1 j7)) yv_Mo_meets tw_6_115 tw_6_117 sw_39 (cC_Mo D tc x0 y) (rfl : mKd 0 = (1, 0, 21, 0, 0)) rfl (Nat.le_of_ble_eq_true rfl) (by decide +kernel) ⟨Nat.le_of_ble_eq_true rfl, Nat.le_of_ble_eq_true rfl⟩ ⟨Nat.le_of_ble_eq_true rfl, Nat.le_of_ble_eq_true rfl⟩ rfl rfl (fun v6 => ?_)
                      refine q_if_ne 194 rfl 198 (off := 7) (by decide +kernel) rfl (fun g1 => ?_) (fun g1 => ?_)
                      · refine q_iconst 0 (c := 0) 199 rfl (by decide +kernel) rfl ?_
                        refine q_istore 4 201 rfl [(4, .int 0), (0, q_r (mG D tc x0 y) 0), (1, .int a1), (3, .int x2), (5, .int x6)] (by decide +kernel) (Nat.le_of_ble_eq_true rfl) rfl ?_
                        refine q_iinc (x6 + 1) (c := 1) 5 4 204 rfl [(5, .int (x6 + 1)), (4, .int 0), (0, q_r (mG D tc x0 y) 0), (1, .int a1), (3, .int x2)] (by decide +kernel) rfl rfl (Nat.le_of_ble_eq_true rfl) rfl ?_
                        refine q_goto (off := -59) 145 (by decide +kernel) rfl ?_
                        refine q_sub [2, 3, 4, 1, 0] rfl ?_
                        exact ih1 0 (x6 + 1)
                      · refine q_iconst 1 (c := 1) 195 rfl (by decide +kernel) rfl ?_
                        refine q_goto (off := 4) 199 (by decide +kernel) rfl ?_
                        refine q_istore 4 201 rfl [(4, .int 1), (0, q_r (mG D tc x0 y) 0), (1, .int a1), (3, .int x2), (5, .int x6)] (by decide +kernel) (Nat.le_of_ble_eq_true rfl) rfl ?_
                        refine q_iinc (x6 + 1) (c := 1) 5 4 204 rfl [(5, .int (x6 + 1)), (4, .int 1), (0, q_r (mG D tc x0 y) 0), (1, .int a1), (3, .int x2)] (by decide +kernel) rfl rfl (Nat.le_of_ble_eq_true rfl) rfl ?_
                        refine q_goto (off := -59) 145 (by decide +kernel) rfl ?_
                        refine q_sub [2, 3, 4, 1, 0] rfl ?_
                        exact ih1 1 (x6 + 1)
            refine q_sub [2, 3, 4, 1, 0] rfl ?_
            exact hL1 _ _ _
          · intro jk2 hq2
            refine q_if_ne 135 rfl 139 (off := 7) (by decide +kernel) rfl (fun g5 => ?_) (fun g5 => ?_)
            · refine q_iconst 0 (c := 0) 140 rfl (by decide +kernel) rfl ?_
              refine q_sub [1, 2, 4] rfl ?_
              exact hq2 0
            · refine q_iconst 1 (c := 1) 136 rfl (by decide +kernel) rfl ?_
              refine q_goto (off := 4) 140 (by decide +kernel) rfl ?_
              refine q_sub [1, 2, 4] rfl ?_
              exact hq2 1
        · refine q_iconst 0 (c := 0) 103 rfl (by decide +kernel) rfl ?_
          exact q_zret (w := 0) (by decide +kernel) rfl rfl rfl (Nat.le_of_ble_eq_true rfl) (Nat.le_of_ble_eq_true rfl)
  · intro jk1 hq1
    refine q_icmp_gt 32 rfl 74 (off := 45) (by decide +kernel) rfl (fun g11 => ?_) (fun g11 => ?_)
    · refine q_iconst 0 (c := 0) 75 rfl (by decide +kernel) rfl ?_
      refine q_sub [2, 3, 1, 0] rfl ?_
      exact hq1 0
    · refine q_aload_n 2 0 33 rfl (by decide +kernel) rfl ?_
      refine q_getr (f := 8) 6 36 rfl (by decide +kernel) (cC_Mo D tc x0 y) (rfl : mKd 0 = (1, 0, 21, 0, 0)) (by decide) rfl rfl tw_5_220 ?_
      refine q_iload_n 3 1 37 rfl (by decide +kernel) rfl ?_
      refine q_bipush 6 (c := 6) 39 rfl (by decide +kernel) rfl ?_
      refine q_callS_i 42 rfl (av := [.int a1, .int 6]) (st := [q_r (mG D tc x0 y) 6]) (c_Mo_meeting X.1 D tc x0 y I J P a1 6) yv_Mo_meeting tw_6_86 tw_6_87 rfl (Nat.le_of_ble_eq_true rfl) (by decide +kernel) ⟨Nat.le_of_ble_eq_true rfl, Nat.le_of_ble_eq_true rfl⟩ ⟨Nat.le_of_ble_eq_true rfl, Nat.le_of_ble_eq_true rfl⟩ rfl rfl (fun v7 => ?_)
      refine q_iald (t := 0) 43 rfl (by decide +kernel) (rfl : mKd 6 = (2, 175, 0, 0, 0)) rfl (fun j8 hj8 => ?_)
      refine q_iconst 1 (c := 1) 44 rfl (by decide +kernel) rfl ?_
      refine q_icmp_eq 47 rfl 70 (off := 26) (by decide +kernel) rfl (fun g10 => ?_) (fun g10 => ?_)
      · refine q_iconst 1 (c := 1) 71 rfl (by decide +kernel) rfl ?_
        refine q_goto (off := 4) 75 (by decide +kernel) rfl ?_
        refine q_sub [2, 3, 1, 0] rfl ?_
        exact hq1 1
      · refine q_aload_n 2 0 48 rfl (by decide +kernel) rfl ?_
        refine q_getr (f := 8) 6 51 rfl (by decide +kernel) (cC_Mo D tc x0 y) (rfl : mKd 0 = (1, 0, 21, 0, 0)) (by decide) rfl rfl tw_5_220 ?_
        refine q_iload_n 3 1 52 rfl (by decide +kernel) rfl ?_
        refine q_iconst 5 (c := 5) 53 rfl (by decide +kernel) rfl ?_
        refine q_callS_i 56 rfl (av := [.int a1, .int 5]) (st := [q_r (mG D tc x0 y) 6]) (c_Mo_meeting X.1 D tc x0 y I J P a1 5) yv_Mo_meeting tw_6_86 tw_6_87 rfl (Nat.le_of_ble_eq_true rfl) (by decide +kernel) ⟨Nat.le_of_ble_eq_true rfl, Nat.le_of_ble_eq_true rfl⟩ ⟨Nat.le_of_ble_eq_true rfl, Nat.le_of_ble_eq_true rfl⟩ rfl rfl (fun v8 => ?_)
        refine q_iald (t := 0) 57 rfl (by decide +kernel) (rfl : mKd 6 = (2, 175, 0, 0, 0)) rfl (fun j9 hj9 => ?_)
        refine q_aload_n 2 0 58 rfl (by decide +kernel) rfl ?_
        refine q_getr (f := 8) 6 61 rfl (by decide +kernel) (cC_Mo D tc x0 y) (rfl : mKd 0 = (1, 0, 21, 0, 0)) (by decide) rfl rfl tw_5_220 ?_
        refine q_iload_n 3 1 62 rfl (by decide +kernel) rfl ?_
        refine q_iconst 2 (c := 2) 63 rfl (by decide +kernel) rfl ?_
        refine q_callS_i 66 rfl (av := [.int a1, .int 2]) (st := [q_r (mG D tc x0 y) 6, .int (I 6 j9)]) (c_Mo_meeting X.1 D tc x0 y I J P a1 2) yv_Mo_meeting tw_6_86 tw_6_87 rfl (Nat.le_of_ble_eq_true rfl) (by decide +kernel) ⟨Nat.le_of_ble_eq_true rfl, Nat.le_of_ble_eq_true rfl⟩ ⟨Nat.le_of_ble_eq_true rfl, Nat.le_of_ble_eq_true rfl⟩ rfl rfl (fun v9 => ?_)
        refine q_iald (t := 0) 67 rfl (by decide +kernel) (rfl : mKd 6 = (2, 175, 0, 0, 0)) rfl (fun j10 hj10 => ?_)
        refine q_icmp_lt 70 rfl 74 (off := 7) (by decide +kernel) rfl (fun g9 => ?_) (fun g9 => ?_)
        · refine q_iconst 0 (c := 0) 75 rfl (by decide +kernel) rfl ?_
          refine q_sub [2, 3, 1, 0] rfl ?_
          exact hq1 0
        · refine q_iconst 1 (c := 1) 71 rfl (by decide +kernel) rfl ?_
          refine q_goto (off := 4) 75 (by decide +kernel) rfl ?_
          refine q_sub [2, 3, 1, 0] rfl ?_
          exact hq1 1
def f_Mo_isValid_L2 (I : q_I) (x2 : Int32) (J2 : q_J) (K : Int32 → Option (Int32 × q_J)) : Nat → Int32 → Int32 → Option (Int32 × q_J)
  | 0, _, _ => none
  | n + 1, x3, x4 => if x2 ≤ x4 then ((K x3)) else (if x3 = 0 then ((K x3)) else (q_b1 (f_Mo_meeting x2 3) (fun v2 => q_ix v2 175 (fun j1 => q_b1 (f_Mo_meeting x4 3) (fun v3 => q_ix v3 175 (fun j2 => q_b1 (if (I 6 j1) = (I 6 j2) then ((some (1))) else (q_b1 (f_Mo_meeting x2 4) (fun v4 => q_ix v4 175 (fun j7 => q_b1 (f_Mo_meeting x4 4) (fun v5 => q_ix v5 175 (fun j8 => if ((I 6 j7) &&& (I 6 j8)) = 0 then ((some (0))) else ((some (1)))))))) : Option (Int32)) (fun (x5 : Int32) => if x5 = 0 then ((f_Mo_isValid_L2 I x2 J2 K n 1 (x4 + 1))) else (q_ix x2 25 (fun j3 => q_ix x4 25 (fun j4 => if (lg_cmp ((J2 7 j3) &&& (J2 7 j4)) 0) = 0 then (q_ix x2 25 (fun j5 => q_ix x4 25 (fun j6 => if (lg_cmp ((J2 8 j5) &&& (J2 8 j6)) 0) = 0 then ((f_Mo_isValid_L2 I x2 J2 K n 1 (x4 + 1))) else ((f_Mo_isValid_L2 I x2 J2 K n 0 (x4 + 1)))))) else ((f_Mo_isValid_L2 I x2 J2 K n 0 (x4 + 1)))))))))))))
def f_Mo_isValid_L1 (I : q_I) (K : Int32 → q_J → Option (Int32 × q_J)) : Nat → Int32 → Int32 → q_J → Option (Int32 × q_J)
  | 0, _, _, _ => none
  | n + 1, x1, x2, J1 => if (I 0 7) ≤ x2 then ((K x1 J1)) else (if x1 = 0 then ((K x1 J1)) else (q_b2 (f_Mo_isWell I J1 x2) (fun v1 J2 => f_Mo_isValid_L2 I x2 J2 (fun (x6 : Int32) => (f_Mo_isValid_L1 I K n x6 (x2 + 1) J2)) q_fu v1 0)))
def f_Mo_isValid_L3 (I : q_I) (J3 : q_J) : Nat → Int32 → Int32 → Option (Int32 × q_J)
  | 0, _, _ => none
  | n + 1, x8, x9 => q_ix 3 280 (fun j9 => if (I 1 j9) ≤ x9 then (some ((x8 &&& 1), J3)) else (if x8 = 0 then (some ((x8 &&& 1), J3)) else (q_ix (32 + (2 * x9)) 280 (fun j10 => q_b1 (f_Mo_find I (I 1 j10)) (fun v6 => q_ix ((32 + (2 * x9)) + 1) 280 (fun j11 => q_b1 (f_Mo_find I (I 1 j11)) (fun v7 => if v6 < 0 then ((f_Mo_isValid_L3 I J3 n 1 (x9 + 1))) else (if v7 < 0 then ((f_Mo_isValid_L3 I J3 n 1 (x9 + 1))) else (q_b1 (f_Mo_lastSlot I v6) (fun v8 => q_b1 (f_Mo_meeting v7 1) (fun v9 => q_ix v9 175 (fun j12 => if (I 6 j12) ≤ v8 then ((f_Mo_isValid_L3 I J3 n 0 (x9 + 1))) else ((f_Mo_isValid_L3 I J3 n 1 (x9 + 1)))))))))))))))
def f_Mo_isValid (I : q_I) (J : q_J) : Option (Int32 × q_J) :=
  f_Mo_isValid_L1 I (fun (x7 : Int32) (J3 : q_J) => f_Mo_isValid_L3 I J3 q_fu x7 0) q_fu 1 0 J
def y_Mo_isValid : MethodName := ⟨"CalendarReplicasModel", "isValid", "()Z"⟩
def m_Mo_isValid : q_M := (prog_11_method_16_code, 5, "CalendarReplicasModel", { frames := 3, cells := 0, slots := 0, locals := 72 }, (some FieldType.boolean))
theorem yv_Mo_isValid : q_Y y_Mo_isValid m_Mo_isValid 0 := ⟨rfl, ⟨by decide, by decide⟩, by decide +kernel, tw_6_96, tw_1_15⟩
set_option maxRecDepth 100000 in
set_option maxHeartbeats 4000000 in
theorem c_Mo_isValid (l : Launch) (D : va_G) (tc : Nat → ClassId) (x0 y : Nat) (I : q_I) (J : q_J) (P : q_P) : q_Ct l (mG D tc x0 y) y_Mo_isValid m_Mo_isValid [q_r (mG D tc x0 y) 0] (I, J, P) (f_Mo_isValid I J) (fun r : Int32 × q_J => (some (.int r.1), (I, r.2, P))) := by
  refine q_Ct_of (mIn D tc x0 y) (by decide) rfl (Nat.le_of_ble_eq_true rfl) rfl (fun X hX => ?_)
  subst hX
  unfold f_Mo_isValid
  refine q_iconst 1 (c := 1) 1 rfl (by decide +kernel) rfl ?_
  refine q_istore_n 1 1 2 rfl [(1, .int 1), (0, q_r (mG D tc x0 y) 0)] (by decide +kernel) rfl (Nat.le_of_ble_eq_true rfl) rfl ?_
  refine q_iconst 0 (c := 0) 3 rfl (by decide +kernel) rfl ?_
  refine q_istore_n 2 2 4 rfl [(2, .int 0), (1, .int 1), (0, q_r (mG D tc x0 y) 0)] (by decide +kernel) rfl (Nat.le_of_ble_eq_true rfl) rfl ?_
  have hL1 : ∀ (K1 : Int32 → q_J → Option (Int32 × q_J)) (hK1 : ∀ (x7 : Int32) (J3 : q_J), q_V (mG D tc x0 y) m_Mo_isValid X (fun r : Int32 × q_J => (some (.int r.1), (I, r.2, P))) 0 0 146 [(0, q_r (mG D tc x0 y) 0), (1, .int x7)] [] I J3 P (K1 x7 J3)) (n1_ : Nat) (x1 : Int32) (x2 : Int32) (J1 : q_J), q_V (mG D tc x0 y) m_Mo_isValid X (fun r : Int32 × q_J => (some (.int r.1), (I, r.2, P))) 0 0 4 [(0, q_r (mG D tc x0 y) 0), (1, .int x1), (2, .int x2)] [] I J1 P (f_Mo_isValid_L1 I K1 n1_ x1 x2 J1) := by
    intro K1 hK1 n1_
    induction n1_ with
    | zero => intro x1 x2 J1; exact q_none
    | succ n1_ ih1 =>
      intro x1 x2 J1
      rw [f_Mo_isValid_L1]
      refine q_iload_n 2 2 5 rfl (by decide +kernel) rfl ?_
      refine q_aload_n 0 0 6 rfl (by decide +kernel) rfl ?_
      refine q_geti (f := 7) 9 rfl (by decide +kernel) (cC_Mo D tc x0 y) (rfl : mKd 0 = (1, 0, 21, 0, 0)) (by decide) rfl tw_5_219 ?_
      refine q_icmp_ge 12 rfl 146 (off := 137) (by decide +kernel) rfl (fun g9 => ?_) (fun g9 => ?_)
      · refine q_sub [0, 1] rfl ?_
        exact hK1 x1 J1
      · refine q_iload_n 1 1 13 rfl (by decide +kernel) rfl ?_
        refine q_if_eq 16 rfl 146 (off := 133) (by decide +kernel) rfl (fun g8 => ?_) (fun g8 => ?_)
        · refine q_sub [0, 1] rfl ?_
          exact hK1 x1 J1
        · refine q_aload_n 0 0 17 rfl (by decide +kernel) rfl ?_
          refine q_iload_n 2 2 18 rfl (by decide +kernel) rfl ?_
          refine q_callV_iJ 21 rfl (av := [.int x2]) (o := 0) (st := []) (c_Mo_isWell X.1 D tc x0 y I J1 P x2) yv_Mo_isWell tw_6_97 tw_6_99 sw_36 (cC_Mo D tc x0 y) (rfl : mKd 0 = (1, 0, 21, 0, 0)) rfl (Nat.le_of_ble_eq_true rfl) (by decide +kernel) ⟨Nat.le_of_ble_eq_true rfl, Nat.le_of_ble_eq_true rfl⟩ ⟨Nat.le_of_ble_eq_true rfl, Nat.le_of_ble_eq_true rfl⟩ rfl rfl (fun v1 J2 => ?_)
          refine q_istore_n 1 1 22 rfl [(1, .int v1), (0, q_r (mG D tc x0 y) 0), (2, .int x2)] (by decide +kernel) rfl (Nat.le_of_ble_eq_true rfl) rfl ?_
          refine q_iconst 0 (c := 0) 23 rfl (by decide +kernel) rfl ?_
          refine q_istore_n 3 3 24 rfl [(3, .int 0), (1, .int v1), (0, q_r (mG D tc x0 y) 0), (2, .int x2)] (by decide +kernel) rfl (Nat.le_of_ble_eq_true rfl) rfl ?_
          have hL2 : ∀ (K2 : Int32 → Option (Int32 × q_J)) (hK2 : ∀ (x6 : Int32), q_V (mG D tc x0 y) m_Mo_isValid X (fun r : Int32 × q_J => (some (.int r.1), (I, r.2, P))) 0 0 140 [(0, q_r (mG D tc x0 y) 0), (1, .int x6), (2, .int x2)] [] I J2 P (K2 x6)) (n2_ : Nat) (x3 : Int32) (x4 : Int32), q_V (mG D tc x0 y) m_Mo_isValid X (fun r : Int32 × q_J => (some (.int r.1), (I, r.2, P))) 0 0 24 [(0, q_r (mG D tc x0 y) 0), (1, .int x3), (2, .int x2), (3, .int x4)] [] I J2 P (f_Mo_isValid_L2 I x2 J2 K2 n2_ x3 x4) := by
            intro K2 hK2 n2_
            induction n2_ with
            | zero => intro x3 x4; exact q_none
            | succ n2_ ih2 =>
              intro x3 x4
              rw [f_Mo_isValid_L2]
              refine q_iload_n 3 3 25 rfl (by decide +kernel) rfl ?_
              refine q_iload_n 2 2 26 rfl (by decide +kernel) rfl ?_
              refine q_icmp_ge 29 rfl 140 (off := 114) (by decide +kernel) rfl (fun g7 => ?_) (fun g7 => ?_)
              · refine q_sub [0, 1, 2] rfl ?_
                exact hK2 x3
              · refine q_iload_n 1 1 30 rfl (by decide +kernel) rfl ?_
                refine q_if_eq 33 rfl 140 (off := 110) (by decide +kernel) rfl (fun g6 => ?_) (fun g6 => ?_)
                · refine q_sub [0, 1, 2] rfl ?_
                  exact hK2 x3
                · refine q_aload_n 0 0 34 rfl (by decide +kernel) rfl ?_
                  refine q_getr (f := 8) 6 37 rfl (by decide +kernel) (cC_Mo D tc x0 y) (rfl : mKd 0 = (1, 0, 21, 0, 0)) (by decide) rfl rfl tw_5_220 ?_
                  refine q_iload_n 2 2 38 rfl (by decide +kernel) rfl ?_
                  refine q_iconst 3 (c := 3) 39 rfl (by decide +kernel) rfl ?_
                  refine q_callS_i 42 rfl (av := [.int x2, .int 3]) (st := [q_r (mG D tc x0 y) 6]) (c_Mo_meeting X.1 D tc x0 y I J2 P x2 3) yv_Mo_meeting tw_6_86 tw_6_87 rfl (Nat.le_of_ble_eq_true rfl) (by decide +kernel) ⟨Nat.le_of_ble_eq_true rfl, Nat.le_of_ble_eq_true rfl⟩ ⟨Nat.le_of_ble_eq_true rfl, Nat.le_of_ble_eq_true rfl⟩ rfl rfl (fun v2 => ?_)
                  refine q_iald (t := 0) 43 rfl (by decide +kernel) (rfl : mKd 6 = (2, 175, 0, 0, 0)) rfl (fun j1 hj1 => ?_)
                  refine q_aload_n 0 0 44 rfl (by decide +kernel) rfl ?_
                  refine q_getr (f := 8) 6 47 rfl (by decide +kernel) (cC_Mo D tc x0 y) (rfl : mKd 0 = (1, 0, 21, 0, 0)) (by decide) rfl rfl tw_5_220 ?_
                  refine q_iload_n 3 3 48 rfl (by decide +kernel) rfl ?_
                  refine q_iconst 3 (c := 3) 49 rfl (by decide +kernel) rfl ?_
                  refine q_callS_i 52 rfl (av := [.int x4, .int 3]) (st := [q_r (mG D tc x0 y) 6, .int (I 6 j1)]) (c_Mo_meeting X.1 D tc x0 y I J2 P x4 3) yv_Mo_meeting tw_6_86 tw_6_87 rfl (Nat.le_of_ble_eq_true rfl) (by decide +kernel) ⟨Nat.le_of_ble_eq_true rfl, Nat.le_of_ble_eq_true rfl⟩ ⟨Nat.le_of_ble_eq_true rfl, Nat.le_of_ble_eq_true rfl⟩ rfl rfl (fun v3 => ?_)
                  refine q_iald (t := 0) 53 rfl (by decide +kernel) (rfl : mKd 6 = (2, 175, 0, 0, 0)) rfl (fun j2 hj2 => ?_)
                  refine q_jn1 85 (fun x5 => [(0, q_r (mG D tc x0 y) 0), (2, .int x2), (3, .int x4)]) (fun x5 => [.int x5]) (fun x5 => I) (fun x5 => J2) (fun x5 => P) (fun jk1 => if (I 6 j1) = (I 6 j2) then ((jk1 (1))) else (q_b1 (f_Mo_meeting x2 4) (fun v4 => q_ix v4 175 (fun j7 => q_b1 (f_Mo_meeting x4 4) (fun v5 => q_ix v5 175 (fun j8 => if ((I 6 j7) &&& (I 6 j8)) = 0 then ((jk1 (0))) else ((jk1 (1))))))))) (by intro jk1; simp only [q_b1_if, q_b1_s, q_b1_n, q_b1_ix, q_b1_b1, q_b1_b2, q_b1_b3, q_b1_l, q_b1_ck, q_b1_el]) ?_ ?_
                  · intro x5
                    refine q_istore 4 87 rfl [(4, .int x5), (0, q_r (mG D tc x0 y) 0), (2, .int x2), (3, .int x4)] (by decide +kernel) (Nat.le_of_ble_eq_true rfl) rfl ?_
                    refine q_iload 0 4 89 rfl (by decide +kernel) rfl ?_
                    refine q_if_eq 92 rfl 128 (off := 39) (by decide +kernel) rfl (fun g3 => ?_) (fun g3 => ?_)
                    · refine q_iconst 1 (c := 1) 129 rfl (by decide +kernel) rfl ?_
                      refine q_goto (off := 4) 133 (by decide +kernel) rfl ?_
                      refine q_istore_n 1 1 134 rfl [(1, .int 1), (4, .int x5), (0, q_r (mG D tc x0 y) 0), (2, .int x2), (3, .int x4)] (by decide +kernel) rfl (Nat.le_of_ble_eq_true rfl) rfl ?_
                      refine q_iinc (x4 + 1) (c := 1) 3 4 137 rfl [(3, .int (x4 + 1)), (1, .int 1), (4, .int x5), (0, q_r (mG D tc x0 y) 0), (2, .int x2)] (by decide +kernel) rfl rfl (Nat.le_of_ble_eq_true rfl) rfl ?_
                      refine q_goto (off := -113) 24 (by decide +kernel) rfl ?_
                      refine q_sub [3, 1, 4, 0] rfl ?_
                      exact ih2 1 (x4 + 1)
                    · refine q_aload_n 1 0 93 rfl (by decide +kernel) rfl ?_
                      refine q_getr (f := 9) 7 96 rfl (by decide +kernel) (cC_Mo D tc x0 y) (rfl : mKd 0 = (1, 0, 21, 0, 0)) (by decide) rfl rfl tw_5_221 ?_
                      refine q_iload_n 2 2 97 rfl (by decide +kernel) rfl ?_
                      refine q_lald (t := 2) 98 rfl (by decide +kernel) (rfl : mKd 7 = (3, 25, 2, 0, 0)) rfl (fun j3 hj3 => ?_)
                      refine q_aload_n 1 0 99 rfl (by decide +kernel) rfl ?_
                      refine q_getr (f := 9) 7 102 rfl (by decide +kernel) (cC_Mo D tc x0 y) (rfl : mKd 0 = (1, 0, 21, 0, 0)) (by decide) rfl rfl tw_5_221 ?_
                      refine q_iload_n 3 3 103 rfl (by decide +kernel) rfl ?_
                      refine q_lald (t := 2) 104 rfl (by decide +kernel) (rfl : mKd 7 = (3, 25, 2, 0, 0)) rfl (fun j4 hj4 => ?_)
                      refine q_land 105 rfl (by decide +kernel) ?_
                      refine q_lconst 0 (c := 0) 106 rfl (by decide +kernel) rfl ?_
                      refine q_lcmp 107 rfl (by decide +kernel) ?_
                      refine q_if_ne 110 rfl 132 (off := 25) (by decide +kernel) rfl (fun g2 => ?_) (fun g2 => ?_)
                      · refine q_iconst 0 (c := 0) 133 rfl (by decide +kernel) rfl ?_
                        refine q_istore_n 1 1 134 rfl [(1, .int 0), (4, .int x5), (0, q_r (mG D tc x0 y) 0), (2, .int x2), (3, .int x4)] (by decide +kernel) rfl (Nat.le_of_ble_eq_true rfl) rfl ?_
                        refine q_iinc (x4 + 1) (c := 1) 3 4 137 rfl [(3, .int (x4 + 1)), (1, .int 0), (4, .int x5), (0, q_r (mG D tc x0 y) 0), (2, .int x2)] (by decide +kernel) rfl rfl (Nat.le_of_ble_eq_true rfl) rfl ?_
                        refine q_goto (off := -113) 24 (by decide +kernel) rfl ?_
                        refine q_sub [3, 1, 4, 0] rfl ?_
                        exact ih2 0 (x4 + 1)
                      · refine q_aload_n 1 0 111 rfl (by decide +kernel) rfl ?_
                        refine q_getr (f := 10) 8 114 rfl (by decide +kernel) (cC_Mo D tc x0 y) (rfl : mKd 0 = (1, 0, 21, 0, 0)) (by decide) rfl rfl tw_5_222 ?_
                        refine q_iload_n 2 2 115 rfl (by decide +kernel) rfl ?_
                        refine q_lald (t := 2) 116 rfl (by decide +kernel) (rfl : mKd 8 = (3, 25, 2, 0, 0)) rfl (fun j5 hj5 => ?_)
                        refine q_aload_n 1 0 117 rfl (by decide +kernel) rfl ?_
                        refine q_getr (f := 10) 8 120 rfl (by decide +kernel) (cC_Mo D tc x0 y) (rfl : mKd 0 = (1, 0, 21, 0, 0)) (by decide) rfl rfl tw_5_222 ?_
                        refine q_iload_n 3 3 121 rfl (by decide +kernel) rfl ?_
                        refine q_lald (t := 2) 122 rfl (by decide +kernel) (rfl : mKd 8 = (3, 25, 2, 0, 0)) rfl (fun j6 hj6 => ?_)
                        refine q_land 123 rfl (by decide +kernel) ?_
                        refine q_lconst 0 (c := 0) 124 rfl (by decide +kernel) rfl ?_
                        refine q_lcmp 125 rfl (by decide +kernel) ?_
                        refine q_if_ne 128 rfl 132 (off := 7) (by decide +kernel) rfl (fun g1 => ?_) (fun g1 => ?_)
                        · refine q_iconst 0 (c := 0) 133 rfl (by decide +kernel) rfl ?_
                          refine q_istore_n 1 1 134 rfl [(1, .int 0), (4, .int x5), (0, q_r (mG D tc x0 y) 0), (2, .int x2), (3, .int x4)] (by decide +kernel) rfl (Nat.le_of_ble_eq_true rfl) rfl ?_
                          refine q_iinc (x4 + 1) (c := 1) 3 4 137 rfl [(3, .int (x4 + 1)), (1, .int 0), (4, .int x5), (0, q_r (mG D tc x0 y) 0), (2, .int x2)] (by decide +kernel) rfl rfl (Nat.le_of_ble_eq_true rfl) rfl ?_
                          refine q_goto (off := -113) 24 (by decide +kernel) rfl ?_
                          refine q_sub [3, 1, 4, 0] rfl ?_
                          exact ih2 0 (x4 + 1)
                        · refine q_iconst 1 (c := 1) 129 rfl (by decide +kernel) rfl ?_
                          refine q_goto (off := 4) 133 (by decide +kernel) rfl ?_
                          refine q_istore_n 1 1 134 rfl [(1, .int 1), (4, .int x5), (0, q_r (mG D tc x0 y) 0), (2, .int x2), (3, .int x4)] (by decide +kernel) rfl (Nat.le_of_ble_eq_true rfl) rfl ?_
                          refine q_iinc (x4 + 1) (c := 1) 3 4 137 rfl [(3, .int (x4 + 1)), (1, .int 1), (4, .int x5), (0, q_r (mG D tc x0 y) 0), (2, .int x2)] (by decide +kernel) rfl rfl (Nat.le_of_ble_eq_true rfl) rfl ?_
                          refine q_goto (off := -113) 24 (by decide +kernel) rfl ?_
                          refine q_sub [3, 1, 4, 0] rfl ?_
                          exact ih2 1 (x4 + 1)
                  · intro jk1 hq1
                    refine q_icmp_eq 56 rfl 80 (off := 27) (by decide +kernel) rfl (fun g5 => ?_) (fun g5 => ?_)
                    · refine q_iconst 1 (c := 1) 81 rfl (by decide +kernel) rfl ?_
                      refine q_goto (off := 4) 85 (by decide +kernel) rfl ?_
                      refine q_sub [0, 2, 3] rfl ?_
                      exact hq1 1
                    · refine q_aload_n 0 0 57 rfl (by decide +kernel) rfl ?_
                      refine q_getr (f := 8) 6 60 rfl (by decide +kernel) (cC_Mo D tc x0 y) (rfl : mKd 0 = (1, 0, 21, 0, 0)) (by decide) rfl rfl tw_5_220 ?_
                      refine q_iload_n 2 2 61 rfl (by decide +kernel) rfl ?_
                      refine q_iconst 4 (c := 4) 62 rfl (by decide +kernel) rfl ?_
                      refine q_callS_i 65 rfl (av := [.int x2, .int 4]) (st := [q_r (mG D tc x0 y) 6]) (c_Mo_meeting X.1 D tc x0 y I J2 P x2 4) yv_Mo_meeting tw_6_86 tw_6_87 rfl (Nat.le_of_ble_eq_true rfl) (by decide +kernel) ⟨Nat.le_of_ble_eq_true rfl, Nat.le_of_ble_eq_true rfl⟩ ⟨Nat.le_of_ble_eq_true rfl, Nat.le_of_ble_eq_true rfl⟩ rfl rfl (fun v4 => ?_)
                      refine q_iald (t := 0) 66 rfl (by decide +kernel) (rfl : mKd 6 = (2, 175, 0, 0, 0)) rfl (fun j7 hj7 => ?_)
                      refine q_aload_n 0 0 67 rfl (by decide +kernel) rfl ?_
                      refine q_getr (f := 8) 6 70 rfl (by decide +kernel) (cC_Mo D tc x0 y) (rfl : mKd 0 = (1, 0, 21, 0, 0)) (by decide) rfl rfl tw_5_220 ?_
                      refine q_iload_n 3 3 71 rfl (by decide +kernel) rfl ?_
                      refine q_iconst 4 (c := 4) 72 rfl (by decide +kernel) rfl ?_
                      refine q_callS_i 75 rfl (av := [.int x4, .int 4]) (st := [q_r (mG D tc x0 y) 6, .int (I 6 j7)]) (c_Mo_meeting X.1 D tc x0 y I J2 P x4 4) yv_Mo_meeting tw_6_86 tw_6_87 rfl (Nat.le_of_ble_eq_true rfl) (by decide +kernel) ⟨Nat.le_of_ble_eq_true rfl, Nat.le_of_ble_eq_true rfl⟩ ⟨Nat.le_of_ble_eq_true rfl, Nat.le_of_ble_eq_true rfl⟩ rfl rfl (fun v5 => ?_)
                      refine q_iald (t := 0) 76 rfl (by decide +kernel) (rfl : mKd 6 = (2, 175, 0, 0, 0)) rfl (fun j8 hj8 => ?_)
                      refine q_iand 77 rfl (by decide +kernel) ?_
                      refine q_if_eq 80 rfl 84 (off := 7) (by decide +kernel) rfl (fun g4 => ?_) (fun g4 => ?_)
                      · refine q_iconst 0 (c := 0) 85 rfl (by decide +kernel) rfl ?_
                        refine q_sub [0, 2, 3] rfl ?_
                        exact hq1 0
                      · refine q_iconst 1 (c := 1) 81 rfl (by decide +kernel) rfl ?_
                        refine q_goto (off := 4) 85 (by decide +kernel) rfl ?_
                        refine q_sub [0, 2, 3] rfl ?_
                        exact hq1 1
          refine q_sub [2, 1, 3, 0] rfl ?_
          refine hL2 _ (fun x6 => ?_) _ _ _
          refine q_iinc (x2 + 1) (c := 1) 2 2 143 rfl [(2, .int (x2 + 1)), (0, q_r (mG D tc x0 y) 0), (1, .int x6)] (by decide +kernel) rfl rfl (Nat.le_of_ble_eq_true rfl) rfl ?_
          refine q_goto (off := -139) 4 (by decide +kernel) rfl ?_
          refine q_sub [1, 2, 0] rfl ?_
          exact ih1 x6 (x2 + 1) J2
  refine q_sub [2, 1, 0] rfl ?_
  refine hL1 _ (fun x7 J3 => ?_) _ _ _ _
  refine q_iconst 0 (c := 0) 147 rfl (by decide +kernel) rfl ?_
  refine q_istore_n 2 2 148 rfl [(2, .int 0), (0, q_r (mG D tc x0 y) 0), (1, .int x7)] (by decide +kernel) rfl (Nat.le_of_ble_eq_true rfl) rfl ?_
  have hL3 : ∀ (n3_ : Nat) (x8 : Int32) (x9 : Int32), q_V (mG D tc x0 y) m_Mo_isValid X (fun r : Int32 × q_J => (some (.int r.1), (I, r.2, P))) 0 0 148 [(0, q_r (mG D tc x0 y) 0), (1, .int x8), (2, .int x9)] [] I J3 P (f_Mo_isValid_L3 I J3 n3_ x8 x9) := by
    intro n3_
    induction n3_ with
    | zero => intro x8 x9; exact q_none
    | succ n3_ ih3 =>
      intro x8 x9
      rw [f_Mo_isValid_L3]
      refine q_iload_n 2 2 149 rfl (by decide +kernel) rfl ?_
      refine q_aload_n 0 0 150 rfl (by decide +kernel) rfl ?_
      refine q_getr (f := 0) 1 153 rfl (by decide +kernel) (cC_Mo D tc x0 y) (rfl : mKd 0 = (1, 0, 21, 0, 0)) (by decide) rfl rfl tw_5_212 ?_
      refine q_iconst 3 (c := 3) 154 rfl (by decide +kernel) rfl ?_
      refine q_iald (t := 0) 155 rfl (by decide +kernel) (rfl : mKd 1 = (2, 280, 0, 0, 0)) rfl (fun j9 hj9 => ?_)
      refine q_icmp_ge 158 rfl 237 (off := 82) (by decide +kernel) rfl (fun g14 => ?_) (fun g14 => ?_)
      · refine q_iload_n 1 1 238 rfl (by decide +kernel) rfl ?_
        exact q_zret (w := (x8 &&& 1)) (by decide +kernel) rfl rfl rfl (Nat.le_of_ble_eq_true rfl) (Nat.le_of_ble_eq_true rfl)
      · refine q_iload_n 1 1 159 rfl (by decide +kernel) rfl ?_
        refine q_if_eq 162 rfl 237 (off := 78) (by decide +kernel) rfl (fun g13 => ?_) (fun g13 => ?_)
        · refine q_iload_n 1 1 238 rfl (by decide +kernel) rfl ?_
          exact q_zret (w := (x8 &&& 1)) (by decide +kernel) rfl rfl rfl (Nat.le_of_ble_eq_true rfl) (Nat.le_of_ble_eq_true rfl)
        · refine q_aload_n 0 0 163 rfl (by decide +kernel) rfl ?_
          refine q_aload_n 0 0 164 rfl (by decide +kernel) rfl ?_
          refine q_getr (f := 0) 1 167 rfl (by decide +kernel) (cC_Mo D tc x0 y) (rfl : mKd 0 = (1, 0, 21, 0, 0)) (by decide) rfl rfl tw_5_212 ?_
          refine q_bipush 32 (c := 32) 169 rfl (by decide +kernel) rfl ?_
          refine q_iconst 2 (c := 2) 170 rfl (by decide +kernel) rfl ?_
          refine q_iload_n 2 2 171 rfl (by decide +kernel) rfl ?_
          refine q_imul 172 rfl (by decide +kernel) ?_
          refine q_iadd 173 rfl (by decide +kernel) ?_
          refine q_iald (t := 0) 174 rfl (by decide +kernel) (rfl : mKd 1 = (2, 280, 0, 0, 0)) rfl (fun j10 hj10 => ?_)
          refine q_callV_i 177 rfl (av := [.int (I 1 j10)]) (o := 0) (st := []) (c_Mo_find X.1 D tc x0 y I J3 P (I 1 j10)) yv_Mo_find tw_6_89 tw_6_91 sw_34 (cC_Mo D tc x0 y) (rfl : mKd 0 = (1, 0, 21, 0, 0)) rfl (Nat.le_of_ble_eq_true rfl) (by decide +kernel) ⟨Nat.le_of_ble_eq_true rfl, Nat.le_of_ble_eq_true rfl⟩ ⟨Nat.le_of_ble_eq_true rfl, Nat.le_of_ble_eq_true rfl⟩ rfl rfl (fun v6 => ?_)
          refine q_istore_n 3 3 178 rfl [(3, .int v6), (0, q_r (mG D tc x0 y) 0), (1, .int x8), (2, .int x9)] (by decide +kernel) rfl (Nat.le_of_ble_eq_true rfl) rfl ?_
          refine q_aload_n 1 0 179 rfl (by decide +kernel) rfl ?_
          refine q_aload_n 1 0 180 rfl (by decide +kernel) rfl ?_
          refine q_getr (f := 0) 1 183 rfl (by decide +kernel) (cC_Mo D tc x0 y) (rfl : mKd 0 = (1, 0, 21, 0, 0)) (by decide) rfl rfl tw_5_212 ?_
          refine q_bipush 32 (c := 32) 185 rfl (by decide +kernel) rfl ?_
          refine q_iconst 2 (c := 2) 186 rfl (by decide +kernel) rfl ?_
          refine q_iload_n 3 2 187 rfl (by decide +kernel) rfl ?_
          refine q_imul 188 rfl (by decide +kernel) ?_
          refine q_iadd 189 rfl (by decide +kernel) ?_
          refine q_iconst 1 (c := 1) 190 rfl (by decide +kernel) rfl ?_
          refine q_iadd 191 rfl (by decide +kernel) ?_
          refine q_iald (t := 0) 192 rfl (by decide +kernel) (rfl : mKd 1 = (2, 280, 0, 0, 0)) rfl (fun j11 hj11 => ?_)
          refine q_callV_i 195 rfl (av := [.int (I 1 j11)]) (o := 0) (st := []) (c_Mo_find X.1 D tc x0 y I J3 P (I 1 j11)) yv_Mo_find tw_6_89 tw_6_91 sw_34 (cC_Mo D tc x0 y) (rfl : mKd 0 = (1, 0, 21, 0, 0)) rfl (Nat.le_of_ble_eq_true rfl) (by decide +kernel) ⟨Nat.le_of_ble_eq_true rfl, Nat.le_of_ble_eq_true rfl⟩ ⟨Nat.le_of_ble_eq_true rfl, Nat.le_of_ble_eq_true rfl⟩ rfl rfl (fun v7 => ?_)
          refine q_istore 4 197 rfl [(4, .int v7), (3, .int v6), (0, q_r (mG D tc x0 y) 0), (1, .int x8), (2, .int x9)] (by decide +kernel) (Nat.le_of_ble_eq_true rfl) rfl ?_
          refine q_iload_n 1 3 198 rfl (by decide +kernel) rfl ?_
          refine q_if_lt 201 rfl 225 (off := 27) (by decide +kernel) rfl (fun g12 => ?_) (fun g12 => ?_)
          · refine q_iconst 1 (c := 1) 226 rfl (by decide +kernel) rfl ?_
            refine q_goto (off := 4) 230 (by decide +kernel) rfl ?_
            refine q_istore_n 1 1 231 rfl [(1, .int 1), (4, .int v7), (3, .int v6), (0, q_r (mG D tc x0 y) 0), (2, .int x9)] (by decide +kernel) rfl (Nat.le_of_ble_eq_true rfl) rfl ?_
            refine q_iinc (x9 + 1) (c := 1) 2 4 234 rfl [(2, .int (x9 + 1)), (1, .int 1), (4, .int v7), (3, .int v6), (0, q_r (mG D tc x0 y) 0)] (by decide +kernel) rfl rfl (Nat.le_of_ble_eq_true rfl) rfl ?_
            refine q_goto (off := -86) 148 (by decide +kernel) rfl ?_
            refine q_sub [4, 1, 0] rfl ?_
            exact ih3 1 (x9 + 1)
          · refine q_iload 0 4 203 rfl (by decide +kernel) rfl ?_
            refine q_if_lt 206 rfl 225 (off := 22) (by decide +kernel) rfl (fun g11 => ?_) (fun g11 => ?_)
            · refine q_iconst 1 (c := 1) 226 rfl (by decide +kernel) rfl ?_
              refine q_goto (off := 4) 230 (by decide +kernel) rfl ?_
              refine q_istore_n 1 1 231 rfl [(1, .int 1), (4, .int v7), (3, .int v6), (0, q_r (mG D tc x0 y) 0), (2, .int x9)] (by decide +kernel) rfl (Nat.le_of_ble_eq_true rfl) rfl ?_
              refine q_iinc (x9 + 1) (c := 1) 2 4 234 rfl [(2, .int (x9 + 1)), (1, .int 1), (4, .int v7), (3, .int v6), (0, q_r (mG D tc x0 y) 0)] (by decide +kernel) rfl rfl (Nat.le_of_ble_eq_true rfl) rfl ?_
              refine q_goto (off := -86) 148 (by decide +kernel) rfl ?_
              refine q_sub [4, 1, 0] rfl ?_
              exact ih3 1 (x9 + 1)
            · refine q_aload_n 2 0 207 rfl (by decide +kernel) rfl ?_
              refine q_iload_n 1 3 208 rfl (by decide +kernel) rfl ?_
              refine q_callV_i 211 rfl (av := [.int v6]) (o := 0) (st := []) (c_Mo_lastSlot X.1 D tc x0 y I J3 P v6) yv_Mo_lastSlot tw_6_101 tw_6_103 sw_37 (cC_Mo D tc x0 y) (rfl : mKd 0 = (1, 0, 21, 0, 0)) rfl (Nat.le_of_ble_eq_true rfl) (by decide +kernel) ⟨Nat.le_of_ble_eq_true rfl, Nat.le_of_ble_eq_true rfl⟩ ⟨Nat.le_of_ble_eq_true rfl, Nat.le_of_ble_eq_true rfl⟩ rfl rfl (fun v8 => ?_)
              refine q_aload_n 2 0 212 rfl (by decide +kernel) rfl ?_
              refine q_getr (f := 8) 6 215 rfl (by decide +kernel) (cC_Mo D tc x0 y) (rfl : mKd 0 = (1, 0, 21, 0, 0)) (by decide) rfl rfl tw_5_220 ?_
              refine q_iload 0 4 217 rfl (by decide +kernel) rfl ?_
              refine q_iconst 1 (c := 1) 218 rfl (by decide +kernel) rfl ?_
              refine q_callS_i 221 rfl (av := [.int v7, .int 1]) (st := [q_r (mG D tc x0 y) 6, .int v8]) (c_Mo_meeting X.1 D tc x0 y I J3 P v7 1) yv_Mo_meeting tw_6_86 tw_6_87 rfl (Nat.le_of_ble_eq_true rfl) (by decide +kernel) ⟨Nat.le_of_ble_eq_true rfl, Nat.le_of_ble_eq_true rfl⟩ ⟨Nat.le_of_ble_eq_true rfl, Nat.le_of_ble_eq_true rfl⟩ rfl rfl (fun v9 => ?_)
              refine q_iald (t := 0) 222 rfl (by decide +kernel) (rfl : mKd 6 = (2, 175, 0, 0, 0)) rfl (fun j12 hj12 => ?_)
              refine q_icmp_ge 225 rfl 229 (off := 7) (by decide +kernel) rfl (fun g10 => ?_) (fun g10 => ?_)
              · refine q_iconst 0 (c := 0) 230 rfl (by decide +kernel) rfl ?_
                refine q_istore_n 1 1 231 rfl [(1, .int 0), (4, .int v7), (3, .int v6), (0, q_r (mG D tc x0 y) 0), (2, .int x9)] (by decide +kernel) rfl (Nat.le_of_ble_eq_true rfl) rfl ?_
                refine q_iinc (x9 + 1) (c := 1) 2 4 234 rfl [(2, .int (x9 + 1)), (1, .int 0), (4, .int v7), (3, .int v6), (0, q_r (mG D tc x0 y) 0)] (by decide +kernel) rfl rfl (Nat.le_of_ble_eq_true rfl) rfl ?_
                refine q_goto (off := -86) 148 (by decide +kernel) rfl ?_
                refine q_sub [4, 1, 0] rfl ?_
                exact ih3 0 (x9 + 1)
              · refine q_iconst 1 (c := 1) 226 rfl (by decide +kernel) rfl ?_
                refine q_goto (off := 4) 230 (by decide +kernel) rfl ?_
                refine q_istore_n 1 1 231 rfl [(1, .int 1), (4, .int v7), (3, .int v6), (0, q_r (mG D tc x0 y) 0), (2, .int x9)] (by decide +kernel) rfl (Nat.le_of_ble_eq_true rfl) rfl ?_
                refine q_iinc (x9 + 1) (c := 1) 2 4 234 rfl [(2, .int (x9 + 1)), (1, .int 1), (4, .int v7), (3, .int v6), (0, q_r (mG D tc x0 y) 0)] (by decide +kernel) rfl rfl (Nat.le_of_ble_eq_true rfl) rfl ?_
                refine q_goto (off := -86) 148 (by decide +kernel) rfl ?_
                refine q_sub [4, 1, 0] rfl ?_
                exact ih3 1 (x9 + 1)
  refine q_sub [1, 2, 0] rfl ?_
  exact hL3 _ _ _
