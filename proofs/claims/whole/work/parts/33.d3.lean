def f_CR_isReplica (a0 : Int32) : Option (Int32) :=
  q_b1 (f_CR_within a0 0 2) (fun v1 => some ((v1 &&& 1)))
def y_CR_isReplica : MethodName := ⟨"CalendarReplicas", "isReplica", "(I)Z"⟩
def m_CR_isReplica : q_M := (prog_1_method_65_code, 1, "CalendarReplicas", { frames := 1, cells := 0, slots := 0, locals := 22 }, (some FieldType.boolean))
theorem yv_CR_isReplica : q_Y y_CR_isReplica m_CR_isReplica 1 := ⟨rfl, ⟨by decide, by decide⟩, by decide +kernel, tw_3_57, tw_1_1⟩
set_option maxRecDepth 100000 in
set_option maxHeartbeats 4000000 in
theorem c_CR_isReplica (l : Launch) (D : va_G) (tc : Nat → ClassId) (x0 y : Nat) (ad : Nat → Nat) (I : q_I) (J : q_J) (P : q_P) (a0 : Int32) : q_Ct l (cG D tc x0 y ad) y_CR_isReplica m_CR_isReplica [.int a0] (I, J, P) (f_CR_isReplica a0) (fun r : Int32 => (some (.int r), (I, J, P))) := by
  refine q_Ct_of (cIn D tc x0 y ad) (by decide) rfl (Nat.le_of_ble_eq_true rfl) rfl (fun X hX => ?_)
  subst hX
  unfold f_CR_isReplica
  refine q_iload_n 0 0 1 rfl (by decide +kernel) rfl ?_
  refine q_iconst 0 (c := 0) 2 rfl (by decide +kernel) rfl ?_
  refine q_iconst 2 (c := 2) 3 rfl (by decide +kernel) rfl ?_
  refine q_callS_i 6 rfl (av := [.int a0, .int 0, .int 2]) (st := []) (c_CR_within X.1 D tc x0 y ad I J P a0 0 2) yv_CR_within tw_2_134 tw_2_135 rfl (Nat.le_of_ble_eq_true rfl) (by decide +kernel) ⟨Nat.le_of_ble_eq_true rfl, Nat.le_of_ble_eq_true rfl⟩ ⟨Nat.le_of_ble_eq_true rfl, Nat.le_of_ble_eq_true rfl⟩ rfl rfl (fun v1 => ?_)
  exact q_zret (w := (v1 &&& 1)) (by decide +kernel) rfl rfl rfl (Nat.le_of_ble_eq_true rfl) (Nat.le_of_ble_eq_true rfl)
def f_CR_isStart (a0 : Int32) : Option (Int32) :=
  q_b1 (f_CR_within a0 0 95) (fun v1 => some ((v1 &&& 1)))
def y_CR_isStart : MethodName := ⟨"CalendarReplicas", "isStart", "(I)Z"⟩
def m_CR_isStart : q_M := (prog_1_method_68_code, 1, "CalendarReplicas", { frames := 1, cells := 0, slots := 0, locals := 22 }, (some FieldType.boolean))
theorem yv_CR_isStart : q_Y y_CR_isStart m_CR_isStart 1 := ⟨rfl, ⟨by decide, by decide⟩, by decide +kernel, tw_3_60, tw_1_1⟩
set_option maxRecDepth 100000 in
set_option maxHeartbeats 4000000 in
theorem c_CR_isStart (l : Launch) (D : va_G) (tc : Nat → ClassId) (x0 y : Nat) (ad : Nat → Nat) (I : q_I) (J : q_J) (P : q_P) (a0 : Int32) : q_Ct l (cG D tc x0 y ad) y_CR_isStart m_CR_isStart [.int a0] (I, J, P) (f_CR_isStart a0) (fun r : Int32 => (some (.int r), (I, J, P))) := by
  refine q_Ct_of (cIn D tc x0 y ad) (by decide) rfl (Nat.le_of_ble_eq_true rfl) rfl (fun X hX => ?_)
  subst hX
  unfold f_CR_isStart
  refine q_iload_n 0 0 1 rfl (by decide +kernel) rfl ?_
  refine q_iconst 0 (c := 0) 2 rfl (by decide +kernel) rfl ?_
  refine q_bipush 95 (c := 95) 4 rfl (by decide +kernel) rfl ?_
  refine q_callS_i 7 rfl (av := [.int a0, .int 0, .int 95]) (st := []) (c_CR_within X.1 D tc x0 y ad I J P a0 0 95) yv_CR_within tw_2_134 tw_2_135 rfl (Nat.le_of_ble_eq_true rfl) (by decide +kernel) ⟨Nat.le_of_ble_eq_true rfl, Nat.le_of_ble_eq_true rfl⟩ ⟨Nat.le_of_ble_eq_true rfl, Nat.le_of_ble_eq_true rfl⟩ rfl rfl (fun v1 => ?_)
  exact q_zret (w := (v1 &&& 1)) (by decide +kernel) rfl rfl rfl (Nat.le_of_ble_eq_true rfl) (Nat.le_of_ble_eq_true rfl)
def f_CR_isDuration (a0 : Int32) : Option (Int32) :=
  q_b1 (f_CR_within a0 1 8) (fun v1 => some ((v1 &&& 1)))
def y_CR_isDuration : MethodName := ⟨"CalendarReplicas", "isDuration", "(I)Z"⟩
def m_CR_isDuration : q_M := (prog_1_method_69_code, 1, "CalendarReplicas", { frames := 1, cells := 0, slots := 0, locals := 22 }, (some FieldType.boolean))
theorem yv_CR_isDuration : q_Y y_CR_isDuration m_CR_isDuration 1 := ⟨rfl, ⟨by decide, by decide⟩, by decide +kernel, tw_3_63, tw_1_1⟩
set_option maxRecDepth 100000 in
set_option maxHeartbeats 4000000 in
theorem c_CR_isDuration (l : Launch) (D : va_G) (tc : Nat → ClassId) (x0 y : Nat) (ad : Nat → Nat) (I : q_I) (J : q_J) (P : q_P) (a0 : Int32) : q_Ct l (cG D tc x0 y ad) y_CR_isDuration m_CR_isDuration [.int a0] (I, J, P) (f_CR_isDuration a0) (fun r : Int32 => (some (.int r), (I, J, P))) := by
  refine q_Ct_of (cIn D tc x0 y ad) (by decide) rfl (Nat.le_of_ble_eq_true rfl) rfl (fun X hX => ?_)
  subst hX
  unfold f_CR_isDuration
  refine q_iload_n 0 0 1 rfl (by decide +kernel) rfl ?_
  refine q_iconst 1 (c := 1) 2 rfl (by decide +kernel) rfl ?_
  refine q_bipush 8 (c := 8) 4 rfl (by decide +kernel) rfl ?_
  refine q_callS_i 7 rfl (av := [.int a0, .int 1, .int 8]) (st := []) (c_CR_within X.1 D tc x0 y ad I J P a0 1 8) yv_CR_within tw_2_134 tw_2_135 rfl (Nat.le_of_ble_eq_true rfl) (by decide +kernel) ⟨Nat.le_of_ble_eq_true rfl, Nat.le_of_ble_eq_true rfl⟩ ⟨Nat.le_of_ble_eq_true rfl, Nat.le_of_ble_eq_true rfl⟩ rfl rfl (fun v1 => ?_)
  exact q_zret (w := (v1 &&& 1)) (by decide +kernel) rfl rfl rfl (Nat.le_of_ble_eq_true rfl) (Nat.le_of_ble_eq_true rfl)
def f_CR_isWeight (a0 : Int32) : Option (Int32) :=
  q_b1 (f_CR_within a0 1 9) (fun v1 => some ((v1 &&& 1)))
def y_CR_isWeight : MethodName := ⟨"CalendarReplicas", "isWeight", "(I)Z"⟩
def m_CR_isWeight : q_M := (prog_1_method_70_code, 1, "CalendarReplicas", { frames := 1, cells := 0, slots := 0, locals := 22 }, (some FieldType.boolean))
theorem yv_CR_isWeight : q_Y y_CR_isWeight m_CR_isWeight 1 := ⟨rfl, ⟨by decide, by decide⟩, by decide +kernel, tw_3_66, tw_1_1⟩
set_option maxRecDepth 100000 in
set_option maxHeartbeats 4000000 in
theorem c_CR_isWeight (l : Launch) (D : va_G) (tc : Nat → ClassId) (x0 y : Nat) (ad : Nat → Nat) (I : q_I) (J : q_J) (P : q_P) (a0 : Int32) : q_Ct l (cG D tc x0 y ad) y_CR_isWeight m_CR_isWeight [.int a0] (I, J, P) (f_CR_isWeight a0) (fun r : Int32 => (some (.int r), (I, J, P))) := by
  refine q_Ct_of (cIn D tc x0 y ad) (by decide) rfl (Nat.le_of_ble_eq_true rfl) rfl (fun X hX => ?_)
  subst hX
  unfold f_CR_isWeight
  refine q_iload_n 0 0 1 rfl (by decide +kernel) rfl ?_
  refine q_iconst 1 (c := 1) 2 rfl (by decide +kernel) rfl ?_
  refine q_bipush 9 (c := 9) 4 rfl (by decide +kernel) rfl ?_
  refine q_callS_i 7 rfl (av := [.int a0, .int 1, .int 9]) (st := []) (c_CR_within X.1 D tc x0 y ad I J P a0 1 9) yv_CR_within tw_2_134 tw_2_135 rfl (Nat.le_of_ble_eq_true rfl) (by decide +kernel) ⟨Nat.le_of_ble_eq_true rfl, Nat.le_of_ble_eq_true rfl⟩ ⟨Nat.le_of_ble_eq_true rfl, Nat.le_of_ble_eq_true rfl⟩ rfl rfl (fun v1 => ?_)
  exact q_zret (w := (v1 &&& 1)) (by decide +kernel) rfl rfl rfl (Nat.le_of_ble_eq_true rfl) (Nat.le_of_ble_eq_true rfl)
def f_CR_make (I : q_I) (J : q_J) (P : q_P) (a1 : Int32) (a2 : Int32) (a3 : Int32) (a4 : Int32) (a5 : Int32) : Option (Int32 × q_I × q_J × q_P) :=
  q_b1 (f_Wo_editAtIndex I 1 (I 1 3)) (fun r1 => (r1).elim (some ((-2), I, J, P)) (fun b1 => q_ck (cE b1) (q_b1 (f_Ed_fill I b1 (I 1 4) a1 a5 a2 a3 a4) (fun I1 => q_b1 (f_Me_copyFrom I1 (b1 + 1) 112) (fun I2 => q_l (q_ui I2 (b1 + 1) 0 (I2 1 4)) (fun I3 => q_ix a1 3 (fun j1 => q_b1 (f_Wo_relate I3 1 b1 (I3 25 j1)) (fun I4 => q_l ((1 : Int32) <<< ((I4 1 3) &&& 31) : Int32) (fun x1 => q_ix a1 3 (fun j2 => q_b4 (f_Mg_heaviest I4 J P 53 1 ((I4 25 j2) ||| x1) 0) (fun v1 I5 J1 P1 => q_ix a1 3 (fun j3 => if v1 = ((I5 26 j3) ||| x1) then (q_ix a1 3 (fun j4 => q_ix a1 3 (fun j5 => q_l (q_ui I5 25 j5 ((I5 25 j4) ||| x1)) (fun I6 => q_ix a1 3 (fun j6 => q_l (q_ui I6 26 j6 v1) (fun I7 => q_l (q_ui I7 1 3 ((I7 1 3) + 1)) (fun I8 => q_l (q_ui I8 1 4 ((I8 1 4) + 1)) (fun I9 => some ((I9 b1 0), I9, J1, P1))))))))) else (some ((-3), I5, J1, P1))))))))))))))
def y_CR_make : MethodName := ⟨"CalendarReplicas", "make", "(IIIII)I"⟩
def m_CR_make : q_M := (prog_1_method_15_code, 9, "CalendarReplicas", { frames := 20, cells := 0, slots := 0, locals := 525 }, (some FieldType.int))
theorem yv_CR_make : q_Y y_CR_make m_CR_make 5 := ⟨rfl, ⟨by decide, by decide⟩, by decide +kernel, tw_3_74, tw_1_1⟩
set_option maxRecDepth 100000 in
set_option maxHeartbeats 4000000 in
theorem c_CR_make (l : Launch) (D : va_G) (tc : Nat → ClassId) (x0 y : Nat) (ad : Nat → Nat) (I : q_I) (J : q_J) (P : q_P) (a1 : Int32) (a2 : Int32) (a3 : Int32) (a4 : Int32) (a5 : Int32) : q_Ct l (cG D tc x0 y ad) y_CR_make m_CR_make [q_r (cG D tc x0 y ad) 0, .int a1, .int a2, .int a3, .int a4, .int a5] (I, J, P) (f_CR_make I J P a1 a2 a3 a4 a5) (fun r : Int32 × q_I × q_J × q_P => (some (.int r.1), (r.2.1, r.2.2.1, r.2.2.2))) := by
  refine q_Ct_of (cIn D tc x0 y ad) (by decide) rfl (Nat.le_of_ble_eq_true rfl) rfl (fun X hX => ?_)
  subst hX
  unfold f_CR_make
  refine q_aload_n 0 0 1 rfl (by decide +kernel) rfl ?_
  refine q_getr (f := 0) 1 4 rfl (by decide +kernel) (cC_CR D tc x0 y ad) k_CR (by decide) rfl rfl tw_2_102 ?_
  refine q_aload_n 0 0 5 rfl (by decide +kernel) rfl ?_
  refine q_getr (f := 0) 1 8 rfl (by decide +kernel) (cC_CR D tc x0 y ad) k_CR (by decide) rfl rfl tw_2_102 ?_
  refine q_geti (f := 3) 11 rfl (by decide +kernel) (cC_Wo D tc x0 y ad) k_Wo1.1 (by decide) rfl tw_1_213 ?_
  refine q_callV_q 14 rfl (av := [.int (I 1 3)]) (o := 1) (st := []) (c_Wo_editAtIndex X.1 D tc x0 y ad I J P k_Wo1 (I 1 3)) yv_Wo_editAtIndex tw_3_75 tw_3_76 tw_3_77 (cC_Wo D tc x0 y ad) k_Wo1.1 rfl (Nat.le_of_ble_eq_true rfl) (by decide +kernel) ⟨Nat.le_of_ble_eq_true rfl, Nat.le_of_ble_eq_true rfl⟩ ⟨Nat.le_of_ble_eq_true rfl, Nat.le_of_ble_eq_true rfl⟩ rfl rfl (fun r1 => ?_)
  refine q_astoreq 6 16 rfl [(6, q_rn (cG D tc x0 y ad) r1), (0, q_r (cG D tc x0 y ad) 0), (1, .int a1), (2, .int a2), (3, .int a3), (4, .int a4), (5, .int a5)] (by decide +kernel) (Nat.le_of_ble_eq_true rfl) rfl ?_
  refine q_aloadq 0 6 18 rfl (by decide +kernel) rfl ?_
  refine q_ifnonnull 21 rfl 24 (off := 6) (by decide +kernel) rfl (fun he_b1 => ?_) (fun b1 he_b1 => ?_)
  · subst he_b1
    refine q_bipush (-2) (c := -2) 23 rfl (by decide +kernel) rfl ?_
    exact q_iret (by decide +kernel) rfl rfl (Nat.le_of_ble_eq_true rfl) (Nat.le_of_ble_eq_true rfl)
  · subst he_b1
    refine q_ckV (fun hc_b1 => ?_)
    refine q_aload 0 6 26 rfl (by decide +kernel) rfl ?_
    refine q_aload_n 1 0 27 rfl (by decide +kernel) rfl ?_
    refine q_getr (f := 0) 1 30 rfl (by decide +kernel) (cC_CR D tc x0 y ad) k_CR (by decide) rfl rfl tw_2_102 ?_
    refine q_geti (f := 4) 33 rfl (by decide +kernel) (cC_Wo D tc x0 y ad) k_Wo1.1 (by decide) rfl tw_1_215 ?_
    refine q_iload_n 2 1 34 rfl (by decide +kernel) rfl ?_
    refine q_iload 6 5 36 rfl (by decide +kernel) rfl ?_
    refine q_iload_n 3 2 37 rfl (by decide +kernel) rfl ?_
    refine q_iload_n 4 3 38 rfl (by decide +kernel) rfl ?_
    refine q_iload 5 4 40 rfl (by decide +kernel) rfl ?_
    refine q_callV_vI 43 rfl (av := [.int (I 1 4), .int a1, .int a5, .int a2, .int a3, .int a4]) (o := b1) (st := []) (c_Ed_fill X.1 D tc x0 y ad I J P (cE_of hc_b1) (I 1 4) a1 a5 a2 a3 a4) yv_Ed_fill tw_3_79 tw_3_80 tw_3_81 (cC_Ed D tc x0 y ad) (cE_of hc_b1).1 rfl (Nat.le_of_ble_eq_true rfl) (by decide +kernel) ⟨Nat.le_of_ble_eq_true rfl, Nat.le_of_ble_eq_true rfl⟩ ⟨Nat.le_of_ble_eq_true rfl, Nat.le_of_ble_eq_true rfl⟩ rfl rfl (fun I1 => ?_)
    refine q_aload 0 6 45 rfl (by decide +kernel) rfl ?_
    refine q_getr (f := 8) (b1 + 1) 48 rfl (by decide +kernel) (cC_Ed D tc x0 y ad) (cE_of hc_b1).1 (by decide) rfl rfl tw_1_186 ?_
    refine q_aload_n 1 0 49 rfl (by decide +kernel) rfl ?_
    refine q_getr (f := 6) 112 52 rfl (by decide +kernel) (cC_CR D tc x0 y ad) k_CR (by decide) rfl rfl tw_2_108 ?_
    refine q_callV_vI 55 rfl (av := [q_r (cG D tc x0 y ad) 112]) (o := (b1 + 1)) (st := []) (c_Me_copyFrom X.1 D tc x0 y ad I1 J P (cE_of hc_b1).2 k_Me112) yv_Me_copyFrom tw_3_83 tw_2_210 tw_2_211 (cC_Me D tc x0 y ad) (cE_of hc_b1).2 rfl (Nat.le_of_ble_eq_true rfl) (by decide +kernel) ⟨Nat.le_of_ble_eq_true rfl, Nat.le_of_ble_eq_true rfl⟩ ⟨Nat.le_of_ble_eq_true rfl, Nat.le_of_ble_eq_true rfl⟩ rfl rfl (fun I2 => ?_)
    refine q_aload 0 6 57 rfl (by decide +kernel) rfl ?_
    refine q_getr (f := 8) (b1 + 1) 60 rfl (by decide +kernel) (cC_Ed D tc x0 y ad) (cE_of hc_b1).1 (by decide) rfl rfl tw_1_186 ?_
    refine q_aload_n 1 0 61 rfl (by decide +kernel) rfl ?_
    refine q_getr (f := 0) 1 64 rfl (by decide +kernel) (cC_CR D tc x0 y ad) k_CR (by decide) rfl rfl tw_2_102 ?_
    refine q_geti (f := 4) 67 rfl (by decide +kernel) (cC_Wo D tc x0 y ad) k_Wo1.1 (by decide) rfl tw_1_215 ?_
    refine q_puti (f := 0) 70 rfl (by decide +kernel) (cC_Me D tc x0 y ad) (cE_of hc_b1).2 (by decide) rfl rfl rfl tw_1_97 ?_
    refine q_letI (fun I3 => ?_)
    refine q_aload_n 1 0 71 rfl (by decide +kernel) rfl ?_
    refine q_getr (f := 0) 1 74 rfl (by decide +kernel) (cC_CR D tc x0 y ad) k_CR (by decide) rfl rfl tw_2_102 ?_
    refine q_aload 0 6 76 rfl (by decide +kernel) rfl ?_
    refine q_aload_n 1 0 77 rfl (by decide +kernel) rfl ?_
    refine q_getr (f := 0) 1 80 rfl (by decide +kernel) (cC_CR D tc x0 y ad) k_CR (by decide) rfl rfl tw_2_102 ?_
    refine q_getr (f := 5) 25 83 rfl (by decide +kernel) (cC_Wo D tc x0 y ad) k_Wo1.1 (by decide) rfl rfl tw_1_217 ?_
    refine q_iload_n 2 1 84 rfl (by decide +kernel) rfl ?_
    refine q_iald (t := 0) 85 rfl (by decide +kernel) k_Wo1.2.2.2.2.1 rfl (fun j1 hj1 => ?_)
    refine q_callV_vI 88 rfl (av := [q_r (cG D tc x0 y ad) b1, .int (I3 25 j1)]) (o := 1) (st := []) (c_Wo_relate X.1 D tc x0 y ad I3 J P k_Wo1 (cE_of hc_b1) (I3 25 j1)) yv_Wo_relate tw_3_84 tw_3_85 tw_3_86 (cC_Wo D tc x0 y ad) k_Wo1.1 rfl (Nat.le_of_ble_eq_true rfl) (by decide +kernel) ⟨Nat.le_of_ble_eq_true rfl, Nat.le_of_ble_eq_true rfl⟩ ⟨Nat.le_of_ble_eq_true rfl, Nat.le_of_ble_eq_true rfl⟩ rfl rfl (fun I4 => ?_)
    refine q_iconst 1 (c := 1) 89 rfl (by decide +kernel) rfl ?_
    refine q_aload_n 1 0 90 rfl (by decide +kernel) rfl ?_
    refine q_getr (f := 0) 1 93 rfl (by decide +kernel) (cC_CR D tc x0 y ad) k_CR (by decide) rfl rfl tw_2_102 ?_
    refine q_geti (f := 3) 96 rfl (by decide +kernel) (cC_Wo D tc x0 y ad) k_Wo1.1 (by decide) rfl tw_1_213 ?_
    refine q_ishl 97 rfl (by decide +kernel) ?_
    refine q_leti (fun x1 => ?_)
    refine q_istore 7 99 rfl [(7, .int x1), (6, q_r (cG D tc x0 y ad) b1), (0, q_r (cG D tc x0 y ad) 0), (1, .int a1), (2, .int a2), (3, .int a3), (4, .int a4), (5, .int a5)] (by decide +kernel) (Nat.le_of_ble_eq_true rfl) rfl ?_
    refine q_aload_n 2 0 100 rfl (by decide +kernel) rfl ?_
    refine q_getr (f := 3) 53 103 rfl (by decide +kernel) (cC_CR D tc x0 y ad) k_CR (by decide) rfl rfl tw_2_105 ?_
    refine q_aload_n 2 0 104 rfl (by decide +kernel) rfl ?_
    refine q_getr (f := 0) 1 107 rfl (by decide +kernel) (cC_CR D tc x0 y ad) k_CR (by decide) rfl rfl tw_2_102 ?_
    refine q_aload_n 2 0 108 rfl (by decide +kernel) rfl ?_
    refine q_getr (f := 0) 1 111 rfl (by decide +kernel) (cC_CR D tc x0 y ad) k_CR (by decide) rfl rfl tw_2_102 ?_
    refine q_getr (f := 5) 25 114 rfl (by decide +kernel) (cC_Wo D tc x0 y ad) k_Wo1.1 (by decide) rfl rfl tw_1_217 ?_
    refine q_iload_n 3 1 115 rfl (by decide +kernel) rfl ?_
    refine q_iald (t := 0) 116 rfl (by decide +kernel) k_Wo1.2.2.2.2.1 rfl (fun j2 hj2 => ?_)
    refine q_iload 0 7 118 rfl (by decide +kernel) rfl ?_
    refine q_ior 119 rfl (by decide +kernel) ?_
    refine q_iconst 0 (c := 0) 120 rfl (by decide +kernel) rfl ?_
    refine q_callV_iIJP 123 rfl (av := [q_r (cG D tc x0 y ad) 1, .int ((I4 25 j2) ||| x1), .int 0]) (o := 53) (st := []) (c_Mg_heaviest X.1 D tc x0 y ad I4 J P k_Mg53 k_Wo1 ((I4 25 j2) ||| x1) 0) yv_Mg_heaviest tw_2_172 tw_2_173 tw_2_174 (cC_Mg D tc x0 y ad) k_Mg53.1 rfl (Nat.le_of_ble_eq_true rfl) (by decide +kernel) ⟨Nat.le_of_ble_eq_true rfl, Nat.le_of_ble_eq_true rfl⟩ ⟨Nat.le_of_ble_eq_true rfl, Nat.le_of_ble_eq_true rfl⟩ rfl rfl (fun v1 I5 J1 P1 => ?_)
    refine q_istore 8 125 rfl [(8, .int v1), (7, .int x1), (6, q_r (cG D tc x0 y ad) b1), (0, q_r (cG D tc x0 y ad) 0), (1, .int a1), (2, .int a2), (3, .int a3), (4, .int a4), (5, .int a5)] (by decide +kernel) (Nat.le_of_ble_eq_true rfl) rfl ?_
    refine q_iload 0 8 127 rfl (by decide +kernel) rfl ?_
    refine q_aload_n 3 0 128 rfl (by decide +kernel) rfl ?_
    refine q_getr (f := 0) 1 131 rfl (by decide +kernel) (cC_CR D tc x0 y ad) k_CR (by decide) rfl rfl tw_2_102 ?_
    refine q_getr (f := 6) 26 134 rfl (by decide +kernel) (cC_Wo D tc x0 y ad) k_Wo1.1 (by decide) rfl rfl tw_1_219 ?_
    refine q_iload_n 4 1 135 rfl (by decide +kernel) rfl ?_
    refine q_iald (t := 0) 136 rfl (by decide +kernel) k_Wo1.2.2.2.2.2.1 rfl (fun j3 hj3 => ?_)
    refine q_iload 1 7 138 rfl (by decide +kernel) rfl ?_
    refine q_ior 139 rfl (by decide +kernel) ?_
    refine q_icmp_eq 142 rfl 145 (off := 6) (by decide +kernel) rfl (fun g1 => ?_) (fun g1 => ?_)
    · refine q_aload_n 3 0 146 rfl (by decide +kernel) rfl ?_
      refine q_getr (f := 0) 1 149 rfl (by decide +kernel) (cC_CR D tc x0 y ad) k_CR (by decide) rfl rfl tw_2_102 ?_
      refine q_getr (f := 5) 25 152 rfl (by decide +kernel) (cC_Wo D tc x0 y ad) k_Wo1.1 (by decide) rfl rfl tw_1_217 ?_
      refine q_iload_n 4 1 153 rfl (by decide +kernel) rfl ?_
      refine q_dup2 154 rfl (by decide +kernel) rfl rfl ?_
      refine q_iald (t := 0) 155 rfl (by decide +kernel) k_Wo1.2.2.2.2.1 rfl (fun j4 hj4 => ?_)
      refine q_iload 1 7 157 rfl (by decide +kernel) rfl ?_
      refine q_ior 158 rfl (by decide +kernel) ?_
      refine q_iast (t := 0) 159 rfl (by decide +kernel) k_Wo1.2.2.2.2.1 rfl (fun j5 hj5 => ?_)
      refine q_letI (fun I6 => ?_)
      refine q_aload_n 3 0 160 rfl (by decide +kernel) rfl ?_
      refine q_getr (f := 0) 1 163 rfl (by decide +kernel) (cC_CR D tc x0 y ad) k_CR (by decide) rfl rfl tw_2_102 ?_
      refine q_getr (f := 6) 26 166 rfl (by decide +kernel) (cC_Wo D tc x0 y ad) k_Wo1.1 (by decide) rfl rfl tw_1_219 ?_
      refine q_iload_n 4 1 167 rfl (by decide +kernel) rfl ?_
      refine q_iload 0 8 169 rfl (by decide +kernel) rfl ?_
      refine q_iast (t := 0) 170 rfl (by decide +kernel) k_Wo1.2.2.2.2.2.1 rfl (fun j6 hj6 => ?_)
      refine q_letI (fun I7 => ?_)
      refine q_aload_n 3 0 171 rfl (by decide +kernel) rfl ?_
      refine q_getr (f := 0) 1 174 rfl (by decide +kernel) (cC_CR D tc x0 y ad) k_CR (by decide) rfl rfl tw_2_102 ?_
      refine q_dup 175 rfl (by decide +kernel) rfl ?_
      refine q_geti (f := 3) 178 rfl (by decide +kernel) (cC_Wo D tc x0 y ad) k_Wo1.1 (by decide) rfl tw_1_213 ?_
      refine q_iconst 1 (c := 1) 179 rfl (by decide +kernel) rfl ?_
      refine q_iadd 180 rfl (by decide +kernel) ?_
      refine q_puti (f := 3) 183 rfl (by decide +kernel) (cC_Wo D tc x0 y ad) k_Wo1.1 (by decide) rfl rfl rfl tw_1_213 ?_
      refine q_letI (fun I8 => ?_)
      refine q_aload_n 3 0 184 rfl (by decide +kernel) rfl ?_
      refine q_getr (f := 0) 1 187 rfl (by decide +kernel) (cC_CR D tc x0 y ad) k_CR (by decide) rfl rfl tw_2_102 ?_
      refine q_dup 188 rfl (by decide +kernel) rfl ?_
      refine q_geti (f := 4) 191 rfl (by decide +kernel) (cC_Wo D tc x0 y ad) k_Wo1.1 (by decide) rfl tw_1_215 ?_
      refine q_iconst 1 (c := 1) 192 rfl (by decide +kernel) rfl ?_
      refine q_iadd 193 rfl (by decide +kernel) ?_
      refine q_puti (f := 4) 196 rfl (by decide +kernel) (cC_Wo D tc x0 y ad) k_Wo1.1 (by decide) rfl rfl rfl tw_1_215 ?_
      refine q_letI (fun I9 => ?_)
      refine q_aload 2 6 198 rfl (by decide +kernel) rfl ?_
      refine q_geti (f := 0) 201 rfl (by decide +kernel) (cC_Ed D tc x0 y ad) (cE_of hc_b1).1 (by decide) rfl tw_1_167 ?_
      exact q_iret (by decide +kernel) rfl rfl (Nat.le_of_ble_eq_true rfl) (Nat.le_of_ble_eq_true rfl)
    · refine q_bipush (-3) (c := -3) 144 rfl (by decide +kernel) rfl ?_
      exact q_iret (by decide +kernel) rfl rfl (Nat.le_of_ble_eq_true rfl) (Nat.le_of_ble_eq_true rfl)
def f_CR_create (I : q_I) (J : q_J) (P : q_P) (a1 : Int32) (a2 : Int32) (a3 : Int32) (a4 : Int32) (a5 : Int32) (a6 : Int32) : Option (Int32 × q_I × q_J × q_P) :=
  q_b1 (f_CR_isReplica a1) (fun v1 => if v1 = 0 then (some ((-1), I, J, P)) else (q_b1 (f_CR_isStart a2) (fun v2 => if v2 = 0 then (some ((-1), I, J, P)) else (q_b1 (f_CR_isDuration a3) (fun v3 => if v3 = 0 then (some ((-1), I, J, P)) else (q_b1 (f_CR_within a4 0 3) (fun v4 => if v4 = 0 then (some ((-1), I, J, P)) else (q_b1 (f_CR_within a5 1 63) (fun v5 => if v5 = 0 then (some ((-1), I, J, P)) else (q_b1 (f_CR_isWeight a6) (fun v6 => if v6 = 0 then (some ((-1), I, J, P)) else (q_b1 (f_Me_fill I 112 a2 a3 a4 a5 0 1) (fun I1 => q_b4 (f_CR_make I1 J P a1 0 (I1 1 4) 0 a6) (fun v7 I2 J1 P1 => some (v7, I2, J1, P1)))))))))))))))
def y_CR_create : MethodName := ⟨"CalendarReplicas", "create", "(IIIIII)I"⟩
def m_CR_create : q_M := (prog_1_method_6_code, 7, "CalendarReplicas", { frames := 21, cells := 0, slots := 0, locals := 553 }, (some FieldType.int))
theorem yv_CR_create : q_Y y_CR_create m_CR_create 6 := ⟨rfl, ⟨by decide, by decide⟩, by decide +kernel, tw_3_54, tw_1_1⟩
set_option maxRecDepth 100000 in
set_option maxHeartbeats 4000000 in
theorem c_CR_create (l : Launch) (D : va_G) (tc : Nat → ClassId) (x0 y : Nat) (ad : Nat → Nat) (I : q_I) (J : q_J) (P : q_P) (a1 : Int32) (a2 : Int32) (a3 : Int32) (a4 : Int32) (a5 : Int32) (a6 : Int32) : q_Ct l (cG D tc x0 y ad) y_CR_create m_CR_create [q_r (cG D tc x0 y ad) 0, .int a1, .int a2, .int a3, .int a4, .int a5, .int a6] (I, J, P) (f_CR_create I J P a1 a2 a3 a4 a5 a6) (fun r : Int32 × q_I × q_J × q_P => (some (.int r.1), (r.2.1, r.2.2.1, r.2.2.2))) := by
  refine q_Ct_of (cIn D tc x0 y ad) (by decide) rfl (Nat.le_of_ble_eq_true rfl) rfl (fun X hX => ?_)
  subst hX
  unfold f_CR_create
  refine q_iload_n 1 1 1 rfl (by decide +kernel) rfl ?_
  refine q_callS_i 4 rfl (av := [.int a1]) (st := []) (c_CR_isReplica X.1 D tc x0 y ad I J P a1) yv_CR_isReplica tw_3_55 tw_3_56 rfl (Nat.le_of_ble_eq_true rfl) (by decide +kernel) ⟨Nat.le_of_ble_eq_true rfl, Nat.le_of_ble_eq_true rfl⟩ ⟨Nat.le_of_ble_eq_true rfl, Nat.le_of_ble_eq_true rfl⟩ rfl rfl (fun v1 => ?_)
  refine q_if_eq 7 rfl 50 (off := 46) (by decide +kernel) rfl (fun g6 => ?_) (fun g6 => ?_)
  · refine q_iconst (-1) (c := -1) 51 rfl (by decide +kernel) rfl ?_
    exact q_iret (by decide +kernel) rfl rfl (Nat.le_of_ble_eq_true rfl) (Nat.le_of_ble_eq_true rfl)
  · refine q_iload_n 2 2 8 rfl (by decide +kernel) rfl ?_
    refine q_callS_i 11 rfl (av := [.int a2]) (st := []) (c_CR_isStart X.1 D tc x0 y ad I J P a2) yv_CR_isStart tw_3_58 tw_3_59 rfl (Nat.le_of_ble_eq_true rfl) (by decide +kernel) ⟨Nat.le_of_ble_eq_true rfl, Nat.le_of_ble_eq_true rfl⟩ ⟨Nat.le_of_ble_eq_true rfl, Nat.le_of_ble_eq_true rfl⟩ rfl rfl (fun v2 => ?_)
    refine q_if_eq 14 rfl 50 (off := 39) (by decide +kernel) rfl (fun g5 => ?_) (fun g5 => ?_)
    · refine q_iconst (-1) (c := -1) 51 rfl (by decide +kernel) rfl ?_
      exact q_iret (by decide +kernel) rfl rfl (Nat.le_of_ble_eq_true rfl) (Nat.le_of_ble_eq_true rfl)
    · refine q_iload_n 3 3 15 rfl (by decide +kernel) rfl ?_
      refine q_callS_i 18 rfl (av := [.int a3]) (st := []) (c_CR_isDuration X.1 D tc x0 y ad I J P a3) yv_CR_isDuration tw_3_61 tw_3_62 rfl (Nat.le_of_ble_eq_true rfl) (by decide +kernel) ⟨Nat.le_of_ble_eq_true rfl, Nat.le_of_ble_eq_true rfl⟩ ⟨Nat.le_of_ble_eq_true rfl, Nat.le_of_ble_eq_true rfl⟩ rfl rfl (fun v3 => ?_)
      refine q_if_eq 21 rfl 50 (off := 32) (by decide +kernel) rfl (fun g4 => ?_) (fun g4 => ?_)
      · refine q_iconst (-1) (c := -1) 51 rfl (by decide +kernel) rfl ?_
        exact q_iret (by decide +kernel) rfl rfl (Nat.le_of_ble_eq_true rfl) (Nat.le_of_ble_eq_true rfl)
      · refine q_iload 4 4 23 rfl (by decide +kernel) rfl ?_
        refine q_iconst 0 (c := 0) 24 rfl (by decide +kernel) rfl ?_
        refine q_iconst 3 (c := 3) 25 rfl (by decide +kernel) rfl ?_
        refine q_callS_i 28 rfl (av := [.int a4, .int 0, .int 3]) (st := []) (c_CR_within X.1 D tc x0 y ad I J P a4 0 3) yv_CR_within tw_2_134 tw_2_135 rfl (Nat.le_of_ble_eq_true rfl) (by decide +kernel) ⟨Nat.le_of_ble_eq_true rfl, Nat.le_of_ble_eq_true rfl⟩ ⟨Nat.le_of_ble_eq_true rfl, Nat.le_of_ble_eq_true rfl⟩ rfl rfl (fun v4 => ?_)
        refine q_if_eq 31 rfl 50 (off := 22) (by decide +kernel) rfl (fun g3 => ?_) (fun g3 => ?_)
        · refine q_iconst (-1) (c := -1) 51 rfl (by decide +kernel) rfl ?_
          exact q_iret (by decide +kernel) rfl rfl (Nat.le_of_ble_eq_true rfl) (Nat.le_of_ble_eq_true rfl)
        · refine q_iload 5 5 33 rfl (by decide +kernel) rfl ?_
          refine q_iconst 1 (c := 1) 34 rfl (by decide +kernel) rfl ?_
          refine q_bipush 63 (c := 63) 36 rfl (by decide +kernel) rfl ?_
          refine q_callS_i 39 rfl (av := [.int a5, .int 1, .int 63]) (st := []) (c_CR_within X.1 D tc x0 y ad I J P a5 1 63) yv_CR_within tw_2_134 tw_2_135 rfl (Nat.le_of_ble_eq_true rfl) (by decide +kernel) ⟨Nat.le_of_ble_eq_true rfl, Nat.le_of_ble_eq_true rfl⟩ ⟨Nat.le_of_ble_eq_true rfl, Nat.le_of_ble_eq_true rfl⟩ rfl rfl (fun v5 => ?_)
          refine q_if_eq 42 rfl 50 (off := 11) (by decide +kernel) rfl (fun g2 => ?_) (fun g2 => ?_)
          · refine q_iconst (-1) (c := -1) 51 rfl (by decide +kernel) rfl ?_
            exact q_iret (by decide +kernel) rfl rfl (Nat.le_of_ble_eq_true rfl) (Nat.le_of_ble_eq_true rfl)
          · refine q_iload 6 6 44 rfl (by decide +kernel) rfl ?_
            refine q_callS_i 47 rfl (av := [.int a6]) (st := []) (c_CR_isWeight X.1 D tc x0 y ad I J P a6) yv_CR_isWeight tw_3_64 tw_3_65 rfl (Nat.le_of_ble_eq_true rfl) (by decide +kernel) ⟨Nat.le_of_ble_eq_true rfl, Nat.le_of_ble_eq_true rfl⟩ ⟨Nat.le_of_ble_eq_true rfl, Nat.le_of_ble_eq_true rfl⟩ rfl rfl (fun v6 => ?_)
            refine q_if_ne 50 rfl 52 (off := 5) (by decide +kernel) rfl (fun g1 => ?_) (fun g1 => ?_)
            · refine q_aload_n 0 0 53 rfl (by decide +kernel) rfl ?_
              refine q_getr (f := 6) 112 56 rfl (by decide +kernel) (cC_CR D tc x0 y ad) k_CR (by decide) rfl rfl tw_2_108 ?_
              refine q_iload_n 2 2 57 rfl (by decide +kernel) rfl ?_
              refine q_iload_n 3 3 58 rfl (by decide +kernel) rfl ?_
              refine q_iload 4 4 60 rfl (by decide +kernel) rfl ?_
              refine q_iload 5 5 62 rfl (by decide +kernel) rfl ?_
              refine q_iconst 0 (c := 0) 63 rfl (by decide +kernel) rfl ?_
              refine q_iconst 1 (c := 1) 64 rfl (by decide +kernel) rfl ?_
              refine q_callV_vI 67 rfl (av := [.int a2, .int a3, .int a4, .int a5, .int 0, .int 1]) (o := 112) (st := []) (c_Me_fill X.1 D tc x0 y ad I J P k_Me112 a2 a3 a4 a5 0 1) yv_Me_fill tw_3_67 tw_3_68 tw_3_69 (cC_Me D tc x0 y ad) k_Me112 rfl (Nat.le_of_ble_eq_true rfl) (by decide +kernel) ⟨Nat.le_of_ble_eq_true rfl, Nat.le_of_ble_eq_true rfl⟩ ⟨Nat.le_of_ble_eq_true rfl, Nat.le_of_ble_eq_true rfl⟩ rfl rfl (fun I1 => ?_)
              refine q_aload_n 0 0 68 rfl (by decide +kernel) rfl ?_
              refine q_iload_n 1 1 69 rfl (by decide +kernel) rfl ?_
              refine q_iconst 0 (c := 0) 70 rfl (by decide +kernel) rfl ?_
              refine q_aload_n 0 0 71 rfl (by decide +kernel) rfl ?_
              refine q_getr (f := 0) 1 74 rfl (by decide +kernel) (cC_CR D tc x0 y ad) k_CR (by decide) rfl rfl tw_2_102 ?_
              refine q_geti (f := 4) 77 rfl (by decide +kernel) (cC_Wo D tc x0 y ad) k_Wo1.1 (by decide) rfl tw_1_215 ?_
              refine q_iconst 0 (c := 0) 78 rfl (by decide +kernel) rfl ?_
              refine q_iload 6 6 80 rfl (by decide +kernel) rfl ?_
              refine q_callV_iIJP 83 rfl (av := [.int a1, .int 0, .int (I1 1 4), .int 0, .int a6]) (o := 0) (st := []) (c_CR_make X.1 D tc x0 y ad I1 J P a1 0 (I1 1 4) 0 a6) yv_CR_make tw_3_71 tw_3_73 sw_4 (cC_CR D tc x0 y ad) k_CR rfl (Nat.le_of_ble_eq_true rfl) (by decide +kernel) ⟨Nat.le_of_ble_eq_true rfl, Nat.le_of_ble_eq_true rfl⟩ ⟨Nat.le_of_ble_eq_true rfl, Nat.le_of_ble_eq_true rfl⟩ rfl rfl (fun v7 I2 J1 P1 => ?_)
              exact q_iret (by decide +kernel) rfl rfl (Nat.le_of_ble_eq_true rfl) (Nat.le_of_ble_eq_true rfl)
            · refine q_iconst (-1) (c := -1) 51 rfl (by decide +kernel) rfl ?_
              exact q_iret (by decide +kernel) rfl rfl (Nat.le_of_ble_eq_true rfl) (Nat.le_of_ble_eq_true rfl)
def f_CR_hasPlainValues (I : q_I) (a0 : Nat) : Option (Int32) :=
  q_b1 (f_CR_isStart (I a0 1)) (fun v1 => if v1 = 0 then (some (0)) else (q_b1 (f_CR_isDuration (I a0 2)) (fun v2 => if v2 = 0 then (some (0)) else (q_b1 (f_CR_within (I a0 5) 0 48) (fun v3 => if v3 = 0 then (some (0)) else (some (1)))))))
def y_CR_hasPlainValues : MethodName := ⟨"CalendarReplicas", "hasPlainValues", "(LCalendarReplicas$Meeting;)Z"⟩
def m_CR_hasPlainValues : q_M := (prog_1_method_71_code, 1, "CalendarReplicas", { frames := 2, cells := 0, slots := 0, locals := 42 }, (some FieldType.boolean))
theorem yv_CR_hasPlainValues : q_Y y_CR_hasPlainValues m_CR_hasPlainValues 1 := ⟨rfl, ⟨by decide, by decide⟩, by decide +kernel, tw_4_14, tw_1_1⟩
set_option maxRecDepth 100000 in
set_option maxHeartbeats 4000000 in
theorem c_CR_hasPlainValues (l : Launch) (D : va_G) (tc : Nat → ClassId) (x0 y : Nat) (ad : Nat → Nat) (I : q_I) (J : q_J) (P : q_P) {a0 : Nat} (h0 : isMe a0) : q_Ct l (cG D tc x0 y ad) y_CR_hasPlainValues m_CR_hasPlainValues [q_r (cG D tc x0 y ad) a0] (I, J, P) (f_CR_hasPlainValues I a0) (fun r : Int32 => (some (.int r), (I, J, P))) := by
  refine q_Ct_of (cIn D tc x0 y ad) (by decide) rfl (Nat.le_of_ble_eq_true rfl) rfl (fun X hX => ?_)
  subst hX
  unfold f_CR_hasPlainValues
  refine q_aload_n 0 0 1 rfl (by decide +kernel) rfl ?_
  refine q_geti (f := 1) 4 rfl (by decide +kernel) (cC_Me D tc x0 y ad) h0 (by decide) rfl tw_1_104 ?_
  refine q_callS_i 7 rfl (av := [.int (I a0 1)]) (st := []) (c_CR_isStart X.1 D tc x0 y ad I J P (I a0 1)) yv_CR_isStart tw_3_58 tw_3_59 rfl (Nat.le_of_ble_eq_true rfl) (by decide +kernel) ⟨Nat.le_of_ble_eq_true rfl, Nat.le_of_ble_eq_true rfl⟩ ⟨Nat.le_of_ble_eq_true rfl, Nat.le_of_ble_eq_true rfl⟩ rfl rfl (fun v1 => ?_)
  refine q_if_eq 10 rfl 37 (off := 30) (by decide +kernel) rfl (fun g3 => ?_) (fun g3 => ?_)
  · refine q_iconst 0 (c := 0) 38 rfl (by decide +kernel) rfl ?_
    exact q_zret (w := 0) (by decide +kernel) rfl rfl rfl (Nat.le_of_ble_eq_true rfl) (Nat.le_of_ble_eq_true rfl)
  · refine q_aload_n 0 0 11 rfl (by decide +kernel) rfl ?_
    refine q_geti (f := 2) 14 rfl (by decide +kernel) (cC_Me D tc x0 y ad) h0 (by decide) rfl tw_1_110 ?_
    refine q_callS_i 17 rfl (av := [.int (I a0 2)]) (st := []) (c_CR_isDuration X.1 D tc x0 y ad I J P (I a0 2)) yv_CR_isDuration tw_3_61 tw_3_62 rfl (Nat.le_of_ble_eq_true rfl) (by decide +kernel) ⟨Nat.le_of_ble_eq_true rfl, Nat.le_of_ble_eq_true rfl⟩ ⟨Nat.le_of_ble_eq_true rfl, Nat.le_of_ble_eq_true rfl⟩ rfl rfl (fun v2 => ?_)
    refine q_if_eq 20 rfl 37 (off := 20) (by decide +kernel) rfl (fun g2 => ?_) (fun g2 => ?_)
    · refine q_iconst 0 (c := 0) 38 rfl (by decide +kernel) rfl ?_
      exact q_zret (w := 0) (by decide +kernel) rfl rfl rfl (Nat.le_of_ble_eq_true rfl) (Nat.le_of_ble_eq_true rfl)
    · refine q_aload_n 0 0 21 rfl (by decide +kernel) rfl ?_
      refine q_geti (f := 5) 24 rfl (by decide +kernel) (cC_Me D tc x0 y ad) h0 (by decide) rfl tw_1_125 ?_
      refine q_iconst 0 (c := 0) 25 rfl (by decide +kernel) rfl ?_
      refine q_bipush 48 (c := 48) 27 rfl (by decide +kernel) rfl ?_
      refine q_callS_i 30 rfl (av := [.int (I a0 5), .int 0, .int 48]) (st := []) (c_CR_within X.1 D tc x0 y ad I J P (I a0 5) 0 48) yv_CR_within tw_2_134 tw_2_135 rfl (Nat.le_of_ble_eq_true rfl) (by decide +kernel) ⟨Nat.le_of_ble_eq_true rfl, Nat.le_of_ble_eq_true rfl⟩ ⟨Nat.le_of_ble_eq_true rfl, Nat.le_of_ble_eq_true rfl⟩ rfl rfl (fun v3 => ?_)
      refine q_if_eq 33 rfl 37 (off := 7) (by decide +kernel) rfl (fun g1 => ?_) (fun g1 => ?_)
      · refine q_iconst 0 (c := 0) 38 rfl (by decide +kernel) rfl ?_
        exact q_zret (w := 0) (by decide +kernel) rfl rfl rfl (Nat.le_of_ble_eq_true rfl) (Nat.le_of_ble_eq_true rfl)
      · refine q_iconst 1 (c := 1) 34 rfl (by decide +kernel) rfl ?_
        refine q_goto (off := 4) 38 (by decide +kernel) rfl ?_
        exact q_zret (w := 1) (by decide +kernel) rfl rfl rfl (Nat.le_of_ble_eq_true rfl) (Nat.le_of_ble_eq_true rfl)
def f_CR_createFromText (I : q_I) (J : q_J) (P : q_P) (a1 : Int32) : Option (Int32 × q_I × q_J × q_P) :=
  q_b1 (f_CR_isReplica a1) (fun v1 => if v1 = 0 then (some ((-1), I, J, P)) else (q_b2 (f_Des_read I 113) (fun v2 I1 => if v2 = (-4) then (q_b1 (f_CR_hasPlainValues I1 116) (fun v3 => if v3 = 0 then (some ((-1), I1, J, P)) else (q_b1 (f_Me_copyFrom I1 112 116) (fun I2 => q_b4 (f_CR_make I2 J P a1 0 (I2 1 4) 0 (I2 113 2)) (fun v4 I3 J1 P1 => some (v4, I3, J1, P1)))))) else (some ((-1), I1, J, P)))))
def y_CR_createFromText : MethodName := ⟨"CalendarReplicas", "createFromText", "(I)I"⟩
def m_CR_createFromText : q_M := (prog_1_method_7_code, 2, "CalendarReplicas", { frames := 21, cells := 0, slots := 0, locals := 968 }, (some FieldType.int))
theorem yv_CR_createFromText : q_Y y_CR_createFromText m_CR_createFromText 1 := ⟨rfl, ⟨by decide, by decide⟩, by decide +kernel, tw_3_99, tw_1_1⟩
set_option maxRecDepth 100000 in
set_option maxHeartbeats 4000000 in
theorem c_CR_createFromText (l : Launch) (D : va_G) (tc : Nat → ClassId) (x0 y : Nat) (ad : Nat → Nat) (I : q_I) (J : q_J) (P : q_P) (a1 : Int32) : q_Ct l (cG D tc x0 y ad) y_CR_createFromText m_CR_createFromText [q_r (cG D tc x0 y ad) 0, .int a1] (I, J, P) (f_CR_createFromText I J P a1) (fun r : Int32 × q_I × q_J × q_P => (some (.int r.1), (r.2.1, r.2.2.1, r.2.2.2))) := by
  refine q_Ct_of (cIn D tc x0 y ad) (by decide) rfl (Nat.le_of_ble_eq_true rfl) rfl (fun X hX => ?_)
  subst hX
  unfold f_CR_createFromText
  refine q_iload_n 1 1 1 rfl (by decide +kernel) rfl ?_
  refine q_callS_i 4 rfl (av := [.int a1]) (st := []) (c_CR_isReplica X.1 D tc x0 y ad I J P a1) yv_CR_isReplica tw_3_55 tw_3_56 rfl (Nat.le_of_ble_eq_true rfl) (by decide +kernel) ⟨Nat.le_of_ble_eq_true rfl, Nat.le_of_ble_eq_true rfl⟩ ⟨Nat.le_of_ble_eq_true rfl, Nat.le_of_ble_eq_true rfl⟩ rfl rfl (fun v1 => ?_)
  refine q_if_eq 7 rfl 32 (off := 28) (by decide +kernel) rfl (fun g3 => ?_) (fun g3 => ?_)
  · refine q_iconst (-1) (c := -1) 33 rfl (by decide +kernel) rfl ?_
    exact q_iret (by decide +kernel) rfl rfl (Nat.le_of_ble_eq_true rfl) (Nat.le_of_ble_eq_true rfl)
  · refine q_aload_n 0 0 8 rfl (by decide +kernel) rfl ?_
    refine q_getr (f := 7) 113 11 rfl (by decide +kernel) (cC_CR D tc x0 y ad) k_CR (by decide) rfl rfl tw_2_109 ?_
    refine q_callV_iI 14 rfl (av := []) (o := 113) (st := []) (c_Des_read X.1 D tc x0 y ad I J P k_Des113) yv_Des_read tw_3_100 tw_3_101 tw_3_102 (cC_Des D tc x0 y ad) k_Des113.1 rfl (Nat.le_of_ble_eq_true rfl) (by decide +kernel) ⟨Nat.le_of_ble_eq_true rfl, Nat.le_of_ble_eq_true rfl⟩ ⟨Nat.le_of_ble_eq_true rfl, Nat.le_of_ble_eq_true rfl⟩ rfl rfl (fun v2 I1 => ?_)
    refine q_bipush (-4) (c := -4) 16 rfl (by decide +kernel) rfl ?_
    refine q_icmp_ne 19 rfl 32 (off := 16) (by decide +kernel) rfl (fun g2 => ?_) (fun g2 => ?_)
    · refine q_iconst (-1) (c := -1) 33 rfl (by decide +kernel) rfl ?_
      exact q_iret (by decide +kernel) rfl rfl (Nat.le_of_ble_eq_true rfl) (Nat.le_of_ble_eq_true rfl)
    · refine q_aload_n 0 0 20 rfl (by decide +kernel) rfl ?_
      refine q_getr (f := 7) 113 23 rfl (by decide +kernel) (cC_CR D tc x0 y ad) k_CR (by decide) rfl rfl tw_2_109 ?_
      refine q_getr (f := 1) 116 26 rfl (by decide +kernel) (cC_Des D tc x0 y ad) k_Des113.1 (by decide) rfl rfl tw_2_84 ?_
      refine q_callS_i 29 rfl (av := [q_r (cG D tc x0 y ad) 116]) (st := []) (c_CR_hasPlainValues X.1 D tc x0 y ad I1 J P k_Des113.2.2) yv_CR_hasPlainValues tw_4_12 tw_4_13 rfl (Nat.le_of_ble_eq_true rfl) (by decide +kernel) ⟨Nat.le_of_ble_eq_true rfl, Nat.le_of_ble_eq_true rfl⟩ ⟨Nat.le_of_ble_eq_true rfl, Nat.le_of_ble_eq_true rfl⟩ rfl rfl (fun v3 => ?_)
      refine q_if_ne 32 rfl 34 (off := 5) (by decide +kernel) rfl (fun g1 => ?_) (fun g1 => ?_)
      · refine q_aload_n 0 0 35 rfl (by decide +kernel) rfl ?_
        refine q_getr (f := 6) 112 38 rfl (by decide +kernel) (cC_CR D tc x0 y ad) k_CR (by decide) rfl rfl tw_2_108 ?_
        refine q_aload_n 0 0 39 rfl (by decide +kernel) rfl ?_
        refine q_getr (f := 7) 113 42 rfl (by decide +kernel) (cC_CR D tc x0 y ad) k_CR (by decide) rfl rfl tw_2_109 ?_
        refine q_getr (f := 1) 116 45 rfl (by decide +kernel) (cC_Des D tc x0 y ad) k_Des113.1 (by decide) rfl rfl tw_2_84 ?_
        refine q_callV_vI 48 rfl (av := [q_r (cG D tc x0 y ad) 116]) (o := 112) (st := []) (c_Me_copyFrom X.1 D tc x0 y ad I1 J P k_Me112 k_Des113.2.2) yv_Me_copyFrom tw_3_83 tw_2_210 tw_2_211 (cC_Me D tc x0 y ad) k_Me112 rfl (Nat.le_of_ble_eq_true rfl) (by decide +kernel) ⟨Nat.le_of_ble_eq_true rfl, Nat.le_of_ble_eq_true rfl⟩ ⟨Nat.le_of_ble_eq_true rfl, Nat.le_of_ble_eq_true rfl⟩ rfl rfl (fun I2 => ?_)
        refine q_aload_n 0 0 49 rfl (by decide +kernel) rfl ?_
        refine q_iload_n 1 1 50 rfl (by decide +kernel) rfl ?_
        refine q_iconst 0 (c := 0) 51 rfl (by decide +kernel) rfl ?_
        refine q_aload_n 0 0 52 rfl (by decide +kernel) rfl ?_
        refine q_getr (f := 0) 1 55 rfl (by decide +kernel) (cC_CR D tc x0 y ad) k_CR (by decide) rfl rfl tw_2_102 ?_
        refine q_geti (f := 4) 58 rfl (by decide +kernel) (cC_Wo D tc x0 y ad) k_Wo1.1 (by decide) rfl tw_1_215 ?_
        refine q_iconst 0 (c := 0) 59 rfl (by decide +kernel) rfl ?_
        refine q_aload_n 0 0 60 rfl (by decide +kernel) rfl ?_
        refine q_getr (f := 7) 113 63 rfl (by decide +kernel) (cC_CR D tc x0 y ad) k_CR (by decide) rfl rfl tw_2_109 ?_
        refine q_geti (f := 2) 66 rfl (by decide +kernel) (cC_Des D tc x0 y ad) k_Des113.1 (by decide) rfl tw_2_86 ?_
        refine q_callV_iIJP 69 rfl (av := [.int a1, .int 0, .int (I2 1 4), .int 0, .int (I2 113 2)]) (o := 0) (st := []) (c_CR_make X.1 D tc x0 y ad I2 J P a1 0 (I2 1 4) 0 (I2 113 2)) yv_CR_make tw_3_71 tw_3_73 sw_4 (cC_CR D tc x0 y ad) k_CR rfl (Nat.le_of_ble_eq_true rfl) (by decide +kernel) ⟨Nat.le_of_ble_eq_true rfl, Nat.le_of_ble_eq_true rfl⟩ ⟨Nat.le_of_ble_eq_true rfl, Nat.le_of_ble_eq_true rfl⟩ rfl rfl (fun v4 I3 J1 P1 => ?_)
        exact q_iret (by decide +kernel) rfl rfl (Nat.le_of_ble_eq_true rfl) (Nat.le_of_ble_eq_true rfl)
      · refine q_iconst (-1) (c := -1) 33 rfl (by decide +kernel) rfl ?_
        exact q_iret (by decide +kernel) rfl rfl (Nat.le_of_ble_eq_true rfl) (Nat.le_of_ble_eq_true rfl)
def f_CR_show (I : q_I) (P : q_P) (a1 : Int32) : Option (q_I × q_P) :=
  q_ix a1 3 (fun j1 => q_b2 (f_Wo_form I P 1 (I 26 j1) 83 24) (fun I1 P1 => some (I1, P1)))
def y_CR_show : MethodName := ⟨"CalendarReplicas", "show", "(I)V"⟩
def m_CR_show : q_M := (prog_1_method_29_code, 2, "CalendarReplicas", { frames := 3, cells := 0, slots := 0, locals := 87 }, (none : Option FieldType))
theorem yv_CR_show : q_Y y_CR_show m_CR_show 1 := ⟨rfl, ⟨by decide, by decide⟩, by decide +kernel, tw_4_30, tw_1_1⟩
set_option maxRecDepth 100000 in
set_option maxHeartbeats 4000000 in
theorem c_CR_show (l : Launch) (D : va_G) (tc : Nat → ClassId) (x0 y : Nat) (ad : Nat → Nat) (I : q_I) (J : q_J) (P : q_P) (a1 : Int32) : q_Ct l (cG D tc x0 y ad) y_CR_show m_CR_show [q_r (cG D tc x0 y ad) 0, .int a1] (I, J, P) (f_CR_show I P a1) (fun r : q_I × q_P => (none, (r.1, J, r.2))) := by
  refine q_Ct_of (cIn D tc x0 y ad) (by decide) rfl (Nat.le_of_ble_eq_true rfl) rfl (fun X hX => ?_)
  subst hX
  unfold f_CR_show
  refine q_aload_n 0 0 1 rfl (by decide +kernel) rfl ?_
  refine q_getr (f := 0) 1 4 rfl (by decide +kernel) (cC_CR D tc x0 y ad) k_CR (by decide) rfl rfl tw_2_102 ?_
  refine q_aload_n 0 0 5 rfl (by decide +kernel) rfl ?_
  refine q_getr (f := 0) 1 8 rfl (by decide +kernel) (cC_CR D tc x0 y ad) k_CR (by decide) rfl rfl tw_2_102 ?_
  refine q_getr (f := 6) 26 11 rfl (by decide +kernel) (cC_Wo D tc x0 y ad) k_Wo1.1 (by decide) rfl rfl tw_1_219 ?_
  refine q_iload_n 1 1 12 rfl (by decide +kernel) rfl ?_
  refine q_iald (t := 0) 13 rfl (by decide +kernel) k_Wo1.2.2.2.2.2.1 rfl (fun j1 hj1 => ?_)
  refine q_aload_n 0 0 14 rfl (by decide +kernel) rfl ?_
  refine q_getr (f := 4) 83 17 rfl (by decide +kernel) (cC_CR D tc x0 y ad) k_CR (by decide) rfl rfl tw_2_106 ?_
  refine q_callV_vIP 20 rfl (av := [.int (I 26 j1), q_r (cG D tc x0 y ad) 83]) (o := 1) (st := []) (c_Wo_form X.1 D tc x0 y ad I J P k_Wo1 (I 26 j1) k_Cal83) yv_Wo_form tw_4_31 tw_2_199 tw_2_200 (cC_Wo D tc x0 y ad) k_Wo1.1 rfl (Nat.le_of_ble_eq_true rfl) (by decide +kernel) ⟨Nat.le_of_ble_eq_true rfl, Nat.le_of_ble_eq_true rfl⟩ ⟨Nat.le_of_ble_eq_true rfl, Nat.le_of_ble_eq_true rfl⟩ rfl rfl (fun I1 P1 => ?_)
  exact q_vret (by decide +kernel) rfl rfl (Nat.le_of_ble_eq_true rfl) (Nat.le_of_ble_eq_true rfl)
def f_CR_find (I : q_I) (P : q_P) (a1 : Int32) (a2 : Int32) : Option (Option Nat × q_I × q_P) :=
  q_b1 (f_CR_isReplica a1) (fun v1 => if v1 = 0 then (some ((none : Option Nat), I, P)) else (q_b2 (f_CR_show I P a1) (fun I1 P1 => q_b1 (f_Cal_find I1 P1 83 24 a2) (fun r1 => some ((r1 : Option Nat), I1, P1)))))
def y_CR_find : MethodName := ⟨"CalendarReplicas", "find", "(II)LCalendarReplicas$Meeting;"⟩
def m_CR_find : q_M := (prog_1_method_30_code, 3, "CalendarReplicas", { frames := 4, cells := 0, slots := 0, locals := 108 }, (Option.some (FieldType.object "CalendarReplicas$Meeting")))
theorem yv_CR_find : q_Y y_CR_find m_CR_find 2 := ⟨rfl, ⟨by decide, by decide⟩, by decide +kernel, tw_4_26, tw_1_1⟩
set_option maxRecDepth 100000 in
set_option maxHeartbeats 4000000 in
theorem c_CR_find (l : Launch) (D : va_G) (tc : Nat → ClassId) (x0 y : Nat) (ad : Nat → Nat) (I : q_I) (J : q_J) (P : q_P) (a1 : Int32) (a2 : Int32) : q_Ct l (cG D tc x0 y ad) y_CR_find m_CR_find [q_r (cG D tc x0 y ad) 0, .int a1, .int a2] (I, J, P) (f_CR_find I P a1 a2) (fun r : Option Nat × q_I × q_P => (some (q_rn (cG D tc x0 y ad) r.1), (r.2.1, J, r.2.2))) := by
  refine q_Ct_of (cIn D tc x0 y ad) (by decide) rfl (Nat.le_of_ble_eq_true rfl) rfl (fun X hX => ?_)
  subst hX
  unfold f_CR_find
  refine q_iload_n 1 1 1 rfl (by decide +kernel) rfl ?_
  refine q_callS_i 4 rfl (av := [.int a1]) (st := []) (c_CR_isReplica X.1 D tc x0 y ad I J P a1) yv_CR_isReplica tw_3_55 tw_3_56 rfl (Nat.le_of_ble_eq_true rfl) (by decide +kernel) ⟨Nat.le_of_ble_eq_true rfl, Nat.le_of_ble_eq_true rfl⟩ ⟨Nat.le_of_ble_eq_true rfl, Nat.le_of_ble_eq_true rfl⟩ rfl rfl (fun v1 => ?_)
  refine q_if_ne 7 rfl 9 (off := 5) (by decide +kernel) rfl (fun g1 => ?_) (fun g1 => ?_)
  · refine q_aload_n 0 0 10 rfl (by decide +kernel) rfl ?_
    refine q_iload_n 1 1 11 rfl (by decide +kernel) rfl ?_
    refine q_callV_vIP 14 rfl (av := [.int a1]) (o := 0) (st := []) (c_CR_show X.1 D tc x0 y ad I J P a1) yv_CR_show tw_4_27 tw_4_29 sw_18 (cC_CR D tc x0 y ad) k_CR rfl (Nat.le_of_ble_eq_true rfl) (by decide +kernel) ⟨Nat.le_of_ble_eq_true rfl, Nat.le_of_ble_eq_true rfl⟩ ⟨Nat.le_of_ble_eq_true rfl, Nat.le_of_ble_eq_true rfl⟩ rfl rfl (fun I1 P1 => ?_)
    refine q_aload_n 0 0 15 rfl (by decide +kernel) rfl ?_
    refine q_getr (f := 4) 83 18 rfl (by decide +kernel) (cC_CR D tc x0 y ad) k_CR (by decide) rfl rfl tw_2_106 ?_
    refine q_iload_n 2 2 19 rfl (by decide +kernel) rfl ?_
    refine q_callV_q 22 rfl (av := [.int a2]) (o := 83) (st := []) (c_Cal_find X.1 D tc x0 y ad I1 J P1 k_Cal83 a2) yv_Cal_find tw_4_32 tw_2_157 tw_2_158 (cC_Cal D tc x0 y ad) k_Cal83.1 rfl (Nat.le_of_ble_eq_true rfl) (by decide +kernel) ⟨Nat.le_of_ble_eq_true rfl, Nat.le_of_ble_eq_true rfl⟩ ⟨Nat.le_of_ble_eq_true rfl, Nat.le_of_ble_eq_true rfl⟩ rfl rfl (fun r1 => ?_)
    exact q_aret (x := r1) (by decide +kernel) rfl rfl (Nat.le_of_ble_eq_true rfl) (Nat.le_of_ble_eq_true rfl)
  · refine q_null 8 rfl (by decide +kernel) ?_
    exact q_aret (x := none) (by decide +kernel) rfl rfl (Nat.le_of_ble_eq_true rfl) (Nat.le_of_ble_eq_true rfl)
def f_CR_isChangeable (I : q_I) (P : q_P) (a1 : Int32) (a2 : Int32) (a3 : Int32) : Option (Int32 × q_I × q_P) :=
  q_b3 (f_CR_find I P a1 a2) (fun r1 I1 P1 => (r1).elim (some (0, I1, P1)) (fun b1 => q_ck (cM b1) (q_b1 (f_CR_isWeight a3) (fun v1 => if v1 = 0 then (some (0, I1, P1)) else (some (1, I1, P1))))))
def y_CR_isChangeable : MethodName := ⟨"CalendarReplicas", "isChangeable", "(III)Z"⟩
def m_CR_isChangeable : q_M := (prog_1_method_14_code, 4, "CalendarReplicas", { frames := 5, cells := 0, slots := 0, locals := 130 }, (some FieldType.boolean))
theorem yv_CR_isChangeable : q_Y y_CR_isChangeable m_CR_isChangeable 3 := ⟨rfl, ⟨by decide, by decide⟩, by decide +kernel, tw_4_22, tw_1_1⟩
set_option maxRecDepth 100000 in
set_option maxHeartbeats 4000000 in
theorem c_CR_isChangeable (l : Launch) (D : va_G) (tc : Nat → ClassId) (x0 y : Nat) (ad : Nat → Nat) (I : q_I) (J : q_J) (P : q_P) (a1 : Int32) (a2 : Int32) (a3 : Int32) : q_Ct l (cG D tc x0 y ad) y_CR_isChangeable m_CR_isChangeable [q_r (cG D tc x0 y ad) 0, .int a1, .int a2, .int a3] (I, J, P) (f_CR_isChangeable I P a1 a2 a3) (fun r : Int32 × q_I × q_P => (some (.int r.1), (r.2.1, J, r.2.2))) := by
  refine q_Ct_of (cIn D tc x0 y ad) (by decide) rfl (Nat.le_of_ble_eq_true rfl) rfl (fun X hX => ?_)
  subst hX
  unfold f_CR_isChangeable
  refine q_aload_n 0 0 1 rfl (by decide +kernel) rfl ?_
  refine q_iload_n 1 1 2 rfl (by decide +kernel) rfl ?_
  refine q_iload_n 2 2 3 rfl (by decide +kernel) rfl ?_
  refine q_callV_qIP 6 rfl (av := [.int a1, .int a2]) (o := 0) (st := []) (c_CR_find X.1 D tc x0 y ad I J P a1 a2) yv_CR_find tw_4_23 tw_4_25 sw_17 (cC_CR D tc x0 y ad) k_CR rfl (Nat.le_of_ble_eq_true rfl) (by decide +kernel) ⟨Nat.le_of_ble_eq_true rfl, Nat.le_of_ble_eq_true rfl⟩ ⟨Nat.le_of_ble_eq_true rfl, Nat.le_of_ble_eq_true rfl⟩ rfl rfl (fun r1 I1 P1 => ?_)
  refine q_ifnull 9 rfl 20 (off := 14) (by decide +kernel) rfl (fun he_b1 => ?_) (fun b1 he_b1 => ?_)
  · subst he_b1
    refine q_iconst 0 (c := 0) 21 rfl (by decide +kernel) rfl ?_
    exact q_zret (w := 0) (by decide +kernel) rfl rfl rfl (Nat.le_of_ble_eq_true rfl) (Nat.le_of_ble_eq_true rfl)
  · subst he_b1
    refine q_ckV (fun hc_b1 => ?_)
    refine q_iload_n 3 3 10 rfl (by decide +kernel) rfl ?_
    refine q_callS_i 13 rfl (av := [.int a3]) (st := []) (c_CR_isWeight X.1 D tc x0 y ad I1 J P1 a3) yv_CR_isWeight tw_3_64 tw_3_65 rfl (Nat.le_of_ble_eq_true rfl) (by decide +kernel) ⟨Nat.le_of_ble_eq_true rfl, Nat.le_of_ble_eq_true rfl⟩ ⟨Nat.le_of_ble_eq_true rfl, Nat.le_of_ble_eq_true rfl⟩ rfl rfl (fun v1 => ?_)
    refine q_if_eq 16 rfl 20 (off := 7) (by decide +kernel) rfl (fun g1 => ?_) (fun g1 => ?_)
    · refine q_iconst 0 (c := 0) 21 rfl (by decide +kernel) rfl ?_
      exact q_zret (w := 0) (by decide +kernel) rfl rfl rfl (Nat.le_of_ble_eq_true rfl) (Nat.le_of_ble_eq_true rfl)
    · refine q_iconst 1 (c := 1) 17 rfl (by decide +kernel) rfl ?_
      refine q_goto (off := 4) 21 (by decide +kernel) rfl ?_
      exact q_zret (w := 1) (by decide +kernel) rfl rfl rfl (Nat.le_of_ble_eq_true rfl) (Nat.le_of_ble_eq_true rfl)
def f_CR_move (I : q_I) (J : q_J) (P : q_P) (a1 : Int32) (a2 : Int32) (a3 : Int32) (a4 : Int32) : Option (Int32 × q_I × q_J × q_P) :=
  q_b1 (f_CR_isStart a3) (fun v1 => if v1 = 0 then (some ((-1), I, J, P)) else (q_b3 (f_CR_isChangeable I P a1 a2 a4) (fun v2 I1 P1 => if v2 = 0 then (some ((-1), I1, J, P1)) else (q_b4 (f_CR_make I1 J P1 a1 1 a2 a3 a4) (fun v3 I2 J1 P2 => some (v3, I2, J1, P2))))))
def y_CR_move : MethodName := ⟨"CalendarReplicas", "move", "(IIII)I"⟩
def m_CR_move : q_M := (prog_1_method_8_code, 5, "CalendarReplicas", { frames := 21, cells := 0, slots := 0, locals := 553 }, (some FieldType.int))
theorem yv_CR_move : q_Y y_CR_move m_CR_move 4 := ⟨rfl, ⟨by decide, by decide⟩, by decide +kernel, tw_4_18, tw_1_1⟩
set_option maxRecDepth 100000 in
set_option maxHeartbeats 4000000 in
theorem c_CR_move (l : Launch) (D : va_G) (tc : Nat → ClassId) (x0 y : Nat) (ad : Nat → Nat) (I : q_I) (J : q_J) (P : q_P) (a1 : Int32) (a2 : Int32) (a3 : Int32) (a4 : Int32) : q_Ct l (cG D tc x0 y ad) y_CR_move m_CR_move [q_r (cG D tc x0 y ad) 0, .int a1, .int a2, .int a3, .int a4] (I, J, P) (f_CR_move I J P a1 a2 a3 a4) (fun r : Int32 × q_I × q_J × q_P => (some (.int r.1), (r.2.1, r.2.2.1, r.2.2.2))) := by
  refine q_Ct_of (cIn D tc x0 y ad) (by decide) rfl (Nat.le_of_ble_eq_true rfl) rfl (fun X hX => ?_)
  subst hX
  unfold f_CR_move
  refine q_iload_n 3 3 1 rfl (by decide +kernel) rfl ?_
  refine q_callS_i 4 rfl (av := [.int a3]) (st := []) (c_CR_isStart X.1 D tc x0 y ad I J P a3) yv_CR_isStart tw_3_58 tw_3_59 rfl (Nat.le_of_ble_eq_true rfl) (by decide +kernel) ⟨Nat.le_of_ble_eq_true rfl, Nat.le_of_ble_eq_true rfl⟩ ⟨Nat.le_of_ble_eq_true rfl, Nat.le_of_ble_eq_true rfl⟩ rfl rfl (fun v1 => ?_)
  refine q_if_eq 7 rfl 18 (off := 14) (by decide +kernel) rfl (fun g2 => ?_) (fun g2 => ?_)
  · refine q_iconst (-1) (c := -1) 19 rfl (by decide +kernel) rfl ?_
    exact q_iret (by decide +kernel) rfl rfl (Nat.le_of_ble_eq_true rfl) (Nat.le_of_ble_eq_true rfl)
  · refine q_aload_n 0 0 8 rfl (by decide +kernel) rfl ?_
    refine q_iload_n 1 1 9 rfl (by decide +kernel) rfl ?_
    refine q_iload_n 2 2 10 rfl (by decide +kernel) rfl ?_
    refine q_iload 4 4 12 rfl (by decide +kernel) rfl ?_
    refine q_callV_iIP 15 rfl (av := [.int a1, .int a2, .int a4]) (o := 0) (st := []) (c_CR_isChangeable X.1 D tc x0 y ad I J P a1 a2 a4) yv_CR_isChangeable tw_4_19 tw_4_21 sw_16 (cC_CR D tc x0 y ad) k_CR rfl (Nat.le_of_ble_eq_true rfl) (by decide +kernel) ⟨Nat.le_of_ble_eq_true rfl, Nat.le_of_ble_eq_true rfl⟩ ⟨Nat.le_of_ble_eq_true rfl, Nat.le_of_ble_eq_true rfl⟩ rfl rfl (fun v2 I1 P1 => ?_)
    refine q_if_ne 18 rfl 20 (off := 5) (by decide +kernel) rfl (fun g1 => ?_) (fun g1 => ?_)
    · refine q_aload_n 0 0 21 rfl (by decide +kernel) rfl ?_
      refine q_iload_n 1 1 22 rfl (by decide +kernel) rfl ?_
      refine q_iconst 1 (c := 1) 23 rfl (by decide +kernel) rfl ?_
      refine q_iload_n 2 2 24 rfl (by decide +kernel) rfl ?_
      refine q_iload_n 3 3 25 rfl (by decide +kernel) rfl ?_
      refine q_iload 4 4 27 rfl (by decide +kernel) rfl ?_
      refine q_callV_iIJP 30 rfl (av := [.int a1, .int 1, .int a2, .int a3, .int a4]) (o := 0) (st := []) (c_CR_make X.1 D tc x0 y ad I1 J P1 a1 1 a2 a3 a4) yv_CR_make tw_3_71 tw_3_73 sw_4 (cC_CR D tc x0 y ad) k_CR rfl (Nat.le_of_ble_eq_true rfl) (by decide +kernel) ⟨Nat.le_of_ble_eq_true rfl, Nat.le_of_ble_eq_true rfl⟩ ⟨Nat.le_of_ble_eq_true rfl, Nat.le_of_ble_eq_true rfl⟩ rfl rfl (fun v3 I2 J1 P2 => ?_)
      exact q_iret (by decide +kernel) rfl rfl (Nat.le_of_ble_eq_true rfl) (Nat.le_of_ble_eq_true rfl)
    · refine q_iconst (-1) (c := -1) 19 rfl (by decide +kernel) rfl ?_
      exact q_iret (by decide +kernel) rfl rfl (Nat.le_of_ble_eq_true rfl) (Nat.le_of_ble_eq_true rfl)
def f_CR_changeRoom (I : q_I) (J : q_J) (P : q_P) (a1 : Int32) (a2 : Int32) (a3 : Int32) (a4 : Int32) : Option (Int32 × q_I × q_J × q_P) :=
  q_b1 (f_CR_within a3 0 3) (fun v1 => if v1 = 0 then (some ((-1), I, J, P)) else (q_b3 (f_CR_isChangeable I P a1 a2 a4) (fun v2 I1 P1 => if v2 = 0 then (some ((-1), I1, J, P1)) else (q_b4 (f_CR_make I1 J P1 a1 2 a2 a3 a4) (fun v3 I2 J1 P2 => some (v3, I2, J1, P2))))))
def y_CR_changeRoom : MethodName := ⟨"CalendarReplicas", "changeRoom", "(IIII)I"⟩
def m_CR_changeRoom : q_M := (prog_1_method_9_code, 5, "CalendarReplicas", { frames := 21, cells := 0, slots := 0, locals := 553 }, (some FieldType.int))
theorem yv_CR_changeRoom : q_Y y_CR_changeRoom m_CR_changeRoom 4 := ⟨rfl, ⟨by decide, by decide⟩, by decide +kernel, tw_4_36, tw_1_1⟩
set_option maxRecDepth 100000 in
set_option maxHeartbeats 4000000 in
theorem c_CR_changeRoom (l : Launch) (D : va_G) (tc : Nat → ClassId) (x0 y : Nat) (ad : Nat → Nat) (I : q_I) (J : q_J) (P : q_P) (a1 : Int32) (a2 : Int32) (a3 : Int32) (a4 : Int32) : q_Ct l (cG D tc x0 y ad) y_CR_changeRoom m_CR_changeRoom [q_r (cG D tc x0 y ad) 0, .int a1, .int a2, .int a3, .int a4] (I, J, P) (f_CR_changeRoom I J P a1 a2 a3 a4) (fun r : Int32 × q_I × q_J × q_P => (some (.int r.1), (r.2.1, r.2.2.1, r.2.2.2))) := by
  refine q_Ct_of (cIn D tc x0 y ad) (by decide) rfl (Nat.le_of_ble_eq_true rfl) rfl (fun X hX => ?_)
  subst hX
  unfold f_CR_changeRoom
  refine q_iload_n 3 3 1 rfl (by decide +kernel) rfl ?_
  refine q_iconst 0 (c := 0) 2 rfl (by decide +kernel) rfl ?_
  refine q_iconst 3 (c := 3) 3 rfl (by decide +kernel) rfl ?_
  refine q_callS_i 6 rfl (av := [.int a3, .int 0, .int 3]) (st := []) (c_CR_within X.1 D tc x0 y ad I J P a3 0 3) yv_CR_within tw_2_134 tw_2_135 rfl (Nat.le_of_ble_eq_true rfl) (by decide +kernel) ⟨Nat.le_of_ble_eq_true rfl, Nat.le_of_ble_eq_true rfl⟩ ⟨Nat.le_of_ble_eq_true rfl, Nat.le_of_ble_eq_true rfl⟩ rfl rfl (fun v1 => ?_)
  refine q_if_eq 9 rfl 20 (off := 14) (by decide +kernel) rfl (fun g2 => ?_) (fun g2 => ?_)
  · refine q_iconst (-1) (c := -1) 21 rfl (by decide +kernel) rfl ?_
    exact q_iret (by decide +kernel) rfl rfl (Nat.le_of_ble_eq_true rfl) (Nat.le_of_ble_eq_true rfl)
  · refine q_aload_n 0 0 10 rfl (by decide +kernel) rfl ?_
    refine q_iload_n 1 1 11 rfl (by decide +kernel) rfl ?_
    refine q_iload_n 2 2 12 rfl (by decide +kernel) rfl ?_
    refine q_iload 4 4 14 rfl (by decide +kernel) rfl ?_
    refine q_callV_iIP 17 rfl (av := [.int a1, .int a2, .int a4]) (o := 0) (st := []) (c_CR_isChangeable X.1 D tc x0 y ad I J P a1 a2 a4) yv_CR_isChangeable tw_4_19 tw_4_21 sw_16 (cC_CR D tc x0 y ad) k_CR rfl (Nat.le_of_ble_eq_true rfl) (by decide +kernel) ⟨Nat.le_of_ble_eq_true rfl, Nat.le_of_ble_eq_true rfl⟩ ⟨Nat.le_of_ble_eq_true rfl, Nat.le_of_ble_eq_true rfl⟩ rfl rfl (fun v2 I1 P1 => ?_)
    refine q_if_ne 20 rfl 22 (off := 5) (by decide +kernel) rfl (fun g1 => ?_) (fun g1 => ?_)
    · refine q_aload_n 0 0 23 rfl (by decide +kernel) rfl ?_
      refine q_iload_n 1 1 24 rfl (by decide +kernel) rfl ?_
      refine q_iconst 2 (c := 2) 25 rfl (by decide +kernel) rfl ?_
      refine q_iload_n 2 2 26 rfl (by decide +kernel) rfl ?_
      refine q_iload_n 3 3 27 rfl (by decide +kernel) rfl ?_
      refine q_iload 4 4 29 rfl (by decide +kernel) rfl ?_
      refine q_callV_iIJP 32 rfl (av := [.int a1, .int 2, .int a2, .int a3, .int a4]) (o := 0) (st := []) (c_CR_make X.1 D tc x0 y ad I1 J P1 a1 2 a2 a3 a4) yv_CR_make tw_3_71 tw_3_73 sw_4 (cC_CR D tc x0 y ad) k_CR rfl (Nat.le_of_ble_eq_true rfl) (by decide +kernel) ⟨Nat.le_of_ble_eq_true rfl, Nat.le_of_ble_eq_true rfl⟩ ⟨Nat.le_of_ble_eq_true rfl, Nat.le_of_ble_eq_true rfl⟩ rfl rfl (fun v3 I2 J1 P2 => ?_)
      exact q_iret (by decide +kernel) rfl rfl (Nat.le_of_ble_eq_true rfl) (Nat.le_of_ble_eq_true rfl)
    · refine q_iconst (-1) (c := -1) 21 rfl (by decide +kernel) rfl ?_
      exact q_iret (by decide +kernel) rfl rfl (Nat.le_of_ble_eq_true rfl) (Nat.le_of_ble_eq_true rfl)
def f_CR_resize (I : q_I) (J : q_J) (P : q_P) (a1 : Int32) (a2 : Int32) (a3 : Int32) (a4 : Int32) : Option (Int32 × q_I × q_J × q_P) :=
  q_b1 (f_CR_isDuration a3) (fun v1 => if v1 = 0 then (some ((-1), I, J, P)) else (q_b3 (f_CR_isChangeable I P a1 a2 a4) (fun v2 I1 P1 => if v2 = 0 then (some ((-1), I1, J, P1)) else (q_b4 (f_CR_make I1 J P1 a1 3 a2 a3 a4) (fun v3 I2 J1 P2 => some (v3, I2, J1, P2))))))
def y_CR_resize : MethodName := ⟨"CalendarReplicas", "resize", "(IIII)I"⟩
def m_CR_resize : q_M := (prog_1_method_10_code, 5, "CalendarReplicas", { frames := 21, cells := 0, slots := 0, locals := 553 }, (some FieldType.int))
theorem yv_CR_resize : q_Y y_CR_resize m_CR_resize 4 := ⟨rfl, ⟨by decide, by decide⟩, by decide +kernel, tw_4_40, tw_1_1⟩
set_option maxRecDepth 100000 in
set_option maxHeartbeats 4000000 in
theorem c_CR_resize (l : Launch) (D : va_G) (tc : Nat → ClassId) (x0 y : Nat) (ad : Nat → Nat) (I : q_I) (J : q_J) (P : q_P) (a1 : Int32) (a2 : Int32) (a3 : Int32) (a4 : Int32) : q_Ct l (cG D tc x0 y ad) y_CR_resize m_CR_resize [q_r (cG D tc x0 y ad) 0, .int a1, .int a2, .int a3, .int a4] (I, J, P) (f_CR_resize I J P a1 a2 a3 a4) (fun r : Int32 × q_I × q_J × q_P => (some (.int r.1), (r.2.1, r.2.2.1, r.2.2.2))) := by
  refine q_Ct_of (cIn D tc x0 y ad) (by decide) rfl (Nat.le_of_ble_eq_true rfl) rfl (fun X hX => ?_)
  subst hX
  unfold f_CR_resize
  refine q_iload_n 3 3 1 rfl (by decide +kernel) rfl ?_
  refine q_callS_i 4 rfl (av := [.int a3]) (st := []) (c_CR_isDuration X.1 D tc x0 y ad I J P a3) yv_CR_isDuration tw_3_61 tw_3_62 rfl (Nat.le_of_ble_eq_true rfl) (by decide +kernel) ⟨Nat.le_of_ble_eq_true rfl, Nat.le_of_ble_eq_true rfl⟩ ⟨Nat.le_of_ble_eq_true rfl, Nat.le_of_ble_eq_true rfl⟩ rfl rfl (fun v1 => ?_)
  refine q_if_eq 7 rfl 18 (off := 14) (by decide +kernel) rfl (fun g2 => ?_) (fun g2 => ?_)
  · refine q_iconst (-1) (c := -1) 19 rfl (by decide +kernel) rfl ?_
    exact q_iret (by decide +kernel) rfl rfl (Nat.le_of_ble_eq_true rfl) (Nat.le_of_ble_eq_true rfl)
  · refine q_aload_n 0 0 8 rfl (by decide +kernel) rfl ?_
    refine q_iload_n 1 1 9 rfl (by decide +kernel) rfl ?_
    refine q_iload_n 2 2 10 rfl (by decide +kernel) rfl ?_
    refine q_iload 4 4 12 rfl (by decide +kernel) rfl ?_
    refine q_callV_iIP 15 rfl (av := [.int a1, .int a2, .int a4]) (o := 0) (st := []) (c_CR_isChangeable X.1 D tc x0 y ad I J P a1 a2 a4) yv_CR_isChangeable tw_4_19 tw_4_21 sw_16 (cC_CR D tc x0 y ad) k_CR rfl (Nat.le_of_ble_eq_true rfl) (by decide +kernel) ⟨Nat.le_of_ble_eq_true rfl, Nat.le_of_ble_eq_true rfl⟩ ⟨Nat.le_of_ble_eq_true rfl, Nat.le_of_ble_eq_true rfl⟩ rfl rfl (fun v2 I1 P1 => ?_)
    refine q_if_ne 18 rfl 20 (off := 5) (by decide +kernel) rfl (fun g1 => ?_) (fun g1 => ?_)
    · refine q_aload_n 0 0 21 rfl (by decide +kernel) rfl ?_
      refine q_iload_n 1 1 22 rfl (by decide +kernel) rfl ?_
      refine q_iconst 3 (c := 3) 23 rfl (by decide +kernel) rfl ?_
      refine q_iload_n 2 2 24 rfl (by decide +kernel) rfl ?_
      refine q_iload_n 3 3 25 rfl (by decide +kernel) rfl ?_
      refine q_iload 4 4 27 rfl (by decide +kernel) rfl ?_
      refine q_callV_iIJP 30 rfl (av := [.int a1, .int 3, .int a2, .int a3, .int a4]) (o := 0) (st := []) (c_CR_make X.1 D tc x0 y ad I1 J P1 a1 3 a2 a3 a4) yv_CR_make tw_3_71 tw_3_73 sw_4 (cC_CR D tc x0 y ad) k_CR rfl (Nat.le_of_ble_eq_true rfl) (by decide +kernel) ⟨Nat.le_of_ble_eq_true rfl, Nat.le_of_ble_eq_true rfl⟩ ⟨Nat.le_of_ble_eq_true rfl, Nat.le_of_ble_eq_true rfl⟩ rfl rfl (fun v3 I2 J1 P2 => ?_)
      exact q_iret (by decide +kernel) rfl rfl (Nat.le_of_ble_eq_true rfl) (Nat.le_of_ble_eq_true rfl)
    · refine q_iconst (-1) (c := -1) 19 rfl (by decide +kernel) rfl ?_
      exact q_iret (by decide +kernel) rfl rfl (Nat.le_of_ble_eq_true rfl) (Nat.le_of_ble_eq_true rfl)
def f_CR_join (I : q_I) (J : q_J) (P : q_P) (a1 : Int32) (a2 : Int32) (a3 : Int32) (a4 : Int32) : Option (Int32 × q_I × q_J × q_P) :=
  q_b1 (f_CR_within a3 0 5) (fun v1 => if v1 = 0 then (some ((-1), I, J, P)) else (q_b3 (f_CR_isChangeable I P a1 a2 a4) (fun v2 I1 P1 => if v2 = 0 then (some ((-1), I1, J, P1)) else (q_b4 (f_CR_make I1 J P1 a1 4 a2 a3 a4) (fun v3 I2 J1 P2 => some (v3, I2, J1, P2))))))
def y_CR_join : MethodName := ⟨"CalendarReplicas", "join", "(IIII)I"⟩
def m_CR_join : q_M := (prog_1_method_11_code, 5, "CalendarReplicas", { frames := 21, cells := 0, slots := 0, locals := 553 }, (some FieldType.int))
theorem yv_CR_join : q_Y y_CR_join m_CR_join 4 := ⟨rfl, ⟨by decide, by decide⟩, by decide +kernel, tw_4_44, tw_1_1⟩
set_option maxRecDepth 100000 in
set_option maxHeartbeats 4000000 in
theorem c_CR_join (l : Launch) (D : va_G) (tc : Nat → ClassId) (x0 y : Nat) (ad : Nat → Nat) (I : q_I) (J : q_J) (P : q_P) (a1 : Int32) (a2 : Int32) (a3 : Int32) (a4 : Int32) : q_Ct l (cG D tc x0 y ad) y_CR_join m_CR_join [q_r (cG D tc x0 y ad) 0, .int a1, .int a2, .int a3, .int a4] (I, J, P) (f_CR_join I J P a1 a2 a3 a4) (fun r : Int32 × q_I × q_J × q_P => (some (.int r.1), (r.2.1, r.2.2.1, r.2.2.2))) := by
  refine q_Ct_of (cIn D tc x0 y ad) (by decide) rfl (Nat.le_of_ble_eq_true rfl) rfl (fun X hX => ?_)
  subst hX
  unfold f_CR_join
  refine q_iload_n 3 3 1 rfl (by decide +kernel) rfl ?_
  refine q_iconst 0 (c := 0) 2 rfl (by decide +kernel) rfl ?_
  refine q_iconst 5 (c := 5) 3 rfl (by decide +kernel) rfl ?_
  refine q_callS_i 6 rfl (av := [.int a3, .int 0, .int 5]) (st := []) (c_CR_within X.1 D tc x0 y ad I J P a3 0 5) yv_CR_within tw_2_134 tw_2_135 rfl (Nat.le_of_ble_eq_true rfl) (by decide +kernel) ⟨Nat.le_of_ble_eq_true rfl, Nat.le_of_ble_eq_true rfl⟩ ⟨Nat.le_of_ble_eq_true rfl, Nat.le_of_ble_eq_true rfl⟩ rfl rfl (fun v1 => ?_)
  refine q_if_eq 9 rfl 20 (off := 14) (by decide +kernel) rfl (fun g2 => ?_) (fun g2 => ?_)
  · refine q_iconst (-1) (c := -1) 21 rfl (by decide +kernel) rfl ?_
    exact q_iret (by decide +kernel) rfl rfl (Nat.le_of_ble_eq_true rfl) (Nat.le_of_ble_eq_true rfl)
  · refine q_aload_n 0 0 10 rfl (by decide +kernel) rfl ?_
    refine q_iload_n 1 1 11 rfl (by decide +kernel) rfl ?_
    refine q_iload_n 2 2 12 rfl (by decide +kernel) rfl ?_
    refine q_iload 4 4 14 rfl (by decide +kernel) rfl ?_
    refine q_callV_iIP 17 rfl (av := [.int a1, .int a2, .int a4]) (o := 0) (st := []) (c_CR_isChangeable X.1 D tc x0 y ad I J P a1 a2 a4) yv_CR_isChangeable tw_4_19 tw_4_21 sw_16 (cC_CR D tc x0 y ad) k_CR rfl (Nat.le_of_ble_eq_true rfl) (by decide +kernel) ⟨Nat.le_of_ble_eq_true rfl, Nat.le_of_ble_eq_true rfl⟩ ⟨Nat.le_of_ble_eq_true rfl, Nat.le_of_ble_eq_true rfl⟩ rfl rfl (fun v2 I1 P1 => ?_)
    refine q_if_ne 20 rfl 22 (off := 5) (by decide +kernel) rfl (fun g1 => ?_) (fun g1 => ?_)
    · refine q_aload_n 0 0 23 rfl (by decide +kernel) rfl ?_
      refine q_iload_n 1 1 24 rfl (by decide +kernel) rfl ?_
      refine q_iconst 4 (c := 4) 25 rfl (by decide +kernel) rfl ?_
      refine q_iload_n 2 2 26 rfl (by decide +kernel) rfl ?_
      refine q_iload_n 3 3 27 rfl (by decide +kernel) rfl ?_
      refine q_iload 4 4 29 rfl (by decide +kernel) rfl ?_
      refine q_callV_iIJP 32 rfl (av := [.int a1, .int 4, .int a2, .int a3, .int a4]) (o := 0) (st := []) (c_CR_make X.1 D tc x0 y ad I1 J P1 a1 4 a2 a3 a4) yv_CR_make tw_3_71 tw_3_73 sw_4 (cC_CR D tc x0 y ad) k_CR rfl (Nat.le_of_ble_eq_true rfl) (by decide +kernel) ⟨Nat.le_of_ble_eq_true rfl, Nat.le_of_ble_eq_true rfl⟩ ⟨Nat.le_of_ble_eq_true rfl, Nat.le_of_ble_eq_true rfl⟩ rfl rfl (fun v3 I2 J1 P2 => ?_)
      exact q_iret (by decide +kernel) rfl rfl (Nat.le_of_ble_eq_true rfl) (Nat.le_of_ble_eq_true rfl)
    · refine q_iconst (-1) (c := -1) 21 rfl (by decide +kernel) rfl ?_
      exact q_iret (by decide +kernel) rfl rfl (Nat.le_of_ble_eq_true rfl) (Nat.le_of_ble_eq_true rfl)
def f_CR_leave (I : q_I) (J : q_J) (P : q_P) (a1 : Int32) (a2 : Int32) (a3 : Int32) (a4 : Int32) : Option (Int32 × q_I × q_J × q_P) :=
  q_b1 (f_CR_within a3 0 5) (fun v1 => if v1 = 0 then (some ((-1), I, J, P)) else (q_b3 (f_CR_isChangeable I P a1 a2 a4) (fun v2 I1 P1 => if v2 = 0 then (some ((-1), I1, J, P1)) else (q_b4 (f_CR_make I1 J P1 a1 5 a2 a3 a4) (fun v3 I2 J1 P2 => some (v3, I2, J1, P2))))))
def y_CR_leave : MethodName := ⟨"CalendarReplicas", "leave", "(IIII)I"⟩
def m_CR_leave : q_M := (prog_1_method_12_code, 5, "CalendarReplicas", { frames := 21, cells := 0, slots := 0, locals := 553 }, (some FieldType.int))
theorem yv_CR_leave : q_Y y_CR_leave m_CR_leave 4 := ⟨rfl, ⟨by decide, by decide⟩, by decide +kernel, tw_4_48, tw_1_1⟩
set_option maxRecDepth 100000 in
set_option maxHeartbeats 4000000 in
theorem c_CR_leave (l : Launch) (D : va_G) (tc : Nat → ClassId) (x0 y : Nat) (ad : Nat → Nat) (I : q_I) (J : q_J) (P : q_P) (a1 : Int32) (a2 : Int32) (a3 : Int32) (a4 : Int32) : q_Ct l (cG D tc x0 y ad) y_CR_leave m_CR_leave [q_r (cG D tc x0 y ad) 0, .int a1, .int a2, .int a3, .int a4] (I, J, P) (f_CR_leave I J P a1 a2 a3 a4) (fun r : Int32 × q_I × q_J × q_P => (some (.int r.1), (r.2.1, r.2.2.1, r.2.2.2))) := by
  refine q_Ct_of (cIn D tc x0 y ad) (by decide) rfl (Nat.le_of_ble_eq_true rfl) rfl (fun X hX => ?_)
  subst hX
  unfold f_CR_leave
  refine q_iload_n 3 3 1 rfl (by decide +kernel) rfl ?_
  refine q_iconst 0 (c := 0) 2 rfl (by decide +kernel) rfl ?_
  refine q_iconst 5 (c := 5) 3 rfl (by decide +kernel) rfl ?_
  refine q_callS_i 6 rfl (av := [.int a3, .int 0, .int 5]) (st := []) (c_CR_within X.1 D tc x0 y ad I J P a3 0 5) yv_CR_within tw_2_134 tw_2_135 rfl (Nat.le_of_ble_eq_true rfl) (by decide +kernel) ⟨Nat.le_of_ble_eq_true rfl, Nat.le_of_ble_eq_true rfl⟩ ⟨Nat.le_of_ble_eq_true rfl, Nat.le_of_ble_eq_true rfl⟩ rfl rfl (fun v1 => ?_)
  refine q_if_eq 9 rfl 20 (off := 14) (by decide +kernel) rfl (fun g2 => ?_) (fun g2 => ?_)
  · refine q_iconst (-1) (c := -1) 21 rfl (by decide +kernel) rfl ?_
    exact q_iret (by decide +kernel) rfl rfl (Nat.le_of_ble_eq_true rfl) (Nat.le_of_ble_eq_true rfl)
  · refine q_aload_n 0 0 10 rfl (by decide +kernel) rfl ?_
    refine q_iload_n 1 1 11 rfl (by decide +kernel) rfl ?_
    refine q_iload_n 2 2 12 rfl (by decide +kernel) rfl ?_
    refine q_iload 4 4 14 rfl (by decide +kernel) rfl ?_
    refine q_callV_iIP 17 rfl (av := [.int a1, .int a2, .int a4]) (o := 0) (st := []) (c_CR_isChangeable X.1 D tc x0 y ad I J P a1 a2 a4) yv_CR_isChangeable tw_4_19 tw_4_21 sw_16 (cC_CR D tc x0 y ad) k_CR rfl (Nat.le_of_ble_eq_true rfl) (by decide +kernel) ⟨Nat.le_of_ble_eq_true rfl, Nat.le_of_ble_eq_true rfl⟩ ⟨Nat.le_of_ble_eq_true rfl, Nat.le_of_ble_eq_true rfl⟩ rfl rfl (fun v2 I1 P1 => ?_)
    refine q_if_ne 20 rfl 22 (off := 5) (by decide +kernel) rfl (fun g1 => ?_) (fun g1 => ?_)
    · refine q_aload_n 0 0 23 rfl (by decide +kernel) rfl ?_
      refine q_iload_n 1 1 24 rfl (by decide +kernel) rfl ?_
      refine q_iconst 5 (c := 5) 25 rfl (by decide +kernel) rfl ?_
      refine q_iload_n 2 2 26 rfl (by decide +kernel) rfl ?_
      refine q_iload_n 3 3 27 rfl (by decide +kernel) rfl ?_
      refine q_iload 4 4 29 rfl (by decide +kernel) rfl ?_
      refine q_callV_iIJP 32 rfl (av := [.int a1, .int 5, .int a2, .int a3, .int a4]) (o := 0) (st := []) (c_CR_make X.1 D tc x0 y ad I1 J P1 a1 5 a2 a3 a4) yv_CR_make tw_3_71 tw_3_73 sw_4 (cC_CR D tc x0 y ad) k_CR rfl (Nat.le_of_ble_eq_true rfl) (by decide +kernel) ⟨Nat.le_of_ble_eq_true rfl, Nat.le_of_ble_eq_true rfl⟩ ⟨Nat.le_of_ble_eq_true rfl, Nat.le_of_ble_eq_true rfl⟩ rfl rfl (fun v3 I2 J1 P2 => ?_)
      exact q_iret (by decide +kernel) rfl rfl (Nat.le_of_ble_eq_true rfl) (Nat.le_of_ble_eq_true rfl)
    · refine q_iconst (-1) (c := -1) 21 rfl (by decide +kernel) rfl ?_
      exact q_iret (by decide +kernel) rfl rfl (Nat.le_of_ble_eq_true rfl) (Nat.le_of_ble_eq_true rfl)
def f_CR_cancel (I : q_I) (J : q_J) (P : q_P) (a1 : Int32) (a2 : Int32) (a3 : Int32) : Option (Int32 × q_I × q_J × q_P) :=
  q_b3 (f_CR_isChangeable I P a1 a2 a3) (fun v1 I1 P1 => if v1 = 0 then (some ((-1), I1, J, P1)) else (q_b4 (f_CR_make I1 J P1 a1 6 a2 0 a3) (fun v2 I2 J1 P2 => some (v2, I2, J1, P2))))
def y_CR_cancel : MethodName := ⟨"CalendarReplicas", "cancel", "(III)I"⟩
def m_CR_cancel : q_M := (prog_1_method_13_code, 4, "CalendarReplicas", { frames := 21, cells := 0, slots := 0, locals := 553 }, (some FieldType.int))
theorem yv_CR_cancel : q_Y y_CR_cancel m_CR_cancel 3 := ⟨rfl, ⟨by decide, by decide⟩, by decide +kernel, tw_4_52, tw_1_1⟩
set_option maxRecDepth 100000 in
set_option maxHeartbeats 4000000 in
theorem c_CR_cancel (l : Launch) (D : va_G) (tc : Nat → ClassId) (x0 y : Nat) (ad : Nat → Nat) (I : q_I) (J : q_J) (P : q_P) (a1 : Int32) (a2 : Int32) (a3 : Int32) : q_Ct l (cG D tc x0 y ad) y_CR_cancel m_CR_cancel [q_r (cG D tc x0 y ad) 0, .int a1, .int a2, .int a3] (I, J, P) (f_CR_cancel I J P a1 a2 a3) (fun r : Int32 × q_I × q_J × q_P => (some (.int r.1), (r.2.1, r.2.2.1, r.2.2.2))) := by
  refine q_Ct_of (cIn D tc x0 y ad) (by decide) rfl (Nat.le_of_ble_eq_true rfl) rfl (fun X hX => ?_)
  subst hX
  unfold f_CR_cancel
  refine q_aload_n 0 0 1 rfl (by decide +kernel) rfl ?_
  refine q_iload_n 1 1 2 rfl (by decide +kernel) rfl ?_
  refine q_iload_n 2 2 3 rfl (by decide +kernel) rfl ?_
  refine q_iload_n 3 3 4 rfl (by decide +kernel) rfl ?_
  refine q_callV_iIP 7 rfl (av := [.int a1, .int a2, .int a3]) (o := 0) (st := []) (c_CR_isChangeable X.1 D tc x0 y ad I J P a1 a2 a3) yv_CR_isChangeable tw_4_19 tw_4_21 sw_16 (cC_CR D tc x0 y ad) k_CR rfl (Nat.le_of_ble_eq_true rfl) (by decide +kernel) ⟨Nat.le_of_ble_eq_true rfl, Nat.le_of_ble_eq_true rfl⟩ ⟨Nat.le_of_ble_eq_true rfl, Nat.le_of_ble_eq_true rfl⟩ rfl rfl (fun v1 I1 P1 => ?_)
  refine q_if_eq 10 rfl 23 (off := 16) (by decide +kernel) rfl (fun g1 => ?_) (fun g1 => ?_)
  · refine q_iconst (-1) (c := -1) 24 rfl (by decide +kernel) rfl ?_
    exact q_iret (by decide +kernel) rfl rfl (Nat.le_of_ble_eq_true rfl) (Nat.le_of_ble_eq_true rfl)
  · refine q_aload_n 0 0 11 rfl (by decide +kernel) rfl ?_
    refine q_iload_n 1 1 12 rfl (by decide +kernel) rfl ?_
    refine q_bipush 6 (c := 6) 14 rfl (by decide +kernel) rfl ?_
    refine q_iload_n 2 2 15 rfl (by decide +kernel) rfl ?_
    refine q_iconst 0 (c := 0) 16 rfl (by decide +kernel) rfl ?_
    refine q_iload_n 3 3 17 rfl (by decide +kernel) rfl ?_
    refine q_callV_iIJP 20 rfl (av := [.int a1, .int 6, .int a2, .int 0, .int a3]) (o := 0) (st := []) (c_CR_make X.1 D tc x0 y ad I1 J P1 a1 6 a2 0 a3) yv_CR_make tw_3_71 tw_3_73 sw_4 (cC_CR D tc x0 y ad) k_CR rfl (Nat.le_of_ble_eq_true rfl) (by decide +kernel) ⟨Nat.le_of_ble_eq_true rfl, Nat.le_of_ble_eq_true rfl⟩ ⟨Nat.le_of_ble_eq_true rfl, Nat.le_of_ble_eq_true rfl⟩ rfl rfl (fun v2 I2 J1 P2 => ?_)
    refine q_goto (off := 4) 24 (by decide +kernel) rfl ?_
    exact q_iret (by decide +kernel) rfl rfl (Nat.le_of_ble_eq_true rfl) (Nat.le_of_ble_eq_true rfl)
