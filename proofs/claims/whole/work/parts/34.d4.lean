def f_CR_areTwoReplicas (a0 : Int32) (a1 : Int32) : Option (Int32) :=
  q_b1 (f_CR_isReplica a0) (fun v1 => if v1 = 0 then (some (0)) else (q_b1 (f_CR_isReplica a1) (fun v2 => if v2 = 0 then (some (0)) else (if a0 = a1 then (some (0)) else (some (1))))))
def y_CR_areTwoReplicas : MethodName := ⟨"CalendarReplicas", "areTwoReplicas", "(II)Z"⟩
def m_CR_areTwoReplicas : q_M := (prog_1_method_66_code, 2, "CalendarReplicas", { frames := 2, cells := 0, slots := 0, locals := 42 }, (some FieldType.boolean))
theorem yv_CR_areTwoReplicas : q_Y y_CR_areTwoReplicas m_CR_areTwoReplicas 2 := ⟨rfl, ⟨by decide, by decide⟩, by decide +kernel, tw_4_59, tw_1_1⟩
set_option maxRecDepth 100000 in
set_option maxHeartbeats 4000000 in
theorem c_CR_areTwoReplicas (l : Launch) (D : va_G) (tc : Nat → ClassId) (x0 y : Nat) (ad : Nat → Nat) (I : q_I) (J : q_J) (P : q_P) (a0 : Int32) (a1 : Int32) : q_Ct l (cG D tc x0 y ad) y_CR_areTwoReplicas m_CR_areTwoReplicas [.int a0, .int a1] (I, J, P) (f_CR_areTwoReplicas a0 a1) (fun r : Int32 => (some (.int r), (I, J, P))) := by
  refine q_Ct_of (cIn D tc x0 y ad) (by decide) rfl (Nat.le_of_ble_eq_true rfl) rfl (fun X hX => ?_)
  subst hX
  unfold f_CR_areTwoReplicas
  refine q_iload_n 0 0 1 rfl (by decide +kernel) rfl ?_
  refine q_callS_i 4 rfl (av := [.int a0]) (st := []) (c_CR_isReplica X.1 D tc x0 y ad I J P a0) yv_CR_isReplica tw_3_55 tw_3_56 rfl (Nat.le_of_ble_eq_true rfl) (by decide +kernel) ⟨Nat.le_of_ble_eq_true rfl, Nat.le_of_ble_eq_true rfl⟩ ⟨Nat.le_of_ble_eq_true rfl, Nat.le_of_ble_eq_true rfl⟩ rfl rfl (fun v1 => ?_)
  refine q_if_eq 7 rfl 23 (off := 19) (by decide +kernel) rfl (fun g3 => ?_) (fun g3 => ?_)
  · refine q_iconst 0 (c := 0) 24 rfl (by decide +kernel) rfl ?_
    exact q_zret (w := 0) (by decide +kernel) rfl rfl rfl (Nat.le_of_ble_eq_true rfl) (Nat.le_of_ble_eq_true rfl)
  · refine q_iload_n 1 1 8 rfl (by decide +kernel) rfl ?_
    refine q_callS_i 11 rfl (av := [.int a1]) (st := []) (c_CR_isReplica X.1 D tc x0 y ad I J P a1) yv_CR_isReplica tw_3_55 tw_3_56 rfl (Nat.le_of_ble_eq_true rfl) (by decide +kernel) ⟨Nat.le_of_ble_eq_true rfl, Nat.le_of_ble_eq_true rfl⟩ ⟨Nat.le_of_ble_eq_true rfl, Nat.le_of_ble_eq_true rfl⟩ rfl rfl (fun v2 => ?_)
    refine q_if_eq 14 rfl 23 (off := 12) (by decide +kernel) rfl (fun g2 => ?_) (fun g2 => ?_)
    · refine q_iconst 0 (c := 0) 24 rfl (by decide +kernel) rfl ?_
      exact q_zret (w := 0) (by decide +kernel) rfl rfl rfl (Nat.le_of_ble_eq_true rfl) (Nat.le_of_ble_eq_true rfl)
    · refine q_iload_n 0 0 15 rfl (by decide +kernel) rfl ?_
      refine q_iload_n 1 1 16 rfl (by decide +kernel) rfl ?_
      refine q_icmp_eq 19 rfl 23 (off := 7) (by decide +kernel) rfl (fun g1 => ?_) (fun g1 => ?_)
      · refine q_iconst 0 (c := 0) 24 rfl (by decide +kernel) rfl ?_
        exact q_zret (w := 0) (by decide +kernel) rfl rfl rfl (Nat.le_of_ble_eq_true rfl) (Nat.le_of_ble_eq_true rfl)
      · refine q_iconst 1 (c := 1) 20 rfl (by decide +kernel) rfl ?_
        refine q_goto (off := 4) 24 (by decide +kernel) rfl ?_
        exact q_zret (w := 1) (by decide +kernel) rfl rfl rfl (Nat.le_of_ble_eq_true rfl) (Nat.le_of_ble_eq_true rfl)
def f_CR_learn (I : q_I) (J : q_J) (P : q_P) (a1 : Int32) (a2 : Int32) : Option (Int32 × q_I × q_J × q_P) :=
  q_ix a1 3 (fun j1 => q_l (a2 &&& ((I 25 j1) ^^^ (-1)) : Int32) (fun x1 => q_b3 (if x1 = 0 then ((some (I, J, P))) else (q_ix a1 3 (fun j2 => q_ix a1 3 (fun j3 => q_l (q_ui I 25 j3 ((I 25 j2) ||| x1)) (fun I2 => q_ix a1 3 (fun j4 => q_b4 (f_Mg_heaviest I2 J P 53 1 (I2 25 j4) 0) (fun v2 I3 J2 P2 => q_ix a1 3 (fun j5 => q_l (q_ui I3 26 j5 v2) (fun I4 => (some (I4, J2, P2)))))))))) : Option (q_I × q_J × q_P)) (fun (I1 : q_I) (J1 : q_J) (P1 : q_P) => q_b1 (f_JI_bitCount x1) (fun v1 => some (v1, I1, J1, P1)))))
def y_CR_learn : MethodName := ⟨"CalendarReplicas", "learn", "(II)I"⟩
def m_CR_learn : q_M := (prog_1_method_19_code, 4, "CalendarReplicas", { frames := 20, cells := 0, slots := 0, locals := 525 }, (some FieldType.int))
theorem yv_CR_learn : q_Y y_CR_learn m_CR_learn 2 := ⟨rfl, ⟨by decide, by decide⟩, by decide +kernel, tw_4_63, tw_1_1⟩
set_option maxRecDepth 100000 in
set_option maxHeartbeats 4000000 in
theorem c_CR_learn (l : Launch) (D : va_G) (tc : Nat → ClassId) (x0 y : Nat) (ad : Nat → Nat) (I : q_I) (J : q_J) (P : q_P) (a1 : Int32) (a2 : Int32) : q_Ct l (cG D tc x0 y ad) y_CR_learn m_CR_learn [q_r (cG D tc x0 y ad) 0, .int a1, .int a2] (I, J, P) (f_CR_learn I J P a1 a2) (fun r : Int32 × q_I × q_J × q_P => (some (.int r.1), (r.2.1, r.2.2.1, r.2.2.2))) := by
  refine q_Ct_of (cIn D tc x0 y ad) (by decide) rfl (Nat.le_of_ble_eq_true rfl) rfl (fun X hX => ?_)
  subst hX
  unfold f_CR_learn
  refine q_iload_n 2 2 1 rfl (by decide +kernel) rfl ?_
  refine q_aload_n 0 0 2 rfl (by decide +kernel) rfl ?_
  refine q_getr (f := 0) 1 5 rfl (by decide +kernel) (cC_CR D tc x0 y ad) k_CR (by decide) rfl rfl tw_2_102 ?_
  refine q_getr (f := 5) 25 8 rfl (by decide +kernel) (cC_Wo D tc x0 y ad) k_Wo1.1 (by decide) rfl rfl tw_1_217 ?_
  refine q_iload_n 1 1 9 rfl (by decide +kernel) rfl ?_
  refine q_iald (t := 0) 10 rfl (by decide +kernel) k_Wo1.2.2.2.2.1 rfl (fun j1 hj1 => ?_)
  refine q_iconst (-1) (c := -1) 11 rfl (by decide +kernel) rfl ?_
  refine q_ixor 12 rfl (by decide +kernel) ?_
  refine q_iand 13 rfl (by decide +kernel) ?_
  refine q_leti (fun x1 => ?_)
  refine q_istore_n 3 3 14 rfl [(3, .int x1), (0, q_r (cG D tc x0 y ad) 0), (1, .int a1), (2, .int a2)] (by decide +kernel) rfl (Nat.le_of_ble_eq_true rfl) rfl ?_
  refine q_iload_n 0 3 15 rfl (by decide +kernel) rfl ?_
  refine q_jn3 61 (fun I1 J1 P1 => [(3, .int x1)]) (fun I1 J1 P1 => []) (fun I1 J1 P1 => I1) (fun I1 J1 P1 => J1) (fun I1 J1 P1 => P1) (fun jk1 => if x1 = 0 then ((jk1 (I, J, P))) else (q_ix a1 3 (fun j2 => q_ix a1 3 (fun j3 => q_l (q_ui I 25 j3 ((I 25 j2) ||| x1)) (fun I2 => q_ix a1 3 (fun j4 => q_b4 (f_Mg_heaviest I2 J P 53 1 (I2 25 j4) 0) (fun v2 I3 J2 P2 => q_ix a1 3 (fun j5 => q_l (q_ui I3 26 j5 v2) (fun I4 => (jk1 (I4, J2, P2))))))))))) (by intro jk1; simp only [q_b1_if, q_b1_s, q_b1_n, q_b1_ix, q_b1_b1, q_b1_b2, q_b1_b3, q_b1_l, q_b1_ck, q_b1_el, q_b1_b4]) ?_ ?_
  · intro I1 J1 P1
    refine q_iload_n 0 3 62 rfl (by decide +kernel) rfl ?_
    refine q_callS_i 65 rfl (av := [.int x1]) (st := []) (c_JI_bitCount X.1 D tc x0 y ad I1 J1 P1 x1) yv_JI_bitCount tw_4_64 tw_3_13 rfl (Nat.le_of_ble_eq_true rfl) (by decide +kernel) ⟨Nat.le_of_ble_eq_true rfl, Nat.le_of_ble_eq_true rfl⟩ ⟨Nat.le_of_ble_eq_true rfl, Nat.le_of_ble_eq_true rfl⟩ rfl rfl (fun v1 => ?_)
    exact q_iret (by decide +kernel) rfl rfl (Nat.le_of_ble_eq_true rfl) (Nat.le_of_ble_eq_true rfl)
  · intro jk1 hq1
    refine q_if_eq 18 rfl 61 (off := 46) (by decide +kernel) rfl (fun g1 => ?_) (fun g1 => ?_)
    · refine q_sub [0] rfl ?_
      exact hq1 I J P
    · refine q_aload_n 1 0 19 rfl (by decide +kernel) rfl ?_
      refine q_getr (f := 0) 1 22 rfl (by decide +kernel) (cC_CR D tc x0 y ad) k_CR (by decide) rfl rfl tw_2_102 ?_
      refine q_getr (f := 5) 25 25 rfl (by decide +kernel) (cC_Wo D tc x0 y ad) k_Wo1.1 (by decide) rfl rfl tw_1_217 ?_
      refine q_iload_n 2 1 26 rfl (by decide +kernel) rfl ?_
      refine q_dup2 27 rfl (by decide +kernel) rfl rfl ?_
      refine q_iald (t := 0) 28 rfl (by decide +kernel) k_Wo1.2.2.2.2.1 rfl (fun j2 hj2 => ?_)
      refine q_iload_n 0 3 29 rfl (by decide +kernel) rfl ?_
      refine q_ior 30 rfl (by decide +kernel) ?_
      refine q_iast (t := 0) 31 rfl (by decide +kernel) k_Wo1.2.2.2.2.1 rfl (fun j3 hj3 => ?_)
      refine q_letI (fun I2 => ?_)
      refine q_aload_n 1 0 32 rfl (by decide +kernel) rfl ?_
      refine q_getr (f := 0) 1 35 rfl (by decide +kernel) (cC_CR D tc x0 y ad) k_CR (by decide) rfl rfl tw_2_102 ?_
      refine q_getr (f := 6) 26 38 rfl (by decide +kernel) (cC_Wo D tc x0 y ad) k_Wo1.1 (by decide) rfl rfl tw_1_219 ?_
      refine q_iload_n 2 1 39 rfl (by decide +kernel) rfl ?_
      refine q_aload_n 1 0 40 rfl (by decide +kernel) rfl ?_
      refine q_getr (f := 3) 53 43 rfl (by decide +kernel) (cC_CR D tc x0 y ad) k_CR (by decide) rfl rfl tw_2_105 ?_
      refine q_aload_n 1 0 44 rfl (by decide +kernel) rfl ?_
      refine q_getr (f := 0) 1 47 rfl (by decide +kernel) (cC_CR D tc x0 y ad) k_CR (by decide) rfl rfl tw_2_102 ?_
      refine q_aload_n 1 0 48 rfl (by decide +kernel) rfl ?_
      refine q_getr (f := 0) 1 51 rfl (by decide +kernel) (cC_CR D tc x0 y ad) k_CR (by decide) rfl rfl tw_2_102 ?_
      refine q_getr (f := 5) 25 54 rfl (by decide +kernel) (cC_Wo D tc x0 y ad) k_Wo1.1 (by decide) rfl rfl tw_1_217 ?_
      refine q_iload_n 2 1 55 rfl (by decide +kernel) rfl ?_
      refine q_iald (t := 0) 56 rfl (by decide +kernel) k_Wo1.2.2.2.2.1 rfl (fun j4 hj4 => ?_)
      refine q_iconst 0 (c := 0) 57 rfl (by decide +kernel) rfl ?_
      refine q_callV_iIJP 60 rfl (av := [q_r (cG D tc x0 y ad) 1, .int (I2 25 j4), .int 0]) (o := 53) (st := [.int a1, q_r (cG D tc x0 y ad) 26]) (c_Mg_heaviest X.1 D tc x0 y ad I2 J P k_Mg53 k_Wo1 (I2 25 j4) 0) yv_Mg_heaviest tw_2_172 tw_2_173 tw_2_174 (cC_Mg D tc x0 y ad) k_Mg53.1 rfl (Nat.le_of_ble_eq_true rfl) (by decide +kernel) ⟨Nat.le_of_ble_eq_true rfl, Nat.le_of_ble_eq_true rfl⟩ ⟨Nat.le_of_ble_eq_true rfl, Nat.le_of_ble_eq_true rfl⟩ rfl rfl (fun v2 I3 J2 P2 => ?_)
      refine q_iast (t := 0) 61 rfl (by decide +kernel) k_Wo1.2.2.2.2.2.1 rfl (fun j5 hj5 => ?_)
      refine q_letI (fun I4 => ?_)
      refine q_sub [0] rfl ?_
      exact hq1 I4 J2 P2
def f_CR_send (I : q_I) (J : q_J) (P : q_P) (a1 : Int32) (a2 : Int32) : Option (Int32 × q_I × q_J × q_P) :=
  q_b1 (f_CR_areTwoReplicas a1 a2) (fun v1 => if v1 = 0 then (some ((-1), I, J, P)) else (q_ix a1 3 (fun j1 => q_b4 (f_CR_learn I J P a2 (I 25 j1)) (fun v2 I1 J1 P1 => some (v2, I1, J1, P1)))))
def y_CR_send : MethodName := ⟨"CalendarReplicas", "send", "(II)I"⟩
def m_CR_send : q_M := (prog_1_method_16_code, 3, "CalendarReplicas", { frames := 21, cells := 0, slots := 0, locals := 548 }, (some FieldType.int))
theorem yv_CR_send : q_Y y_CR_send m_CR_send 2 := ⟨rfl, ⟨by decide, by decide⟩, by decide +kernel, tw_4_56, tw_1_1⟩
set_option maxRecDepth 100000 in
set_option maxHeartbeats 4000000 in
theorem c_CR_send (l : Launch) (D : va_G) (tc : Nat → ClassId) (x0 y : Nat) (ad : Nat → Nat) (I : q_I) (J : q_J) (P : q_P) (a1 : Int32) (a2 : Int32) : q_Ct l (cG D tc x0 y ad) y_CR_send m_CR_send [q_r (cG D tc x0 y ad) 0, .int a1, .int a2] (I, J, P) (f_CR_send I J P a1 a2) (fun r : Int32 × q_I × q_J × q_P => (some (.int r.1), (r.2.1, r.2.2.1, r.2.2.2))) := by
  refine q_Ct_of (cIn D tc x0 y ad) (by decide) rfl (Nat.le_of_ble_eq_true rfl) rfl (fun X hX => ?_)
  subst hX
  unfold f_CR_send
  refine q_iload_n 1 1 1 rfl (by decide +kernel) rfl ?_
  refine q_iload_n 2 2 2 rfl (by decide +kernel) rfl ?_
  refine q_callS_i 5 rfl (av := [.int a1, .int a2]) (st := []) (c_CR_areTwoReplicas X.1 D tc x0 y ad I J P a1 a2) yv_CR_areTwoReplicas tw_4_57 tw_4_58 rfl (Nat.le_of_ble_eq_true rfl) (by decide +kernel) ⟨Nat.le_of_ble_eq_true rfl, Nat.le_of_ble_eq_true rfl⟩ ⟨Nat.le_of_ble_eq_true rfl, Nat.le_of_ble_eq_true rfl⟩ rfl rfl (fun v1 => ?_)
  refine q_if_ne 8 rfl 10 (off := 5) (by decide +kernel) rfl (fun g1 => ?_) (fun g1 => ?_)
  · refine q_aload_n 0 0 11 rfl (by decide +kernel) rfl ?_
    refine q_iload_n 2 2 12 rfl (by decide +kernel) rfl ?_
    refine q_aload_n 0 0 13 rfl (by decide +kernel) rfl ?_
    refine q_getr (f := 0) 1 16 rfl (by decide +kernel) (cC_CR D tc x0 y ad) k_CR (by decide) rfl rfl tw_2_102 ?_
    refine q_getr (f := 5) 25 19 rfl (by decide +kernel) (cC_Wo D tc x0 y ad) k_Wo1.1 (by decide) rfl rfl tw_1_217 ?_
    refine q_iload_n 1 1 20 rfl (by decide +kernel) rfl ?_
    refine q_iald (t := 0) 21 rfl (by decide +kernel) k_Wo1.2.2.2.2.1 rfl (fun j1 hj1 => ?_)
    refine q_callV_iIJP 24 rfl (av := [.int a2, .int (I 25 j1)]) (o := 0) (st := []) (c_CR_learn X.1 D tc x0 y ad I J P a2 (I 25 j1)) yv_CR_learn tw_4_60 tw_4_62 sw_19 (cC_CR D tc x0 y ad) k_CR rfl (Nat.le_of_ble_eq_true rfl) (by decide +kernel) ⟨Nat.le_of_ble_eq_true rfl, Nat.le_of_ble_eq_true rfl⟩ ⟨Nat.le_of_ble_eq_true rfl, Nat.le_of_ble_eq_true rfl⟩ rfl rfl (fun v2 I1 J1 P1 => ?_)
    exact q_iret (by decide +kernel) rfl rfl (Nat.le_of_ble_eq_true rfl) (Nat.le_of_ble_eq_true rfl)
  · refine q_iconst (-1) (c := -1) 9 rfl (by decide +kernel) rfl ?_
    exact q_iret (by decide +kernel) rfl rfl (Nat.le_of_ble_eq_true rfl) (Nat.le_of_ble_eq_true rfl)
def f_CR_sendOne (I : q_I) (J : q_J) (P : q_P) (a1 : Int32) (a2 : Int32) (a3 : Int32) : Option (Int32 × q_I × q_J × q_P) :=
  q_b1 (f_Wo_indexOf I 1 a3) (fun v1 => q_b1 (f_CR_areTwoReplicas a1 a2) (fun v2 => if v2 = 0 then (some ((-1), I, J, P)) else (if v1 < 0 then (some ((-1), I, J, P)) else (q_ix a1 3 (fun j1 => q_b1 (f_CR_contains (I 25 j1) v1) (fun v3 => if v3 = 0 then (some ((-1), I, J, P)) else (q_b4 (f_CR_learn I J P a2 ((1 : Int32) <<< (v1 &&& 31))) (fun v4 I1 J1 P1 => some (v4, I1, J1, P1)))))))))
def y_CR_sendOne : MethodName := ⟨"CalendarReplicas", "sendOne", "(III)I"⟩
def m_CR_sendOne : q_M := (prog_1_method_17_code, 5, "CalendarReplicas", { frames := 21, cells := 0, slots := 0, locals := 548 }, (some FieldType.int))
theorem yv_CR_sendOne : q_Y y_CR_sendOne m_CR_sendOne 3 := ⟨rfl, ⟨by decide, by decide⟩, by decide +kernel, tw_4_68, tw_1_1⟩
set_option maxRecDepth 100000 in
set_option maxHeartbeats 4000000 in
theorem c_CR_sendOne (l : Launch) (D : va_G) (tc : Nat → ClassId) (x0 y : Nat) (ad : Nat → Nat) (I : q_I) (J : q_J) (P : q_P) (a1 : Int32) (a2 : Int32) (a3 : Int32) : q_Ct l (cG D tc x0 y ad) y_CR_sendOne m_CR_sendOne [q_r (cG D tc x0 y ad) 0, .int a1, .int a2, .int a3] (I, J, P) (f_CR_sendOne I J P a1 a2 a3) (fun r : Int32 × q_I × q_J × q_P => (some (.int r.1), (r.2.1, r.2.2.1, r.2.2.2))) := by
  refine q_Ct_of (cIn D tc x0 y ad) (by decide) rfl (Nat.le_of_ble_eq_true rfl) rfl (fun X hX => ?_)
  subst hX
  unfold f_CR_sendOne
  refine q_aload_n 0 0 1 rfl (by decide +kernel) rfl ?_
  refine q_getr (f := 0) 1 4 rfl (by decide +kernel) (cC_CR D tc x0 y ad) k_CR (by decide) rfl rfl tw_2_102 ?_
  refine q_iload_n 3 3 5 rfl (by decide +kernel) rfl ?_
  refine q_callV_i 8 rfl (av := [.int a3]) (o := 1) (st := []) (c_Wo_indexOf X.1 D tc x0 y ad I J P k_Wo1 a3) yv_Wo_indexOf tw_4_69 tw_4_70 tw_4_71 (cC_Wo D tc x0 y ad) k_Wo1.1 rfl (Nat.le_of_ble_eq_true rfl) (by decide +kernel) ⟨Nat.le_of_ble_eq_true rfl, Nat.le_of_ble_eq_true rfl⟩ ⟨Nat.le_of_ble_eq_true rfl, Nat.le_of_ble_eq_true rfl⟩ rfl rfl (fun v1 => ?_)
  refine q_istore 4 10 rfl [(4, .int v1), (0, q_r (cG D tc x0 y ad) 0), (1, .int a1), (2, .int a2), (3, .int a3)] (by decide +kernel) (Nat.le_of_ble_eq_true rfl) rfl ?_
  refine q_iload_n 2 1 11 rfl (by decide +kernel) rfl ?_
  refine q_iload_n 3 2 12 rfl (by decide +kernel) rfl ?_
  refine q_callS_i 15 rfl (av := [.int a1, .int a2]) (st := []) (c_CR_areTwoReplicas X.1 D tc x0 y ad I J P a1 a2) yv_CR_areTwoReplicas tw_4_57 tw_4_58 rfl (Nat.le_of_ble_eq_true rfl) (by decide +kernel) ⟨Nat.le_of_ble_eq_true rfl, Nat.le_of_ble_eq_true rfl⟩ ⟨Nat.le_of_ble_eq_true rfl, Nat.le_of_ble_eq_true rfl⟩ rfl rfl (fun v2 => ?_)
  refine q_if_eq 18 rfl 40 (off := 25) (by decide +kernel) rfl (fun g3 => ?_) (fun g3 => ?_)
  · refine q_iconst (-1) (c := -1) 41 rfl (by decide +kernel) rfl ?_
    exact q_iret (by decide +kernel) rfl rfl (Nat.le_of_ble_eq_true rfl) (Nat.le_of_ble_eq_true rfl)
  · refine q_iload 0 4 20 rfl (by decide +kernel) rfl ?_
    refine q_if_lt 23 rfl 40 (off := 20) (by decide +kernel) rfl (fun g2 => ?_) (fun g2 => ?_)
    · refine q_iconst (-1) (c := -1) 41 rfl (by decide +kernel) rfl ?_
      exact q_iret (by decide +kernel) rfl rfl (Nat.le_of_ble_eq_true rfl) (Nat.le_of_ble_eq_true rfl)
    · refine q_aload_n 1 0 24 rfl (by decide +kernel) rfl ?_
      refine q_getr (f := 0) 1 27 rfl (by decide +kernel) (cC_CR D tc x0 y ad) k_CR (by decide) rfl rfl tw_2_102 ?_
      refine q_getr (f := 5) 25 30 rfl (by decide +kernel) (cC_Wo D tc x0 y ad) k_Wo1.1 (by decide) rfl rfl tw_1_217 ?_
      refine q_iload_n 2 1 31 rfl (by decide +kernel) rfl ?_
      refine q_iald (t := 0) 32 rfl (by decide +kernel) k_Wo1.2.2.2.2.1 rfl (fun j1 hj1 => ?_)
      refine q_iload 0 4 34 rfl (by decide +kernel) rfl ?_
      refine q_callS_i 37 rfl (av := [.int (I 25 j1), .int v1]) (st := []) (c_CR_contains X.1 D tc x0 y ad I J P (I 25 j1) v1) yv_CR_contains tw_4_73 tw_2_181 rfl (Nat.le_of_ble_eq_true rfl) (by decide +kernel) ⟨Nat.le_of_ble_eq_true rfl, Nat.le_of_ble_eq_true rfl⟩ ⟨Nat.le_of_ble_eq_true rfl, Nat.le_of_ble_eq_true rfl⟩ rfl rfl (fun v3 => ?_)
      refine q_if_ne 40 rfl 42 (off := 5) (by decide +kernel) rfl (fun g1 => ?_) (fun g1 => ?_)
      · refine q_aload_n 1 0 43 rfl (by decide +kernel) rfl ?_
        refine q_iload_n 3 2 44 rfl (by decide +kernel) rfl ?_
        refine q_iconst 1 (c := 1) 45 rfl (by decide +kernel) rfl ?_
        refine q_iload 0 4 47 rfl (by decide +kernel) rfl ?_
        refine q_ishl 48 rfl (by decide +kernel) ?_
        refine q_callV_iIJP 51 rfl (av := [.int a2, .int ((1 : Int32) <<< (v1 &&& 31))]) (o := 0) (st := []) (c_CR_learn X.1 D tc x0 y ad I J P a2 ((1 : Int32) <<< (v1 &&& 31))) yv_CR_learn tw_4_60 tw_4_62 sw_19 (cC_CR D tc x0 y ad) k_CR rfl (Nat.le_of_ble_eq_true rfl) (by decide +kernel) ⟨Nat.le_of_ble_eq_true rfl, Nat.le_of_ble_eq_true rfl⟩ ⟨Nat.le_of_ble_eq_true rfl, Nat.le_of_ble_eq_true rfl⟩ rfl rfl (fun v4 I1 J1 P1 => ?_)
        exact q_iret (by decide +kernel) rfl rfl (Nat.le_of_ble_eq_true rfl) (Nat.le_of_ble_eq_true rfl)
      · refine q_iconst (-1) (c := -1) 41 rfl (by decide +kernel) rfl ?_
        exact q_iret (by decide +kernel) rfl rfl (Nat.le_of_ble_eq_true rfl) (Nat.le_of_ble_eq_true rfl)
def f_CR_compact_L1 (I : q_I) (P : q_P) (x1 : Int32) (K : Option (Int32 × q_I × q_P)) : Nat → Int32 → Option (Int32 × q_I × q_P)
  | 0, _ => none
  | n + 1, x2 => if (3 : Int32) ≤ x2 then (K) else (q_ix x2 3 (fun j1 => if (I 25 j1) = x1 then ((f_CR_compact_L1 I P x1 K n (x2 + 1))) else (some ((-3), I, P))))
def f_CR_compact (I : q_I) (P : q_P) : Option (Int32 × q_I × q_P) :=
  q_l (((1 : Int32) <<< ((I 1 3) &&& 31)) - 1 : Int32) (fun x1 => f_CR_compact_L1 I P x1 (q_ix 0 3 (fun j2 => q_b2 (f_Wo_form I P 1 (I 26 j2) 83 24) (fun I1 P1 => if (I1 83 1) ≤ 12 then (q_b1 (f_Wo_startFrom I1 P1 1 83 24) (fun I2 => some ((I2 83 1), I2, P1))) else (some ((-2), I1, P1))))) q_fu 0)
def y_CR_compact : MethodName := ⟨"CalendarReplicas", "compact", "()I"⟩
def m_CR_compact : q_M := (prog_1_method_18_code, 3, "CalendarReplicas", { frames := 3, cells := 0, slots := 0, locals := 87 }, (some FieldType.int))
theorem yv_CR_compact : q_Y y_CR_compact m_CR_compact 0 := ⟨rfl, ⟨by decide, by decide⟩, by decide +kernel, tw_4_77, tw_1_1⟩
set_option maxRecDepth 100000 in
set_option maxHeartbeats 4000000 in
theorem c_CR_compact (l : Launch) (D : va_G) (tc : Nat → ClassId) (x0 y : Nat) (ad : Nat → Nat) (I : q_I) (J : q_J) (P : q_P) : q_Ct l (cG D tc x0 y ad) y_CR_compact m_CR_compact [q_r (cG D tc x0 y ad) 0] (I, J, P) (f_CR_compact I P) (fun r : Int32 × q_I × q_P => (some (.int r.1), (r.2.1, J, r.2.2))) := by
  refine q_Ct_of (cIn D tc x0 y ad) (by decide) rfl (Nat.le_of_ble_eq_true rfl) rfl (fun X hX => ?_)
  subst hX
  unfold f_CR_compact
  refine q_iconst 1 (c := 1) 1 rfl (by decide +kernel) rfl ?_
  refine q_aload_n 0 0 2 rfl (by decide +kernel) rfl ?_
  refine q_getr (f := 0) 1 5 rfl (by decide +kernel) (cC_CR D tc x0 y ad) k_CR (by decide) rfl rfl tw_2_102 ?_
  refine q_geti (f := 3) 8 rfl (by decide +kernel) (cC_Wo D tc x0 y ad) k_Wo1.1 (by decide) rfl tw_1_213 ?_
  refine q_ishl 9 rfl (by decide +kernel) ?_
  refine q_iconst 1 (c := 1) 10 rfl (by decide +kernel) rfl ?_
  refine q_isub 11 rfl (by decide +kernel) ?_
  refine q_leti (fun x1 => ?_)
  refine q_istore_n 1 1 12 rfl [(1, .int x1), (0, q_r (cG D tc x0 y ad) 0)] (by decide +kernel) rfl (Nat.le_of_ble_eq_true rfl) rfl ?_
  refine q_iconst 0 (c := 0) 13 rfl (by decide +kernel) rfl ?_
  refine q_istore_n 2 2 14 rfl [(2, .int 0), (1, .int x1), (0, q_r (cG D tc x0 y ad) 0)] (by decide +kernel) rfl (Nat.le_of_ble_eq_true rfl) rfl ?_
  have hL1 : ∀ (K1 : Option (Int32 × q_I × q_P)) (hK1 : q_V (cG D tc x0 y ad) m_CR_compact X (fun r : Int32 × q_I × q_P => (some (.int r.1), (r.2.1, J, r.2.2))) 0 0 41 [(0, q_r (cG D tc x0 y ad) 0)] [] I J P (K1)) (n1_ : Nat) (x2 : Int32), q_V (cG D tc x0 y ad) m_CR_compact X (fun r : Int32 × q_I × q_P => (some (.int r.1), (r.2.1, J, r.2.2))) 0 0 14 [(0, q_r (cG D tc x0 y ad) 0), (1, .int x1), (2, .int x2)] [] I J P (f_CR_compact_L1 I P x1 K1 n1_ x2) := by
    intro K1 hK1 n1_
    induction n1_ with
    | zero => intro x2; exact q_none
    | succ n1_ ih1 =>
      intro x2
      rw [f_CR_compact_L1]
      refine q_iload_n 2 2 15 rfl (by decide +kernel) rfl ?_
      refine q_iconst 3 (c := 3) 16 rfl (by decide +kernel) rfl ?_
      refine q_icmp_ge 19 rfl 41 (off := 25) (by decide +kernel) rfl (fun g2 => ?_) (fun g2 => ?_)
      · refine q_sub [0] rfl ?_
        exact hK1
      · refine q_aload_n 0 0 20 rfl (by decide +kernel) rfl ?_
        refine q_getr (f := 0) 1 23 rfl (by decide +kernel) (cC_CR D tc x0 y ad) k_CR (by decide) rfl rfl tw_2_102 ?_
        refine q_getr (f := 5) 25 26 rfl (by decide +kernel) (cC_Wo D tc x0 y ad) k_Wo1.1 (by decide) rfl rfl tw_1_217 ?_
        refine q_iload_n 2 2 27 rfl (by decide +kernel) rfl ?_
        refine q_iald (t := 0) 28 rfl (by decide +kernel) k_Wo1.2.2.2.2.1 rfl (fun j1 hj1 => ?_)
        refine q_iload_n 1 1 29 rfl (by decide +kernel) rfl ?_
        refine q_icmp_eq 32 rfl 35 (off := 6) (by decide +kernel) rfl (fun g1 => ?_) (fun g1 => ?_)
        · refine q_iinc (x2 + 1) (c := 1) 2 2 38 rfl [(2, .int (x2 + 1)), (0, q_r (cG D tc x0 y ad) 0), (1, .int x1)] (by decide +kernel) rfl rfl (Nat.le_of_ble_eq_true rfl) rfl ?_
          refine q_goto (off := -24) 14 (by decide +kernel) rfl ?_
          refine q_sub [1, 2, 0] rfl ?_
          exact ih1 (x2 + 1)
        · refine q_bipush (-3) (c := -3) 34 rfl (by decide +kernel) rfl ?_
          exact q_iret (by decide +kernel) rfl rfl (Nat.le_of_ble_eq_true rfl) (Nat.le_of_ble_eq_true rfl)
  refine q_sub [2, 1, 0] rfl ?_
  refine hL1 _ ?_ _ _
  refine q_aload_n 0 0 42 rfl (by decide +kernel) rfl ?_
  refine q_getr (f := 0) 1 45 rfl (by decide +kernel) (cC_CR D tc x0 y ad) k_CR (by decide) rfl rfl tw_2_102 ?_
  refine q_aload_n 0 0 46 rfl (by decide +kernel) rfl ?_
  refine q_getr (f := 0) 1 49 rfl (by decide +kernel) (cC_CR D tc x0 y ad) k_CR (by decide) rfl rfl tw_2_102 ?_
  refine q_getr (f := 6) 26 52 rfl (by decide +kernel) (cC_Wo D tc x0 y ad) k_Wo1.1 (by decide) rfl rfl tw_1_219 ?_
  refine q_iconst 0 (c := 0) 53 rfl (by decide +kernel) rfl ?_
  refine q_iald (t := 0) 54 rfl (by decide +kernel) k_Wo1.2.2.2.2.2.1 rfl (fun j2 hj2 => ?_)
  refine q_aload_n 0 0 55 rfl (by decide +kernel) rfl ?_
  refine q_getr (f := 4) 83 58 rfl (by decide +kernel) (cC_CR D tc x0 y ad) k_CR (by decide) rfl rfl tw_2_106 ?_
  refine q_callV_vIP 61 rfl (av := [.int (I 26 j2), q_r (cG D tc x0 y ad) 83]) (o := 1) (st := []) (c_Wo_form X.1 D tc x0 y ad I J P k_Wo1 (I 26 j2) k_Cal83) yv_Wo_form tw_4_31 tw_2_199 tw_2_200 (cC_Wo D tc x0 y ad) k_Wo1.1 rfl (Nat.le_of_ble_eq_true rfl) (by decide +kernel) ⟨Nat.le_of_ble_eq_true rfl, Nat.le_of_ble_eq_true rfl⟩ ⟨Nat.le_of_ble_eq_true rfl, Nat.le_of_ble_eq_true rfl⟩ rfl rfl (fun I1 P1 => ?_)
  refine q_aload_n 0 0 62 rfl (by decide +kernel) rfl ?_
  refine q_getr (f := 4) 83 65 rfl (by decide +kernel) (cC_CR D tc x0 y ad) k_CR (by decide) rfl rfl tw_2_106 ?_
  refine q_geti (f := 1) 68 rfl (by decide +kernel) (cC_Cal D tc x0 y ad) k_Cal83.1 (by decide) rfl tw_1_150 ?_
  refine q_bipush 12 (c := 12) 70 rfl (by decide +kernel) rfl ?_
  refine q_icmp_le 73 rfl 76 (off := 6) (by decide +kernel) rfl (fun g3 => ?_) (fun g3 => ?_)
  · refine q_aload_n 0 0 77 rfl (by decide +kernel) rfl ?_
    refine q_getr (f := 0) 1 80 rfl (by decide +kernel) (cC_CR D tc x0 y ad) k_CR (by decide) rfl rfl tw_2_102 ?_
    refine q_aload_n 0 0 81 rfl (by decide +kernel) rfl ?_
    refine q_getr (f := 4) 83 84 rfl (by decide +kernel) (cC_CR D tc x0 y ad) k_CR (by decide) rfl rfl tw_2_106 ?_
    refine q_callV_vI 87 rfl (av := [q_r (cG D tc x0 y ad) 83]) (o := 1) (st := []) (c_Wo_startFrom X.1 D tc x0 y ad I1 J P1 k_Wo1 k_Cal83) yv_Wo_startFrom tw_4_78 tw_4_79 tw_4_80 (cC_Wo D tc x0 y ad) k_Wo1.1 rfl (Nat.le_of_ble_eq_true rfl) (by decide +kernel) ⟨Nat.le_of_ble_eq_true rfl, Nat.le_of_ble_eq_true rfl⟩ ⟨Nat.le_of_ble_eq_true rfl, Nat.le_of_ble_eq_true rfl⟩ rfl rfl (fun I2 => ?_)
    refine q_aload_n 0 0 88 rfl (by decide +kernel) rfl ?_
    refine q_getr (f := 4) 83 91 rfl (by decide +kernel) (cC_CR D tc x0 y ad) k_CR (by decide) rfl rfl tw_2_106 ?_
    refine q_geti (f := 1) 94 rfl (by decide +kernel) (cC_Cal D tc x0 y ad) k_Cal83.1 (by decide) rfl tw_1_150 ?_
    exact q_iret (by decide +kernel) rfl rfl (Nat.le_of_ble_eq_true rfl) (Nat.le_of_ble_eq_true rfl)
  · refine q_bipush (-2) (c := -2) 75 rfl (by decide +kernel) rfl ?_
    exact q_iret (by decide +kernel) rfl rfl (Nat.le_of_ble_eq_true rfl) (Nat.le_of_ble_eq_true rfl)
def f_CR_meetings (I : q_I) (P : q_P) (a1 : Int32) : Option (Int32 × q_I × q_P) :=
  q_b1 (f_CR_isReplica a1) (fun v1 => if v1 = 0 then (some ((-1), I, P)) else (q_b2 (f_CR_show I P a1) (fun I1 P1 => some ((I1 83 1), I1, P1))))
def y_CR_meetings : MethodName := ⟨"CalendarReplicas", "meetings", "(I)I"⟩
def m_CR_meetings : q_M := (prog_1_method_21_code, 2, "CalendarReplicas", { frames := 4, cells := 0, slots := 0, locals := 108 }, (some FieldType.int))
theorem yv_CR_meetings : q_Y y_CR_meetings m_CR_meetings 1 := ⟨rfl, ⟨by decide, by decide⟩, by decide +kernel, tw_4_85, tw_1_1⟩
set_option maxRecDepth 100000 in
set_option maxHeartbeats 4000000 in
theorem c_CR_meetings (l : Launch) (D : va_G) (tc : Nat → ClassId) (x0 y : Nat) (ad : Nat → Nat) (I : q_I) (J : q_J) (P : q_P) (a1 : Int32) : q_Ct l (cG D tc x0 y ad) y_CR_meetings m_CR_meetings [q_r (cG D tc x0 y ad) 0, .int a1] (I, J, P) (f_CR_meetings I P a1) (fun r : Int32 × q_I × q_P => (some (.int r.1), (r.2.1, J, r.2.2))) := by
  refine q_Ct_of (cIn D tc x0 y ad) (by decide) rfl (Nat.le_of_ble_eq_true rfl) rfl (fun X hX => ?_)
  subst hX
  unfold f_CR_meetings
  refine q_iload_n 1 1 1 rfl (by decide +kernel) rfl ?_
  refine q_callS_i 4 rfl (av := [.int a1]) (st := []) (c_CR_isReplica X.1 D tc x0 y ad I J P a1) yv_CR_isReplica tw_3_55 tw_3_56 rfl (Nat.le_of_ble_eq_true rfl) (by decide +kernel) ⟨Nat.le_of_ble_eq_true rfl, Nat.le_of_ble_eq_true rfl⟩ ⟨Nat.le_of_ble_eq_true rfl, Nat.le_of_ble_eq_true rfl⟩ rfl rfl (fun v1 => ?_)
  refine q_if_ne 7 rfl 9 (off := 5) (by decide +kernel) rfl (fun g1 => ?_) (fun g1 => ?_)
  · refine q_aload_n 0 0 10 rfl (by decide +kernel) rfl ?_
    refine q_iload_n 1 1 11 rfl (by decide +kernel) rfl ?_
    refine q_callV_vIP 14 rfl (av := [.int a1]) (o := 0) (st := []) (c_CR_show X.1 D tc x0 y ad I J P a1) yv_CR_show tw_4_27 tw_4_29 sw_18 (cC_CR D tc x0 y ad) k_CR rfl (Nat.le_of_ble_eq_true rfl) (by decide +kernel) ⟨Nat.le_of_ble_eq_true rfl, Nat.le_of_ble_eq_true rfl⟩ ⟨Nat.le_of_ble_eq_true rfl, Nat.le_of_ble_eq_true rfl⟩ rfl rfl (fun I1 P1 => ?_)
    refine q_aload_n 0 0 15 rfl (by decide +kernel) rfl ?_
    refine q_getr (f := 4) 83 18 rfl (by decide +kernel) (cC_CR D tc x0 y ad) k_CR (by decide) rfl rfl tw_2_106 ?_
    refine q_geti (f := 1) 21 rfl (by decide +kernel) (cC_Cal D tc x0 y ad) k_Cal83.1 (by decide) rfl tw_1_150 ?_
    exact q_iret (by decide +kernel) rfl rfl (Nat.le_of_ble_eq_true rfl) (Nat.le_of_ble_eq_true rfl)
  · refine q_iconst (-1) (c := -1) 8 rfl (by decide +kernel) rfl ?_
    exact q_iret (by decide +kernel) rfl rfl (Nat.le_of_ble_eq_true rfl) (Nat.le_of_ble_eq_true rfl)
def f_CR_meetingAt (I : q_I) (P : q_P) (a1 : Int32) (a2 : Int32) : Option (Int32 × q_I × q_P) :=
  q_b1 (f_CR_isReplica a1) (fun v1 => if v1 = 0 then (some ((-1), I, P)) else (q_b2 (f_CR_show I P a1) (fun I1 P1 => q_b1 (f_Cal_row I1 P1 83 24 a2) (fun r1 => (r1).elim (some ((-1), I1, P1)) (fun b1 => q_ck (cM b1) (some ((I1 b1 0), I1, P1)))))))
def y_CR_meetingAt : MethodName := ⟨"CalendarReplicas", "meetingAt", "(II)I"⟩
def m_CR_meetingAt : q_M := (prog_1_method_22_code, 4, "CalendarReplicas", { frames := 4, cells := 0, slots := 0, locals := 108 }, (some FieldType.int))
theorem yv_CR_meetingAt : q_Y y_CR_meetingAt m_CR_meetingAt 2 := ⟨rfl, ⟨by decide, by decide⟩, by decide +kernel, tw_4_89, tw_1_1⟩
set_option maxRecDepth 100000 in
set_option maxHeartbeats 4000000 in
theorem c_CR_meetingAt (l : Launch) (D : va_G) (tc : Nat → ClassId) (x0 y : Nat) (ad : Nat → Nat) (I : q_I) (J : q_J) (P : q_P) (a1 : Int32) (a2 : Int32) : q_Ct l (cG D tc x0 y ad) y_CR_meetingAt m_CR_meetingAt [q_r (cG D tc x0 y ad) 0, .int a1, .int a2] (I, J, P) (f_CR_meetingAt I P a1 a2) (fun r : Int32 × q_I × q_P => (some (.int r.1), (r.2.1, J, r.2.2))) := by
  refine q_Ct_of (cIn D tc x0 y ad) (by decide) rfl (Nat.le_of_ble_eq_true rfl) rfl (fun X hX => ?_)
  subst hX
  unfold f_CR_meetingAt
  refine q_iload_n 1 1 1 rfl (by decide +kernel) rfl ?_
  refine q_callS_i 4 rfl (av := [.int a1]) (st := []) (c_CR_isReplica X.1 D tc x0 y ad I J P a1) yv_CR_isReplica tw_3_55 tw_3_56 rfl (Nat.le_of_ble_eq_true rfl) (by decide +kernel) ⟨Nat.le_of_ble_eq_true rfl, Nat.le_of_ble_eq_true rfl⟩ ⟨Nat.le_of_ble_eq_true rfl, Nat.le_of_ble_eq_true rfl⟩ rfl rfl (fun v1 => ?_)
  refine q_if_ne 7 rfl 9 (off := 5) (by decide +kernel) rfl (fun g1 => ?_) (fun g1 => ?_)
  · refine q_aload_n 0 0 10 rfl (by decide +kernel) rfl ?_
    refine q_iload_n 1 1 11 rfl (by decide +kernel) rfl ?_
    refine q_callV_vIP 14 rfl (av := [.int a1]) (o := 0) (st := []) (c_CR_show X.1 D tc x0 y ad I J P a1) yv_CR_show tw_4_27 tw_4_29 sw_18 (cC_CR D tc x0 y ad) k_CR rfl (Nat.le_of_ble_eq_true rfl) (by decide +kernel) ⟨Nat.le_of_ble_eq_true rfl, Nat.le_of_ble_eq_true rfl⟩ ⟨Nat.le_of_ble_eq_true rfl, Nat.le_of_ble_eq_true rfl⟩ rfl rfl (fun I1 P1 => ?_)
    refine q_aload_n 0 0 15 rfl (by decide +kernel) rfl ?_
    refine q_getr (f := 4) 83 18 rfl (by decide +kernel) (cC_CR D tc x0 y ad) k_CR (by decide) rfl rfl tw_2_106 ?_
    refine q_iload_n 2 2 19 rfl (by decide +kernel) rfl ?_
    refine q_callV_q 22 rfl (av := [.int a2]) (o := 83) (st := []) (c_Cal_row X.1 D tc x0 y ad I1 J P1 k_Cal83 a2) yv_Cal_row tw_4_90 tw_3_3 tw_3_4 (cC_Cal D tc x0 y ad) k_Cal83.1 rfl (Nat.le_of_ble_eq_true rfl) (by decide +kernel) ⟨Nat.le_of_ble_eq_true rfl, Nat.le_of_ble_eq_true rfl⟩ ⟨Nat.le_of_ble_eq_true rfl, Nat.le_of_ble_eq_true rfl⟩ rfl rfl (fun r1 => ?_)
    refine q_astoreq_n 3 3 23 rfl [(3, q_rn (cG D tc x0 y ad) r1), (0, q_r (cG D tc x0 y ad) 0), (1, .int a1), (2, .int a2)] (by decide +kernel) rfl (Nat.le_of_ble_eq_true rfl) rfl ?_
    refine q_aloadq_n 0 3 24 rfl (by decide +kernel) rfl ?_
    refine q_ifnonnull 27 rfl 31 (off := 7) (by decide +kernel) rfl (fun he_b1 => ?_) (fun b1 he_b1 => ?_)
    · subst he_b1
      refine q_iconst (-1) (c := -1) 28 rfl (by decide +kernel) rfl ?_
      refine q_goto (off := 7) 35 (by decide +kernel) rfl ?_
      exact q_iret (by decide +kernel) rfl rfl (Nat.le_of_ble_eq_true rfl) (Nat.le_of_ble_eq_true rfl)
    · subst he_b1
      refine q_ckV (fun hc_b1 => ?_)
      refine q_aload_n 0 3 32 rfl (by decide +kernel) rfl ?_
      refine q_geti (f := 0) 35 rfl (by decide +kernel) (cC_Me D tc x0 y ad) (cM_of hc_b1) (by decide) rfl tw_1_97 ?_
      exact q_iret (by decide +kernel) rfl rfl (Nat.le_of_ble_eq_true rfl) (Nat.le_of_ble_eq_true rfl)
  · refine q_iconst (-1) (c := -1) 8 rfl (by decide +kernel) rfl ?_
    exact q_iret (by decide +kernel) rfl rfl (Nat.le_of_ble_eq_true rfl) (Nat.le_of_ble_eq_true rfl)
def f_CR_startOf (I : q_I) (P : q_P) (a1 : Int32) (a2 : Int32) : Option (Int32 × q_I × q_P) :=
  q_b3 (f_CR_find I P a1 a2) (fun r1 I1 P1 => (r1).elim (some ((-1), I1, P1)) (fun b1 => q_ck (cM b1) (some ((I1 b1 1), I1, P1))))
def y_CR_startOf : MethodName := ⟨"CalendarReplicas", "startOf", "(II)I"⟩
def m_CR_startOf : q_M := (prog_1_method_23_code, 4, "CalendarReplicas", { frames := 5, cells := 0, slots := 0, locals := 130 }, (some FieldType.int))
theorem yv_CR_startOf : q_Y y_CR_startOf m_CR_startOf 2 := ⟨rfl, ⟨by decide, by decide⟩, by decide +kernel, tw_4_94, tw_1_1⟩
set_option maxRecDepth 100000 in
set_option maxHeartbeats 4000000 in
theorem c_CR_startOf (l : Launch) (D : va_G) (tc : Nat → ClassId) (x0 y : Nat) (ad : Nat → Nat) (I : q_I) (J : q_J) (P : q_P) (a1 : Int32) (a2 : Int32) : q_Ct l (cG D tc x0 y ad) y_CR_startOf m_CR_startOf [q_r (cG D tc x0 y ad) 0, .int a1, .int a2] (I, J, P) (f_CR_startOf I P a1 a2) (fun r : Int32 × q_I × q_P => (some (.int r.1), (r.2.1, J, r.2.2))) := by
  refine q_Ct_of (cIn D tc x0 y ad) (by decide) rfl (Nat.le_of_ble_eq_true rfl) rfl (fun X hX => ?_)
  subst hX
  unfold f_CR_startOf
  refine q_aload_n 0 0 1 rfl (by decide +kernel) rfl ?_
  refine q_iload_n 1 1 2 rfl (by decide +kernel) rfl ?_
  refine q_iload_n 2 2 3 rfl (by decide +kernel) rfl ?_
  refine q_callV_qIP 6 rfl (av := [.int a1, .int a2]) (o := 0) (st := []) (c_CR_find X.1 D tc x0 y ad I J P a1 a2) yv_CR_find tw_4_23 tw_4_25 sw_17 (cC_CR D tc x0 y ad) k_CR rfl (Nat.le_of_ble_eq_true rfl) (by decide +kernel) ⟨Nat.le_of_ble_eq_true rfl, Nat.le_of_ble_eq_true rfl⟩ ⟨Nat.le_of_ble_eq_true rfl, Nat.le_of_ble_eq_true rfl⟩ rfl rfl (fun r1 I1 P1 => ?_)
  refine q_astoreq_n 3 3 7 rfl [(3, q_rn (cG D tc x0 y ad) r1), (0, q_r (cG D tc x0 y ad) 0), (1, .int a1), (2, .int a2)] (by decide +kernel) rfl (Nat.le_of_ble_eq_true rfl) rfl ?_
  refine q_aloadq_n 0 3 8 rfl (by decide +kernel) rfl ?_
  refine q_ifnonnull 11 rfl 15 (off := 7) (by decide +kernel) rfl (fun he_b1 => ?_) (fun b1 he_b1 => ?_)
  · subst he_b1
    refine q_iconst (-1) (c := -1) 12 rfl (by decide +kernel) rfl ?_
    refine q_goto (off := 7) 19 (by decide +kernel) rfl ?_
    exact q_iret (by decide +kernel) rfl rfl (Nat.le_of_ble_eq_true rfl) (Nat.le_of_ble_eq_true rfl)
  · subst he_b1
    refine q_ckV (fun hc_b1 => ?_)
    refine q_aload_n 0 3 16 rfl (by decide +kernel) rfl ?_
    refine q_geti (f := 1) 19 rfl (by decide +kernel) (cC_Me D tc x0 y ad) (cM_of hc_b1) (by decide) rfl tw_1_104 ?_
    exact q_iret (by decide +kernel) rfl rfl (Nat.le_of_ble_eq_true rfl) (Nat.le_of_ble_eq_true rfl)
def f_CR_durationOf (I : q_I) (P : q_P) (a1 : Int32) (a2 : Int32) : Option (Int32 × q_I × q_P) :=
  q_b3 (f_CR_find I P a1 a2) (fun r1 I1 P1 => (r1).elim (some ((-1), I1, P1)) (fun b1 => q_ck (cM b1) (some ((I1 b1 2), I1, P1))))
def y_CR_durationOf : MethodName := ⟨"CalendarReplicas", "durationOf", "(II)I"⟩
def m_CR_durationOf : q_M := (prog_1_method_24_code, 4, "CalendarReplicas", { frames := 5, cells := 0, slots := 0, locals := 130 }, (some FieldType.int))
theorem yv_CR_durationOf : q_Y y_CR_durationOf m_CR_durationOf 2 := ⟨rfl, ⟨by decide, by decide⟩, by decide +kernel, tw_4_98, tw_1_1⟩
set_option maxRecDepth 100000 in
set_option maxHeartbeats 4000000 in
theorem c_CR_durationOf (l : Launch) (D : va_G) (tc : Nat → ClassId) (x0 y : Nat) (ad : Nat → Nat) (I : q_I) (J : q_J) (P : q_P) (a1 : Int32) (a2 : Int32) : q_Ct l (cG D tc x0 y ad) y_CR_durationOf m_CR_durationOf [q_r (cG D tc x0 y ad) 0, .int a1, .int a2] (I, J, P) (f_CR_durationOf I P a1 a2) (fun r : Int32 × q_I × q_P => (some (.int r.1), (r.2.1, J, r.2.2))) := by
  refine q_Ct_of (cIn D tc x0 y ad) (by decide) rfl (Nat.le_of_ble_eq_true rfl) rfl (fun X hX => ?_)
  subst hX
  unfold f_CR_durationOf
  refine q_aload_n 0 0 1 rfl (by decide +kernel) rfl ?_
  refine q_iload_n 1 1 2 rfl (by decide +kernel) rfl ?_
  refine q_iload_n 2 2 3 rfl (by decide +kernel) rfl ?_
  refine q_callV_qIP 6 rfl (av := [.int a1, .int a2]) (o := 0) (st := []) (c_CR_find X.1 D tc x0 y ad I J P a1 a2) yv_CR_find tw_4_23 tw_4_25 sw_17 (cC_CR D tc x0 y ad) k_CR rfl (Nat.le_of_ble_eq_true rfl) (by decide +kernel) ⟨Nat.le_of_ble_eq_true rfl, Nat.le_of_ble_eq_true rfl⟩ ⟨Nat.le_of_ble_eq_true rfl, Nat.le_of_ble_eq_true rfl⟩ rfl rfl (fun r1 I1 P1 => ?_)
  refine q_astoreq_n 3 3 7 rfl [(3, q_rn (cG D tc x0 y ad) r1), (0, q_r (cG D tc x0 y ad) 0), (1, .int a1), (2, .int a2)] (by decide +kernel) rfl (Nat.le_of_ble_eq_true rfl) rfl ?_
  refine q_aloadq_n 0 3 8 rfl (by decide +kernel) rfl ?_
  refine q_ifnonnull 11 rfl 15 (off := 7) (by decide +kernel) rfl (fun he_b1 => ?_) (fun b1 he_b1 => ?_)
  · subst he_b1
    refine q_iconst (-1) (c := -1) 12 rfl (by decide +kernel) rfl ?_
    refine q_goto (off := 7) 19 (by decide +kernel) rfl ?_
    exact q_iret (by decide +kernel) rfl rfl (Nat.le_of_ble_eq_true rfl) (Nat.le_of_ble_eq_true rfl)
  · subst he_b1
    refine q_ckV (fun hc_b1 => ?_)
    refine q_aload_n 0 3 16 rfl (by decide +kernel) rfl ?_
    refine q_geti (f := 2) 19 rfl (by decide +kernel) (cC_Me D tc x0 y ad) (cM_of hc_b1) (by decide) rfl tw_1_110 ?_
    exact q_iret (by decide +kernel) rfl rfl (Nat.le_of_ble_eq_true rfl) (Nat.le_of_ble_eq_true rfl)
def f_CR_roomOf (I : q_I) (P : q_P) (a1 : Int32) (a2 : Int32) : Option (Int32 × q_I × q_P) :=
  q_b3 (f_CR_find I P a1 a2) (fun r1 I1 P1 => (r1).elim (some ((-1), I1, P1)) (fun b1 => q_ck (cM b1) (some ((I1 b1 3), I1, P1))))
def y_CR_roomOf : MethodName := ⟨"CalendarReplicas", "roomOf", "(II)I"⟩
def m_CR_roomOf : q_M := (prog_1_method_25_code, 4, "CalendarReplicas", { frames := 5, cells := 0, slots := 0, locals := 130 }, (some FieldType.int))
theorem yv_CR_roomOf : q_Y y_CR_roomOf m_CR_roomOf 2 := ⟨rfl, ⟨by decide, by decide⟩, by decide +kernel, tw_4_102, tw_1_1⟩
set_option maxRecDepth 100000 in
set_option maxHeartbeats 4000000 in
theorem c_CR_roomOf (l : Launch) (D : va_G) (tc : Nat → ClassId) (x0 y : Nat) (ad : Nat → Nat) (I : q_I) (J : q_J) (P : q_P) (a1 : Int32) (a2 : Int32) : q_Ct l (cG D tc x0 y ad) y_CR_roomOf m_CR_roomOf [q_r (cG D tc x0 y ad) 0, .int a1, .int a2] (I, J, P) (f_CR_roomOf I P a1 a2) (fun r : Int32 × q_I × q_P => (some (.int r.1), (r.2.1, J, r.2.2))) := by
  refine q_Ct_of (cIn D tc x0 y ad) (by decide) rfl (Nat.le_of_ble_eq_true rfl) rfl (fun X hX => ?_)
  subst hX
  unfold f_CR_roomOf
  refine q_aload_n 0 0 1 rfl (by decide +kernel) rfl ?_
  refine q_iload_n 1 1 2 rfl (by decide +kernel) rfl ?_
  refine q_iload_n 2 2 3 rfl (by decide +kernel) rfl ?_
  refine q_callV_qIP 6 rfl (av := [.int a1, .int a2]) (o := 0) (st := []) (c_CR_find X.1 D tc x0 y ad I J P a1 a2) yv_CR_find tw_4_23 tw_4_25 sw_17 (cC_CR D tc x0 y ad) k_CR rfl (Nat.le_of_ble_eq_true rfl) (by decide +kernel) ⟨Nat.le_of_ble_eq_true rfl, Nat.le_of_ble_eq_true rfl⟩ ⟨Nat.le_of_ble_eq_true rfl, Nat.le_of_ble_eq_true rfl⟩ rfl rfl (fun r1 I1 P1 => ?_)
  refine q_astoreq_n 3 3 7 rfl [(3, q_rn (cG D tc x0 y ad) r1), (0, q_r (cG D tc x0 y ad) 0), (1, .int a1), (2, .int a2)] (by decide +kernel) rfl (Nat.le_of_ble_eq_true rfl) rfl ?_
  refine q_aloadq_n 0 3 8 rfl (by decide +kernel) rfl ?_
  refine q_ifnonnull 11 rfl 15 (off := 7) (by decide +kernel) rfl (fun he_b1 => ?_) (fun b1 he_b1 => ?_)
  · subst he_b1
    refine q_iconst (-1) (c := -1) 12 rfl (by decide +kernel) rfl ?_
    refine q_goto (off := 7) 19 (by decide +kernel) rfl ?_
    exact q_iret (by decide +kernel) rfl rfl (Nat.le_of_ble_eq_true rfl) (Nat.le_of_ble_eq_true rfl)
  · subst he_b1
    refine q_ckV (fun hc_b1 => ?_)
    refine q_aload_n 0 3 16 rfl (by decide +kernel) rfl ?_
    refine q_geti (f := 3) 19 rfl (by decide +kernel) (cC_Me D tc x0 y ad) (cM_of hc_b1) (by decide) rfl tw_1_115 ?_
    exact q_iret (by decide +kernel) rfl rfl (Nat.le_of_ble_eq_true rfl) (Nat.le_of_ble_eq_true rfl)
def f_CR_personsOf (I : q_I) (P : q_P) (a1 : Int32) (a2 : Int32) : Option (Int32 × q_I × q_P) :=
  q_b3 (f_CR_find I P a1 a2) (fun r1 I1 P1 => (r1).elim (some ((-1), I1, P1)) (fun b1 => q_ck (cM b1) (some ((I1 b1 4), I1, P1))))
def y_CR_personsOf : MethodName := ⟨"CalendarReplicas", "personsOf", "(II)I"⟩
def m_CR_personsOf : q_M := (prog_1_method_26_code, 4, "CalendarReplicas", { frames := 5, cells := 0, slots := 0, locals := 130 }, (some FieldType.int))
theorem yv_CR_personsOf : q_Y y_CR_personsOf m_CR_personsOf 2 := ⟨rfl, ⟨by decide, by decide⟩, by decide +kernel, tw_4_106, tw_1_1⟩
set_option maxRecDepth 100000 in
set_option maxHeartbeats 4000000 in
theorem c_CR_personsOf (l : Launch) (D : va_G) (tc : Nat → ClassId) (x0 y : Nat) (ad : Nat → Nat) (I : q_I) (J : q_J) (P : q_P) (a1 : Int32) (a2 : Int32) : q_Ct l (cG D tc x0 y ad) y_CR_personsOf m_CR_personsOf [q_r (cG D tc x0 y ad) 0, .int a1, .int a2] (I, J, P) (f_CR_personsOf I P a1 a2) (fun r : Int32 × q_I × q_P => (some (.int r.1), (r.2.1, J, r.2.2))) := by
  refine q_Ct_of (cIn D tc x0 y ad) (by decide) rfl (Nat.le_of_ble_eq_true rfl) rfl (fun X hX => ?_)
  subst hX
  unfold f_CR_personsOf
  refine q_aload_n 0 0 1 rfl (by decide +kernel) rfl ?_
  refine q_iload_n 1 1 2 rfl (by decide +kernel) rfl ?_
  refine q_iload_n 2 2 3 rfl (by decide +kernel) rfl ?_
  refine q_callV_qIP 6 rfl (av := [.int a1, .int a2]) (o := 0) (st := []) (c_CR_find X.1 D tc x0 y ad I J P a1 a2) yv_CR_find tw_4_23 tw_4_25 sw_17 (cC_CR D tc x0 y ad) k_CR rfl (Nat.le_of_ble_eq_true rfl) (by decide +kernel) ⟨Nat.le_of_ble_eq_true rfl, Nat.le_of_ble_eq_true rfl⟩ ⟨Nat.le_of_ble_eq_true rfl, Nat.le_of_ble_eq_true rfl⟩ rfl rfl (fun r1 I1 P1 => ?_)
  refine q_astoreq_n 3 3 7 rfl [(3, q_rn (cG D tc x0 y ad) r1), (0, q_r (cG D tc x0 y ad) 0), (1, .int a1), (2, .int a2)] (by decide +kernel) rfl (Nat.le_of_ble_eq_true rfl) rfl ?_
  refine q_aloadq_n 0 3 8 rfl (by decide +kernel) rfl ?_
  refine q_ifnonnull 11 rfl 15 (off := 7) (by decide +kernel) rfl (fun he_b1 => ?_) (fun b1 he_b1 => ?_)
  · subst he_b1
    refine q_iconst (-1) (c := -1) 12 rfl (by decide +kernel) rfl ?_
    refine q_goto (off := 7) 19 (by decide +kernel) rfl ?_
    exact q_iret (by decide +kernel) rfl rfl (Nat.le_of_ble_eq_true rfl) (Nat.le_of_ble_eq_true rfl)
  · subst he_b1
    refine q_ckV (fun hc_b1 => ?_)
    refine q_aload_n 0 3 16 rfl (by decide +kernel) rfl ?_
    refine q_geti (f := 4) 19 rfl (by decide +kernel) (cC_Me D tc x0 y ad) (cM_of hc_b1) (by decide) rfl tw_1_120 ?_
    exact q_iret (by decide +kernel) rfl rfl (Nat.le_of_ble_eq_true rfl) (Nat.le_of_ble_eq_true rfl)
def f_CR_periodOf (I : q_I) (P : q_P) (a1 : Int32) (a2 : Int32) : Option (Int32 × q_I × q_P) :=
  q_b3 (f_CR_find I P a1 a2) (fun r1 I1 P1 => (r1).elim (some ((-1), I1, P1)) (fun b1 => q_ck (cM b1) (some ((I1 b1 5), I1, P1))))
def y_CR_periodOf : MethodName := ⟨"CalendarReplicas", "periodOf", "(II)I"⟩
def m_CR_periodOf : q_M := (prog_1_method_27_code, 4, "CalendarReplicas", { frames := 5, cells := 0, slots := 0, locals := 130 }, (some FieldType.int))
theorem yv_CR_periodOf : q_Y y_CR_periodOf m_CR_periodOf 2 := ⟨rfl, ⟨by decide, by decide⟩, by decide +kernel, tw_4_110, tw_1_1⟩
set_option maxRecDepth 100000 in
set_option maxHeartbeats 4000000 in
theorem c_CR_periodOf (l : Launch) (D : va_G) (tc : Nat → ClassId) (x0 y : Nat) (ad : Nat → Nat) (I : q_I) (J : q_J) (P : q_P) (a1 : Int32) (a2 : Int32) : q_Ct l (cG D tc x0 y ad) y_CR_periodOf m_CR_periodOf [q_r (cG D tc x0 y ad) 0, .int a1, .int a2] (I, J, P) (f_CR_periodOf I P a1 a2) (fun r : Int32 × q_I × q_P => (some (.int r.1), (r.2.1, J, r.2.2))) := by
  refine q_Ct_of (cIn D tc x0 y ad) (by decide) rfl (Nat.le_of_ble_eq_true rfl) rfl (fun X hX => ?_)
  subst hX
  unfold f_CR_periodOf
  refine q_aload_n 0 0 1 rfl (by decide +kernel) rfl ?_
  refine q_iload_n 1 1 2 rfl (by decide +kernel) rfl ?_
  refine q_iload_n 2 2 3 rfl (by decide +kernel) rfl ?_
  refine q_callV_qIP 6 rfl (av := [.int a1, .int a2]) (o := 0) (st := []) (c_CR_find X.1 D tc x0 y ad I J P a1 a2) yv_CR_find tw_4_23 tw_4_25 sw_17 (cC_CR D tc x0 y ad) k_CR rfl (Nat.le_of_ble_eq_true rfl) (by decide +kernel) ⟨Nat.le_of_ble_eq_true rfl, Nat.le_of_ble_eq_true rfl⟩ ⟨Nat.le_of_ble_eq_true rfl, Nat.le_of_ble_eq_true rfl⟩ rfl rfl (fun r1 I1 P1 => ?_)
  refine q_astoreq_n 3 3 7 rfl [(3, q_rn (cG D tc x0 y ad) r1), (0, q_r (cG D tc x0 y ad) 0), (1, .int a1), (2, .int a2)] (by decide +kernel) rfl (Nat.le_of_ble_eq_true rfl) rfl ?_
  refine q_aloadq_n 0 3 8 rfl (by decide +kernel) rfl ?_
  refine q_ifnonnull 11 rfl 15 (off := 7) (by decide +kernel) rfl (fun he_b1 => ?_) (fun b1 he_b1 => ?_)
  · subst he_b1
    refine q_iconst (-1) (c := -1) 12 rfl (by decide +kernel) rfl ?_
    refine q_goto (off := 7) 19 (by decide +kernel) rfl ?_
    exact q_iret (by decide +kernel) rfl rfl (Nat.le_of_ble_eq_true rfl) (Nat.le_of_ble_eq_true rfl)
  · subst he_b1
    refine q_ckV (fun hc_b1 => ?_)
    refine q_aload_n 0 3 16 rfl (by decide +kernel) rfl ?_
    refine q_geti (f := 5) 19 rfl (by decide +kernel) (cC_Me D tc x0 y ad) (cM_of hc_b1) (by decide) rfl tw_1_125 ?_
    exact q_iret (by decide +kernel) rfl rfl (Nat.le_of_ble_eq_true rfl) (Nat.le_of_ble_eq_true rfl)
def f_CR_countOf (I : q_I) (P : q_P) (a1 : Int32) (a2 : Int32) : Option (Int32 × q_I × q_P) :=
  q_b3 (f_CR_find I P a1 a2) (fun r1 I1 P1 => (r1).elim (some ((-1), I1, P1)) (fun b1 => q_ck (cM b1) (some ((I1 b1 6), I1, P1))))
def y_CR_countOf : MethodName := ⟨"CalendarReplicas", "countOf", "(II)I"⟩
def m_CR_countOf : q_M := (prog_1_method_28_code, 4, "CalendarReplicas", { frames := 5, cells := 0, slots := 0, locals := 130 }, (some FieldType.int))
theorem yv_CR_countOf : q_Y y_CR_countOf m_CR_countOf 2 := ⟨rfl, ⟨by decide, by decide⟩, by decide +kernel, tw_4_114, tw_1_1⟩
set_option maxRecDepth 100000 in
set_option maxHeartbeats 4000000 in
theorem c_CR_countOf (l : Launch) (D : va_G) (tc : Nat → ClassId) (x0 y : Nat) (ad : Nat → Nat) (I : q_I) (J : q_J) (P : q_P) (a1 : Int32) (a2 : Int32) : q_Ct l (cG D tc x0 y ad) y_CR_countOf m_CR_countOf [q_r (cG D tc x0 y ad) 0, .int a1, .int a2] (I, J, P) (f_CR_countOf I P a1 a2) (fun r : Int32 × q_I × q_P => (some (.int r.1), (r.2.1, J, r.2.2))) := by
  refine q_Ct_of (cIn D tc x0 y ad) (by decide) rfl (Nat.le_of_ble_eq_true rfl) rfl (fun X hX => ?_)
  subst hX
  unfold f_CR_countOf
  refine q_aload_n 0 0 1 rfl (by decide +kernel) rfl ?_
  refine q_iload_n 1 1 2 rfl (by decide +kernel) rfl ?_
  refine q_iload_n 2 2 3 rfl (by decide +kernel) rfl ?_
  refine q_callV_qIP 6 rfl (av := [.int a1, .int a2]) (o := 0) (st := []) (c_CR_find X.1 D tc x0 y ad I J P a1 a2) yv_CR_find tw_4_23 tw_4_25 sw_17 (cC_CR D tc x0 y ad) k_CR rfl (Nat.le_of_ble_eq_true rfl) (by decide +kernel) ⟨Nat.le_of_ble_eq_true rfl, Nat.le_of_ble_eq_true rfl⟩ ⟨Nat.le_of_ble_eq_true rfl, Nat.le_of_ble_eq_true rfl⟩ rfl rfl (fun r1 I1 P1 => ?_)
  refine q_astoreq_n 3 3 7 rfl [(3, q_rn (cG D tc x0 y ad) r1), (0, q_r (cG D tc x0 y ad) 0), (1, .int a1), (2, .int a2)] (by decide +kernel) rfl (Nat.le_of_ble_eq_true rfl) rfl ?_
  refine q_aloadq_n 0 3 8 rfl (by decide +kernel) rfl ?_
  refine q_ifnonnull 11 rfl 15 (off := 7) (by decide +kernel) rfl (fun he_b1 => ?_) (fun b1 he_b1 => ?_)
  · subst he_b1
    refine q_iconst (-1) (c := -1) 12 rfl (by decide +kernel) rfl ?_
    refine q_goto (off := 7) 19 (by decide +kernel) rfl ?_
    exact q_iret (by decide +kernel) rfl rfl (Nat.le_of_ble_eq_true rfl) (Nat.le_of_ble_eq_true rfl)
  · subst he_b1
    refine q_ckV (fun hc_b1 => ?_)
    refine q_aload_n 0 3 16 rfl (by decide +kernel) rfl ?_
    refine q_geti (f := 6) 19 rfl (by decide +kernel) (cC_Me D tc x0 y ad) (cM_of hc_b1) (by decide) rfl tw_1_130 ?_
    exact q_iret (by decide +kernel) rfl rfl (Nat.le_of_ble_eq_true rfl) (Nat.le_of_ble_eq_true rfl)
def f_CR_edits (I : q_I) : Option (Int32) :=
  some ((I 1 3))
def y_CR_edits : MethodName := ⟨"CalendarReplicas", "edits", "()I"⟩
def m_CR_edits : q_M := (prog_1_method_31_code, 1, "CalendarReplicas", { frames := 0, cells := 0, slots := 0, locals := 0 }, (some FieldType.int))
theorem yv_CR_edits : q_Y y_CR_edits m_CR_edits 0 := ⟨rfl, ⟨by decide, by decide⟩, by decide +kernel, tw_4_118, tw_1_1⟩
set_option maxRecDepth 100000 in
set_option maxHeartbeats 4000000 in
theorem c_CR_edits (l : Launch) (D : va_G) (tc : Nat → ClassId) (x0 y : Nat) (ad : Nat → Nat) (I : q_I) (J : q_J) (P : q_P) : q_Ct l (cG D tc x0 y ad) y_CR_edits m_CR_edits [q_r (cG D tc x0 y ad) 0] (I, J, P) (f_CR_edits I) (fun r : Int32 => (some (.int r), (I, J, P))) := by
  refine q_Ct_of (cIn D tc x0 y ad) (by decide) rfl (Nat.le_of_ble_eq_true rfl) rfl (fun X hX => ?_)
  subst hX
  unfold f_CR_edits
  refine q_aload_n 0 0 1 rfl (by decide +kernel) rfl ?_
  refine q_getr (f := 0) 1 4 rfl (by decide +kernel) (cC_CR D tc x0 y ad) k_CR (by decide) rfl rfl tw_2_102 ?_
  refine q_geti (f := 3) 7 rfl (by decide +kernel) (cC_Wo D tc x0 y ad) k_Wo1.1 (by decide) rfl tw_1_213 ?_
  exact q_iret (by decide +kernel) rfl rfl (Nat.le_of_ble_eq_true rfl) (Nat.le_of_ble_eq_true rfl)
def f_CR_editAt (I : q_I) (a1 : Int32) : Option (Int32) :=
  q_b1 (if (I 1 3) ≤ a1 then ((some ((none : Option Nat)))) else (q_b1 (f_Wo_editAtIndex I 1 a1) (fun r2 => (some (r2)))) : Option (Option Nat)) (fun (r1 : Option Nat) => (r1).elim (some ((-1))) (fun b1 => q_ck (cE b1) (some ((I b1 0)))))
def y_CR_editAt : MethodName := ⟨"CalendarReplicas", "editAt", "(I)I"⟩
def m_CR_editAt : q_M := (prog_1_method_32_code, 3, "CalendarReplicas", { frames := 1, cells := 0, slots := 0, locals := 21 }, (some FieldType.int))
theorem yv_CR_editAt : q_Y y_CR_editAt m_CR_editAt 1 := ⟨rfl, ⟨by decide, by decide⟩, by decide +kernel, tw_4_122, tw_1_1⟩
set_option maxRecDepth 100000 in
set_option maxHeartbeats 4000000 in
theorem c_CR_editAt (l : Launch) (D : va_G) (tc : Nat → ClassId) (x0 y : Nat) (ad : Nat → Nat) (I : q_I) (J : q_J) (P : q_P) (a1 : Int32) : q_Ct l (cG D tc x0 y ad) y_CR_editAt m_CR_editAt [q_r (cG D tc x0 y ad) 0, .int a1] (I, J, P) (f_CR_editAt I a1) (fun r : Int32 => (some (.int r), (I, J, P))) := by
  refine q_Ct_of (cIn D tc x0 y ad) (by decide) rfl (Nat.le_of_ble_eq_true rfl) rfl (fun X hX => ?_)
  subst hX
  unfold f_CR_editAt
  refine q_iload_n 1 1 1 rfl (by decide +kernel) rfl ?_
  refine q_aload_n 0 0 2 rfl (by decide +kernel) rfl ?_
  refine q_getr (f := 0) 1 5 rfl (by decide +kernel) (cC_CR D tc x0 y ad) k_CR (by decide) rfl rfl tw_2_102 ?_
  refine q_geti (f := 3) 8 rfl (by decide +kernel) (cC_Wo D tc x0 y ad) k_Wo1.1 (by decide) rfl tw_1_213 ?_
  refine q_jn1 23 (fun r1 => []) (fun r1 => [q_rn (cG D tc x0 y ad) r1]) (fun r1 => I) (fun r1 => J) (fun r1 => P) (fun jk1 => if (I 1 3) ≤ a1 then ((jk1 ((none : Option Nat)))) else (q_b1 (f_Wo_editAtIndex I 1 a1) (fun r2 => (jk1 (r2))))) (by intro jk1; simp only [q_b1_if, q_b1_s, q_b1_n, q_b1_ix, q_b1_b1, q_b1_b2, q_b1_b3, q_b1_l, q_b1_ck, q_b1_el, q_b1_b4]) ?_ ?_
  · intro r1
    refine q_astoreq_n 2 2 24 rfl [(2, q_rn (cG D tc x0 y ad) r1)] (by decide +kernel) rfl (Nat.le_of_ble_eq_true rfl) rfl ?_
    refine q_aloadq_n 0 2 25 rfl (by decide +kernel) rfl ?_
    refine q_ifnonnull 28 rfl 32 (off := 7) (by decide +kernel) rfl (fun he_b1 => ?_) (fun b1 he_b1 => ?_)
    · subst he_b1
      refine q_iconst (-1) (c := -1) 29 rfl (by decide +kernel) rfl ?_
      refine q_goto (off := 7) 36 (by decide +kernel) rfl ?_
      exact q_iret (by decide +kernel) rfl rfl (Nat.le_of_ble_eq_true rfl) (Nat.le_of_ble_eq_true rfl)
    · subst he_b1
      refine q_ckV (fun hc_b1 => ?_)
      refine q_aload_n 0 2 33 rfl (by decide +kernel) rfl ?_
      refine q_geti (f := 0) 36 rfl (by decide +kernel) (cC_Ed D tc x0 y ad) (cE_of hc_b1).1 (by decide) rfl tw_1_167 ?_
      exact q_iret (by decide +kernel) rfl rfl (Nat.le_of_ble_eq_true rfl) (Nat.le_of_ble_eq_true rfl)
  · intro jk1 hq1
    refine q_icmp_ge 11 rfl 22 (off := 14) (by decide +kernel) rfl (fun g1 => ?_) (fun g1 => ?_)
    · refine q_null 23 rfl (by decide +kernel) ?_
      refine q_sub [] rfl ?_
      exact hq1 (none : Option Nat)
    · refine q_aload_n 0 0 12 rfl (by decide +kernel) rfl ?_
      refine q_getr (f := 0) 1 15 rfl (by decide +kernel) (cC_CR D tc x0 y ad) k_CR (by decide) rfl rfl tw_2_102 ?_
      refine q_iload_n 1 1 16 rfl (by decide +kernel) rfl ?_
      refine q_callV_q 19 rfl (av := [.int a1]) (o := 1) (st := []) (c_Wo_editAtIndex X.1 D tc x0 y ad I J P k_Wo1 a1) yv_Wo_editAtIndex tw_3_75 tw_3_76 tw_3_77 (cC_Wo D tc x0 y ad) k_Wo1.1 rfl (Nat.le_of_ble_eq_true rfl) (by decide +kernel) ⟨Nat.le_of_ble_eq_true rfl, Nat.le_of_ble_eq_true rfl⟩ ⟨Nat.le_of_ble_eq_true rfl, Nat.le_of_ble_eq_true rfl⟩ rfl rfl (fun r2 => ?_)
      refine q_goto (off := 4) 23 (by decide +kernel) rfl ?_
      refine q_sub [] rfl ?_
      exact hq1 r2
def f_CR_kindOf (I : q_I) (a1 : Int32) : Option (Int32) :=
  q_b1 (f_Wo_indexOf I 1 a1) (fun v1 => q_b1 (f_Wo_editAtIndex I 1 v1) (fun r1 => (r1).elim (some ((-1))) (fun b1 => q_ck (cE b1) (some ((I b1 3))))))
def y_CR_kindOf : MethodName := ⟨"CalendarReplicas", "kindOf", "(I)I"⟩
def m_CR_kindOf : q_M := (prog_1_method_33_code, 3, "CalendarReplicas", { frames := 1, cells := 0, slots := 0, locals := 22 }, (some FieldType.int))
theorem yv_CR_kindOf : q_Y y_CR_kindOf m_CR_kindOf 1 := ⟨rfl, ⟨by decide, by decide⟩, by decide +kernel, tw_4_126, tw_1_1⟩
set_option maxRecDepth 100000 in
set_option maxHeartbeats 4000000 in
theorem c_CR_kindOf (l : Launch) (D : va_G) (tc : Nat → ClassId) (x0 y : Nat) (ad : Nat → Nat) (I : q_I) (J : q_J) (P : q_P) (a1 : Int32) : q_Ct l (cG D tc x0 y ad) y_CR_kindOf m_CR_kindOf [q_r (cG D tc x0 y ad) 0, .int a1] (I, J, P) (f_CR_kindOf I a1) (fun r : Int32 => (some (.int r), (I, J, P))) := by
  refine q_Ct_of (cIn D tc x0 y ad) (by decide) rfl (Nat.le_of_ble_eq_true rfl) rfl (fun X hX => ?_)
  subst hX
  unfold f_CR_kindOf
  refine q_aload_n 0 0 1 rfl (by decide +kernel) rfl ?_
  refine q_getr (f := 0) 1 4 rfl (by decide +kernel) (cC_CR D tc x0 y ad) k_CR (by decide) rfl rfl tw_2_102 ?_
  refine q_aload_n 0 0 5 rfl (by decide +kernel) rfl ?_
  refine q_getr (f := 0) 1 8 rfl (by decide +kernel) (cC_CR D tc x0 y ad) k_CR (by decide) rfl rfl tw_2_102 ?_
  refine q_iload_n 1 1 9 rfl (by decide +kernel) rfl ?_
  refine q_callV_i 12 rfl (av := [.int a1]) (o := 1) (st := [q_r (cG D tc x0 y ad) 1]) (c_Wo_indexOf X.1 D tc x0 y ad I J P k_Wo1 a1) yv_Wo_indexOf tw_4_69 tw_4_70 tw_4_71 (cC_Wo D tc x0 y ad) k_Wo1.1 rfl (Nat.le_of_ble_eq_true rfl) (by decide +kernel) ⟨Nat.le_of_ble_eq_true rfl, Nat.le_of_ble_eq_true rfl⟩ ⟨Nat.le_of_ble_eq_true rfl, Nat.le_of_ble_eq_true rfl⟩ rfl rfl (fun v1 => ?_)
  refine q_callV_q 15 rfl (av := [.int v1]) (o := 1) (st := []) (c_Wo_editAtIndex X.1 D tc x0 y ad I J P k_Wo1 v1) yv_Wo_editAtIndex tw_3_75 tw_3_76 tw_3_77 (cC_Wo D tc x0 y ad) k_Wo1.1 rfl (Nat.le_of_ble_eq_true rfl) (by decide +kernel) ⟨Nat.le_of_ble_eq_true rfl, Nat.le_of_ble_eq_true rfl⟩ ⟨Nat.le_of_ble_eq_true rfl, Nat.le_of_ble_eq_true rfl⟩ rfl rfl (fun r1 => ?_)
  refine q_astoreq_n 2 2 16 rfl [(2, q_rn (cG D tc x0 y ad) r1), (0, q_r (cG D tc x0 y ad) 0), (1, .int a1)] (by decide +kernel) rfl (Nat.le_of_ble_eq_true rfl) rfl ?_
  refine q_aloadq_n 0 2 17 rfl (by decide +kernel) rfl ?_
  refine q_ifnonnull 20 rfl 24 (off := 7) (by decide +kernel) rfl (fun he_b1 => ?_) (fun b1 he_b1 => ?_)
  · subst he_b1
    refine q_iconst (-1) (c := -1) 21 rfl (by decide +kernel) rfl ?_
    refine q_goto (off := 7) 28 (by decide +kernel) rfl ?_
    exact q_iret (by decide +kernel) rfl rfl (Nat.le_of_ble_eq_true rfl) (Nat.le_of_ble_eq_true rfl)
  · subst he_b1
    refine q_ckV (fun hc_b1 => ?_)
    refine q_aload_n 0 2 25 rfl (by decide +kernel) rfl ?_
    refine q_geti (f := 3) 28 rfl (by decide +kernel) (cC_Ed D tc x0 y ad) (cE_of hc_b1).1 (by decide) rfl tw_1_175 ?_
    exact q_iret (by decide +kernel) rfl rfl (Nat.le_of_ble_eq_true rfl) (Nat.le_of_ble_eq_true rfl)
def f_CR_meetingOf (I : q_I) (a1 : Int32) : Option (Int32) :=
  q_b1 (f_Wo_indexOf I 1 a1) (fun v1 => q_b1 (f_Wo_editAtIndex I 1 v1) (fun r1 => (r1).elim (some ((-1))) (fun b1 => q_ck (cE b1) (some ((I b1 4))))))
def y_CR_meetingOf : MethodName := ⟨"CalendarReplicas", "meetingOf", "(I)I"⟩
def m_CR_meetingOf : q_M := (prog_1_method_34_code, 3, "CalendarReplicas", { frames := 1, cells := 0, slots := 0, locals := 22 }, (some FieldType.int))
theorem yv_CR_meetingOf : q_Y y_CR_meetingOf m_CR_meetingOf 1 := ⟨rfl, ⟨by decide, by decide⟩, by decide +kernel, tw_4_130, tw_1_1⟩
set_option maxRecDepth 100000 in
set_option maxHeartbeats 4000000 in
theorem c_CR_meetingOf (l : Launch) (D : va_G) (tc : Nat → ClassId) (x0 y : Nat) (ad : Nat → Nat) (I : q_I) (J : q_J) (P : q_P) (a1 : Int32) : q_Ct l (cG D tc x0 y ad) y_CR_meetingOf m_CR_meetingOf [q_r (cG D tc x0 y ad) 0, .int a1] (I, J, P) (f_CR_meetingOf I a1) (fun r : Int32 => (some (.int r), (I, J, P))) := by
  refine q_Ct_of (cIn D tc x0 y ad) (by decide) rfl (Nat.le_of_ble_eq_true rfl) rfl (fun X hX => ?_)
  subst hX
  unfold f_CR_meetingOf
  refine q_aload_n 0 0 1 rfl (by decide +kernel) rfl ?_
  refine q_getr (f := 0) 1 4 rfl (by decide +kernel) (cC_CR D tc x0 y ad) k_CR (by decide) rfl rfl tw_2_102 ?_
  refine q_aload_n 0 0 5 rfl (by decide +kernel) rfl ?_
  refine q_getr (f := 0) 1 8 rfl (by decide +kernel) (cC_CR D tc x0 y ad) k_CR (by decide) rfl rfl tw_2_102 ?_
  refine q_iload_n 1 1 9 rfl (by decide +kernel) rfl ?_
  refine q_callV_i 12 rfl (av := [.int a1]) (o := 1) (st := [q_r (cG D tc x0 y ad) 1]) (c_Wo_indexOf X.1 D tc x0 y ad I J P k_Wo1 a1) yv_Wo_indexOf tw_4_69 tw_4_70 tw_4_71 (cC_Wo D tc x0 y ad) k_Wo1.1 rfl (Nat.le_of_ble_eq_true rfl) (by decide +kernel) ⟨Nat.le_of_ble_eq_true rfl, Nat.le_of_ble_eq_true rfl⟩ ⟨Nat.le_of_ble_eq_true rfl, Nat.le_of_ble_eq_true rfl⟩ rfl rfl (fun v1 => ?_)
  refine q_callV_q 15 rfl (av := [.int v1]) (o := 1) (st := []) (c_Wo_editAtIndex X.1 D tc x0 y ad I J P k_Wo1 v1) yv_Wo_editAtIndex tw_3_75 tw_3_76 tw_3_77 (cC_Wo D tc x0 y ad) k_Wo1.1 rfl (Nat.le_of_ble_eq_true rfl) (by decide +kernel) ⟨Nat.le_of_ble_eq_true rfl, Nat.le_of_ble_eq_true rfl⟩ ⟨Nat.le_of_ble_eq_true rfl, Nat.le_of_ble_eq_true rfl⟩ rfl rfl (fun r1 => ?_)
  refine q_astoreq_n 2 2 16 rfl [(2, q_rn (cG D tc x0 y ad) r1), (0, q_r (cG D tc x0 y ad) 0), (1, .int a1)] (by decide +kernel) rfl (Nat.le_of_ble_eq_true rfl) rfl ?_
  refine q_aloadq_n 0 2 17 rfl (by decide +kernel) rfl ?_
  refine q_ifnonnull 20 rfl 24 (off := 7) (by decide +kernel) rfl (fun he_b1 => ?_) (fun b1 he_b1 => ?_)
  · subst he_b1
    refine q_iconst (-1) (c := -1) 21 rfl (by decide +kernel) rfl ?_
    refine q_goto (off := 7) 28 (by decide +kernel) rfl ?_
    exact q_iret (by decide +kernel) rfl rfl (Nat.le_of_ble_eq_true rfl) (Nat.le_of_ble_eq_true rfl)
  · subst he_b1
    refine q_ckV (fun hc_b1 => ?_)
    refine q_aload_n 0 2 25 rfl (by decide +kernel) rfl ?_
    refine q_geti (f := 4) 28 rfl (by decide +kernel) (cC_Ed D tc x0 y ad) (cE_of hc_b1).1 (by decide) rfl tw_1_178 ?_
    exact q_iret (by decide +kernel) rfl rfl (Nat.le_of_ble_eq_true rfl) (Nat.le_of_ble_eq_true rfl)
