def f_CR_authorOf (I : q_I) (a1 : Int32) : Option (Int32) :=
  q_b1 (f_Wo_indexOf I 1 a1) (fun v1 => q_b1 (f_Wo_editAtIndex I 1 v1) (fun r1 => (r1).elim (some ((-1))) (fun b1 => q_ck (cE b1) (some ((I b1 1))))))
def y_CR_authorOf : MethodName := ⟨"CalendarReplicas", "authorOf", "(I)I"⟩
def m_CR_authorOf : q_M := (prog_1_method_35_code, 3, "CalendarReplicas", { frames := 1, cells := 0, slots := 0, locals := 22 }, (some FieldType.int))
theorem yv_CR_authorOf : q_Y y_CR_authorOf m_CR_authorOf 1 := ⟨rfl, ⟨by decide, by decide⟩, by decide +kernel, tw_4_134, tw_1_1⟩
set_option maxRecDepth 100000 in
set_option maxHeartbeats 4000000 in
theorem c_CR_authorOf (l : Launch) (D : va_G) (tc : Nat → ClassId) (x0 y : Nat) (ad : Nat → Nat) (I : q_I) (J : q_J) (P : q_P) (a1 : Int32) : q_Ct l (cG D tc x0 y ad) y_CR_authorOf m_CR_authorOf [q_r (cG D tc x0 y ad) 0, .int a1] (I, J, P) (f_CR_authorOf I a1) (fun r : Int32 => (some (.int r), (I, J, P))) := by
  refine q_Ct_of (cIn D tc x0 y ad) (by decide) rfl (Nat.le_of_ble_eq_true rfl) rfl (fun X hX => ?_)
  subst hX
  unfold f_CR_authorOf
  refine q_aload_n 0 0 1 rfl (by decide +kernel) rfl ?_
  refine q_getr (f := 0) 1 4 rfl (by decide +kernel) (cC_CR D tc x0 y ad) k_CR (by decide) rfl rfl tw_2_102 ?_
  refine q_aload_n 0 0 5 rfl (by decide +kernel) rfl ?_
  refine q_getr (f := 0) 1 8 rfl (by decide +kernel) (cC_CR D tc x0 y ad) k_CR (by decide) rfl rfl tw_2_102 ?_
  refine q_iload_n 1 1 9 rfl (by decide +kernel) rfl ?_
  refine q_callV_i 12 rfl (av := [.int a1]) (o := 1) (st := [q_r (cG D tc x0 y ad) 1]) (c_Wo_indexOf X.1 D tc x0 y ad I J P k_Wo1 a1) yv_Wo_indexOf tw_4_69 tw_4_70 tw_4_71 (cC_Wo D tc x0 y ad) k_Wo1.1 rfl (Nat.le_of_ble_eq_true rfl) (by decide +kernel) ⟨Nat.le_of_ble_eq_true rfl, Nat.le_of_ble_eq_true rfl⟩ ⟨Nat.le_of_ble_eq_true rfl, Nat.le_of_ble_eq_true rfl⟩ rfl rfl (fun v1 => ?_)
  refine q_callV_q 15 rfl (av := [.int v1]) (o := 1) (st := []) (c_Wo_editAtIndex X.1 D tc x0 y ad I J P k_Wo1 v1) yv_Wo_editAtIndex tw_3_75 tw_3_76 tw_3_77 (cC_Wo D tc x0 y ad) k_Wo1.1 rfl (Nat.le_of_ble_eq_true rfl) (by decide +kernel) ⟨Nat.le_of_ble_eq_true rfl, Nat.le_of_ble_eq_true rfl⟩ ⟨Nat.le_of_ble_eq_true rfl, Nat.le_of_ble_eq_true rfl⟩ rfl rfl (fun r1 => ?_)
  refine q_astoreq_n 2 2 16 rfl [(2, q_rn (cG D tc x0 y ad) r1), (0, q_r (cG D tc x0 y ad) 0), (1, .int a1)] (by decide +kernel) rfl (Nat.le_of_ble_eq_true rfl) rfl ?_
  refine q_aloadq_n 0 2 17 rfl (by decide +kernel) rfl ?_
  refine q_ifnonnull 20 rfl 24 (off := 7) (by decide +kernel) rfl (fun he_b1 => ?_) (fun b1 he_b1 => ?_)
  · subst he_b1
    refine q_iconst (-1) (c := -1) 21 rfl (by decide +kernel) rfl ?_
    refine q_goto (off := 7) 28 (by decide +kernel) rfl ?_
    exact q_iret (by decide +kernel) rfl rfl (Nat.le_of_ble_eq_true rfl) (Nat.le_of_ble_eq_true rfl)
  · subst he_b1
    refine q_ckV (fun hc_b1 => ?_)
    refine q_aload_n 0 2 25 rfl (by decide +kernel) rfl ?_
    refine q_geti (f := 1) 28 rfl (by decide +kernel) (cC_Ed D tc x0 y ad) (cE_of hc_b1).1 (by decide) rfl tw_1_169 ?_
    exact q_iret (by decide +kernel) rfl rfl (Nat.le_of_ble_eq_true rfl) (Nat.le_of_ble_eq_true rfl)
def f_CR_weightOf (I : q_I) (a1 : Int32) : Option (Int32) :=
  q_b1 (f_Wo_indexOf I 1 a1) (fun v1 => q_b1 (f_Wo_editAtIndex I 1 v1) (fun r1 => (r1).elim (some ((-1))) (fun b1 => q_ck (cE b1) (some ((I b1 2))))))
def y_CR_weightOf : MethodName := ⟨"CalendarReplicas", "weightOf", "(I)I"⟩
def m_CR_weightOf : q_M := (prog_1_method_36_code, 3, "CalendarReplicas", { frames := 1, cells := 0, slots := 0, locals := 22 }, (some FieldType.int))
theorem yv_CR_weightOf : q_Y y_CR_weightOf m_CR_weightOf 1 := ⟨rfl, ⟨by decide, by decide⟩, by decide +kernel, tw_4_138, tw_1_1⟩
set_option maxRecDepth 100000 in
set_option maxHeartbeats 4000000 in
theorem c_CR_weightOf (l : Launch) (D : va_G) (tc : Nat → ClassId) (x0 y : Nat) (ad : Nat → Nat) (I : q_I) (J : q_J) (P : q_P) (a1 : Int32) : q_Ct l (cG D tc x0 y ad) y_CR_weightOf m_CR_weightOf [q_r (cG D tc x0 y ad) 0, .int a1] (I, J, P) (f_CR_weightOf I a1) (fun r : Int32 => (some (.int r), (I, J, P))) := by
  refine q_Ct_of (cIn D tc x0 y ad) (by decide) rfl (Nat.le_of_ble_eq_true rfl) rfl (fun X hX => ?_)
  subst hX
  unfold f_CR_weightOf
  refine q_aload_n 0 0 1 rfl (by decide +kernel) rfl ?_
  refine q_getr (f := 0) 1 4 rfl (by decide +kernel) (cC_CR D tc x0 y ad) k_CR (by decide) rfl rfl tw_2_102 ?_
  refine q_aload_n 0 0 5 rfl (by decide +kernel) rfl ?_
  refine q_getr (f := 0) 1 8 rfl (by decide +kernel) (cC_CR D tc x0 y ad) k_CR (by decide) rfl rfl tw_2_102 ?_
  refine q_iload_n 1 1 9 rfl (by decide +kernel) rfl ?_
  refine q_callV_i 12 rfl (av := [.int a1]) (o := 1) (st := [q_r (cG D tc x0 y ad) 1]) (c_Wo_indexOf X.1 D tc x0 y ad I J P k_Wo1 a1) yv_Wo_indexOf tw_4_69 tw_4_70 tw_4_71 (cC_Wo D tc x0 y ad) k_Wo1.1 rfl (Nat.le_of_ble_eq_true rfl) (by decide +kernel) ⟨Nat.le_of_ble_eq_true rfl, Nat.le_of_ble_eq_true rfl⟩ ⟨Nat.le_of_ble_eq_true rfl, Nat.le_of_ble_eq_true rfl⟩ rfl rfl (fun v1 => ?_)
  refine q_callV_q 15 rfl (av := [.int v1]) (o := 1) (st := []) (c_Wo_editAtIndex X.1 D tc x0 y ad I J P k_Wo1 v1) yv_Wo_editAtIndex tw_3_75 tw_3_76 tw_3_77 (cC_Wo D tc x0 y ad) k_Wo1.1 rfl (Nat.le_of_ble_eq_true rfl) (by decide +kernel) ⟨Nat.le_of_ble_eq_true rfl, Nat.le_of_ble_eq_true rfl⟩ ⟨Nat.le_of_ble_eq_true rfl, Nat.le_of_ble_eq_true rfl⟩ rfl rfl (fun r1 => ?_)
  refine q_astoreq_n 2 2 16 rfl [(2, q_rn (cG D tc x0 y ad) r1), (0, q_r (cG D tc x0 y ad) 0), (1, .int a1)] (by decide +kernel) rfl (Nat.le_of_ble_eq_true rfl) rfl ?_
  refine q_aloadq_n 0 2 17 rfl (by decide +kernel) rfl ?_
  refine q_ifnonnull 20 rfl 24 (off := 7) (by decide +kernel) rfl (fun he_b1 => ?_) (fun b1 he_b1 => ?_)
  · subst he_b1
    refine q_iconst (-1) (c := -1) 21 rfl (by decide +kernel) rfl ?_
    refine q_goto (off := 7) 28 (by decide +kernel) rfl ?_
    exact q_iret (by decide +kernel) rfl rfl (Nat.le_of_ble_eq_true rfl) (Nat.le_of_ble_eq_true rfl)
  · subst he_b1
    refine q_ckV (fun hc_b1 => ?_)
    refine q_aload_n 0 2 25 rfl (by decide +kernel) rfl ?_
    refine q_geti (f := 2) 28 rfl (by decide +kernel) (cC_Ed D tc x0 y ad) (cE_of hc_b1).1 (by decide) rfl tw_1_172 ?_
    exact q_iret (by decide +kernel) rfl rfl (Nat.le_of_ble_eq_true rfl) (Nat.le_of_ble_eq_true rfl)
def f_CR_clash (I : q_I) (a1 : Int32) (a2 : Int32) : Option (Int32) :=
  q_b1 (f_Wo_indexOf I 1 a1) (fun v1 => q_b1 (f_Wo_indexOf I 1 a2) (fun v2 => if v1 < 0 then (some ((-1))) else (if v2 < 0 then (some ((-1))) else (if v1 = v2 then (some ((-1))) else (q_b1 (f_Wo_clashing I 1 v1) (fun v3 => q_b1 (f_CR_contains v3 v2) (fun v4 => if v4 = 0 then (some (0)) else (some (1)))))))))
def y_CR_clash : MethodName := ⟨"CalendarReplicas", "clash", "(II)I"⟩
def m_CR_clash : q_M := (prog_1_method_37_code, 5, "CalendarReplicas", { frames := 2, cells := 0, slots := 0, locals := 44 }, (some FieldType.int))
theorem yv_CR_clash : q_Y y_CR_clash m_CR_clash 2 := ⟨rfl, ⟨by decide, by decide⟩, by decide +kernel, tw_4_142, tw_1_1⟩
set_option maxRecDepth 100000 in
set_option maxHeartbeats 4000000 in
theorem c_CR_clash (l : Launch) (D : va_G) (tc : Nat → ClassId) (x0 y : Nat) (ad : Nat → Nat) (I : q_I) (J : q_J) (P : q_P) (a1 : Int32) (a2 : Int32) : q_Ct l (cG D tc x0 y ad) y_CR_clash m_CR_clash [q_r (cG D tc x0 y ad) 0, .int a1, .int a2] (I, J, P) (f_CR_clash I a1 a2) (fun r : Int32 => (some (.int r), (I, J, P))) := by
  refine q_Ct_of (cIn D tc x0 y ad) (by decide) rfl (Nat.le_of_ble_eq_true rfl) rfl (fun X hX => ?_)
  subst hX
  unfold f_CR_clash
  refine q_aload_n 0 0 1 rfl (by decide +kernel) rfl ?_
  refine q_getr (f := 0) 1 4 rfl (by decide +kernel) (cC_CR D tc x0 y ad) k_CR (by decide) rfl rfl tw_2_102 ?_
  refine q_iload_n 1 1 5 rfl (by decide +kernel) rfl ?_
  refine q_callV_i 8 rfl (av := [.int a1]) (o := 1) (st := []) (c_Wo_indexOf X.1 D tc x0 y ad I J P k_Wo1 a1) yv_Wo_indexOf tw_4_69 tw_4_70 tw_4_71 (cC_Wo D tc x0 y ad) k_Wo1.1 rfl (Nat.le_of_ble_eq_true rfl) (by decide +kernel) ⟨Nat.le_of_ble_eq_true rfl, Nat.le_of_ble_eq_true rfl⟩ ⟨Nat.le_of_ble_eq_true rfl, Nat.le_of_ble_eq_true rfl⟩ rfl rfl (fun v1 => ?_)
  refine q_istore_n 3 3 9 rfl [(3, .int v1), (0, q_r (cG D tc x0 y ad) 0), (1, .int a1), (2, .int a2)] (by decide +kernel) rfl (Nat.le_of_ble_eq_true rfl) rfl ?_
  refine q_aload_n 1 0 10 rfl (by decide +kernel) rfl ?_
  refine q_getr (f := 0) 1 13 rfl (by decide +kernel) (cC_CR D tc x0 y ad) k_CR (by decide) rfl rfl tw_2_102 ?_
  refine q_iload_n 3 2 14 rfl (by decide +kernel) rfl ?_
  refine q_callV_i 17 rfl (av := [.int a2]) (o := 1) (st := []) (c_Wo_indexOf X.1 D tc x0 y ad I J P k_Wo1 a2) yv_Wo_indexOf tw_4_69 tw_4_70 tw_4_71 (cC_Wo D tc x0 y ad) k_Wo1.1 rfl (Nat.le_of_ble_eq_true rfl) (by decide +kernel) ⟨Nat.le_of_ble_eq_true rfl, Nat.le_of_ble_eq_true rfl⟩ ⟨Nat.le_of_ble_eq_true rfl, Nat.le_of_ble_eq_true rfl⟩ rfl rfl (fun v2 => ?_)
  refine q_istore 4 19 rfl [(4, .int v2), (3, .int v1), (0, q_r (cG D tc x0 y ad) 0), (1, .int a1), (2, .int a2)] (by decide +kernel) (Nat.le_of_ble_eq_true rfl) rfl ?_
  refine q_iload_n 1 3 20 rfl (by decide +kernel) rfl ?_
  refine q_if_lt 23 rfl 34 (off := 14) (by decide +kernel) rfl (fun g4 => ?_) (fun g4 => ?_)
  · refine q_iconst (-1) (c := -1) 35 rfl (by decide +kernel) rfl ?_
    exact q_iret (by decide +kernel) rfl rfl (Nat.le_of_ble_eq_true rfl) (Nat.le_of_ble_eq_true rfl)
  · refine q_iload 0 4 25 rfl (by decide +kernel) rfl ?_
    refine q_if_lt 28 rfl 34 (off := 9) (by decide +kernel) rfl (fun g3 => ?_) (fun g3 => ?_)
    · refine q_iconst (-1) (c := -1) 35 rfl (by decide +kernel) rfl ?_
      exact q_iret (by decide +kernel) rfl rfl (Nat.le_of_ble_eq_true rfl) (Nat.le_of_ble_eq_true rfl)
    · refine q_iload_n 1 3 29 rfl (by decide +kernel) rfl ?_
      refine q_iload 0 4 31 rfl (by decide +kernel) rfl ?_
      refine q_icmp_ne 34 rfl 36 (off := 5) (by decide +kernel) rfl (fun g2 => ?_) (fun g2 => ?_)
      · refine q_aload_n 2 0 37 rfl (by decide +kernel) rfl ?_
        refine q_getr (f := 0) 1 40 rfl (by decide +kernel) (cC_CR D tc x0 y ad) k_CR (by decide) rfl rfl tw_2_102 ?_
        refine q_iload_n 1 3 41 rfl (by decide +kernel) rfl ?_
        refine q_callV_i 44 rfl (av := [.int v1]) (o := 1) (st := []) (c_Wo_clashing X.1 D tc x0 y ad I J P k_Wo1 v1) yv_Wo_clashing tw_4_143 tw_3_40 tw_3_41 (cC_Wo D tc x0 y ad) k_Wo1.1 rfl (Nat.le_of_ble_eq_true rfl) (by decide +kernel) ⟨Nat.le_of_ble_eq_true rfl, Nat.le_of_ble_eq_true rfl⟩ ⟨Nat.le_of_ble_eq_true rfl, Nat.le_of_ble_eq_true rfl⟩ rfl rfl (fun v3 => ?_)
        refine q_iload 0 4 46 rfl (by decide +kernel) rfl ?_
        refine q_callS_i 49 rfl (av := [.int v3, .int v2]) (st := []) (c_CR_contains X.1 D tc x0 y ad I J P v3 v2) yv_CR_contains tw_4_73 tw_2_181 rfl (Nat.le_of_ble_eq_true rfl) (by decide +kernel) ⟨Nat.le_of_ble_eq_true rfl, Nat.le_of_ble_eq_true rfl⟩ ⟨Nat.le_of_ble_eq_true rfl, Nat.le_of_ble_eq_true rfl⟩ rfl rfl (fun v4 => ?_)
        refine q_if_eq 52 rfl 56 (off := 7) (by decide +kernel) rfl (fun g1 => ?_) (fun g1 => ?_)
        · refine q_iconst 0 (c := 0) 57 rfl (by decide +kernel) rfl ?_
          exact q_iret (by decide +kernel) rfl rfl (Nat.le_of_ble_eq_true rfl) (Nat.le_of_ble_eq_true rfl)
        · refine q_iconst 1 (c := 1) 53 rfl (by decide +kernel) rfl ?_
          refine q_goto (off := 4) 57 (by decide +kernel) rfl ?_
          exact q_iret (by decide +kernel) rfl rfl (Nat.le_of_ble_eq_true rfl) (Nat.le_of_ble_eq_true rfl)
      · refine q_iconst (-1) (c := -1) 35 rfl (by decide +kernel) rfl ?_
        exact q_iret (by decide +kernel) rfl rfl (Nat.le_of_ble_eq_true rfl) (Nat.le_of_ble_eq_true rfl)
def f_CR_standing (I : q_I) (a1 : Int32) (a2 : Int32) : Option (Int32) :=
  q_ix a1 3 (fun j1 => q_l (I 25 j1 : Int32) (fun x1 => q_b1 (f_CR_contains x1 a2) (fun v1 => if v1 = 0 then (some (0)) else (q_b1 (f_Wo_usable I 1 x1) (fun v2 => q_b1 (f_CR_contains v2 a2) (fun v3 => if v3 = 0 then (some (1)) else (q_ix a1 3 (fun j2 => q_b1 (f_CR_contains (I 26 j2) a2) (fun v4 => if v4 = 0 then (some (2)) else (some (3)))))))))))
def y_CR_standing : MethodName := ⟨"CalendarReplicas", "standing", "(II)I"⟩
def m_CR_standing : q_M := (prog_1_method_42_code, 4, "CalendarReplicas", { frames := 2, cells := 0, slots := 0, locals := 44 }, (some FieldType.int))
theorem yv_CR_standing : q_Y y_CR_standing m_CR_standing 2 := ⟨rfl, ⟨by decide, by decide⟩, by decide +kernel, tw_4_151, tw_1_1⟩
set_option maxRecDepth 100000 in
set_option maxHeartbeats 4000000 in
theorem c_CR_standing (l : Launch) (D : va_G) (tc : Nat → ClassId) (x0 y : Nat) (ad : Nat → Nat) (I : q_I) (J : q_J) (P : q_P) (a1 : Int32) (a2 : Int32) : q_Ct l (cG D tc x0 y ad) y_CR_standing m_CR_standing [q_r (cG D tc x0 y ad) 0, .int a1, .int a2] (I, J, P) (f_CR_standing I a1 a2) (fun r : Int32 => (some (.int r), (I, J, P))) := by
  refine q_Ct_of (cIn D tc x0 y ad) (by decide) rfl (Nat.le_of_ble_eq_true rfl) rfl (fun X hX => ?_)
  subst hX
  unfold f_CR_standing
  refine q_aload_n 0 0 1 rfl (by decide +kernel) rfl ?_
  refine q_getr (f := 0) 1 4 rfl (by decide +kernel) (cC_CR D tc x0 y ad) k_CR (by decide) rfl rfl tw_2_102 ?_
  refine q_getr (f := 5) 25 7 rfl (by decide +kernel) (cC_Wo D tc x0 y ad) k_Wo1.1 (by decide) rfl rfl tw_1_217 ?_
  refine q_iload_n 1 1 8 rfl (by decide +kernel) rfl ?_
  refine q_iald (t := 0) 9 rfl (by decide +kernel) k_Wo1.2.2.2.2.1 rfl (fun j1 hj1 => ?_)
  refine q_leti (fun x1 => ?_)
  refine q_istore_n 3 3 10 rfl [(3, .int x1), (0, q_r (cG D tc x0 y ad) 0), (1, .int a1), (2, .int a2)] (by decide +kernel) rfl (Nat.le_of_ble_eq_true rfl) rfl ?_
  refine q_iload_n 0 3 11 rfl (by decide +kernel) rfl ?_
  refine q_iload_n 3 2 12 rfl (by decide +kernel) rfl ?_
  refine q_callS_i 15 rfl (av := [.int x1, .int a2]) (st := []) (c_CR_contains X.1 D tc x0 y ad I J P x1 a2) yv_CR_contains tw_4_73 tw_2_181 rfl (Nat.le_of_ble_eq_true rfl) (by decide +kernel) ⟨Nat.le_of_ble_eq_true rfl, Nat.le_of_ble_eq_true rfl⟩ ⟨Nat.le_of_ble_eq_true rfl, Nat.le_of_ble_eq_true rfl⟩ rfl rfl (fun v1 => ?_)
  refine q_if_ne 18 rfl 20 (off := 5) (by decide +kernel) rfl (fun g3 => ?_) (fun g3 => ?_)
  · refine q_aload_n 1 0 21 rfl (by decide +kernel) rfl ?_
    refine q_getr (f := 0) 1 24 rfl (by decide +kernel) (cC_CR D tc x0 y ad) k_CR (by decide) rfl rfl tw_2_102 ?_
    refine q_iload_n 0 3 25 rfl (by decide +kernel) rfl ?_
    refine q_callV_i 28 rfl (av := [.int x1]) (o := 1) (st := []) (c_Wo_usable X.1 D tc x0 y ad I J P k_Wo1 x1) yv_Wo_usable tw_4_152 tw_2_177 tw_2_178 (cC_Wo D tc x0 y ad) k_Wo1.1 rfl (Nat.le_of_ble_eq_true rfl) (by decide +kernel) ⟨Nat.le_of_ble_eq_true rfl, Nat.le_of_ble_eq_true rfl⟩ ⟨Nat.le_of_ble_eq_true rfl, Nat.le_of_ble_eq_true rfl⟩ rfl rfl (fun v2 => ?_)
    refine q_iload_n 3 2 29 rfl (by decide +kernel) rfl ?_
    refine q_callS_i 32 rfl (av := [.int v2, .int a2]) (st := []) (c_CR_contains X.1 D tc x0 y ad I J P v2 a2) yv_CR_contains tw_4_73 tw_2_181 rfl (Nat.le_of_ble_eq_true rfl) (by decide +kernel) ⟨Nat.le_of_ble_eq_true rfl, Nat.le_of_ble_eq_true rfl⟩ ⟨Nat.le_of_ble_eq_true rfl, Nat.le_of_ble_eq_true rfl⟩ rfl rfl (fun v3 => ?_)
    refine q_if_ne 35 rfl 37 (off := 5) (by decide +kernel) rfl (fun g2 => ?_) (fun g2 => ?_)
    · refine q_aload_n 1 0 38 rfl (by decide +kernel) rfl ?_
      refine q_getr (f := 0) 1 41 rfl (by decide +kernel) (cC_CR D tc x0 y ad) k_CR (by decide) rfl rfl tw_2_102 ?_
      refine q_getr (f := 6) 26 44 rfl (by decide +kernel) (cC_Wo D tc x0 y ad) k_Wo1.1 (by decide) rfl rfl tw_1_219 ?_
      refine q_iload_n 2 1 45 rfl (by decide +kernel) rfl ?_
      refine q_iald (t := 0) 46 rfl (by decide +kernel) k_Wo1.2.2.2.2.2.1 rfl (fun j2 hj2 => ?_)
      refine q_iload_n 3 2 47 rfl (by decide +kernel) rfl ?_
      refine q_callS_i 50 rfl (av := [.int (I 26 j2), .int a2]) (st := []) (c_CR_contains X.1 D tc x0 y ad I J P (I 26 j2) a2) yv_CR_contains tw_4_73 tw_2_181 rfl (Nat.le_of_ble_eq_true rfl) (by decide +kernel) ⟨Nat.le_of_ble_eq_true rfl, Nat.le_of_ble_eq_true rfl⟩ ⟨Nat.le_of_ble_eq_true rfl, Nat.le_of_ble_eq_true rfl⟩ rfl rfl (fun v4 => ?_)
      refine q_if_eq 53 rfl 57 (off := 7) (by decide +kernel) rfl (fun g1 => ?_) (fun g1 => ?_)
      · refine q_iconst 2 (c := 2) 58 rfl (by decide +kernel) rfl ?_
        exact q_iret (by decide +kernel) rfl rfl (Nat.le_of_ble_eq_true rfl) (Nat.le_of_ble_eq_true rfl)
      · refine q_iconst 3 (c := 3) 54 rfl (by decide +kernel) rfl ?_
        refine q_goto (off := 4) 58 (by decide +kernel) rfl ?_
        exact q_iret (by decide +kernel) rfl rfl (Nat.le_of_ble_eq_true rfl) (Nat.le_of_ble_eq_true rfl)
    · refine q_iconst 1 (c := 1) 36 rfl (by decide +kernel) rfl ?_
      exact q_iret (by decide +kernel) rfl rfl (Nat.le_of_ble_eq_true rfl) (Nat.le_of_ble_eq_true rfl)
  · refine q_iconst 0 (c := 0) 19 rfl (by decide +kernel) rfl ?_
    exact q_iret (by decide +kernel) rfl rfl (Nat.le_of_ble_eq_true rfl) (Nat.le_of_ble_eq_true rfl)
def f_CR_state (I : q_I) (a1 : Int32) (a2 : Int32) : Option (Int32) :=
  q_b1 (f_Wo_indexOf I 1 a2) (fun v1 => q_b1 (f_CR_isReplica a1) (fun v2 => if v2 = 0 then (some ((-1))) else (if (0 : Int32) ≤ v1 then (q_b1 (f_CR_standing I a1 v1) (fun v3 => some (v3))) else (some ((-1))))))
def y_CR_state : MethodName := ⟨"CalendarReplicas", "state", "(II)I"⟩
def m_CR_state : q_M := (prog_1_method_38_code, 4, "CalendarReplicas", { frames := 3, cells := 0, slots := 0, locals := 67 }, (some FieldType.int))
theorem yv_CR_state : q_Y y_CR_state m_CR_state 2 := ⟨rfl, ⟨by decide, by decide⟩, by decide +kernel, tw_4_147, tw_1_1⟩
set_option maxRecDepth 100000 in
set_option maxHeartbeats 4000000 in
theorem c_CR_state (l : Launch) (D : va_G) (tc : Nat → ClassId) (x0 y : Nat) (ad : Nat → Nat) (I : q_I) (J : q_J) (P : q_P) (a1 : Int32) (a2 : Int32) : q_Ct l (cG D tc x0 y ad) y_CR_state m_CR_state [q_r (cG D tc x0 y ad) 0, .int a1, .int a2] (I, J, P) (f_CR_state I a1 a2) (fun r : Int32 => (some (.int r), (I, J, P))) := by
  refine q_Ct_of (cIn D tc x0 y ad) (by decide) rfl (Nat.le_of_ble_eq_true rfl) rfl (fun X hX => ?_)
  subst hX
  unfold f_CR_state
  refine q_aload_n 0 0 1 rfl (by decide +kernel) rfl ?_
  refine q_getr (f := 0) 1 4 rfl (by decide +kernel) (cC_CR D tc x0 y ad) k_CR (by decide) rfl rfl tw_2_102 ?_
  refine q_iload_n 2 2 5 rfl (by decide +kernel) rfl ?_
  refine q_callV_i 8 rfl (av := [.int a2]) (o := 1) (st := []) (c_Wo_indexOf X.1 D tc x0 y ad I J P k_Wo1 a2) yv_Wo_indexOf tw_4_69 tw_4_70 tw_4_71 (cC_Wo D tc x0 y ad) k_Wo1.1 rfl (Nat.le_of_ble_eq_true rfl) (by decide +kernel) ⟨Nat.le_of_ble_eq_true rfl, Nat.le_of_ble_eq_true rfl⟩ ⟨Nat.le_of_ble_eq_true rfl, Nat.le_of_ble_eq_true rfl⟩ rfl rfl (fun v1 => ?_)
  refine q_istore_n 3 3 9 rfl [(3, .int v1), (0, q_r (cG D tc x0 y ad) 0), (1, .int a1), (2, .int a2)] (by decide +kernel) rfl (Nat.le_of_ble_eq_true rfl) rfl ?_
  refine q_iload_n 2 1 10 rfl (by decide +kernel) rfl ?_
  refine q_callS_i 13 rfl (av := [.int a1]) (st := []) (c_CR_isReplica X.1 D tc x0 y ad I J P a1) yv_CR_isReplica tw_3_55 tw_3_56 rfl (Nat.le_of_ble_eq_true rfl) (by decide +kernel) ⟨Nat.le_of_ble_eq_true rfl, Nat.le_of_ble_eq_true rfl⟩ ⟨Nat.le_of_ble_eq_true rfl, Nat.le_of_ble_eq_true rfl⟩ rfl rfl (fun v2 => ?_)
  refine q_if_eq 16 rfl 20 (off := 7) (by decide +kernel) rfl (fun g2 => ?_) (fun g2 => ?_)
  · refine q_iconst (-1) (c := -1) 21 rfl (by decide +kernel) rfl ?_
    refine q_goto (off := 9) 30 (by decide +kernel) rfl ?_
    exact q_iret (by decide +kernel) rfl rfl (Nat.le_of_ble_eq_true rfl) (Nat.le_of_ble_eq_true rfl)
  · refine q_iload_n 0 3 17 rfl (by decide +kernel) rfl ?_
    refine q_if_ge 20 rfl 24 (off := 7) (by decide +kernel) rfl (fun g1 => ?_) (fun g1 => ?_)
    · refine q_aload_n 1 0 25 rfl (by decide +kernel) rfl ?_
      refine q_iload_n 2 1 26 rfl (by decide +kernel) rfl ?_
      refine q_iload_n 0 3 27 rfl (by decide +kernel) rfl ?_
      refine q_callV_i 30 rfl (av := [.int a1, .int v1]) (o := 0) (st := []) (c_CR_standing X.1 D tc x0 y ad I J P a1 v1) yv_CR_standing tw_4_148 tw_4_150 sw_20 (cC_CR D tc x0 y ad) k_CR rfl (Nat.le_of_ble_eq_true rfl) (by decide +kernel) ⟨Nat.le_of_ble_eq_true rfl, Nat.le_of_ble_eq_true rfl⟩ ⟨Nat.le_of_ble_eq_true rfl, Nat.le_of_ble_eq_true rfl⟩ rfl rfl (fun v3 => ?_)
      exact q_iret (by decide +kernel) rfl rfl (Nat.le_of_ble_eq_true rfl) (Nat.le_of_ble_eq_true rfl)
    · refine q_iconst (-1) (c := -1) 21 rfl (by decide +kernel) rfl ?_
      refine q_goto (off := 9) 30 (by decide +kernel) rfl ?_
      exact q_iret (by decide +kernel) rfl rfl (Nat.le_of_ble_eq_true rfl) (Nat.le_of_ble_eq_true rfl)
def f_CR_acceptedWeight (I : q_I) (a1 : Int32) : Option (Int32) :=
  q_b1 (f_CR_isReplica a1) (fun v1 => if v1 = 0 then (some ((-1))) else (q_ix a1 3 (fun j1 => q_b1 (f_Wo_weigh I 1 (I 26 j1)) (fun v2 => some (v2)))))
def y_CR_acceptedWeight : MethodName := ⟨"CalendarReplicas", "acceptedWeight", "(I)I"⟩
def m_CR_acceptedWeight : q_M := (prog_1_method_39_code, 2, "CalendarReplicas", { frames := 2, cells := 0, slots := 0, locals := 44 }, (some FieldType.int))
theorem yv_CR_acceptedWeight : q_Y y_CR_acceptedWeight m_CR_acceptedWeight 1 := ⟨rfl, ⟨by decide, by decide⟩, by decide +kernel, tw_4_156, tw_1_1⟩
set_option maxRecDepth 100000 in
set_option maxHeartbeats 4000000 in
theorem c_CR_acceptedWeight (l : Launch) (D : va_G) (tc : Nat → ClassId) (x0 y : Nat) (ad : Nat → Nat) (I : q_I) (J : q_J) (P : q_P) (a1 : Int32) : q_Ct l (cG D tc x0 y ad) y_CR_acceptedWeight m_CR_acceptedWeight [q_r (cG D tc x0 y ad) 0, .int a1] (I, J, P) (f_CR_acceptedWeight I a1) (fun r : Int32 => (some (.int r), (I, J, P))) := by
  refine q_Ct_of (cIn D tc x0 y ad) (by decide) rfl (Nat.le_of_ble_eq_true rfl) rfl (fun X hX => ?_)
  subst hX
  unfold f_CR_acceptedWeight
  refine q_iload_n 1 1 1 rfl (by decide +kernel) rfl ?_
  refine q_callS_i 4 rfl (av := [.int a1]) (st := []) (c_CR_isReplica X.1 D tc x0 y ad I J P a1) yv_CR_isReplica tw_3_55 tw_3_56 rfl (Nat.le_of_ble_eq_true rfl) (by decide +kernel) ⟨Nat.le_of_ble_eq_true rfl, Nat.le_of_ble_eq_true rfl⟩ ⟨Nat.le_of_ble_eq_true rfl, Nat.le_of_ble_eq_true rfl⟩ rfl rfl (fun v1 => ?_)
  refine q_if_eq 7 rfl 26 (off := 22) (by decide +kernel) rfl (fun g1 => ?_) (fun g1 => ?_)
  · refine q_iconst (-1) (c := -1) 27 rfl (by decide +kernel) rfl ?_
    exact q_iret (by decide +kernel) rfl rfl (Nat.le_of_ble_eq_true rfl) (Nat.le_of_ble_eq_true rfl)
  · refine q_aload_n 0 0 8 rfl (by decide +kernel) rfl ?_
    refine q_getr (f := 0) 1 11 rfl (by decide +kernel) (cC_CR D tc x0 y ad) k_CR (by decide) rfl rfl tw_2_102 ?_
    refine q_aload_n 0 0 12 rfl (by decide +kernel) rfl ?_
    refine q_getr (f := 0) 1 15 rfl (by decide +kernel) (cC_CR D tc x0 y ad) k_CR (by decide) rfl rfl tw_2_102 ?_
    refine q_getr (f := 6) 26 18 rfl (by decide +kernel) (cC_Wo D tc x0 y ad) k_Wo1.1 (by decide) rfl rfl tw_1_219 ?_
    refine q_iload_n 1 1 19 rfl (by decide +kernel) rfl ?_
    refine q_iald (t := 0) 20 rfl (by decide +kernel) k_Wo1.2.2.2.2.2.1 rfl (fun j1 hj1 => ?_)
    refine q_callV_i 23 rfl (av := [.int (I 26 j1)]) (o := 1) (st := []) (c_Wo_weigh X.1 D tc x0 y ad I J P k_Wo1 (I 26 j1)) yv_Wo_weigh tw_4_157 tw_2_191 tw_2_192 (cC_Wo D tc x0 y ad) k_Wo1.1 rfl (Nat.le_of_ble_eq_true rfl) (by decide +kernel) ⟨Nat.le_of_ble_eq_true rfl, Nat.le_of_ble_eq_true rfl⟩ ⟨Nat.le_of_ble_eq_true rfl, Nat.le_of_ble_eq_true rfl⟩ rfl rfl (fun v2 => ?_)
    refine q_goto (off := 4) 27 (by decide +kernel) rfl ?_
    exact q_iret (by decide +kernel) rfl rfl (Nat.le_of_ble_eq_true rfl) (Nat.le_of_ble_eq_true rfl)
def f_CR_rejectedWeight (I : q_I) (a1 : Int32) : Option (Int32) :=
  q_b1 (f_CR_isReplica a1) (fun v1 => if v1 = 0 then (some ((-1))) else (q_ix a1 3 (fun j1 => q_b1 (f_Wo_usable I 1 (I 25 j1)) (fun v2 => q_ix a1 3 (fun j2 => q_b1 (f_Wo_weigh I 1 (v2 &&& ((I 26 j2) ^^^ (-1)))) (fun v3 => some (v3)))))))
def y_CR_rejectedWeight : MethodName := ⟨"CalendarReplicas", "rejectedWeight", "(I)I"⟩
def m_CR_rejectedWeight : q_M := (prog_1_method_40_code, 2, "CalendarReplicas", { frames := 2, cells := 0, slots := 0, locals := 44 }, (some FieldType.int))
theorem yv_CR_rejectedWeight : q_Y y_CR_rejectedWeight m_CR_rejectedWeight 1 := ⟨rfl, ⟨by decide, by decide⟩, by decide +kernel, tw_4_161, tw_1_1⟩
set_option maxRecDepth 100000 in
set_option maxHeartbeats 4000000 in
theorem c_CR_rejectedWeight (l : Launch) (D : va_G) (tc : Nat → ClassId) (x0 y : Nat) (ad : Nat → Nat) (I : q_I) (J : q_J) (P : q_P) (a1 : Int32) : q_Ct l (cG D tc x0 y ad) y_CR_rejectedWeight m_CR_rejectedWeight [q_r (cG D tc x0 y ad) 0, .int a1] (I, J, P) (f_CR_rejectedWeight I a1) (fun r : Int32 => (some (.int r), (I, J, P))) := by
  refine q_Ct_of (cIn D tc x0 y ad) (by decide) rfl (Nat.le_of_ble_eq_true rfl) rfl (fun X hX => ?_)
  subst hX
  unfold f_CR_rejectedWeight
  refine q_iload_n 1 1 1 rfl (by decide +kernel) rfl ?_
  refine q_callS_i 4 rfl (av := [.int a1]) (st := []) (c_CR_isReplica X.1 D tc x0 y ad I J P a1) yv_CR_isReplica tw_3_55 tw_3_56 rfl (Nat.le_of_ble_eq_true rfl) (by decide +kernel) ⟨Nat.le_of_ble_eq_true rfl, Nat.le_of_ble_eq_true rfl⟩ ⟨Nat.le_of_ble_eq_true rfl, Nat.le_of_ble_eq_true rfl⟩ rfl rfl (fun v1 => ?_)
  refine q_if_ne 7 rfl 9 (off := 5) (by decide +kernel) rfl (fun g1 => ?_) (fun g1 => ?_)
  · refine q_aload_n 0 0 10 rfl (by decide +kernel) rfl ?_
    refine q_getr (f := 0) 1 13 rfl (by decide +kernel) (cC_CR D tc x0 y ad) k_CR (by decide) rfl rfl tw_2_102 ?_
    refine q_aload_n 0 0 14 rfl (by decide +kernel) rfl ?_
    refine q_getr (f := 0) 1 17 rfl (by decide +kernel) (cC_CR D tc x0 y ad) k_CR (by decide) rfl rfl tw_2_102 ?_
    refine q_aload_n 0 0 18 rfl (by decide +kernel) rfl ?_
    refine q_getr (f := 0) 1 21 rfl (by decide +kernel) (cC_CR D tc x0 y ad) k_CR (by decide) rfl rfl tw_2_102 ?_
    refine q_getr (f := 5) 25 24 rfl (by decide +kernel) (cC_Wo D tc x0 y ad) k_Wo1.1 (by decide) rfl rfl tw_1_217 ?_
    refine q_iload_n 1 1 25 rfl (by decide +kernel) rfl ?_
    refine q_iald (t := 0) 26 rfl (by decide +kernel) k_Wo1.2.2.2.2.1 rfl (fun j1 hj1 => ?_)
    refine q_callV_i 29 rfl (av := [.int (I 25 j1)]) (o := 1) (st := [q_r (cG D tc x0 y ad) 1]) (c_Wo_usable X.1 D tc x0 y ad I J P k_Wo1 (I 25 j1)) yv_Wo_usable tw_4_152 tw_2_177 tw_2_178 (cC_Wo D tc x0 y ad) k_Wo1.1 rfl (Nat.le_of_ble_eq_true rfl) (by decide +kernel) ⟨Nat.le_of_ble_eq_true rfl, Nat.le_of_ble_eq_true rfl⟩ ⟨Nat.le_of_ble_eq_true rfl, Nat.le_of_ble_eq_true rfl⟩ rfl rfl (fun v2 => ?_)
    refine q_aload_n 0 0 30 rfl (by decide +kernel) rfl ?_
    refine q_getr (f := 0) 1 33 rfl (by decide +kernel) (cC_CR D tc x0 y ad) k_CR (by decide) rfl rfl tw_2_102 ?_
    refine q_getr (f := 6) 26 36 rfl (by decide +kernel) (cC_Wo D tc x0 y ad) k_Wo1.1 (by decide) rfl rfl tw_1_219 ?_
    refine q_iload_n 1 1 37 rfl (by decide +kernel) rfl ?_
    refine q_iald (t := 0) 38 rfl (by decide +kernel) k_Wo1.2.2.2.2.2.1 rfl (fun j2 hj2 => ?_)
    refine q_iconst (-1) (c := -1) 39 rfl (by decide +kernel) rfl ?_
    refine q_ixor 40 rfl (by decide +kernel) ?_
    refine q_iand 41 rfl (by decide +kernel) ?_
    refine q_callV_i 44 rfl (av := [.int (v2 &&& ((I 26 j2) ^^^ (-1)))]) (o := 1) (st := []) (c_Wo_weigh X.1 D tc x0 y ad I J P k_Wo1 (v2 &&& ((I 26 j2) ^^^ (-1)))) yv_Wo_weigh tw_4_157 tw_2_191 tw_2_192 (cC_Wo D tc x0 y ad) k_Wo1.1 rfl (Nat.le_of_ble_eq_true rfl) (by decide +kernel) ⟨Nat.le_of_ble_eq_true rfl, Nat.le_of_ble_eq_true rfl⟩ ⟨Nat.le_of_ble_eq_true rfl, Nat.le_of_ble_eq_true rfl⟩ rfl rfl (fun v3 => ?_)
    exact q_iret (by decide +kernel) rfl rfl (Nat.le_of_ble_eq_true rfl) (Nat.le_of_ble_eq_true rfl)
  · refine q_iconst (-1) (c := -1) 8 rfl (by decide +kernel) rfl ?_
    exact q_iret (by decide +kernel) rfl rfl (Nat.le_of_ble_eq_true rfl) (Nat.le_of_ble_eq_true rfl)
def f_CR_agree (I : q_I) (a1 : Int32) (a2 : Int32) : Option (Int32) :=
  q_b1 (f_CR_areTwoReplicas a1 a2) (fun v1 => if v1 = 0 then (some ((-1))) else (q_ix a1 3 (fun j1 => q_ix a2 3 (fun j2 => if (I 25 j1) = (I 25 j2) then (some (1)) else (some (0))))))
def y_CR_agree : MethodName := ⟨"CalendarReplicas", "agree", "(II)I"⟩
def m_CR_agree : q_M := (prog_1_method_41_code, 3, "CalendarReplicas", { frames := 3, cells := 0, slots := 0, locals := 63 }, (some FieldType.int))
theorem yv_CR_agree : q_Y y_CR_agree m_CR_agree 2 := ⟨rfl, ⟨by decide, by decide⟩, by decide +kernel, tw_4_165, tw_1_1⟩
set_option maxRecDepth 100000 in
set_option maxHeartbeats 4000000 in
theorem c_CR_agree (l : Launch) (D : va_G) (tc : Nat → ClassId) (x0 y : Nat) (ad : Nat → Nat) (I : q_I) (J : q_J) (P : q_P) (a1 : Int32) (a2 : Int32) : q_Ct l (cG D tc x0 y ad) y_CR_agree m_CR_agree [q_r (cG D tc x0 y ad) 0, .int a1, .int a2] (I, J, P) (f_CR_agree I a1 a2) (fun r : Int32 => (some (.int r), (I, J, P))) := by
  refine q_Ct_of (cIn D tc x0 y ad) (by decide) rfl (Nat.le_of_ble_eq_true rfl) rfl (fun X hX => ?_)
  subst hX
  unfold f_CR_agree
  refine q_iload_n 1 1 1 rfl (by decide +kernel) rfl ?_
  refine q_iload_n 2 2 2 rfl (by decide +kernel) rfl ?_
  refine q_callS_i 5 rfl (av := [.int a1, .int a2]) (st := []) (c_CR_areTwoReplicas X.1 D tc x0 y ad I J P a1 a2) yv_CR_areTwoReplicas tw_4_57 tw_4_58 rfl (Nat.le_of_ble_eq_true rfl) (by decide +kernel) ⟨Nat.le_of_ble_eq_true rfl, Nat.le_of_ble_eq_true rfl⟩ ⟨Nat.le_of_ble_eq_true rfl, Nat.le_of_ble_eq_true rfl⟩ rfl rfl (fun v1 => ?_)
  refine q_if_ne 8 rfl 10 (off := 5) (by decide +kernel) rfl (fun g2 => ?_) (fun g2 => ?_)
  · refine q_aload_n 0 0 11 rfl (by decide +kernel) rfl ?_
    refine q_getr (f := 0) 1 14 rfl (by decide +kernel) (cC_CR D tc x0 y ad) k_CR (by decide) rfl rfl tw_2_102 ?_
    refine q_getr (f := 5) 25 17 rfl (by decide +kernel) (cC_Wo D tc x0 y ad) k_Wo1.1 (by decide) rfl rfl tw_1_217 ?_
    refine q_iload_n 1 1 18 rfl (by decide +kernel) rfl ?_
    refine q_iald (t := 0) 19 rfl (by decide +kernel) k_Wo1.2.2.2.2.1 rfl (fun j1 hj1 => ?_)
    refine q_aload_n 0 0 20 rfl (by decide +kernel) rfl ?_
    refine q_getr (f := 0) 1 23 rfl (by decide +kernel) (cC_CR D tc x0 y ad) k_CR (by decide) rfl rfl tw_2_102 ?_
    refine q_getr (f := 5) 25 26 rfl (by decide +kernel) (cC_Wo D tc x0 y ad) k_Wo1.1 (by decide) rfl rfl tw_1_217 ?_
    refine q_iload_n 2 2 27 rfl (by decide +kernel) rfl ?_
    refine q_iald (t := 0) 28 rfl (by decide +kernel) k_Wo1.2.2.2.2.1 rfl (fun j2 hj2 => ?_)
    refine q_icmp_ne 31 rfl 35 (off := 7) (by decide +kernel) rfl (fun g1 => ?_) (fun g1 => ?_)
    · refine q_iconst 0 (c := 0) 36 rfl (by decide +kernel) rfl ?_
      exact q_iret (by decide +kernel) rfl rfl (Nat.le_of_ble_eq_true rfl) (Nat.le_of_ble_eq_true rfl)
    · refine q_iconst 1 (c := 1) 32 rfl (by decide +kernel) rfl ?_
      refine q_goto (off := 4) 36 (by decide +kernel) rfl ?_
      exact q_iret (by decide +kernel) rfl rfl (Nat.le_of_ble_eq_true rfl) (Nat.le_of_ble_eq_true rfl)
  · refine q_iconst (-1) (c := -1) 9 rfl (by decide +kernel) rfl ?_
    exact q_iret (by decide +kernel) rfl rfl (Nat.le_of_ble_eq_true rfl) (Nat.le_of_ble_eq_true rfl)
def f_CR_obstacle_L1 (v1 : Int32) (x1 : Int32) (K : Int32 → q_I → q_J → q_P → Option (Int32 × q_I × q_J × q_P)) : Nat → Int32 → q_I → q_J → q_P → Option (Int32 × q_I × q_J × q_P)
  | 0, _, _, _, _ => none
  | n + 1, x2, I1, J1, P1 => if (I1 1 3) ≤ x2 then (some ((-4), I1, J1, P1)) else (q_b1 (f_CR_contains x1 x2) (fun v4 => if v4 = 0 then ((f_CR_obstacle_L1 v1 x1 K n (x2 + 1) I1 J1 P1)) else (q_b4 (f_Mg_admits I1 J1 P1 53 1 ((x1 &&& (((1 : Int32) <<< (x2 &&& 31)) ^^^ (-1))) ||| ((1 : Int32) <<< (v1 &&& 31)))) (fun v5 I2 J2 P2 => if v5 = 0 then ((f_CR_obstacle_L1 v1 x1 K n (x2 + 1) I2 J2 P2)) else ((K x2 I2 J2 P2))))))
def f_CR_obstacle (I : q_I) (J : q_J) (P : q_P) (a1 : Int32) (a2 : Int32) : Option (Int32 × q_I × q_J × q_P) :=
  q_b1 (f_Wo_indexOf I 1 a2) (fun v1 => q_b1 (f_CR_isReplica a1) (fun v2 => if v2 = 0 then (some ((-1), I, J, P)) else (if (0 : Int32) ≤ v1 then (q_b1 (f_CR_standing I a1 v1) (fun v3 => if v3 = 2 then (q_ix a1 3 (fun j1 => q_l (I 26 j1 : Int32) (fun x1 => f_CR_obstacle_L1 v1 x1 (fun (x3 : Int32) (I3 : q_I) (J3 : q_J) (P3 : q_P) => q_b1 (f_CR_editAt I3 x3) (fun v6 => some (v6, I3, J3, P3))) q_fu 0 I J P))) else (some ((-3), I, J, P)))) else (some ((-1), I, J, P)))))
def y_CR_obstacle : MethodName := ⟨"CalendarReplicas", "obstacle", "(II)I"⟩
def m_CR_obstacle : q_M := (prog_1_method_43_code, 6, "CalendarReplicas", { frames := 5, cells := 0, slots := 0, locals := 134 }, (some FieldType.int))
theorem yv_CR_obstacle : q_Y y_CR_obstacle m_CR_obstacle 2 := ⟨rfl, ⟨by decide, by decide⟩, by decide +kernel, tw_4_169, tw_1_1⟩
set_option maxRecDepth 100000 in
set_option maxHeartbeats 4000000 in
theorem c_CR_obstacle (l : Launch) (D : va_G) (tc : Nat → ClassId) (x0 y : Nat) (ad : Nat → Nat) (I : q_I) (J : q_J) (P : q_P) (a1 : Int32) (a2 : Int32) : q_Ct l (cG D tc x0 y ad) y_CR_obstacle m_CR_obstacle [q_r (cG D tc x0 y ad) 0, .int a1, .int a2] (I, J, P) (f_CR_obstacle I J P a1 a2) (fun r : Int32 × q_I × q_J × q_P => (some (.int r.1), (r.2.1, r.2.2.1, r.2.2.2))) := by
  refine q_Ct_of (cIn D tc x0 y ad) (by decide) rfl (Nat.le_of_ble_eq_true rfl) rfl (fun X hX => ?_)
  subst hX
  unfold f_CR_obstacle
  refine q_aload_n 0 0 1 rfl (by decide +kernel) rfl ?_
  refine q_getr (f := 0) 1 4 rfl (by decide +kernel) (cC_CR D tc x0 y ad) k_CR (by decide) rfl rfl tw_2_102 ?_
  refine q_iload_n 2 2 5 rfl (by decide +kernel) rfl ?_
  refine q_callV_i 8 rfl (av := [.int a2]) (o := 1) (st := []) (c_Wo_indexOf X.1 D tc x0 y ad I J P k_Wo1 a2) yv_Wo_indexOf tw_4_69 tw_4_70 tw_4_71 (cC_Wo D tc x0 y ad) k_Wo1.1 rfl (Nat.le_of_ble_eq_true rfl) (by decide +kernel) ⟨Nat.le_of_ble_eq_true rfl, Nat.le_of_ble_eq_true rfl⟩ ⟨Nat.le_of_ble_eq_true rfl, Nat.le_of_ble_eq_true rfl⟩ rfl rfl (fun v1 => ?_)
  refine q_istore_n 3 3 9 rfl [(3, .int v1), (0, q_r (cG D tc x0 y ad) 0), (1, .int a1), (2, .int a2)] (by decide +kernel) rfl (Nat.le_of_ble_eq_true rfl) rfl ?_
  refine q_iload_n 2 1 10 rfl (by decide +kernel) rfl ?_
  refine q_callS_i 13 rfl (av := [.int a1]) (st := []) (c_CR_isReplica X.1 D tc x0 y ad I J P a1) yv_CR_isReplica tw_3_55 tw_3_56 rfl (Nat.le_of_ble_eq_true rfl) (by decide +kernel) ⟨Nat.le_of_ble_eq_true rfl, Nat.le_of_ble_eq_true rfl⟩ ⟨Nat.le_of_ble_eq_true rfl, Nat.le_of_ble_eq_true rfl⟩ rfl rfl (fun v2 => ?_)
  refine q_if_eq 16 rfl 20 (off := 7) (by decide +kernel) rfl (fun g6 => ?_) (fun g6 => ?_)
  · refine q_iconst (-1) (c := -1) 21 rfl (by decide +kernel) rfl ?_
    exact q_iret (by decide +kernel) rfl rfl (Nat.le_of_ble_eq_true rfl) (Nat.le_of_ble_eq_true rfl)
  · refine q_iload_n 0 3 17 rfl (by decide +kernel) rfl ?_
    refine q_if_ge 20 rfl 22 (off := 5) (by decide +kernel) rfl (fun g5 => ?_) (fun g5 => ?_)
    · refine q_aload_n 1 0 23 rfl (by decide +kernel) rfl ?_
      refine q_iload_n 2 1 24 rfl (by decide +kernel) rfl ?_
      refine q_iload_n 0 3 25 rfl (by decide +kernel) rfl ?_
      refine q_callV_i 28 rfl (av := [.int a1, .int v1]) (o := 0) (st := []) (c_CR_standing X.1 D tc x0 y ad I J P a1 v1) yv_CR_standing tw_4_148 tw_4_150 sw_20 (cC_CR D tc x0 y ad) k_CR rfl (Nat.le_of_ble_eq_true rfl) (by decide +kernel) ⟨Nat.le_of_ble_eq_true rfl, Nat.le_of_ble_eq_true rfl⟩ ⟨Nat.le_of_ble_eq_true rfl, Nat.le_of_ble_eq_true rfl⟩ rfl rfl (fun v3 => ?_)
      refine q_iconst 2 (c := 2) 29 rfl (by decide +kernel) rfl ?_
      refine q_icmp_eq 32 rfl 35 (off := 6) (by decide +kernel) rfl (fun g4 => ?_) (fun g4 => ?_)
      · refine q_aload_n 1 0 36 rfl (by decide +kernel) rfl ?_
        refine q_getr (f := 0) 1 39 rfl (by decide +kernel) (cC_CR D tc x0 y ad) k_CR (by decide) rfl rfl tw_2_102 ?_
        refine q_getr (f := 6) 26 42 rfl (by decide +kernel) (cC_Wo D tc x0 y ad) k_Wo1.1 (by decide) rfl rfl tw_1_219 ?_
        refine q_iload_n 2 1 43 rfl (by decide +kernel) rfl ?_
        refine q_iald (t := 0) 44 rfl (by decide +kernel) k_Wo1.2.2.2.2.2.1 rfl (fun j1 hj1 => ?_)
        refine q_leti (fun x1 => ?_)
        refine q_istore 4 46 rfl [(4, .int x1), (3, .int v1), (0, q_r (cG D tc x0 y ad) 0), (1, .int a1), (2, .int a2)] (by decide +kernel) (Nat.le_of_ble_eq_true rfl) rfl ?_
        refine q_iconst 0 (c := 0) 47 rfl (by decide +kernel) rfl ?_
        refine q_istore 5 49 rfl [(5, .int 0), (4, .int x1), (3, .int v1), (0, q_r (cG D tc x0 y ad) 0), (1, .int a1), (2, .int a2)] (by decide +kernel) (Nat.le_of_ble_eq_true rfl) rfl ?_
        have hL1 : ∀ (K1 : Int32 → q_I → q_J → q_P → Option (Int32 × q_I × q_J × q_P)) (hK1 : ∀ (x3 : Int32) (I3 : q_I) (J3 : q_J) (P3 : q_P), q_V (cG D tc x0 y ad) m_CR_obstacle X (fun r : Int32 × q_I × q_J × q_P => (some (.int r.1), (r.2.1, r.2.2.1, r.2.2.2))) 0 0 98 [(0, q_r (cG D tc x0 y ad) 0), (5, .int x3)] [] I3 J3 P3 (K1 x3 I3 J3 P3)) (n1_ : Nat) (x2 : Int32) (I1 : q_I) (J1 : q_J) (P1 : q_P), q_V (cG D tc x0 y ad) m_CR_obstacle X (fun r : Int32 × q_I × q_J × q_P => (some (.int r.1), (r.2.1, r.2.2.1, r.2.2.2))) 0 0 49 [(0, q_r (cG D tc x0 y ad) 0), (3, .int v1), (4, .int x1), (5, .int x2)] [] I1 J1 P1 (f_CR_obstacle_L1 v1 x1 K1 n1_ x2 I1 J1 P1) := by
          intro K1 hK1 n1_
          induction n1_ with
          | zero => intro x2 I1 J1 P1; exact q_none
          | succ n1_ ih1 =>
            intro x2 I1 J1 P1
            rw [f_CR_obstacle_L1]
            refine q_iload 3 5 51 rfl (by decide +kernel) rfl ?_
            refine q_aload_n 0 0 52 rfl (by decide +kernel) rfl ?_
            refine q_getr (f := 0) 1 55 rfl (by decide +kernel) (cC_CR D tc x0 y ad) k_CR (by decide) rfl rfl tw_2_102 ?_
            refine q_geti (f := 3) 58 rfl (by decide +kernel) (cC_Wo D tc x0 y ad) k_Wo1.1 (by decide) rfl tw_1_213 ?_
            refine q_icmp_ge 61 rfl 111 (off := 53) (by decide +kernel) rfl (fun g3 => ?_) (fun g3 => ?_)
            · refine q_bipush (-4) (c := -4) 113 rfl (by decide +kernel) rfl ?_
              exact q_iret (by decide +kernel) rfl rfl (Nat.le_of_ble_eq_true rfl) (Nat.le_of_ble_eq_true rfl)
            · refine q_iload 2 4 63 rfl (by decide +kernel) rfl ?_
              refine q_iload 3 5 65 rfl (by decide +kernel) rfl ?_
              refine q_callS_i 68 rfl (av := [.int x1, .int x2]) (st := []) (c_CR_contains X.1 D tc x0 y ad I1 J1 P1 x1 x2) yv_CR_contains tw_4_73 tw_2_181 rfl (Nat.le_of_ble_eq_true rfl) (by decide +kernel) ⟨Nat.le_of_ble_eq_true rfl, Nat.le_of_ble_eq_true rfl⟩ ⟨Nat.le_of_ble_eq_true rfl, Nat.le_of_ble_eq_true rfl⟩ rfl rfl (fun v4 => ?_)
              refine q_if_eq 71 rfl 105 (off := 37) (by decide +kernel) rfl (fun g2 => ?_) (fun g2 => ?_)
              · refine q_iinc (x2 + 1) (c := 1) 5 3 108 rfl [(5, .int (x2 + 1)), (0, q_r (cG D tc x0 y ad) 0), (3, .int v1), (4, .int x1)] (by decide +kernel) rfl rfl (Nat.le_of_ble_eq_true rfl) rfl ?_
                refine q_goto (off := -59) 49 (by decide +kernel) rfl ?_
                refine q_sub [1, 2, 3, 0] rfl ?_
                exact ih1 (x2 + 1) I1 J1 P1
              · refine q_aload_n 0 0 72 rfl (by decide +kernel) rfl ?_
                refine q_getr (f := 3) 53 75 rfl (by decide +kernel) (cC_CR D tc x0 y ad) k_CR (by decide) rfl rfl tw_2_105 ?_
                refine q_aload_n 0 0 76 rfl (by decide +kernel) rfl ?_
                refine q_getr (f := 0) 1 79 rfl (by decide +kernel) (cC_CR D tc x0 y ad) k_CR (by decide) rfl rfl tw_2_102 ?_
                refine q_iload 2 4 81 rfl (by decide +kernel) rfl ?_
                refine q_iconst 1 (c := 1) 82 rfl (by decide +kernel) rfl ?_
                refine q_iload 3 5 84 rfl (by decide +kernel) rfl ?_
                refine q_ishl 85 rfl (by decide +kernel) ?_
                refine q_iconst (-1) (c := -1) 86 rfl (by decide +kernel) rfl ?_
                refine q_ixor 87 rfl (by decide +kernel) ?_
                refine q_iand 88 rfl (by decide +kernel) ?_
                refine q_iconst 1 (c := 1) 89 rfl (by decide +kernel) rfl ?_
                refine q_iload_n 1 3 90 rfl (by decide +kernel) rfl ?_
                refine q_ishl 91 rfl (by decide +kernel) ?_
                refine q_ior 92 rfl (by decide +kernel) ?_
                refine q_callV_iIJP 95 rfl (av := [q_r (cG D tc x0 y ad) 1, .int ((x1 &&& (((1 : Int32) <<< (x2 &&& 31)) ^^^ (-1))) ||| ((1 : Int32) <<< (v1 &&& 31)))]) (o := 53) (st := []) (c_Mg_admits X.1 D tc x0 y ad I1 J1 P1 k_Mg53 k_Wo1 ((x1 &&& (((1 : Int32) <<< (x2 &&& 31)) ^^^ (-1))) ||| ((1 : Int32) <<< (v1 &&& 31)))) yv_Mg_admits tw_4_170 tw_4_171 tw_4_172 (cC_Mg D tc x0 y ad) k_Mg53.1 rfl (Nat.le_of_ble_eq_true rfl) (by decide +kernel) ⟨Nat.le_of_ble_eq_true rfl, Nat.le_of_ble_eq_true rfl⟩ ⟨Nat.le_of_ble_eq_true rfl, Nat.le_of_ble_eq_true rfl⟩ rfl rfl (fun v5 I2 J2 P2 => ?_)
                refine q_if_eq 98 rfl 105 (off := 10) (by decide +kernel) rfl (fun g1 => ?_) (fun g1 => ?_)
                · refine q_iinc (x2 + 1) (c := 1) 5 3 108 rfl [(5, .int (x2 + 1)), (0, q_r (cG D tc x0 y ad) 0), (3, .int v1), (4, .int x1)] (by decide +kernel) rfl rfl (Nat.le_of_ble_eq_true rfl) rfl ?_
                  refine q_goto (off := -59) 49 (by decide +kernel) rfl ?_
                  refine q_sub [1, 2, 3, 0] rfl ?_
                  exact ih1 (x2 + 1) I2 J2 P2
                · refine q_sub [0, 3] rfl ?_
                  exact hK1 x2 I2 J2 P2
        refine q_sub [3, 2, 1, 0] rfl ?_
        refine hL1 _ (fun x3 I3 J3 P3 => ?_) _ _ _ _ _
        refine q_aload_n 0 0 99 rfl (by decide +kernel) rfl ?_
        refine q_iload 1 5 101 rfl (by decide +kernel) rfl ?_
        refine q_callV_i 104 rfl (av := [.int x3]) (o := 0) (st := []) (c_CR_editAt X.1 D tc x0 y ad I3 J3 P3 x3) yv_CR_editAt tw_4_178 tw_4_120 tw_4_121 (cC_CR D tc x0 y ad) k_CR rfl (Nat.le_of_ble_eq_true rfl) (by decide +kernel) ⟨Nat.le_of_ble_eq_true rfl, Nat.le_of_ble_eq_true rfl⟩ ⟨Nat.le_of_ble_eq_true rfl, Nat.le_of_ble_eq_true rfl⟩ rfl rfl (fun v6 => ?_)
        exact q_iret (by decide +kernel) rfl rfl (Nat.le_of_ble_eq_true rfl) (Nat.le_of_ble_eq_true rfl)
      · refine q_bipush (-3) (c := -3) 34 rfl (by decide +kernel) rfl ?_
        exact q_iret (by decide +kernel) rfl rfl (Nat.le_of_ble_eq_true rfl) (Nat.le_of_ble_eq_true rfl)
    · refine q_iconst (-1) (c := -1) 21 rfl (by decide +kernel) rfl ?_
      exact q_iret (by decide +kernel) rfl rfl (Nat.le_of_ble_eq_true rfl) (Nat.le_of_ble_eq_true rfl)
def f_CR_cost (I : q_I) (J : q_J) (P : q_P) (a1 : Int32) (a2 : Int32) : Option (Int32 × q_I × q_J × q_P) :=
  q_b1 (f_Wo_indexOf I 1 a2) (fun v1 => q_b1 (f_CR_isReplica a1) (fun v2 => if v2 = 0 then (some ((-1), I, J, P)) else (if (0 : Int32) ≤ v1 then (q_b1 (f_CR_standing I a1 v1) (fun v3 => if (2 : Int32) ≤ v3 then (q_ix a1 3 (fun j1 => q_b4 (f_Mg_heaviest I J P 53 1 (I 25 j1) ((1 : Int32) <<< (v1 &&& 31))) (fun v4 I1 J1 P1 => if (0 : Int32) ≤ v4 then (q_ix a1 3 (fun j2 => q_b1 (f_Wo_weigh I1 1 (I1 26 j2)) (fun v5 => q_b1 (f_Wo_weigh I1 1 v4) (fun v6 => some ((v5 - v6), I1, J1, P1))))) else (some ((-4), I1, J1, P1))))) else (some ((-3), I, J, P)))) else (some ((-1), I, J, P)))))
def y_CR_cost : MethodName := ⟨"CalendarReplicas", "cost", "(II)I"⟩
def m_CR_cost : q_M := (prog_1_method_44_code, 5, "CalendarReplicas", { frames := 20, cells := 0, slots := 0, locals := 525 }, (some FieldType.int))
theorem yv_CR_cost : q_Y y_CR_cost m_CR_cost 2 := ⟨rfl, ⟨by decide, by decide⟩, by decide +kernel, tw_4_182, tw_1_1⟩
set_option maxRecDepth 100000 in
set_option maxHeartbeats 4000000 in
theorem c_CR_cost (l : Launch) (D : va_G) (tc : Nat → ClassId) (x0 y : Nat) (ad : Nat → Nat) (I : q_I) (J : q_J) (P : q_P) (a1 : Int32) (a2 : Int32) : q_Ct l (cG D tc x0 y ad) y_CR_cost m_CR_cost [q_r (cG D tc x0 y ad) 0, .int a1, .int a2] (I, J, P) (f_CR_cost I J P a1 a2) (fun r : Int32 × q_I × q_J × q_P => (some (.int r.1), (r.2.1, r.2.2.1, r.2.2.2))) := by
  refine q_Ct_of (cIn D tc x0 y ad) (by decide) rfl (Nat.le_of_ble_eq_true rfl) rfl (fun X hX => ?_)
  subst hX
  unfold f_CR_cost
  refine q_aload_n 0 0 1 rfl (by decide +kernel) rfl ?_
  refine q_getr (f := 0) 1 4 rfl (by decide +kernel) (cC_CR D tc x0 y ad) k_CR (by decide) rfl rfl tw_2_102 ?_
  refine q_iload_n 2 2 5 rfl (by decide +kernel) rfl ?_
  refine q_callV_i 8 rfl (av := [.int a2]) (o := 1) (st := []) (c_Wo_indexOf X.1 D tc x0 y ad I J P k_Wo1 a2) yv_Wo_indexOf tw_4_69 tw_4_70 tw_4_71 (cC_Wo D tc x0 y ad) k_Wo1.1 rfl (Nat.le_of_ble_eq_true rfl) (by decide +kernel) ⟨Nat.le_of_ble_eq_true rfl, Nat.le_of_ble_eq_true rfl⟩ ⟨Nat.le_of_ble_eq_true rfl, Nat.le_of_ble_eq_true rfl⟩ rfl rfl (fun v1 => ?_)
  refine q_istore_n 3 3 9 rfl [(3, .int v1), (0, q_r (cG D tc x0 y ad) 0), (1, .int a1), (2, .int a2)] (by decide +kernel) rfl (Nat.le_of_ble_eq_true rfl) rfl ?_
  refine q_iload_n 2 1 10 rfl (by decide +kernel) rfl ?_
  refine q_callS_i 13 rfl (av := [.int a1]) (st := []) (c_CR_isReplica X.1 D tc x0 y ad I J P a1) yv_CR_isReplica tw_3_55 tw_3_56 rfl (Nat.le_of_ble_eq_true rfl) (by decide +kernel) ⟨Nat.le_of_ble_eq_true rfl, Nat.le_of_ble_eq_true rfl⟩ ⟨Nat.le_of_ble_eq_true rfl, Nat.le_of_ble_eq_true rfl⟩ rfl rfl (fun v2 => ?_)
  refine q_if_eq 16 rfl 20 (off := 7) (by decide +kernel) rfl (fun g4 => ?_) (fun g4 => ?_)
  · refine q_iconst (-1) (c := -1) 21 rfl (by decide +kernel) rfl ?_
    exact q_iret (by decide +kernel) rfl rfl (Nat.le_of_ble_eq_true rfl) (Nat.le_of_ble_eq_true rfl)
  · refine q_iload_n 0 3 17 rfl (by decide +kernel) rfl ?_
    refine q_if_ge 20 rfl 22 (off := 5) (by decide +kernel) rfl (fun g3 => ?_) (fun g3 => ?_)
    · refine q_aload_n 1 0 23 rfl (by decide +kernel) rfl ?_
      refine q_iload_n 2 1 24 rfl (by decide +kernel) rfl ?_
      refine q_iload_n 0 3 25 rfl (by decide +kernel) rfl ?_
      refine q_callV_i 28 rfl (av := [.int a1, .int v1]) (o := 0) (st := []) (c_CR_standing X.1 D tc x0 y ad I J P a1 v1) yv_CR_standing tw_4_148 tw_4_150 sw_20 (cC_CR D tc x0 y ad) k_CR rfl (Nat.le_of_ble_eq_true rfl) (by decide +kernel) ⟨Nat.le_of_ble_eq_true rfl, Nat.le_of_ble_eq_true rfl⟩ ⟨Nat.le_of_ble_eq_true rfl, Nat.le_of_ble_eq_true rfl⟩ rfl rfl (fun v3 => ?_)
      refine q_iconst 2 (c := 2) 29 rfl (by decide +kernel) rfl ?_
      refine q_icmp_ge 32 rfl 35 (off := 6) (by decide +kernel) rfl (fun g2 => ?_) (fun g2 => ?_)
      · refine q_aload_n 1 0 36 rfl (by decide +kernel) rfl ?_
        refine q_getr (f := 3) 53 39 rfl (by decide +kernel) (cC_CR D tc x0 y ad) k_CR (by decide) rfl rfl tw_2_105 ?_
        refine q_aload_n 1 0 40 rfl (by decide +kernel) rfl ?_
        refine q_getr (f := 0) 1 43 rfl (by decide +kernel) (cC_CR D tc x0 y ad) k_CR (by decide) rfl rfl tw_2_102 ?_
        refine q_aload_n 1 0 44 rfl (by decide +kernel) rfl ?_
        refine q_getr (f := 0) 1 47 rfl (by decide +kernel) (cC_CR D tc x0 y ad) k_CR (by decide) rfl rfl tw_2_102 ?_
        refine q_getr (f := 5) 25 50 rfl (by decide +kernel) (cC_Wo D tc x0 y ad) k_Wo1.1 (by decide) rfl rfl tw_1_217 ?_
        refine q_iload_n 2 1 51 rfl (by decide +kernel) rfl ?_
        refine q_iald (t := 0) 52 rfl (by decide +kernel) k_Wo1.2.2.2.2.1 rfl (fun j1 hj1 => ?_)
        refine q_iconst 1 (c := 1) 53 rfl (by decide +kernel) rfl ?_
        refine q_iload_n 0 3 54 rfl (by decide +kernel) rfl ?_
        refine q_ishl 55 rfl (by decide +kernel) ?_
        refine q_callV_iIJP 58 rfl (av := [q_r (cG D tc x0 y ad) 1, .int (I 25 j1), .int ((1 : Int32) <<< (v1 &&& 31))]) (o := 53) (st := []) (c_Mg_heaviest X.1 D tc x0 y ad I J P k_Mg53 k_Wo1 (I 25 j1) ((1 : Int32) <<< (v1 &&& 31))) yv_Mg_heaviest tw_2_172 tw_2_173 tw_2_174 (cC_Mg D tc x0 y ad) k_Mg53.1 rfl (Nat.le_of_ble_eq_true rfl) (by decide +kernel) ⟨Nat.le_of_ble_eq_true rfl, Nat.le_of_ble_eq_true rfl⟩ ⟨Nat.le_of_ble_eq_true rfl, Nat.le_of_ble_eq_true rfl⟩ rfl rfl (fun v4 I1 J1 P1 => ?_)
        refine q_istore 4 60 rfl [(4, .int v4), (3, .int v1), (0, q_r (cG D tc x0 y ad) 0), (1, .int a1), (2, .int a2)] (by decide +kernel) (Nat.le_of_ble_eq_true rfl) rfl ?_
        refine q_iload 0 4 62 rfl (by decide +kernel) rfl ?_
        refine q_if_ge 65 rfl 70 (off := 8) (by decide +kernel) rfl (fun g1 => ?_) (fun g1 => ?_)
        · refine q_aload_n 2 0 71 rfl (by decide +kernel) rfl ?_
          refine q_getr (f := 0) 1 74 rfl (by decide +kernel) (cC_CR D tc x0 y ad) k_CR (by decide) rfl rfl tw_2_102 ?_
          refine q_aload_n 2 0 75 rfl (by decide +kernel) rfl ?_
          refine q_getr (f := 0) 1 78 rfl (by decide +kernel) (cC_CR D tc x0 y ad) k_CR (by decide) rfl rfl tw_2_102 ?_
          refine q_getr (f := 6) 26 81 rfl (by decide +kernel) (cC_Wo D tc x0 y ad) k_Wo1.1 (by decide) rfl rfl tw_1_219 ?_
          refine q_iload_n 3 1 82 rfl (by decide +kernel) rfl ?_
          refine q_iald (t := 0) 83 rfl (by decide +kernel) k_Wo1.2.2.2.2.2.1 rfl (fun j2 hj2 => ?_)
          refine q_callV_i 86 rfl (av := [.int (I1 26 j2)]) (o := 1) (st := []) (c_Wo_weigh X.1 D tc x0 y ad I1 J1 P1 k_Wo1 (I1 26 j2)) yv_Wo_weigh tw_4_157 tw_2_191 tw_2_192 (cC_Wo D tc x0 y ad) k_Wo1.1 rfl (Nat.le_of_ble_eq_true rfl) (by decide +kernel) ⟨Nat.le_of_ble_eq_true rfl, Nat.le_of_ble_eq_true rfl⟩ ⟨Nat.le_of_ble_eq_true rfl, Nat.le_of_ble_eq_true rfl⟩ rfl rfl (fun v5 => ?_)
          refine q_aload_n 2 0 87 rfl (by decide +kernel) rfl ?_
          refine q_getr (f := 0) 1 90 rfl (by decide +kernel) (cC_CR D tc x0 y ad) k_CR (by decide) rfl rfl tw_2_102 ?_
          refine q_iload 0 4 92 rfl (by decide +kernel) rfl ?_
          refine q_callV_i 95 rfl (av := [.int v4]) (o := 1) (st := [.int v5]) (c_Wo_weigh X.1 D tc x0 y ad I1 J1 P1 k_Wo1 v4) yv_Wo_weigh tw_4_157 tw_2_191 tw_2_192 (cC_Wo D tc x0 y ad) k_Wo1.1 rfl (Nat.le_of_ble_eq_true rfl) (by decide +kernel) ⟨Nat.le_of_ble_eq_true rfl, Nat.le_of_ble_eq_true rfl⟩ ⟨Nat.le_of_ble_eq_true rfl, Nat.le_of_ble_eq_true rfl⟩ rfl rfl (fun v6 => ?_)
          refine q_isub 96 rfl (by decide +kernel) ?_
          exact q_iret (by decide +kernel) rfl rfl (Nat.le_of_ble_eq_true rfl) (Nat.le_of_ble_eq_true rfl)
        · refine q_bipush (-4) (c := -4) 67 rfl (by decide +kernel) rfl ?_
          refine q_goto (off := 29) 96 (by decide +kernel) rfl ?_
          exact q_iret (by decide +kernel) rfl rfl (Nat.le_of_ble_eq_true rfl) (Nat.le_of_ble_eq_true rfl)
      · refine q_bipush (-3) (c := -3) 34 rfl (by decide +kernel) rfl ?_
        exact q_iret (by decide +kernel) rfl rfl (Nat.le_of_ble_eq_true rfl) (Nat.le_of_ble_eq_true rfl)
    · refine q_iconst (-1) (c := -1) 21 rfl (by decide +kernel) rfl ?_
      exact q_iret (by decide +kernel) rfl rfl (Nat.le_of_ble_eq_true rfl) (Nat.le_of_ble_eq_true rfl)
def f_CR_admitsStart (I : q_I) (J : q_J) (P : q_P) (a1 : Nat) (a2 : Int32) (a3 : Int32) : Option (Int32 × q_I × q_J × q_P) :=
  q_b1 (f_CR_isStart a3) (fun v1 => if v1 = 0 then (some (0, I, J, P)) else (q_b1 (f_Ed_setStart I a1 a3) (fun I1 => q_b4 (f_Mg_admits I1 J P 53 1 a2) (fun v2 I2 J1 P1 => some ((v2 &&& 1), I2, J1, P1)))))
def y_CR_admitsStart : MethodName := ⟨"CalendarReplicas", "admitsStart", "(LCalendarReplicas$Edit;II)Z"⟩
def m_CR_admitsStart : q_M := (prog_1_method_47_code, 4, "CalendarReplicas", { frames := 5, cells := 0, slots := 0, locals := 134 }, (some FieldType.boolean))
theorem yv_CR_admitsStart : q_Y y_CR_admitsStart m_CR_admitsStart 3 := ⟨rfl, ⟨by decide, by decide⟩, by decide +kernel, tw_4_198, tw_1_1⟩
set_option maxRecDepth 100000 in
set_option maxHeartbeats 4000000 in
theorem c_CR_admitsStart (l : Launch) (D : va_G) (tc : Nat → ClassId) (x0 y : Nat) (ad : Nat → Nat) (I : q_I) (J : q_J) (P : q_P) {a1 : Nat} (h1 : isEd a1) (a2 : Int32) (a3 : Int32) : q_Ct l (cG D tc x0 y ad) y_CR_admitsStart m_CR_admitsStart [q_r (cG D tc x0 y ad) 0, q_r (cG D tc x0 y ad) a1, .int a2, .int a3] (I, J, P) (f_CR_admitsStart I J P a1 a2 a3) (fun r : Int32 × q_I × q_J × q_P => (some (.int r.1), (r.2.1, r.2.2.1, r.2.2.2))) := by
  refine q_Ct_of (cIn D tc x0 y ad) (by decide) rfl (Nat.le_of_ble_eq_true rfl) rfl (fun X hX => ?_)
  subst hX
  unfold f_CR_admitsStart
  refine q_iload_n 3 3 1 rfl (by decide +kernel) rfl ?_
  refine q_callS_i 4 rfl (av := [.int a3]) (st := []) (c_CR_isStart X.1 D tc x0 y ad I J P a3) yv_CR_isStart tw_3_58 tw_3_59 rfl (Nat.le_of_ble_eq_true rfl) (by decide +kernel) ⟨Nat.le_of_ble_eq_true rfl, Nat.le_of_ble_eq_true rfl⟩ ⟨Nat.le_of_ble_eq_true rfl, Nat.le_of_ble_eq_true rfl⟩ rfl rfl (fun v1 => ?_)
  refine q_if_ne 7 rfl 9 (off := 5) (by decide +kernel) rfl (fun g1 => ?_) (fun g1 => ?_)
  · refine q_aload_n 1 1 10 rfl (by decide +kernel) rfl ?_
    refine q_iload_n 3 3 11 rfl (by decide +kernel) rfl ?_
    refine q_callV_vI 14 rfl (av := [.int a3]) (o := a1) (st := []) (c_Ed_setStart X.1 D tc x0 y ad I J P h1 a3) yv_Ed_setStart tw_4_199 tw_4_200 tw_4_201 (cC_Ed D tc x0 y ad) h1.1 rfl (Nat.le_of_ble_eq_true rfl) (by decide +kernel) ⟨Nat.le_of_ble_eq_true rfl, Nat.le_of_ble_eq_true rfl⟩ ⟨Nat.le_of_ble_eq_true rfl, Nat.le_of_ble_eq_true rfl⟩ rfl rfl (fun I1 => ?_)
    refine q_aload_n 0 0 15 rfl (by decide +kernel) rfl ?_
    refine q_getr (f := 3) 53 18 rfl (by decide +kernel) (cC_CR D tc x0 y ad) k_CR (by decide) rfl rfl tw_2_105 ?_
    refine q_aload_n 0 0 19 rfl (by decide +kernel) rfl ?_
    refine q_getr (f := 0) 1 22 rfl (by decide +kernel) (cC_CR D tc x0 y ad) k_CR (by decide) rfl rfl tw_2_102 ?_
    refine q_iload_n 2 2 23 rfl (by decide +kernel) rfl ?_
    refine q_callV_iIJP 26 rfl (av := [q_r (cG D tc x0 y ad) 1, .int a2]) (o := 53) (st := []) (c_Mg_admits X.1 D tc x0 y ad I1 J P k_Mg53 k_Wo1 a2) yv_Mg_admits tw_4_170 tw_4_171 tw_4_172 (cC_Mg D tc x0 y ad) k_Mg53.1 rfl (Nat.le_of_ble_eq_true rfl) (by decide +kernel) ⟨Nat.le_of_ble_eq_true rfl, Nat.le_of_ble_eq_true rfl⟩ ⟨Nat.le_of_ble_eq_true rfl, Nat.le_of_ble_eq_true rfl⟩ rfl rfl (fun v2 I2 J1 P1 => ?_)
    exact q_zret (w := (v2 &&& 1)) (by decide +kernel) rfl rfl rfl (Nat.le_of_ble_eq_true rfl) (Nat.le_of_ble_eq_true rfl)
  · refine q_iconst 0 (c := 0) 8 rfl (by decide +kernel) rfl ?_
    exact q_zret (w := 0) (by decide +kernel) rfl rfl rfl (Nat.le_of_ble_eq_true rfl) (Nat.le_of_ble_eq_true rfl)
def f_CR_nearestStart_L1 (a1 : Nat) (a2 : Int32) (a3 : Int32) : Nat → Int32 → q_I → q_J → q_P → Option (Int32 × q_I × q_J × q_P)
  | 0, _, _, _, _ => none
  | n + 1, x1, I1, J1, P1 => if (96 : Int32) ≤ x1 then (some ((-4), I1, J1, P1)) else (q_b4 (f_CR_admitsStart I1 J1 P1 a1 a2 (a3 - x1)) (fun v1 I2 J2 P2 => if v1 = 0 then (q_b4 (f_CR_admitsStart I2 J2 P2 a1 a2 (a3 + x1)) (fun v2 I3 J3 P3 => if v2 = 0 then ((f_CR_nearestStart_L1 a1 a2 a3 n (x1 + 1) I3 J3 P3)) else (some ((a3 + x1), I3, J3, P3)))) else (some ((a3 - x1), I2, J2, P2))))
def f_CR_nearestStart (I : q_I) (J : q_J) (P : q_P) (a1 : Nat) (a2 : Int32) (a3 : Int32) : Option (Int32 × q_I × q_J × q_P) :=
  f_CR_nearestStart_L1 a1 a2 a3 q_fu 0 I J P
def y_CR_nearestStart : MethodName := ⟨"CalendarReplicas", "nearestStart", "(LCalendarReplicas$Edit;II)I"⟩
def m_CR_nearestStart : q_M := (prog_1_method_46_code, 5, "CalendarReplicas", { frames := 6, cells := 0, slots := 0, locals := 157 }, (some FieldType.int))
theorem yv_CR_nearestStart : q_Y y_CR_nearestStart m_CR_nearestStart 3 := ⟨rfl, ⟨by decide, by decide⟩, by decide +kernel, tw_4_194, tw_1_1⟩
set_option maxRecDepth 100000 in
set_option maxHeartbeats 4000000 in
theorem c_CR_nearestStart (l : Launch) (D : va_G) (tc : Nat → ClassId) (x0 y : Nat) (ad : Nat → Nat) (I : q_I) (J : q_J) (P : q_P) {a1 : Nat} (h1 : isEd a1) (a2 : Int32) (a3 : Int32) : q_Ct l (cG D tc x0 y ad) y_CR_nearestStart m_CR_nearestStart [q_r (cG D tc x0 y ad) 0, q_r (cG D tc x0 y ad) a1, .int a2, .int a3] (I, J, P) (f_CR_nearestStart I J P a1 a2 a3) (fun r : Int32 × q_I × q_J × q_P => (some (.int r.1), (r.2.1, r.2.2.1, r.2.2.2))) := by
  refine q_Ct_of (cIn D tc x0 y ad) (by decide) rfl (Nat.le_of_ble_eq_true rfl) rfl (fun X hX => ?_)
  subst hX
  unfold f_CR_nearestStart
  refine q_iconst 0 (c := 0) 1 rfl (by decide +kernel) rfl ?_
  refine q_istore 4 3 rfl [(4, .int 0), (0, q_r (cG D tc x0 y ad) 0), (1, q_r (cG D tc x0 y ad) a1), (2, .int a2), (3, .int a3)] (by decide +kernel) (Nat.le_of_ble_eq_true rfl) rfl ?_
  have hL1 : ∀ (n1_ : Nat) (x1 : Int32) (I1 : q_I) (J1 : q_J) (P1 : q_P), q_V (cG D tc x0 y ad) m_CR_nearestStart X (fun r : Int32 × q_I × q_J × q_P => (some (.int r.1), (r.2.1, r.2.2.1, r.2.2.2))) 0 0 3 [(0, q_r (cG D tc x0 y ad) 0), (1, q_r (cG D tc x0 y ad) a1), (2, .int a2), (3, .int a3), (4, .int x1)] [] I1 J1 P1 (f_CR_nearestStart_L1 a1 a2 a3 n1_ x1 I1 J1 P1) := by
    intro n1_
    induction n1_ with
    | zero => intro x1 I1 J1 P1; exact q_none
    | succ n1_ ih1 =>
      intro x1 I1 J1 P1
      rw [f_CR_nearestStart_L1]
      refine q_iload 4 4 5 rfl (by decide +kernel) rfl ?_
      refine q_bipush 96 (c := 96) 7 rfl (by decide +kernel) rfl ?_
      refine q_icmp_ge 10 rfl 52 (off := 45) (by decide +kernel) rfl (fun g3 => ?_) (fun g3 => ?_)
      · refine q_bipush (-4) (c := -4) 54 rfl (by decide +kernel) rfl ?_
        exact q_iret (by decide +kernel) rfl rfl (Nat.le_of_ble_eq_true rfl) (Nat.le_of_ble_eq_true rfl)
      · refine q_aload_n 0 0 11 rfl (by decide +kernel) rfl ?_
        refine q_aload_n 1 1 12 rfl (by decide +kernel) rfl ?_
        refine q_iload_n 2 2 13 rfl (by decide +kernel) rfl ?_
        refine q_iload_n 3 3 14 rfl (by decide +kernel) rfl ?_
        refine q_iload 4 4 16 rfl (by decide +kernel) rfl ?_
        refine q_isub 17 rfl (by decide +kernel) ?_
        refine q_callV_iIJP 20 rfl (av := [q_r (cG D tc x0 y ad) a1, .int a2, .int (a3 - x1)]) (o := 0) (st := []) (c_CR_admitsStart X.1 D tc x0 y ad I1 J1 P1 h1 a2 (a3 - x1)) yv_CR_admitsStart tw_4_195 tw_4_197 sw_22 (cC_CR D tc x0 y ad) k_CR rfl (Nat.le_of_ble_eq_true rfl) (by decide +kernel) ⟨Nat.le_of_ble_eq_true rfl, Nat.le_of_ble_eq_true rfl⟩ ⟨Nat.le_of_ble_eq_true rfl, Nat.le_of_ble_eq_true rfl⟩ rfl rfl (fun v1 I2 J2 P2 => ?_)
        refine q_if_eq 23 rfl 28 (off := 8) (by decide +kernel) rfl (fun g2 => ?_) (fun g2 => ?_)
        · refine q_aload_n 0 0 29 rfl (by decide +kernel) rfl ?_
          refine q_aload_n 1 1 30 rfl (by decide +kernel) rfl ?_
          refine q_iload_n 2 2 31 rfl (by decide +kernel) rfl ?_
          refine q_iload_n 3 3 32 rfl (by decide +kernel) rfl ?_
          refine q_iload 4 4 34 rfl (by decide +kernel) rfl ?_
          refine q_iadd 35 rfl (by decide +kernel) ?_
          refine q_callV_iIJP 38 rfl (av := [q_r (cG D tc x0 y ad) a1, .int a2, .int (a3 + x1)]) (o := 0) (st := []) (c_CR_admitsStart X.1 D tc x0 y ad I2 J2 P2 h1 a2 (a3 + x1)) yv_CR_admitsStart tw_4_195 tw_4_197 sw_22 (cC_CR D tc x0 y ad) k_CR rfl (Nat.le_of_ble_eq_true rfl) (by decide +kernel) ⟨Nat.le_of_ble_eq_true rfl, Nat.le_of_ble_eq_true rfl⟩ ⟨Nat.le_of_ble_eq_true rfl, Nat.le_of_ble_eq_true rfl⟩ rfl rfl (fun v2 I3 J3 P3 => ?_)
          refine q_if_eq 41 rfl 46 (off := 8) (by decide +kernel) rfl (fun g1 => ?_) (fun g1 => ?_)
          · refine q_iinc (x1 + 1) (c := 1) 4 4 49 rfl [(4, .int (x1 + 1)), (0, q_r (cG D tc x0 y ad) 0), (1, q_r (cG D tc x0 y ad) a1), (2, .int a2), (3, .int a3)] (by decide +kernel) rfl rfl (Nat.le_of_ble_eq_true rfl) rfl ?_
            refine q_goto (off := -46) 3 (by decide +kernel) rfl ?_
            refine q_sub [1, 2, 3, 4, 0] rfl ?_
            exact ih1 (x1 + 1) I3 J3 P3
          · refine q_iload_n 3 3 42 rfl (by decide +kernel) rfl ?_
            refine q_iload 4 4 44 rfl (by decide +kernel) rfl ?_
            refine q_iadd 45 rfl (by decide +kernel) ?_
            exact q_iret (by decide +kernel) rfl rfl (Nat.le_of_ble_eq_true rfl) (Nat.le_of_ble_eq_true rfl)
        · refine q_iload_n 3 3 24 rfl (by decide +kernel) rfl ?_
          refine q_iload 4 4 26 rfl (by decide +kernel) rfl ?_
          refine q_isub 27 rfl (by decide +kernel) ?_
          exact q_iret (by decide +kernel) rfl rfl (Nat.le_of_ble_eq_true rfl) (Nat.le_of_ble_eq_true rfl)
  refine q_sub [1, 2, 3, 4, 0] rfl ?_
  exact hL1 _ _ _ _ _
def f_CR_alternative (I : q_I) (J : q_J) (P : q_P) (a1 : Int32) (a2 : Int32) : Option (Int32 × q_I × q_J × q_P) :=
  q_b1 (f_Wo_indexOf I 1 a2) (fun v1 => q_b1 (f_Wo_editAtIndex I 1 v1) (fun r1 => q_b1 (f_CR_isReplica a1) (fun v2 => if v2 = 0 then (some ((-1), I, J, P)) else ((r1).elim (some ((-1), I, J, P)) (fun b1 => q_ck (cE b1) (q_b1 (f_CR_standing I a1 v1) (fun v3 => if v3 = 2 then (q_jj (q_b1 (f_Ed_start I b1) (fun v4 => q_ix a1 3 (fun j1 => q_b4 (f_CR_nearestStart I J P b1 ((I 26 j1) ||| ((1 : Int32) <<< (v1 &&& 31))) v4) (fun v5 I1 J1 P1 => q_b1 (f_Ed_setStart I1 b1 v4) (fun I2 => some (v5, I2, J1, P1)))))) (fun (jk1 : Option (Int32 × q_I × q_J × q_P)) => if (I b1 3) = 0 then (jk1) else (if (I b1 3) = 1 then (jk1) else (some ((-3), I, J, P))))) else (some ((-3), I, J, P)))))))))
def y_CR_alternative : MethodName := ⟨"CalendarReplicas", "alternative", "(II)I"⟩
def m_CR_alternative : q_M := (prog_1_method_45_code, 7, "CalendarReplicas", { frames := 7, cells := 0, slots := 0, locals := 181 }, (some FieldType.int))
theorem yv_CR_alternative : q_Y y_CR_alternative m_CR_alternative 2 := ⟨rfl, ⟨by decide, by decide⟩, by decide +kernel, tw_4_186, tw_1_1⟩
set_option maxRecDepth 100000 in
set_option maxHeartbeats 4000000 in
theorem c_CR_alternative (l : Launch) (D : va_G) (tc : Nat → ClassId) (x0 y : Nat) (ad : Nat → Nat) (I : q_I) (J : q_J) (P : q_P) (a1 : Int32) (a2 : Int32) : q_Ct l (cG D tc x0 y ad) y_CR_alternative m_CR_alternative [q_r (cG D tc x0 y ad) 0, .int a1, .int a2] (I, J, P) (f_CR_alternative I J P a1 a2) (fun r : Int32 × q_I × q_J × q_P => (some (.int r.1), (r.2.1, r.2.2.1, r.2.2.2))) := by
  refine q_Ct_of (cIn D tc x0 y ad) (by decide) rfl (Nat.le_of_ble_eq_true rfl) rfl (fun X hX => ?_)
  subst hX
  unfold f_CR_alternative
  refine q_aload_n 0 0 1 rfl (by decide +kernel) rfl ?_
  refine q_getr (f := 0) 1 4 rfl (by decide +kernel) (cC_CR D tc x0 y ad) k_CR (by decide) rfl rfl tw_2_102 ?_
  refine q_iload_n 2 2 5 rfl (by decide +kernel) rfl ?_
  refine q_callV_i 8 rfl (av := [.int a2]) (o := 1) (st := []) (c_Wo_indexOf X.1 D tc x0 y ad I J P k_Wo1 a2) yv_Wo_indexOf tw_4_69 tw_4_70 tw_4_71 (cC_Wo D tc x0 y ad) k_Wo1.1 rfl (Nat.le_of_ble_eq_true rfl) (by decide +kernel) ⟨Nat.le_of_ble_eq_true rfl, Nat.le_of_ble_eq_true rfl⟩ ⟨Nat.le_of_ble_eq_true rfl, Nat.le_of_ble_eq_true rfl⟩ rfl rfl (fun v1 => ?_)
  refine q_istore_n 3 3 9 rfl [(3, .int v1), (0, q_r (cG D tc x0 y ad) 0), (1, .int a1), (2, .int a2)] (by decide +kernel) rfl (Nat.le_of_ble_eq_true rfl) rfl ?_
  refine q_aload_n 1 0 10 rfl (by decide +kernel) rfl ?_
  refine q_getr (f := 0) 1 13 rfl (by decide +kernel) (cC_CR D tc x0 y ad) k_CR (by decide) rfl rfl tw_2_102 ?_
  refine q_iload_n 0 3 14 rfl (by decide +kernel) rfl ?_
  refine q_callV_q 17 rfl (av := [.int v1]) (o := 1) (st := []) (c_Wo_editAtIndex X.1 D tc x0 y ad I J P k_Wo1 v1) yv_Wo_editAtIndex tw_3_75 tw_3_76 tw_3_77 (cC_Wo D tc x0 y ad) k_Wo1.1 rfl (Nat.le_of_ble_eq_true rfl) (by decide +kernel) ⟨Nat.le_of_ble_eq_true rfl, Nat.le_of_ble_eq_true rfl⟩ ⟨Nat.le_of_ble_eq_true rfl, Nat.le_of_ble_eq_true rfl⟩ rfl rfl (fun r1 => ?_)
  refine q_astoreq 4 19 rfl [(4, q_rn (cG D tc x0 y ad) r1), (3, .int v1), (0, q_r (cG D tc x0 y ad) 0), (1, .int a1), (2, .int a2)] (by decide +kernel) (Nat.le_of_ble_eq_true rfl) rfl ?_
  refine q_iload_n 3 1 20 rfl (by decide +kernel) rfl ?_
  refine q_callS_i 23 rfl (av := [.int a1]) (st := []) (c_CR_isReplica X.1 D tc x0 y ad I J P a1) yv_CR_isReplica tw_3_55 tw_3_56 rfl (Nat.le_of_ble_eq_true rfl) (by decide +kernel) ⟨Nat.le_of_ble_eq_true rfl, Nat.le_of_ble_eq_true rfl⟩ ⟨Nat.le_of_ble_eq_true rfl, Nat.le_of_ble_eq_true rfl⟩ rfl rfl (fun v2 => ?_)
  refine q_if_eq 26 rfl 31 (off := 8) (by decide +kernel) rfl (fun g4 => ?_) (fun g4 => ?_)
  · refine q_iconst (-1) (c := -1) 32 rfl (by decide +kernel) rfl ?_
    exact q_iret (by decide +kernel) rfl rfl (Nat.le_of_ble_eq_true rfl) (Nat.le_of_ble_eq_true rfl)
  · refine q_aloadq 0 4 28 rfl (by decide +kernel) rfl ?_
    refine q_ifnonnull 31 rfl 33 (off := 5) (by decide +kernel) rfl (fun he_b1 => ?_) (fun b1 he_b1 => ?_)
    · subst he_b1
      refine q_iconst (-1) (c := -1) 32 rfl (by decide +kernel) rfl ?_
      exact q_iret (by decide +kernel) rfl rfl (Nat.le_of_ble_eq_true rfl) (Nat.le_of_ble_eq_true rfl)
    · subst he_b1
      refine q_ckV (fun hc_b1 => ?_)
      refine q_aload_n 2 0 34 rfl (by decide +kernel) rfl ?_
      refine q_iload_n 3 1 35 rfl (by decide +kernel) rfl ?_
      refine q_iload_n 1 3 36 rfl (by decide +kernel) rfl ?_
      refine q_callV_i 39 rfl (av := [.int a1, .int v1]) (o := 0) (st := []) (c_CR_standing X.1 D tc x0 y ad I J P a1 v1) yv_CR_standing tw_4_148 tw_4_150 sw_20 (cC_CR D tc x0 y ad) k_CR rfl (Nat.le_of_ble_eq_true rfl) (by decide +kernel) ⟨Nat.le_of_ble_eq_true rfl, Nat.le_of_ble_eq_true rfl⟩ ⟨Nat.le_of_ble_eq_true rfl, Nat.le_of_ble_eq_true rfl⟩ rfl rfl (fun v3 => ?_)
      refine q_iconst 2 (c := 2) 40 rfl (by decide +kernel) rfl ?_
      refine q_icmp_ne 43 rfl 60 (off := 20) (by decide +kernel) rfl (fun g3 => ?_) (fun g3 => ?_)
      · refine q_bipush (-3) (c := -3) 62 rfl (by decide +kernel) rfl ?_
        exact q_iret (by decide +kernel) rfl rfl (Nat.le_of_ble_eq_true rfl) (Nat.le_of_ble_eq_true rfl)
      · refine q_aload 0 4 45 rfl (by decide +kernel) rfl ?_
        refine q_geti (f := 3) 48 rfl (by decide +kernel) (cC_Ed D tc x0 y ad) (cE_of hc_b1).1 (by decide) rfl tw_1_175 ?_
        refine q_jj0 63 ([(0, q_r (cG D tc x0 y ad) 0), (1, .int a1), (3, .int v1), (4, q_r (cG D tc x0 y ad) b1)]) ([]) (I) (J) (P) ?_ ?_
        · refine q_aload 3 4 65 rfl (by decide +kernel) rfl ?_
          refine q_callV_i 68 rfl (av := []) (o := b1) (st := []) (c_Ed_start X.1 D tc x0 y ad I J P (cE_of hc_b1)) yv_Ed_start tw_4_187 tw_4_188 tw_4_189 (cC_Ed D tc x0 y ad) (cE_of hc_b1).1 rfl (Nat.le_of_ble_eq_true rfl) (by decide +kernel) ⟨Nat.le_of_ble_eq_true rfl, Nat.le_of_ble_eq_true rfl⟩ ⟨Nat.le_of_ble_eq_true rfl, Nat.le_of_ble_eq_true rfl⟩ rfl rfl (fun v4 => ?_)
          refine q_istore 5 70 rfl [(5, .int v4), (0, q_r (cG D tc x0 y ad) 0), (1, .int a1), (3, .int v1), (4, q_r (cG D tc x0 y ad) b1)] (by decide +kernel) (Nat.le_of_ble_eq_true rfl) rfl ?_
          refine q_aload_n 1 0 71 rfl (by decide +kernel) rfl ?_
          refine q_aload 4 4 73 rfl (by decide +kernel) rfl ?_
          refine q_aload_n 1 0 74 rfl (by decide +kernel) rfl ?_
          refine q_getr (f := 0) 1 77 rfl (by decide +kernel) (cC_CR D tc x0 y ad) k_CR (by decide) rfl rfl tw_2_102 ?_
          refine q_getr (f := 6) 26 80 rfl (by decide +kernel) (cC_Wo D tc x0 y ad) k_Wo1.1 (by decide) rfl rfl tw_1_219 ?_
          refine q_iload_n 2 1 81 rfl (by decide +kernel) rfl ?_
          refine q_iald (t := 0) 82 rfl (by decide +kernel) k_Wo1.2.2.2.2.2.1 rfl (fun j1 hj1 => ?_)
          refine q_iconst 1 (c := 1) 83 rfl (by decide +kernel) rfl ?_
          refine q_iload_n 3 3 84 rfl (by decide +kernel) rfl ?_
          refine q_ishl 85 rfl (by decide +kernel) ?_
          refine q_ior 86 rfl (by decide +kernel) ?_
          refine q_iload 0 5 88 rfl (by decide +kernel) rfl ?_
          refine q_callV_iIJP 91 rfl (av := [q_r (cG D tc x0 y ad) b1, .int ((I 26 j1) ||| ((1 : Int32) <<< (v1 &&& 31))), .int v4]) (o := 0) (st := []) (c_CR_nearestStart X.1 D tc x0 y ad I J P (cE_of hc_b1) ((I 26 j1) ||| ((1 : Int32) <<< (v1 &&& 31))) v4) yv_CR_nearestStart tw_4_191 tw_4_193 sw_21 (cC_CR D tc x0 y ad) k_CR rfl (Nat.le_of_ble_eq_true rfl) (by decide +kernel) ⟨Nat.le_of_ble_eq_true rfl, Nat.le_of_ble_eq_true rfl⟩ ⟨Nat.le_of_ble_eq_true rfl, Nat.le_of_ble_eq_true rfl⟩ rfl rfl (fun v5 I1 J1 P1 => ?_)
          refine q_istore 6 93 rfl [(6, .int v5), (5, .int v4), (0, q_r (cG D tc x0 y ad) 0), (1, .int a1), (3, .int v1), (4, q_r (cG D tc x0 y ad) b1)] (by decide +kernel) (Nat.le_of_ble_eq_true rfl) rfl ?_
          refine q_aload 5 4 95 rfl (by decide +kernel) rfl ?_
          refine q_iload 1 5 97 rfl (by decide +kernel) rfl ?_
          refine q_callV_vI 100 rfl (av := [.int v4]) (o := b1) (st := []) (c_Ed_setStart X.1 D tc x0 y ad I1 J1 P1 (cE_of hc_b1) v4) yv_Ed_setStart tw_4_199 tw_4_200 tw_4_201 (cC_Ed D tc x0 y ad) (cE_of hc_b1).1 rfl (Nat.le_of_ble_eq_true rfl) (by decide +kernel) ⟨Nat.le_of_ble_eq_true rfl, Nat.le_of_ble_eq_true rfl⟩ ⟨Nat.le_of_ble_eq_true rfl, Nat.le_of_ble_eq_true rfl⟩ rfl rfl (fun I2 => ?_)
          refine q_iload 0 6 102 rfl (by decide +kernel) rfl ?_
          exact q_iret (by decide +kernel) rfl rfl (Nat.le_of_ble_eq_true rfl) (Nat.le_of_ble_eq_true rfl)
        · intro jk1 hq1
          refine q_if_eq 51 rfl 63 (off := 15) (by decide +kernel) rfl (fun g2 => ?_) (fun g2 => ?_)
          · refine q_sub [2, 3, 1, 0] rfl ?_
            exact hq1
          · refine q_aload 0 4 53 rfl (by decide +kernel) rfl ?_
            refine q_geti (f := 3) 56 rfl (by decide +kernel) (cC_Ed D tc x0 y ad) (cE_of hc_b1).1 (by decide) rfl tw_1_175 ?_
            refine q_iconst 1 (c := 1) 57 rfl (by decide +kernel) rfl ?_
            refine q_icmp_eq 60 rfl 63 (off := 6) (by decide +kernel) rfl (fun g1 => ?_) (fun g1 => ?_)
            · refine q_sub [2, 3, 1, 0] rfl ?_
              exact hq1
            · refine q_bipush (-3) (c := -3) 62 rfl (by decide +kernel) rfl ?_
              exact q_iret (by decide +kernel) rfl rfl (Nat.le_of_ble_eq_true rfl) (Nat.le_of_ble_eq_true rfl)
def f_CR_fillTimetable_L1 (I1 : q_I) (P1 : q_P) : Nat → Int32 → q_J → Option (q_I × q_J × q_P)
  | 0, _, _ => none
  | n + 1, x1, J2 => if (I1 83 1) ≤ x1 then (some (I1, J2, P1)) else (q_b1 (f_Cal_row I1 P1 83 24 x1) (fun r1 => (r1).elim ((f_CR_fillTimetable_L1 I1 P1 n (x1 + 1) J2)) (fun b1 => q_ck (cM b1) (q_b2 (f_TT_book I1 J2 109 b1) (fun v1 J3 => (f_CR_fillTimetable_L1 I1 P1 n (x1 + 1) J3))))))
def f_CR_fillTimetable (I : q_I) (J : q_J) (P : q_P) (a1 : Int32) : Option (q_I × q_J × q_P) :=
  q_b2 (f_CR_show I P a1) (fun I1 P1 => q_b1 (f_TT_begin I1 J 109 2) (fun J1 => f_CR_fillTimetable_L1 I1 P1 q_fu 0 J1))
def y_CR_fillTimetable : MethodName := ⟨"CalendarReplicas", "fillTimetable", "(I)V"⟩
def m_CR_fillTimetable : q_M := (prog_1_method_51_code, 4, "CalendarReplicas", { frames := 4, cells := 0, slots := 0, locals := 108 }, (none : Option FieldType))
theorem yv_CR_fillTimetable : q_Y y_CR_fillTimetable m_CR_fillTimetable 1 := ⟨rfl, ⟨by decide, by decide⟩, by decide +kernel, tw_4_210, tw_1_1⟩
set_option maxRecDepth 100000 in
set_option maxHeartbeats 4000000 in
theorem c_CR_fillTimetable (l : Launch) (D : va_G) (tc : Nat → ClassId) (x0 y : Nat) (ad : Nat → Nat) (I : q_I) (J : q_J) (P : q_P) (a1 : Int32) : q_Ct l (cG D tc x0 y ad) y_CR_fillTimetable m_CR_fillTimetable [q_r (cG D tc x0 y ad) 0, .int a1] (I, J, P) (f_CR_fillTimetable I J P a1) (fun r : q_I × q_J × q_P => (none, (r.1, r.2.1, r.2.2))) := by
  refine q_Ct_of (cIn D tc x0 y ad) (by decide) rfl (Nat.le_of_ble_eq_true rfl) rfl (fun X hX => ?_)
  subst hX
  unfold f_CR_fillTimetable
  refine q_aload_n 0 0 1 rfl (by decide +kernel) rfl ?_
  refine q_iload_n 1 1 2 rfl (by decide +kernel) rfl ?_
  refine q_callV_vIP 5 rfl (av := [.int a1]) (o := 0) (st := []) (c_CR_show X.1 D tc x0 y ad I J P a1) yv_CR_show tw_4_27 tw_4_29 sw_18 (cC_CR D tc x0 y ad) k_CR rfl (Nat.le_of_ble_eq_true rfl) (by decide +kernel) ⟨Nat.le_of_ble_eq_true rfl, Nat.le_of_ble_eq_true rfl⟩ ⟨Nat.le_of_ble_eq_true rfl, Nat.le_of_ble_eq_true rfl⟩ rfl rfl (fun I1 P1 => ?_)
  refine q_aload_n 0 0 6 rfl (by decide +kernel) rfl ?_
  refine q_getr (f := 5) 109 9 rfl (by decide +kernel) (cC_CR D tc x0 y ad) k_CR (by decide) rfl rfl tw_2_107 ?_
  refine q_aload_n 0 0 10 rfl (by decide +kernel) rfl ?_
  refine q_getr (f := 0) 1 13 rfl (by decide +kernel) (cC_CR D tc x0 y ad) k_CR (by decide) rfl rfl tw_2_102 ?_
  refine q_getr (f := 0) 2 16 rfl (by decide +kernel) (cC_Wo D tc x0 y ad) k_Wo1.1 (by decide) rfl rfl tw_1_207 ?_
  refine q_callV_vJ 19 rfl (av := [q_r (cG D tc x0 y ad) 2]) (o := 109) (st := []) (c_TT_begin X.1 D tc x0 y ad I1 J P1 k_TT109 k_Wo1.2.1) yv_TT_begin tw_4_211 tw_2_231 tw_2_232 (cC_TT D tc x0 y ad) k_TT109.1 rfl (Nat.le_of_ble_eq_true rfl) (by decide +kernel) ⟨Nat.le_of_ble_eq_true rfl, Nat.le_of_ble_eq_true rfl⟩ ⟨Nat.le_of_ble_eq_true rfl, Nat.le_of_ble_eq_true rfl⟩ rfl rfl (fun J1 => ?_)
  refine q_iconst 0 (c := 0) 20 rfl (by decide +kernel) rfl ?_
  refine q_istore_n 2 2 21 rfl [(2, .int 0), (0, q_r (cG D tc x0 y ad) 0), (1, .int a1)] (by decide +kernel) rfl (Nat.le_of_ble_eq_true rfl) rfl ?_
  have hL1 : ∀ (n1_ : Nat) (x1 : Int32) (J2 : q_J), q_V (cG D tc x0 y ad) m_CR_fillTimetable X (fun r : q_I × q_J × q_P => (none, (r.1, r.2.1, r.2.2))) 0 0 21 [(0, q_r (cG D tc x0 y ad) 0), (2, .int x1)] [] I1 J2 P1 (f_CR_fillTimetable_L1 I1 P1 n1_ x1 J2) := by
    intro n1_
    induction n1_ with
    | zero => intro x1 J2; exact q_none
    | succ n1_ ih1 =>
      intro x1 J2
      rw [f_CR_fillTimetable_L1]
      refine q_iload_n 1 2 22 rfl (by decide +kernel) rfl ?_
      refine q_aload_n 0 0 23 rfl (by decide +kernel) rfl ?_
      refine q_getr (f := 4) 83 26 rfl (by decide +kernel) (cC_CR D tc x0 y ad) k_CR (by decide) rfl rfl tw_2_106 ?_
      refine q_geti (f := 1) 29 rfl (by decide +kernel) (cC_Cal D tc x0 y ad) k_Cal83.1 (by decide) rfl tw_1_150 ?_
      refine q_icmp_ge 32 rfl 60 (off := 31) (by decide +kernel) rfl (fun g1 => ?_) (fun g1 => ?_)
      · exact q_vret (by decide +kernel) rfl rfl (Nat.le_of_ble_eq_true rfl) (Nat.le_of_ble_eq_true rfl)
      · refine q_aload_n 0 0 33 rfl (by decide +kernel) rfl ?_
        refine q_getr (f := 4) 83 36 rfl (by decide +kernel) (cC_CR D tc x0 y ad) k_CR (by decide) rfl rfl tw_2_106 ?_
        refine q_iload_n 1 2 37 rfl (by decide +kernel) rfl ?_
        refine q_callV_q 40 rfl (av := [.int x1]) (o := 83) (st := []) (c_Cal_row X.1 D tc x0 y ad I1 J2 P1 k_Cal83 x1) yv_Cal_row tw_4_90 tw_3_3 tw_3_4 (cC_Cal D tc x0 y ad) k_Cal83.1 rfl (Nat.le_of_ble_eq_true rfl) (by decide +kernel) ⟨Nat.le_of_ble_eq_true rfl, Nat.le_of_ble_eq_true rfl⟩ ⟨Nat.le_of_ble_eq_true rfl, Nat.le_of_ble_eq_true rfl⟩ rfl rfl (fun r1 => ?_)
        refine q_astoreq_n 3 3 41 rfl [(3, q_rn (cG D tc x0 y ad) r1), (0, q_r (cG D tc x0 y ad) 0), (2, .int x1)] (by decide +kernel) rfl (Nat.le_of_ble_eq_true rfl) rfl ?_
        refine q_aloadq_n 0 3 42 rfl (by decide +kernel) rfl ?_
        refine q_ifnull 45 rfl 54 (off := 12) (by decide +kernel) rfl (fun he_b1 => ?_) (fun b1 he_b1 => ?_)
        · subst he_b1
          refine q_iinc (x1 + 1) (c := 1) 2 2 57 rfl [(2, .int (x1 + 1)), (3, .null), (0, q_r (cG D tc x0 y ad) 0)] (by decide +kernel) rfl rfl (Nat.le_of_ble_eq_true rfl) rfl ?_
          refine q_goto (off := -36) 21 (by decide +kernel) rfl ?_
          refine q_sub [2, 0] rfl ?_
          exact ih1 (x1 + 1) J2
        · subst he_b1
          refine q_ckV (fun hc_b1 => ?_)
          refine q_aload_n 1 0 46 rfl (by decide +kernel) rfl ?_
          refine q_getr (f := 5) 109 49 rfl (by decide +kernel) (cC_CR D tc x0 y ad) k_CR (by decide) rfl rfl tw_2_107 ?_
          refine q_aload_n 0 3 50 rfl (by decide +kernel) rfl ?_
          refine q_callV_iJ 53 rfl (av := [q_r (cG D tc x0 y ad) b1]) (o := 109) (st := []) (c_TT_book X.1 D tc x0 y ad I1 J2 P1 k_TT109 (cM_of hc_b1)) yv_TT_book tw_4_212 tw_3_19 tw_3_20 (cC_TT D tc x0 y ad) k_TT109.1 rfl (Nat.le_of_ble_eq_true rfl) (by decide +kernel) ⟨Nat.le_of_ble_eq_true rfl, Nat.le_of_ble_eq_true rfl⟩ ⟨Nat.le_of_ble_eq_true rfl, Nat.le_of_ble_eq_true rfl⟩ rfl rfl (fun v1 J3 => ?_)
          refine q_pop 54 rfl (by decide +kernel) rfl ?_
          refine q_iinc (x1 + 1) (c := 1) 2 2 57 rfl [(2, .int (x1 + 1)), (3, q_r (cG D tc x0 y ad) b1), (0, q_r (cG D tc x0 y ad) 0)] (by decide +kernel) rfl rfl (Nat.le_of_ble_eq_true rfl) rfl ?_
          refine q_goto (off := -36) 21 (by decide +kernel) rfl ?_
          refine q_sub [2, 0] rfl ?_
          exact ih1 (x1 + 1) J3
  refine q_sub [1, 0] rfl ?_
  exact hL1 _ _ _
def f_CR_freeStart_L1 (a2 : Int32) (a3 : Int32) (I1 : q_I) (J1 : q_J) (P1 : q_P) : Nat → Int32 → Option (Int32 × q_I × q_J × q_P)
  | 0, _ => none
  | n + 1, x1 => if (96 : Int32) < (x1 + a3) then (some ((-4), I1, J1, P1)) else (q_b1 (f_TT_isFree J1 109 ((1 : Int32) <<< (a2 &&& 31)) x1 (x1 + a3)) (fun v5 => if v5 = 0 then ((f_CR_freeStart_L1 a2 a3 I1 J1 P1 n (x1 + 1))) else (some (x1, I1, J1, P1))))
def f_CR_freeStart (I : q_I) (J : q_J) (P : q_P) (a1 : Int32) (a2 : Int32) (a3 : Int32) (a4 : Int32) : Option (Int32 × q_I × q_J × q_P) :=
  q_b1 (f_CR_isReplica a1) (fun v1 => if v1 = 0 then (some ((-1), I, J, P)) else (q_b1 (f_CR_within a2 0 3) (fun v2 => if v2 = 0 then (some ((-1), I, J, P)) else (q_b1 (f_CR_isDuration a3) (fun v3 => if v3 = 0 then (some ((-1), I, J, P)) else (q_b1 (f_CR_isStart a4) (fun v4 => if v4 = 0 then (some ((-1), I, J, P)) else (q_b3 (f_CR_fillTimetable I J P a1) (fun I1 J1 P1 => f_CR_freeStart_L1 a2 a3 I1 J1 P1 q_fu a4)))))))))
def y_CR_freeStart : MethodName := ⟨"CalendarReplicas", "freeStart", "(IIII)I"⟩
def m_CR_freeStart : q_M := (prog_1_method_48_code, 6, "CalendarReplicas", { frames := 5, cells := 0, slots := 0, locals := 131 }, (some FieldType.int))
theorem yv_CR_freeStart : q_Y y_CR_freeStart m_CR_freeStart 4 := ⟨rfl, ⟨by decide, by decide⟩, by decide +kernel, tw_4_206, tw_1_1⟩
set_option maxRecDepth 100000 in
set_option maxHeartbeats 4000000 in
theorem c_CR_freeStart (l : Launch) (D : va_G) (tc : Nat → ClassId) (x0 y : Nat) (ad : Nat → Nat) (I : q_I) (J : q_J) (P : q_P) (a1 : Int32) (a2 : Int32) (a3 : Int32) (a4 : Int32) : q_Ct l (cG D tc x0 y ad) y_CR_freeStart m_CR_freeStart [q_r (cG D tc x0 y ad) 0, .int a1, .int a2, .int a3, .int a4] (I, J, P) (f_CR_freeStart I J P a1 a2 a3 a4) (fun r : Int32 × q_I × q_J × q_P => (some (.int r.1), (r.2.1, r.2.2.1, r.2.2.2))) := by
  refine q_Ct_of (cIn D tc x0 y ad) (by decide) rfl (Nat.le_of_ble_eq_true rfl) rfl (fun X hX => ?_)
  subst hX
  unfold f_CR_freeStart
  refine q_iload_n 1 1 1 rfl (by decide +kernel) rfl ?_
  refine q_callS_i 4 rfl (av := [.int a1]) (st := []) (c_CR_isReplica X.1 D tc x0 y ad I J P a1) yv_CR_isReplica tw_3_55 tw_3_56 rfl (Nat.le_of_ble_eq_true rfl) (by decide +kernel) ⟨Nat.le_of_ble_eq_true rfl, Nat.le_of_ble_eq_true rfl⟩ ⟨Nat.le_of_ble_eq_true rfl, Nat.le_of_ble_eq_true rfl⟩ rfl rfl (fun v1 => ?_)
  refine q_if_eq 7 rfl 31 (off := 27) (by decide +kernel) rfl (fun g6 => ?_) (fun g6 => ?_)
  · refine q_iconst (-1) (c := -1) 32 rfl (by decide +kernel) rfl ?_
    exact q_iret (by decide +kernel) rfl rfl (Nat.le_of_ble_eq_true rfl) (Nat.le_of_ble_eq_true rfl)
  · refine q_iload_n 2 2 8 rfl (by decide +kernel) rfl ?_
    refine q_iconst 0 (c := 0) 9 rfl (by decide +kernel) rfl ?_
    refine q_iconst 3 (c := 3) 10 rfl (by decide +kernel) rfl ?_
    refine q_callS_i 13 rfl (av := [.int a2, .int 0, .int 3]) (st := []) (c_CR_within X.1 D tc x0 y ad I J P a2 0 3) yv_CR_within tw_2_134 tw_2_135 rfl (Nat.le_of_ble_eq_true rfl) (by decide +kernel) ⟨Nat.le_of_ble_eq_true rfl, Nat.le_of_ble_eq_true rfl⟩ ⟨Nat.le_of_ble_eq_true rfl, Nat.le_of_ble_eq_true rfl⟩ rfl rfl (fun v2 => ?_)
    refine q_if_eq 16 rfl 31 (off := 18) (by decide +kernel) rfl (fun g5 => ?_) (fun g5 => ?_)
    · refine q_iconst (-1) (c := -1) 32 rfl (by decide +kernel) rfl ?_
      exact q_iret (by decide +kernel) rfl rfl (Nat.le_of_ble_eq_true rfl) (Nat.le_of_ble_eq_true rfl)
    · refine q_iload_n 3 3 17 rfl (by decide +kernel) rfl ?_
      refine q_callS_i 20 rfl (av := [.int a3]) (st := []) (c_CR_isDuration X.1 D tc x0 y ad I J P a3) yv_CR_isDuration tw_3_61 tw_3_62 rfl (Nat.le_of_ble_eq_true rfl) (by decide +kernel) ⟨Nat.le_of_ble_eq_true rfl, Nat.le_of_ble_eq_true rfl⟩ ⟨Nat.le_of_ble_eq_true rfl, Nat.le_of_ble_eq_true rfl⟩ rfl rfl (fun v3 => ?_)
      refine q_if_eq 23 rfl 31 (off := 11) (by decide +kernel) rfl (fun g4 => ?_) (fun g4 => ?_)
      · refine q_iconst (-1) (c := -1) 32 rfl (by decide +kernel) rfl ?_
        exact q_iret (by decide +kernel) rfl rfl (Nat.le_of_ble_eq_true rfl) (Nat.le_of_ble_eq_true rfl)
      · refine q_iload 4 4 25 rfl (by decide +kernel) rfl ?_
        refine q_callS_i 28 rfl (av := [.int a4]) (st := []) (c_CR_isStart X.1 D tc x0 y ad I J P a4) yv_CR_isStart tw_3_58 tw_3_59 rfl (Nat.le_of_ble_eq_true rfl) (by decide +kernel) ⟨Nat.le_of_ble_eq_true rfl, Nat.le_of_ble_eq_true rfl⟩ ⟨Nat.le_of_ble_eq_true rfl, Nat.le_of_ble_eq_true rfl⟩ rfl rfl (fun v4 => ?_)
        refine q_if_ne 31 rfl 33 (off := 5) (by decide +kernel) rfl (fun g3 => ?_) (fun g3 => ?_)
        · refine q_aload_n 0 0 34 rfl (by decide +kernel) rfl ?_
          refine q_iload_n 1 1 35 rfl (by decide +kernel) rfl ?_
          refine q_callV_vIJP 38 rfl (av := [.int a1]) (o := 0) (st := []) (c_CR_fillTimetable X.1 D tc x0 y ad I J P a1) yv_CR_fillTimetable tw_4_207 tw_4_209 sw_23 (cC_CR D tc x0 y ad) k_CR rfl (Nat.le_of_ble_eq_true rfl) (by decide +kernel) ⟨Nat.le_of_ble_eq_true rfl, Nat.le_of_ble_eq_true rfl⟩ ⟨Nat.le_of_ble_eq_true rfl, Nat.le_of_ble_eq_true rfl⟩ rfl rfl (fun I1 J1 P1 => ?_)
          refine q_iload 4 4 40 rfl (by decide +kernel) rfl ?_
          refine q_istore 5 42 rfl [(5, .int a4), (0, q_r (cG D tc x0 y ad) 0), (1, .int a1), (2, .int a2), (3, .int a3), (4, .int a4)] (by decide +kernel) (Nat.le_of_ble_eq_true rfl) rfl ?_
          have hL1 : ∀ (n1_ : Nat) (x1 : Int32), q_V (cG D tc x0 y ad) m_CR_freeStart X (fun r : Int32 × q_I × q_J × q_P => (some (.int r.1), (r.2.1, r.2.2.1, r.2.2.2))) 0 0 42 [(0, q_r (cG D tc x0 y ad) 0), (2, .int a2), (3, .int a3), (5, .int x1)] [] I1 J1 P1 (f_CR_freeStart_L1 a2 a3 I1 J1 P1 n1_ x1) := by
            intro n1_
            induction n1_ with
            | zero => intro x1; exact q_none
            | succ n1_ ih1 =>
              intro x1
              rw [f_CR_freeStart_L1]
              refine q_iload 3 5 44 rfl (by decide +kernel) rfl ?_
              refine q_iload_n 2 3 45 rfl (by decide +kernel) rfl ?_
              refine q_iadd 46 rfl (by decide +kernel) ?_
              refine q_bipush 96 (c := 96) 48 rfl (by decide +kernel) rfl ?_
              refine q_icmp_gt 51 rfl 79 (off := 31) (by decide +kernel) rfl (fun g2 => ?_) (fun g2 => ?_)
              · refine q_bipush (-4) (c := -4) 81 rfl (by decide +kernel) rfl ?_
                exact q_iret (by decide +kernel) rfl rfl (Nat.le_of_ble_eq_true rfl) (Nat.le_of_ble_eq_true rfl)
              · refine q_aload_n 0 0 52 rfl (by decide +kernel) rfl ?_
                refine q_getr (f := 5) 109 55 rfl (by decide +kernel) (cC_CR D tc x0 y ad) k_CR (by decide) rfl rfl tw_2_107 ?_
                refine q_iconst 1 (c := 1) 56 rfl (by decide +kernel) rfl ?_
                refine q_iload_n 1 2 57 rfl (by decide +kernel) rfl ?_
                refine q_ishl 58 rfl (by decide +kernel) ?_
                refine q_iload 3 5 60 rfl (by decide +kernel) rfl ?_
                refine q_iload 3 5 62 rfl (by decide +kernel) rfl ?_
                refine q_iload_n 2 3 63 rfl (by decide +kernel) rfl ?_
                refine q_iadd 64 rfl (by decide +kernel) ?_
                refine q_callV_i 67 rfl (av := [.int ((1 : Int32) <<< (a2 &&& 31)), .int x1, .int (x1 + a3)]) (o := 109) (st := []) (c_TT_isFree X.1 D tc x0 y ad I1 J1 P1 k_TT109 ((1 : Int32) <<< (a2 &&& 31)) x1 (x1 + a3)) yv_TT_isFree tw_4_213 tw_3_27 tw_3_28 (cC_TT D tc x0 y ad) k_TT109.1 rfl (Nat.le_of_ble_eq_true rfl) (by decide +kernel) ⟨Nat.le_of_ble_eq_true rfl, Nat.le_of_ble_eq_true rfl⟩ ⟨Nat.le_of_ble_eq_true rfl, Nat.le_of_ble_eq_true rfl⟩ rfl rfl (fun v5 => ?_)
                refine q_if_eq 70 rfl 73 (off := 6) (by decide +kernel) rfl (fun g1 => ?_) (fun g1 => ?_)
                · refine q_iinc (x1 + 1) (c := 1) 5 3 76 rfl [(5, .int (x1 + 1)), (0, q_r (cG D tc x0 y ad) 0), (2, .int a2), (3, .int a3)] (by decide +kernel) rfl rfl (Nat.le_of_ble_eq_true rfl) rfl ?_
                  refine q_goto (off := -34) 42 (by decide +kernel) rfl ?_
                  refine q_sub [1, 2, 3, 0] rfl ?_
                  exact ih1 (x1 + 1)
                · refine q_iload 3 5 72 rfl (by decide +kernel) rfl ?_
                  exact q_iret (by decide +kernel) rfl rfl (Nat.le_of_ble_eq_true rfl) (Nat.le_of_ble_eq_true rfl)
          refine q_sub [1, 3, 4, 0] rfl ?_
          exact hL1 _ _
        · refine q_iconst (-1) (c := -1) 32 rfl (by decide +kernel) rfl ?_
          exact q_iret (by decide +kernel) rfl rfl (Nat.le_of_ble_eq_true rfl) (Nat.le_of_ble_eq_true rfl)
def f_CR_commonStart_L2 (a2 : Int32) (a3 : Int32) (J1 : q_J) (P1 : q_P) (x1 : Int32) (K : q_I → Option (Int32 × q_I × q_J × q_P)) : Nat → Int32 → q_I → Option (Int32 × q_I × q_J × q_P)
  | 0, _, _ => none
  | n + 1, x2, I3 => if (4 : Int32) ≤ x2 then ((K I3)) else (q_b1 (f_Me_fill I3 112 x1 a3 x2 a2 0 1) (fun I4 => q_b1 (f_Ru_allows I4 2 112) (fun v5 => if v5 = 0 then ((f_CR_commonStart_L2 a2 a3 J1 P1 x1 K n (x2 + 1) I4)) else (q_b1 (f_Me_rows I4 112) (fun v6 => q_b1 (f_TT_isFree J1 109 v6 x1 (x1 + a3)) (fun v7 => if v7 = 0 then ((f_CR_commonStart_L2 a2 a3 J1 P1 x1 K n (x2 + 1) I4)) else (some (((10 * x1) + x2), I4, J1, P1))))))))
def f_CR_commonStart_L1 (a2 : Int32) (a3 : Int32) (J1 : q_J) (P1 : q_P) : Nat → Int32 → q_I → Option (Int32 × q_I × q_J × q_P)
  | 0, _, _ => none
  | n + 1, x1, I2 => if (96 : Int32) < (x1 + a3) then (some ((-4), I2, J1, P1)) else (f_CR_commonStart_L2 a2 a3 J1 P1 x1 (fun (I5 : q_I) => (f_CR_commonStart_L1 a2 a3 J1 P1 n (x1 + 1) I5)) q_fu 0 I2)
def f_CR_commonStart (I : q_I) (J : q_J) (P : q_P) (a1 : Int32) (a2 : Int32) (a3 : Int32) (a4 : Int32) : Option (Int32 × q_I × q_J × q_P) :=
  q_b1 (f_CR_isReplica a1) (fun v1 => if v1 = 0 then (some ((-1), I, J, P)) else (q_b1 (f_CR_within a2 1 63) (fun v2 => if v2 = 0 then (some ((-1), I, J, P)) else (q_b1 (f_CR_isDuration a3) (fun v3 => if v3 = 0 then (some ((-1), I, J, P)) else (q_b1 (f_CR_isStart a4) (fun v4 => if v4 = 0 then (some ((-1), I, J, P)) else (q_b3 (f_CR_fillTimetable I J P a1) (fun I1 J1 P1 => f_CR_commonStart_L1 a2 a3 J1 P1 q_fu a4 I1)))))))))
def y_CR_commonStart : MethodName := ⟨"CalendarReplicas", "commonStart", "(IIII)I"⟩
def m_CR_commonStart : q_M := (prog_1_method_49_code, 7, "CalendarReplicas", { frames := 5, cells := 0, slots := 0, locals := 131 }, (some FieldType.int))
theorem yv_CR_commonStart : q_Y y_CR_commonStart m_CR_commonStart 4 := ⟨rfl, ⟨by decide, by decide⟩, by decide +kernel, tw_4_217, tw_1_1⟩
set_option maxRecDepth 100000 in
set_option maxHeartbeats 4000000 in
theorem c_CR_commonStart (l : Launch) (D : va_G) (tc : Nat → ClassId) (x0 y : Nat) (ad : Nat → Nat) (I : q_I) (J : q_J) (P : q_P) (a1 : Int32) (a2 : Int32) (a3 : Int32) (a4 : Int32) : q_Ct l (cG D tc x0 y ad) y_CR_commonStart m_CR_commonStart [q_r (cG D tc x0 y ad) 0, .int a1, .int a2, .int a3, .int a4] (I, J, P) (f_CR_commonStart I J P a1 a2 a3 a4) (fun r : Int32 × q_I × q_J × q_P => (some (.int r.1), (r.2.1, r.2.2.1, r.2.2.2))) := by
  refine q_Ct_of (cIn D tc x0 y ad) (by decide) rfl (Nat.le_of_ble_eq_true rfl) rfl (fun X hX => ?_)
  subst hX
  unfold f_CR_commonStart
  refine q_iload_n 1 1 1 rfl (by decide +kernel) rfl ?_
  refine q_callS_i 4 rfl (av := [.int a1]) (st := []) (c_CR_isReplica X.1 D tc x0 y ad I J P a1) yv_CR_isReplica tw_3_55 tw_3_56 rfl (Nat.le_of_ble_eq_true rfl) (by decide +kernel) ⟨Nat.le_of_ble_eq_true rfl, Nat.le_of_ble_eq_true rfl⟩ ⟨Nat.le_of_ble_eq_true rfl, Nat.le_of_ble_eq_true rfl⟩ rfl rfl (fun v1 => ?_)
  refine q_if_eq 7 rfl 32 (off := 28) (by decide +kernel) rfl (fun g8 => ?_) (fun g8 => ?_)
  · refine q_iconst (-1) (c := -1) 33 rfl (by decide +kernel) rfl ?_
    exact q_iret (by decide +kernel) rfl rfl (Nat.le_of_ble_eq_true rfl) (Nat.le_of_ble_eq_true rfl)
  · refine q_iload_n 2 2 8 rfl (by decide +kernel) rfl ?_
    refine q_iconst 1 (c := 1) 9 rfl (by decide +kernel) rfl ?_
    refine q_bipush 63 (c := 63) 11 rfl (by decide +kernel) rfl ?_
    refine q_callS_i 14 rfl (av := [.int a2, .int 1, .int 63]) (st := []) (c_CR_within X.1 D tc x0 y ad I J P a2 1 63) yv_CR_within tw_2_134 tw_2_135 rfl (Nat.le_of_ble_eq_true rfl) (by decide +kernel) ⟨Nat.le_of_ble_eq_true rfl, Nat.le_of_ble_eq_true rfl⟩ ⟨Nat.le_of_ble_eq_true rfl, Nat.le_of_ble_eq_true rfl⟩ rfl rfl (fun v2 => ?_)
    refine q_if_eq 17 rfl 32 (off := 18) (by decide +kernel) rfl (fun g7 => ?_) (fun g7 => ?_)
    · refine q_iconst (-1) (c := -1) 33 rfl (by decide +kernel) rfl ?_
      exact q_iret (by decide +kernel) rfl rfl (Nat.le_of_ble_eq_true rfl) (Nat.le_of_ble_eq_true rfl)
    · refine q_iload_n 3 3 18 rfl (by decide +kernel) rfl ?_
      refine q_callS_i 21 rfl (av := [.int a3]) (st := []) (c_CR_isDuration X.1 D tc x0 y ad I J P a3) yv_CR_isDuration tw_3_61 tw_3_62 rfl (Nat.le_of_ble_eq_true rfl) (by decide +kernel) ⟨Nat.le_of_ble_eq_true rfl, Nat.le_of_ble_eq_true rfl⟩ ⟨Nat.le_of_ble_eq_true rfl, Nat.le_of_ble_eq_true rfl⟩ rfl rfl (fun v3 => ?_)
      refine q_if_eq 24 rfl 32 (off := 11) (by decide +kernel) rfl (fun g6 => ?_) (fun g6 => ?_)
      · refine q_iconst (-1) (c := -1) 33 rfl (by decide +kernel) rfl ?_
        exact q_iret (by decide +kernel) rfl rfl (Nat.le_of_ble_eq_true rfl) (Nat.le_of_ble_eq_true rfl)
      · refine q_iload 4 4 26 rfl (by decide +kernel) rfl ?_
        refine q_callS_i 29 rfl (av := [.int a4]) (st := []) (c_CR_isStart X.1 D tc x0 y ad I J P a4) yv_CR_isStart tw_3_58 tw_3_59 rfl (Nat.le_of_ble_eq_true rfl) (by decide +kernel) ⟨Nat.le_of_ble_eq_true rfl, Nat.le_of_ble_eq_true rfl⟩ ⟨Nat.le_of_ble_eq_true rfl, Nat.le_of_ble_eq_true rfl⟩ rfl rfl (fun v4 => ?_)
        refine q_if_ne 32 rfl 34 (off := 5) (by decide +kernel) rfl (fun g5 => ?_) (fun g5 => ?_)
        · refine q_aload_n 0 0 35 rfl (by decide +kernel) rfl ?_
          refine q_iload_n 1 1 36 rfl (by decide +kernel) rfl ?_
          refine q_callV_vIJP 39 rfl (av := [.int a1]) (o := 0) (st := []) (c_CR_fillTimetable X.1 D tc x0 y ad I J P a1) yv_CR_fillTimetable tw_4_207 tw_4_209 sw_23 (cC_CR D tc x0 y ad) k_CR rfl (Nat.le_of_ble_eq_true rfl) (by decide +kernel) ⟨Nat.le_of_ble_eq_true rfl, Nat.le_of_ble_eq_true rfl⟩ ⟨Nat.le_of_ble_eq_true rfl, Nat.le_of_ble_eq_true rfl⟩ rfl rfl (fun I1 J1 P1 => ?_)
          refine q_iload 4 4 41 rfl (by decide +kernel) rfl ?_
          refine q_istore 5 43 rfl [(5, .int a4), (0, q_r (cG D tc x0 y ad) 0), (1, .int a1), (2, .int a2), (3, .int a3), (4, .int a4)] (by decide +kernel) (Nat.le_of_ble_eq_true rfl) rfl ?_
          have hL1 : ∀ (n1_ : Nat) (x1 : Int32) (I2 : q_I), q_V (cG D tc x0 y ad) m_CR_commonStart X (fun r : Int32 × q_I × q_J × q_P => (some (.int r.1), (r.2.1, r.2.2.1, r.2.2.2))) 0 0 43 [(0, q_r (cG D tc x0 y ad) 0), (2, .int a2), (3, .int a3), (5, .int x1)] [] I2 J1 P1 (f_CR_commonStart_L1 a2 a3 J1 P1 n1_ x1 I2) := by
            intro n1_
            induction n1_ with
            | zero => intro x1 I2; exact q_none
            | succ n1_ ih1 =>
              intro x1 I2
              rw [f_CR_commonStart_L1]
              refine q_iload 3 5 45 rfl (by decide +kernel) rfl ?_
              refine q_iload_n 2 3 46 rfl (by decide +kernel) rfl ?_
              refine q_iadd 47 rfl (by decide +kernel) ?_
              refine q_bipush 96 (c := 96) 49 rfl (by decide +kernel) rfl ?_
              refine q_icmp_gt 52 rfl 137 (off := 88) (by decide +kernel) rfl (fun g4 => ?_) (fun g4 => ?_)
              · refine q_bipush (-4) (c := -4) 139 rfl (by decide +kernel) rfl ?_
                exact q_iret (by decide +kernel) rfl rfl (Nat.le_of_ble_eq_true rfl) (Nat.le_of_ble_eq_true rfl)
              · refine q_iconst 0 (c := 0) 53 rfl (by decide +kernel) rfl ?_
                refine q_istore 6 55 rfl [(6, .int 0), (0, q_r (cG D tc x0 y ad) 0), (2, .int a2), (3, .int a3), (5, .int x1)] (by decide +kernel) (Nat.le_of_ble_eq_true rfl) rfl ?_
                have hL2 : ∀ (K2 : q_I → Option (Int32 × q_I × q_J × q_P)) (hK2 : ∀ (I5 : q_I), q_V (cG D tc x0 y ad) m_CR_commonStart X (fun r : Int32 × q_I × q_J × q_P => (some (.int r.1), (r.2.1, r.2.2.1, r.2.2.2))) 0 0 131 [(0, q_r (cG D tc x0 y ad) 0), (2, .int a2), (3, .int a3), (5, .int x1)] [] I5 J1 P1 (K2 I5)) (n2_ : Nat) (x2 : Int32) (I3 : q_I), q_V (cG D tc x0 y ad) m_CR_commonStart X (fun r : Int32 × q_I × q_J × q_P => (some (.int r.1), (r.2.1, r.2.2.1, r.2.2.2))) 0 0 55 [(0, q_r (cG D tc x0 y ad) 0), (2, .int a2), (3, .int a3), (5, .int x1), (6, .int x2)] [] I3 J1 P1 (f_CR_commonStart_L2 a2 a3 J1 P1 x1 K2 n2_ x2 I3) := by
                  intro K2 hK2 n2_
                  induction n2_ with
                  | zero => intro x2 I3; exact q_none
                  | succ n2_ ih2 =>
                    intro x2 I3
                    rw [f_CR_commonStart_L2]
                    refine q_iload 4 6 57 rfl (by decide +kernel) rfl ?_
                    refine q_iconst 4 (c := 4) 58 rfl (by decide +kernel) rfl ?_
                    refine q_icmp_ge 61 rfl 131 (off := 73) (by decide +kernel) rfl (fun g3 => ?_) (fun g3 => ?_)
                    · refine q_sub [0, 1, 2, 3] rfl ?_
                      exact hK2 I3
                    · refine q_aload_n 0 0 62 rfl (by decide +kernel) rfl ?_
                      refine q_getr (f := 6) 112 65 rfl (by decide +kernel) (cC_CR D tc x0 y ad) k_CR (by decide) rfl rfl tw_2_108 ?_
                      refine q_iload 3 5 67 rfl (by decide +kernel) rfl ?_
                      refine q_iload_n 2 3 68 rfl (by decide +kernel) rfl ?_
                      refine q_iload 4 6 70 rfl (by decide +kernel) rfl ?_
                      refine q_iload_n 1 2 71 rfl (by decide +kernel) rfl ?_
                      refine q_iconst 0 (c := 0) 72 rfl (by decide +kernel) rfl ?_
                      refine q_iconst 1 (c := 1) 73 rfl (by decide +kernel) rfl ?_
                      refine q_callV_vI 76 rfl (av := [.int x1, .int a3, .int x2, .int a2, .int 0, .int 1]) (o := 112) (st := []) (c_Me_fill X.1 D tc x0 y ad I3 J1 P1 k_Me112 x1 a3 x2 a2 0 1) yv_Me_fill tw_3_67 tw_3_68 tw_3_69 (cC_Me D tc x0 y ad) k_Me112 rfl (Nat.le_of_ble_eq_true rfl) (by decide +kernel) ⟨Nat.le_of_ble_eq_true rfl, Nat.le_of_ble_eq_true rfl⟩ ⟨Nat.le_of_ble_eq_true rfl, Nat.le_of_ble_eq_true rfl⟩ rfl rfl (fun I4 => ?_)
                      refine q_aload_n 0 0 77 rfl (by decide +kernel) rfl ?_
                      refine q_getr (f := 0) 1 80 rfl (by decide +kernel) (cC_CR D tc x0 y ad) k_CR (by decide) rfl rfl tw_2_102 ?_
                      refine q_getr (f := 0) 2 83 rfl (by decide +kernel) (cC_Wo D tc x0 y ad) k_Wo1.1 (by decide) rfl rfl tw_1_207 ?_
                      refine q_aload_n 0 0 84 rfl (by decide +kernel) rfl ?_
                      refine q_getr (f := 6) 112 87 rfl (by decide +kernel) (cC_CR D tc x0 y ad) k_CR (by decide) rfl rfl tw_2_108 ?_
                      refine q_callV_i 90 rfl (av := [q_r (cG D tc x0 y ad) 112]) (o := 2) (st := []) (c_Ru_allows X.1 D tc x0 y ad I4 J1 P1 k_Wo1.2.1 k_Me112) yv_Ru_allows tw_4_218 tw_3_7 tw_3_8 (cC_Ru D tc x0 y ad) k_Wo1.2.1.1 rfl (Nat.le_of_ble_eq_true rfl) (by decide +kernel) ⟨Nat.le_of_ble_eq_true rfl, Nat.le_of_ble_eq_true rfl⟩ ⟨Nat.le_of_ble_eq_true rfl, Nat.le_of_ble_eq_true rfl⟩ rfl rfl (fun v5 => ?_)
                      refine q_if_eq 93 rfl 125 (off := 35) (by decide +kernel) rfl (fun g2 => ?_) (fun g2 => ?_)
                      · refine q_iinc (x2 + 1) (c := 1) 6 4 128 rfl [(6, .int (x2 + 1)), (0, q_r (cG D tc x0 y ad) 0), (2, .int a2), (3, .int a3), (5, .int x1)] (by decide +kernel) rfl rfl (Nat.le_of_ble_eq_true rfl) rfl ?_
                        refine q_goto (off := -73) 55 (by decide +kernel) rfl ?_
                        refine q_sub [1, 2, 3, 4, 0] rfl ?_
                        exact ih2 (x2 + 1) I4
                      · refine q_aload_n 0 0 94 rfl (by decide +kernel) rfl ?_
                        refine q_getr (f := 5) 109 97 rfl (by decide +kernel) (cC_CR D tc x0 y ad) k_CR (by decide) rfl rfl tw_2_107 ?_
                        refine q_aload_n 0 0 98 rfl (by decide +kernel) rfl ?_
                        refine q_getr (f := 6) 112 101 rfl (by decide +kernel) (cC_CR D tc x0 y ad) k_CR (by decide) rfl rfl tw_2_108 ?_
                        refine q_callV_i 104 rfl (av := []) (o := 112) (st := [q_r (cG D tc x0 y ad) 109]) (c_Me_rows X.1 D tc x0 y ad I4 J1 P1 k_Me112) yv_Me_rows tw_4_219 tw_3_23 tw_3_24 (cC_Me D tc x0 y ad) k_Me112 rfl (Nat.le_of_ble_eq_true rfl) (by decide +kernel) ⟨Nat.le_of_ble_eq_true rfl, Nat.le_of_ble_eq_true rfl⟩ ⟨Nat.le_of_ble_eq_true rfl, Nat.le_of_ble_eq_true rfl⟩ rfl rfl (fun v6 => ?_)
                        refine q_iload 3 5 106 rfl (by decide +kernel) rfl ?_
                        refine q_iload 3 5 108 rfl (by decide +kernel) rfl ?_
                        refine q_iload_n 2 3 109 rfl (by decide +kernel) rfl ?_
                        refine q_iadd 110 rfl (by decide +kernel) ?_
                        refine q_callV_i 113 rfl (av := [.int v6, .int x1, .int (x1 + a3)]) (o := 109) (st := []) (c_TT_isFree X.1 D tc x0 y ad I4 J1 P1 k_TT109 v6 x1 (x1 + a3)) yv_TT_isFree tw_4_213 tw_3_27 tw_3_28 (cC_TT D tc x0 y ad) k_TT109.1 rfl (Nat.le_of_ble_eq_true rfl) (by decide +kernel) ⟨Nat.le_of_ble_eq_true rfl, Nat.le_of_ble_eq_true rfl⟩ ⟨Nat.le_of_ble_eq_true rfl, Nat.le_of_ble_eq_true rfl⟩ rfl rfl (fun v7 => ?_)
                        refine q_if_eq 116 rfl 125 (off := 12) (by decide +kernel) rfl (fun g1 => ?_) (fun g1 => ?_)
                        · refine q_iinc (x2 + 1) (c := 1) 6 4 128 rfl [(6, .int (x2 + 1)), (0, q_r (cG D tc x0 y ad) 0), (2, .int a2), (3, .int a3), (5, .int x1)] (by decide +kernel) rfl rfl (Nat.le_of_ble_eq_true rfl) rfl ?_
                          refine q_goto (off := -73) 55 (by decide +kernel) rfl ?_
                          refine q_sub [1, 2, 3, 4, 0] rfl ?_
                          exact ih2 (x2 + 1) I4
                        · refine q_bipush 10 (c := 10) 118 rfl (by decide +kernel) rfl ?_
                          refine q_iload 3 5 120 rfl (by decide +kernel) rfl ?_
                          refine q_imul 121 rfl (by decide +kernel) ?_
                          refine q_iload 4 6 123 rfl (by decide +kernel) rfl ?_
                          refine q_iadd 124 rfl (by decide +kernel) ?_
                          exact q_iret (by decide +kernel) rfl rfl (Nat.le_of_ble_eq_true rfl) (Nat.le_of_ble_eq_true rfl)
                refine q_sub [1, 2, 3, 4, 0] rfl ?_
                refine hL2 _ (fun I5 => ?_) _ _ _
                refine q_iinc (x1 + 1) (c := 1) 5 3 134 rfl [(5, .int (x1 + 1)), (0, q_r (cG D tc x0 y ad) 0), (2, .int a2), (3, .int a3)] (by decide +kernel) rfl rfl (Nat.le_of_ble_eq_true rfl) rfl ?_
                refine q_goto (off := -91) 43 (by decide +kernel) rfl ?_
                refine q_sub [1, 2, 3, 0] rfl ?_
                exact ih1 (x1 + 1) I5
          refine q_sub [1, 3, 4, 0] rfl ?_
          exact hL1 _ _ _
        · refine q_iconst (-1) (c := -1) 33 rfl (by decide +kernel) rfl ?_
          exact q_iret (by decide +kernel) rfl rfl (Nat.le_of_ble_eq_true rfl) (Nat.le_of_ble_eq_true rfl)
def f_CR_busySlots_L1 (a2 : Int32) (I1 : q_I) (P1 : q_P) : Nat → Int32 → Int32 → Option (Int32 × q_I × q_P)
  | 0, _, _ => none
  | n + 1, x1, x2 => if (I1 83 1) ≤ x2 then (some (x1, I1, P1)) else (q_b1 (f_Cal_row I1 P1 83 24 x2) (fun r1 => (r1).elim ((f_CR_busySlots_L1 a2 I1 P1 n x1 (x2 + 1))) (fun b1 => q_ck (cM b1) (q_b1 (f_CR_contains (I1 b1 4) a2) (fun v3 => if v3 = 0 then ((f_CR_busySlots_L1 a2 I1 P1 n x1 (x2 + 1))) else (q_l (x1 + ((I1 b1 6) * (I1 b1 2)) : Int32) (fun x3 => (f_CR_busySlots_L1 a2 I1 P1 n x3 (x2 + 1)))))))))
def f_CR_busySlots (I : q_I) (P : q_P) (a1 : Int32) (a2 : Int32) : Option (Int32 × q_I × q_P) :=
  q_b1 (f_CR_isReplica a1) (fun v1 => if v1 = 0 then (some ((-1), I, P)) else (q_b1 (f_CR_within a2 0 5) (fun v2 => if v2 = 0 then (some ((-1), I, P)) else (q_b2 (f_CR_show I P a1) (fun I1 P1 => f_CR_busySlots_L1 a2 I1 P1 q_fu 0 0)))))
def y_CR_busySlots : MethodName := ⟨"CalendarReplicas", "busySlots", "(II)I"⟩
def m_CR_busySlots : q_M := (prog_1_method_50_code, 6, "CalendarReplicas", { frames := 4, cells := 0, slots := 0, locals := 108 }, (some FieldType.int))
theorem yv_CR_busySlots : q_Y y_CR_busySlots m_CR_busySlots 2 := ⟨rfl, ⟨by decide, by decide⟩, by decide +kernel, tw_4_223, tw_1_1⟩
set_option maxRecDepth 100000 in
set_option maxHeartbeats 4000000 in
theorem c_CR_busySlots (l : Launch) (D : va_G) (tc : Nat → ClassId) (x0 y : Nat) (ad : Nat → Nat) (I : q_I) (J : q_J) (P : q_P) (a1 : Int32) (a2 : Int32) : q_Ct l (cG D tc x0 y ad) y_CR_busySlots m_CR_busySlots [q_r (cG D tc x0 y ad) 0, .int a1, .int a2] (I, J, P) (f_CR_busySlots I P a1 a2) (fun r : Int32 × q_I × q_P => (some (.int r.1), (r.2.1, J, r.2.2))) := by
  refine q_Ct_of (cIn D tc x0 y ad) (by decide) rfl (Nat.le_of_ble_eq_true rfl) rfl (fun X hX => ?_)
  subst hX
  unfold f_CR_busySlots
  refine q_iload_n 1 1 1 rfl (by decide +kernel) rfl ?_
  refine q_callS_i 4 rfl (av := [.int a1]) (st := []) (c_CR_isReplica X.1 D tc x0 y ad I J P a1) yv_CR_isReplica tw_3_55 tw_3_56 rfl (Nat.le_of_ble_eq_true rfl) (by decide +kernel) ⟨Nat.le_of_ble_eq_true rfl, Nat.le_of_ble_eq_true rfl⟩ ⟨Nat.le_of_ble_eq_true rfl, Nat.le_of_ble_eq_true rfl⟩ rfl rfl (fun v1 => ?_)
  refine q_if_eq 7 rfl 16 (off := 12) (by decide +kernel) rfl (fun g4 => ?_) (fun g4 => ?_)
  · refine q_iconst (-1) (c := -1) 17 rfl (by decide +kernel) rfl ?_
    exact q_iret (by decide +kernel) rfl rfl (Nat.le_of_ble_eq_true rfl) (Nat.le_of_ble_eq_true rfl)
  · refine q_iload_n 2 2 8 rfl (by decide +kernel) rfl ?_
    refine q_iconst 0 (c := 0) 9 rfl (by decide +kernel) rfl ?_
    refine q_iconst 5 (c := 5) 10 rfl (by decide +kernel) rfl ?_
    refine q_callS_i 13 rfl (av := [.int a2, .int 0, .int 5]) (st := []) (c_CR_within X.1 D tc x0 y ad I J P a2 0 5) yv_CR_within tw_2_134 tw_2_135 rfl (Nat.le_of_ble_eq_true rfl) (by decide +kernel) ⟨Nat.le_of_ble_eq_true rfl, Nat.le_of_ble_eq_true rfl⟩ ⟨Nat.le_of_ble_eq_true rfl, Nat.le_of_ble_eq_true rfl⟩ rfl rfl (fun v2 => ?_)
    refine q_if_ne 16 rfl 18 (off := 5) (by decide +kernel) rfl (fun g3 => ?_) (fun g3 => ?_)
    · refine q_aload_n 0 0 19 rfl (by decide +kernel) rfl ?_
      refine q_iload_n 1 1 20 rfl (by decide +kernel) rfl ?_
      refine q_callV_vIP 23 rfl (av := [.int a1]) (o := 0) (st := []) (c_CR_show X.1 D tc x0 y ad I J P a1) yv_CR_show tw_4_27 tw_4_29 sw_18 (cC_CR D tc x0 y ad) k_CR rfl (Nat.le_of_ble_eq_true rfl) (by decide +kernel) ⟨Nat.le_of_ble_eq_true rfl, Nat.le_of_ble_eq_true rfl⟩ ⟨Nat.le_of_ble_eq_true rfl, Nat.le_of_ble_eq_true rfl⟩ rfl rfl (fun I1 P1 => ?_)
      refine q_iconst 0 (c := 0) 24 rfl (by decide +kernel) rfl ?_
      refine q_istore_n 3 3 25 rfl [(3, .int 0), (0, q_r (cG D tc x0 y ad) 0), (1, .int a1), (2, .int a2)] (by decide +kernel) rfl (Nat.le_of_ble_eq_true rfl) rfl ?_
      refine q_iconst 0 (c := 0) 26 rfl (by decide +kernel) rfl ?_
      refine q_istore 4 28 rfl [(4, .int 0), (3, .int 0), (0, q_r (cG D tc x0 y ad) 0), (1, .int a1), (2, .int a2)] (by decide +kernel) (Nat.le_of_ble_eq_true rfl) rfl ?_
      have hL1 : ∀ (n1_ : Nat) (x1 : Int32) (x2 : Int32), q_V (cG D tc x0 y ad) m_CR_busySlots X (fun r : Int32 × q_I × q_P => (some (.int r.1), (r.2.1, J, r.2.2))) 0 0 28 [(0, q_r (cG D tc x0 y ad) 0), (2, .int a2), (3, .int x1), (4, .int x2)] [] I1 J P1 (f_CR_busySlots_L1 a2 I1 P1 n1_ x1 x2) := by
        intro n1_
        induction n1_ with
        | zero => intro x1 x2; exact q_none
        | succ n1_ ih1 =>
          intro x1 x2
          rw [f_CR_busySlots_L1]
          refine q_iload 3 4 30 rfl (by decide +kernel) rfl ?_
          refine q_aload_n 0 0 31 rfl (by decide +kernel) rfl ?_
          refine q_getr (f := 4) 83 34 rfl (by decide +kernel) (cC_CR D tc x0 y ad) k_CR (by decide) rfl rfl tw_2_106 ?_
          refine q_geti (f := 1) 37 rfl (by decide +kernel) (cC_Cal D tc x0 y ad) k_Cal83.1 (by decide) rfl tw_1_150 ?_
          refine q_icmp_ge 40 rfl 88 (off := 51) (by decide +kernel) rfl (fun g2 => ?_) (fun g2 => ?_)
          · refine q_iload_n 2 3 89 rfl (by decide +kernel) rfl ?_
            exact q_iret (by decide +kernel) rfl rfl (Nat.le_of_ble_eq_true rfl) (Nat.le_of_ble_eq_true rfl)
          · refine q_aload_n 0 0 41 rfl (by decide +kernel) rfl ?_
            refine q_getr (f := 4) 83 44 rfl (by decide +kernel) (cC_CR D tc x0 y ad) k_CR (by decide) rfl rfl tw_2_106 ?_
            refine q_iload 3 4 46 rfl (by decide +kernel) rfl ?_
            refine q_callV_q 49 rfl (av := [.int x2]) (o := 83) (st := []) (c_Cal_row X.1 D tc x0 y ad I1 J P1 k_Cal83 x2) yv_Cal_row tw_4_90 tw_3_3 tw_3_4 (cC_Cal D tc x0 y ad) k_Cal83.1 rfl (Nat.le_of_ble_eq_true rfl) (by decide +kernel) ⟨Nat.le_of_ble_eq_true rfl, Nat.le_of_ble_eq_true rfl⟩ ⟨Nat.le_of_ble_eq_true rfl, Nat.le_of_ble_eq_true rfl⟩ rfl rfl (fun r1 => ?_)
            refine q_astoreq 5 51 rfl [(5, q_rn (cG D tc x0 y ad) r1), (0, q_r (cG D tc x0 y ad) 0), (2, .int a2), (3, .int x1), (4, .int x2)] (by decide +kernel) (Nat.le_of_ble_eq_true rfl) rfl ?_
            refine q_aloadq 0 5 53 rfl (by decide +kernel) rfl ?_
            refine q_ifnull 56 rfl 82 (off := 29) (by decide +kernel) rfl (fun he_b1 => ?_) (fun b1 he_b1 => ?_)
            · subst he_b1
              refine q_iinc (x2 + 1) (c := 1) 4 4 85 rfl [(4, .int (x2 + 1)), (5, .null), (0, q_r (cG D tc x0 y ad) 0), (2, .int a2), (3, .int x1)] (by decide +kernel) rfl rfl (Nat.le_of_ble_eq_true rfl) rfl ?_
              refine q_goto (off := -57) 28 (by decide +kernel) rfl ?_
              refine q_sub [2, 3, 4, 0] rfl ?_
              exact ih1 x1 (x2 + 1)
            · subst he_b1
              refine q_ckV (fun hc_b1 => ?_)
              refine q_aload 0 5 58 rfl (by decide +kernel) rfl ?_
              refine q_geti (f := 4) 61 rfl (by decide +kernel) (cC_Me D tc x0 y ad) (cM_of hc_b1) (by decide) rfl tw_1_120 ?_
              refine q_iload_n 2 2 62 rfl (by decide +kernel) rfl ?_
              refine q_callS_i 65 rfl (av := [.int (I1 b1 4), .int a2]) (st := []) (c_CR_contains X.1 D tc x0 y ad I1 J P1 (I1 b1 4) a2) yv_CR_contains tw_4_73 tw_2_181 rfl (Nat.le_of_ble_eq_true rfl) (by decide +kernel) ⟨Nat.le_of_ble_eq_true rfl, Nat.le_of_ble_eq_true rfl⟩ ⟨Nat.le_of_ble_eq_true rfl, Nat.le_of_ble_eq_true rfl⟩ rfl rfl (fun v3 => ?_)
              refine q_if_eq 68 rfl 82 (off := 17) (by decide +kernel) rfl (fun g1 => ?_) (fun g1 => ?_)
              · refine q_iinc (x2 + 1) (c := 1) 4 4 85 rfl [(4, .int (x2 + 1)), (5, q_r (cG D tc x0 y ad) b1), (0, q_r (cG D tc x0 y ad) 0), (2, .int a2), (3, .int x1)] (by decide +kernel) rfl rfl (Nat.le_of_ble_eq_true rfl) rfl ?_
                refine q_goto (off := -57) 28 (by decide +kernel) rfl ?_
                refine q_sub [2, 3, 4, 0] rfl ?_
                exact ih1 x1 (x2 + 1)
              · refine q_iload_n 3 3 69 rfl (by decide +kernel) rfl ?_
                refine q_aload 0 5 71 rfl (by decide +kernel) rfl ?_
                refine q_geti (f := 6) 74 rfl (by decide +kernel) (cC_Me D tc x0 y ad) (cM_of hc_b1) (by decide) rfl tw_1_130 ?_
                refine q_aload 0 5 76 rfl (by decide +kernel) rfl ?_
                refine q_geti (f := 2) 79 rfl (by decide +kernel) (cC_Me D tc x0 y ad) (cM_of hc_b1) (by decide) rfl tw_1_110 ?_
                refine q_imul 80 rfl (by decide +kernel) ?_
                refine q_iadd 81 rfl (by decide +kernel) ?_
                refine q_leti (fun x3 => ?_)
                refine q_istore_n 3 3 82 rfl [(3, .int x3), (5, q_r (cG D tc x0 y ad) b1), (0, q_r (cG D tc x0 y ad) 0), (2, .int a2), (4, .int x2)] (by decide +kernel) rfl (Nat.le_of_ble_eq_true rfl) rfl ?_
                refine q_iinc (x2 + 1) (c := 1) 4 4 85 rfl [(4, .int (x2 + 1)), (3, .int x3), (5, q_r (cG D tc x0 y ad) b1), (0, q_r (cG D tc x0 y ad) 0), (2, .int a2)] (by decide +kernel) rfl rfl (Nat.le_of_ble_eq_true rfl) rfl ?_
                refine q_goto (off := -57) 28 (by decide +kernel) rfl ?_
                refine q_sub [3, 4, 1, 0] rfl ?_
                exact ih1 x3 (x2 + 1)
      refine q_sub [2, 4, 1, 0] rfl ?_
      exact hL1 _ _ _
    · refine q_iconst (-1) (c := -1) 17 rfl (by decide +kernel) rfl ?_
      exact q_iret (by decide +kernel) rfl rfl (Nat.le_of_ble_eq_true rfl) (Nat.le_of_ble_eq_true rfl)
