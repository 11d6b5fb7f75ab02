def f_Mo_clash (I : q_I) (a1 : Int32) (a2 : Int32) : Option (Int32) :=
  q_b1 (f_Mo_findEdit I a1) (fun v1 => q_b1 (f_Mo_findEdit I a2) (fun v2 => if v1 < 0 then (some ((-1))) else (if v2 < 0 then (some ((-1))) else (if v1 = v2 then (some ((-1))) else (if v2 ≤ v1 then (q_b1 (f_Mo_clashes I v2 v1) (fun v3 => if v3 = 0 then (some (0)) else (some (1)))) else (q_b1 (f_Mo_clashes I v1 v2) (fun v4 => if v4 = 0 then (some (0)) else (some (1)))))))))
def y_Mo_clash : MethodName := ⟨"CalendarReplicasModel", "clash", "(II)I"⟩
def m_Mo_clash : q_M := (prog_11_method_65_code, 5, "CalendarReplicasModel", { frames := 3, cells := 0, slots := 0, locals := 68 }, (some FieldType.int))
theorem yv_Mo_clash : q_Y y_Mo_clash m_Mo_clash 2 := ⟨rfl, ⟨by decide, by decide⟩, by decide +kernel, tw_7_72, tw_1_15⟩
set_option maxRecDepth 100000 in
set_option maxHeartbeats 4000000 in
theorem c_Mo_clash (l : Launch) (D : va_G) (tc : Nat → ClassId) (x0 y : Nat) (I : q_I) (J : q_J) (P : q_P) (a1 : Int32) (a2 : Int32) : q_Ct l (mG D tc x0 y) y_Mo_clash m_Mo_clash [q_r (mG D tc x0 y) 0, .int a1, .int a2] (I, J, P) (f_Mo_clash I a1 a2) (fun r : Int32 => (some (.int r), (I, J, P))) := by
  refine q_Ct_of (mIn D tc x0 y) (by decide) rfl (Nat.le_of_ble_eq_true rfl) rfl (fun X hX => ?_)
  subst hX
  unfold f_Mo_clash
  refine q_aload_n 0 0 1 rfl (by decide +kernel) rfl ?_
  refine q_iload_n 1 1 2 rfl (by decide +kernel) rfl ?_
  refine q_callV_i 5 rfl (av := [.int a1]) (o := 0) (st := []) (c_Mo_findEdit X.1 D tc x0 y I J P a1) yv_Mo_findEdit tw_6_233 tw_6_235 sw_56 (cC_Mo D tc x0 y) (rfl : mKd 0 = (1, 0, 21, 0, 0)) rfl (Nat.le_of_ble_eq_true rfl) (by decide +kernel) ⟨Nat.le_of_ble_eq_true rfl, Nat.le_of_ble_eq_true rfl⟩ ⟨Nat.le_of_ble_eq_true rfl, Nat.le_of_ble_eq_true rfl⟩ rfl rfl (fun v1 => ?_)
  refine q_istore_n 3 3 6 rfl [(3, .int v1), (0, q_r (mG D tc x0 y) 0), (1, .int a1), (2, .int a2)] (by decide +kernel) rfl (Nat.le_of_ble_eq_true rfl) rfl ?_
  refine q_aload_n 1 0 7 rfl (by decide +kernel) rfl ?_
  refine q_iload_n 3 2 8 rfl (by decide +kernel) rfl ?_
  refine q_callV_i 11 rfl (av := [.int a2]) (o := 0) (st := []) (c_Mo_findEdit X.1 D tc x0 y I J P a2) yv_Mo_findEdit tw_6_233 tw_6_235 sw_56 (cC_Mo D tc x0 y) (rfl : mKd 0 = (1, 0, 21, 0, 0)) rfl (Nat.le_of_ble_eq_true rfl) (by decide +kernel) ⟨Nat.le_of_ble_eq_true rfl, Nat.le_of_ble_eq_true rfl⟩ ⟨Nat.le_of_ble_eq_true rfl, Nat.le_of_ble_eq_true rfl⟩ rfl rfl (fun v2 => ?_)
  refine q_istore 4 13 rfl [(4, .int v2), (3, .int v1), (0, q_r (mG D tc x0 y) 0), (1, .int a1), (2, .int a2)] (by decide +kernel) (Nat.le_of_ble_eq_true rfl) rfl ?_
  refine q_iload_n 1 3 14 rfl (by decide +kernel) rfl ?_
  refine q_if_lt 17 rfl 28 (off := 14) (by decide +kernel) rfl (fun g6 => ?_) (fun g6 => ?_)
  · refine q_iconst (-1) (c := -1) 29 rfl (by decide +kernel) rfl ?_
    exact q_iret (by decide +kernel) rfl rfl (Nat.le_of_ble_eq_true rfl) (Nat.le_of_ble_eq_true rfl)
  · refine q_iload 0 4 19 rfl (by decide +kernel) rfl ?_
    refine q_if_lt 22 rfl 28 (off := 9) (by decide +kernel) rfl (fun g5 => ?_) (fun g5 => ?_)
    · refine q_iconst (-1) (c := -1) 29 rfl (by decide +kernel) rfl ?_
      exact q_iret (by decide +kernel) rfl rfl (Nat.le_of_ble_eq_true rfl) (Nat.le_of_ble_eq_true rfl)
    · refine q_iload_n 1 3 23 rfl (by decide +kernel) rfl ?_
      refine q_iload 0 4 25 rfl (by decide +kernel) rfl ?_
      refine q_icmp_ne 28 rfl 30 (off := 5) (by decide +kernel) rfl (fun g4 => ?_) (fun g4 => ?_)
      · refine q_iload_n 1 3 31 rfl (by decide +kernel) rfl ?_
        refine q_iload 0 4 33 rfl (by decide +kernel) rfl ?_
        refine q_icmp_ge 36 rfl 49 (off := 16) (by decide +kernel) rfl (fun g3 => ?_) (fun g3 => ?_)
        · refine q_aload_n 2 0 50 rfl (by decide +kernel) rfl ?_
          refine q_iload 0 4 52 rfl (by decide +kernel) rfl ?_
          refine q_iload_n 1 3 53 rfl (by decide +kernel) rfl ?_
          refine q_callV_i 56 rfl (av := [.int v2, .int v1]) (o := 0) (st := []) (c_Mo_clashes X.1 D tc x0 y I J P v2 v1) yv_Mo_clashes tw_6_70 tw_6_72 sw_30 (cC_Mo D tc x0 y) (rfl : mKd 0 = (1, 0, 21, 0, 0)) rfl (Nat.le_of_ble_eq_true rfl) (by decide +kernel) ⟨Nat.le_of_ble_eq_true rfl, Nat.le_of_ble_eq_true rfl⟩ ⟨Nat.le_of_ble_eq_true rfl, Nat.le_of_ble_eq_true rfl⟩ rfl rfl (fun v3 => ?_)
          refine q_if_eq 59 rfl 63 (off := 7) (by decide +kernel) rfl (fun g1 => ?_) (fun g1 => ?_)
          · refine q_iconst 0 (c := 0) 64 rfl (by decide +kernel) rfl ?_
            exact q_iret (by decide +kernel) rfl rfl (Nat.le_of_ble_eq_true rfl) (Nat.le_of_ble_eq_true rfl)
          · refine q_iconst 1 (c := 1) 60 rfl (by decide +kernel) rfl ?_
            refine q_goto (off := 4) 64 (by decide +kernel) rfl ?_
            exact q_iret (by decide +kernel) rfl rfl (Nat.le_of_ble_eq_true rfl) (Nat.le_of_ble_eq_true rfl)
        · refine q_aload_n 2 0 37 rfl (by decide +kernel) rfl ?_
          refine q_iload_n 1 3 38 rfl (by decide +kernel) rfl ?_
          refine q_iload 0 4 40 rfl (by decide +kernel) rfl ?_
          refine q_callV_i 43 rfl (av := [.int v1, .int v2]) (o := 0) (st := []) (c_Mo_clashes X.1 D tc x0 y I J P v1 v2) yv_Mo_clashes tw_6_70 tw_6_72 sw_30 (cC_Mo D tc x0 y) (rfl : mKd 0 = (1, 0, 21, 0, 0)) rfl (Nat.le_of_ble_eq_true rfl) (by decide +kernel) ⟨Nat.le_of_ble_eq_true rfl, Nat.le_of_ble_eq_true rfl⟩ ⟨Nat.le_of_ble_eq_true rfl, Nat.le_of_ble_eq_true rfl⟩ rfl rfl (fun v4 => ?_)
          refine q_if_eq 46 rfl 63 (off := 20) (by decide +kernel) rfl (fun g2 => ?_) (fun g2 => ?_)
          · refine q_iconst 0 (c := 0) 64 rfl (by decide +kernel) rfl ?_
            exact q_iret (by decide +kernel) rfl rfl (Nat.le_of_ble_eq_true rfl) (Nat.le_of_ble_eq_true rfl)
          · refine q_goto (off := 13) 59 (by decide +kernel) rfl ?_
            refine q_iconst 1 (c := 1) 60 rfl (by decide +kernel) rfl ?_
            refine q_goto (off := 4) 64 (by decide +kernel) rfl ?_
            exact q_iret (by decide +kernel) rfl rfl (Nat.le_of_ble_eq_true rfl) (Nat.le_of_ble_eq_true rfl)
      · refine q_iconst (-1) (c := -1) 29 rfl (by decide +kernel) rfl ?_
        exact q_iret (by decide +kernel) rfl rfl (Nat.le_of_ble_eq_true rfl) (Nat.le_of_ble_eq_true rfl)
def f_Mo_stateBy (I : q_I) (a1 : Int32) (a2 : Int32) (a3 : Int32) (a4 : Int32) : Option (Int32) :=
  q_ix (4 + a1) 280 (fun j1 => if (((I 1 j1) >>> (a2 &&& 31)) &&& 1) = 0 then (some (0)) else (if ((a4 >>> (a2 &&& 31)) &&& 1) = 0 then (some (1)) else (if ((a3 >>> (a2 &&& 31)) &&& 1) = 0 then (some (2)) else (some (3)))))
def y_Mo_stateBy : MethodName := ⟨"CalendarReplicasModel", "stateBy", "(IIII)I"⟩
def m_Mo_stateBy : q_M := (prog_11_method_66_code, 5, "CalendarReplicasModel", { frames := 0, cells := 0, slots := 0, locals := 0 }, (some FieldType.int))
theorem yv_Mo_stateBy : q_Y y_Mo_stateBy m_Mo_stateBy 4 := ⟨rfl, ⟨by decide, by decide⟩, by decide +kernel, tw_7_84, tw_1_15⟩
set_option maxRecDepth 100000 in
set_option maxHeartbeats 4000000 in
theorem c_Mo_stateBy (l : Launch) (D : va_G) (tc : Nat → ClassId) (x0 y : Nat) (I : q_I) (J : q_J) (P : q_P) (a1 : Int32) (a2 : Int32) (a3 : Int32) (a4 : Int32) : q_Ct l (mG D tc x0 y) y_Mo_stateBy m_Mo_stateBy [q_r (mG D tc x0 y) 0, .int a1, .int a2, .int a3, .int a4] (I, J, P) (f_Mo_stateBy I a1 a2 a3 a4) (fun r : Int32 => (some (.int r), (I, J, P))) := by
  refine q_Ct_of (mIn D tc x0 y) (by decide) rfl (Nat.le_of_ble_eq_true rfl) rfl (fun X hX => ?_)
  subst hX
  unfold f_Mo_stateBy
  refine q_aload_n 0 0 1 rfl (by decide +kernel) rfl ?_
  refine q_getr (f := 0) 1 4 rfl (by decide +kernel) (cC_Mo D tc x0 y) (rfl : mKd 0 = (1, 0, 21, 0, 0)) (by decide) rfl rfl tw_5_212 ?_
  refine q_iconst 4 (c := 4) 5 rfl (by decide +kernel) rfl ?_
  refine q_iload_n 1 1 6 rfl (by decide +kernel) rfl ?_
  refine q_iadd 7 rfl (by decide +kernel) ?_
  refine q_iald (t := 0) 8 rfl (by decide +kernel) (rfl : mKd 1 = (2, 280, 0, 0, 0)) rfl (fun j1 hj1 => ?_)
  refine q_iload_n 2 2 9 rfl (by decide +kernel) rfl ?_
  refine q_ishr 10 rfl (by decide +kernel) ?_
  refine q_iconst 1 (c := 1) 11 rfl (by decide +kernel) rfl ?_
  refine q_iand 12 rfl (by decide +kernel) ?_
  refine q_if_ne 15 rfl 17 (off := 5) (by decide +kernel) rfl (fun g3 => ?_) (fun g3 => ?_)
  · refine q_iload 4 4 19 rfl (by decide +kernel) rfl ?_
    refine q_iload_n 2 2 20 rfl (by decide +kernel) rfl ?_
    refine q_ishr 21 rfl (by decide +kernel) ?_
    refine q_iconst 1 (c := 1) 22 rfl (by decide +kernel) rfl ?_
    refine q_iand 23 rfl (by decide +kernel) ?_
    refine q_if_ne 26 rfl 30 (off := 7) (by decide +kernel) rfl (fun g2 => ?_) (fun g2 => ?_)
    · refine q_iload_n 3 3 31 rfl (by decide +kernel) rfl ?_
      refine q_iload_n 2 2 32 rfl (by decide +kernel) rfl ?_
      refine q_ishr 33 rfl (by decide +kernel) ?_
      refine q_iconst 1 (c := 1) 34 rfl (by decide +kernel) rfl ?_
      refine q_iand 35 rfl (by decide +kernel) ?_
      refine q_if_ne 38 rfl 42 (off := 7) (by decide +kernel) rfl (fun g1 => ?_) (fun g1 => ?_)
      · refine q_iconst 3 (c := 3) 43 rfl (by decide +kernel) rfl ?_
        exact q_iret (by decide +kernel) rfl rfl (Nat.le_of_ble_eq_true rfl) (Nat.le_of_ble_eq_true rfl)
      · refine q_iconst 2 (c := 2) 39 rfl (by decide +kernel) rfl ?_
        refine q_goto (off := 4) 43 (by decide +kernel) rfl ?_
        exact q_iret (by decide +kernel) rfl rfl (Nat.le_of_ble_eq_true rfl) (Nat.le_of_ble_eq_true rfl)
    · refine q_iconst 1 (c := 1) 27 rfl (by decide +kernel) rfl ?_
      refine q_goto (off := 16) 43 (by decide +kernel) rfl ?_
      exact q_iret (by decide +kernel) rfl rfl (Nat.le_of_ble_eq_true rfl) (Nat.le_of_ble_eq_true rfl)
  · refine q_iconst 0 (c := 0) 16 rfl (by decide +kernel) rfl ?_
    exact q_iret (by decide +kernel) rfl rfl (Nat.le_of_ble_eq_true rfl) (Nat.le_of_ble_eq_true rfl)
def f_Mo_stateOf (I : q_I) (J : q_J) (a1 : Int32) (a2 : Int32) : Option (Int32 × q_I × q_J) :=
  q_b3 (f_Mo_accepted I J a1) (fun v1 I1 J1 => q_b1 (f_Mo_usable I1 a1) (fun v2 => q_b1 (f_Mo_stateBy I1 a1 a2 v1 v2) (fun v3 => some (v3, I1, J1))))
def y_Mo_stateOf : MethodName := ⟨"CalendarReplicasModel", "stateOf", "(II)I"⟩
def m_Mo_stateOf : q_M := (prog_11_method_67_code, 3, "CalendarReplicasModel", { frames := 7, cells := 0, slots := 0, locals := 171 }, (some FieldType.int))
theorem yv_Mo_stateOf : q_Y y_Mo_stateOf m_Mo_stateOf 2 := ⟨rfl, ⟨by decide, by decide⟩, by decide +kernel, tw_7_80, tw_1_15⟩
set_option maxRecDepth 100000 in
set_option maxHeartbeats 4000000 in
theorem c_Mo_stateOf (l : Launch) (D : va_G) (tc : Nat → ClassId) (x0 y : Nat) (I : q_I) (J : q_J) (P : q_P) (a1 : Int32) (a2 : Int32) : q_Ct l (mG D tc x0 y) y_Mo_stateOf m_Mo_stateOf [q_r (mG D tc x0 y) 0, .int a1, .int a2] (I, J, P) (f_Mo_stateOf I J a1 a2) (fun r : Int32 × q_I × q_J => (some (.int r.1), (r.2.1, r.2.2, P))) := by
  refine q_Ct_of (mIn D tc x0 y) (by decide) rfl (Nat.le_of_ble_eq_true rfl) rfl (fun X hX => ?_)
  subst hX
  unfold f_Mo_stateOf
  refine q_aload_n 0 0 1 rfl (by decide +kernel) rfl ?_
  refine q_iload_n 1 1 2 rfl (by decide +kernel) rfl ?_
  refine q_iload_n 2 2 3 rfl (by decide +kernel) rfl ?_
  refine q_aload_n 0 0 4 rfl (by decide +kernel) rfl ?_
  refine q_iload_n 1 1 5 rfl (by decide +kernel) rfl ?_
  refine q_callV_iIJ 8 rfl (av := [.int a1]) (o := 0) (st := [.int a2, .int a1, q_r (mG D tc x0 y) 0]) (c_Mo_accepted X.1 D tc x0 y I J P a1) yv_Mo_accepted tw_6_138 tw_6_140 sw_42 (cC_Mo D tc x0 y) (rfl : mKd 0 = (1, 0, 21, 0, 0)) rfl (Nat.le_of_ble_eq_true rfl) (by decide +kernel) ⟨Nat.le_of_ble_eq_true rfl, Nat.le_of_ble_eq_true rfl⟩ ⟨Nat.le_of_ble_eq_true rfl, Nat.le_of_ble_eq_true rfl⟩ rfl rfl (fun v1 I1 J1 => ?_)
  refine q_aload_n 0 0 9 rfl (by decide +kernel) rfl ?_
  refine q_iload_n 1 1 10 rfl (by decide +kernel) rfl ?_
  refine q_callV_i 13 rfl (av := [.int a1]) (o := 0) (st := [.int v1, .int a2, .int a1, q_r (mG D tc x0 y) 0]) (c_Mo_usable X.1 D tc x0 y I1 J1 P a1) yv_Mo_usable tw_6_146 tw_6_148 sw_44 (cC_Mo D tc x0 y) (rfl : mKd 0 = (1, 0, 21, 0, 0)) rfl (Nat.le_of_ble_eq_true rfl) (by decide +kernel) ⟨Nat.le_of_ble_eq_true rfl, Nat.le_of_ble_eq_true rfl⟩ ⟨Nat.le_of_ble_eq_true rfl, Nat.le_of_ble_eq_true rfl⟩ rfl rfl (fun v2 => ?_)
  refine q_callV_i 16 rfl (av := [.int a1, .int a2, .int v1, .int v2]) (o := 0) (st := []) (c_Mo_stateBy X.1 D tc x0 y I1 J1 P a1 a2 v1 v2) yv_Mo_stateBy tw_7_81 tw_7_83 sw_61 (cC_Mo D tc x0 y) (rfl : mKd 0 = (1, 0, 21, 0, 0)) rfl (Nat.le_of_ble_eq_true rfl) (by decide +kernel) ⟨Nat.le_of_ble_eq_true rfl, Nat.le_of_ble_eq_true rfl⟩ ⟨Nat.le_of_ble_eq_true rfl, Nat.le_of_ble_eq_true rfl⟩ rfl rfl (fun v3 => ?_)
  exact q_iret (by decide +kernel) rfl rfl (Nat.le_of_ble_eq_true rfl) (Nat.le_of_ble_eq_true rfl)
def f_Mo_state (I : q_I) (J : q_J) (a1 : Int32) (a2 : Int32) : Option (Int32 × q_I × q_J) :=
  q_b1 (f_Mo_findEdit I a2) (fun v1 => q_b1 (f_Mo_isReplica a1) (fun v2 => if v2 = 0 then (some ((-1), I, J)) else (if v1 < 0 then (some ((-1), I, J)) else (q_b3 (f_Mo_stateOf I J a1 v1) (fun v3 I1 J1 => some (v3, I1, J1))))))
def y_Mo_state : MethodName := ⟨"CalendarReplicasModel", "state", "(II)I"⟩
def m_Mo_state : q_M := (prog_11_method_68_code, 4, "CalendarReplicasModel", { frames := 8, cells := 0, slots := 0, locals := 193 }, (some FieldType.int))
theorem yv_Mo_state : q_Y y_Mo_state m_Mo_state 2 := ⟨rfl, ⟨by decide, by decide⟩, by decide +kernel, tw_7_76, tw_1_15⟩
set_option maxRecDepth 100000 in
set_option maxHeartbeats 4000000 in
theorem c_Mo_state (l : Launch) (D : va_G) (tc : Nat → ClassId) (x0 y : Nat) (I : q_I) (J : q_J) (P : q_P) (a1 : Int32) (a2 : Int32) : q_Ct l (mG D tc x0 y) y_Mo_state m_Mo_state [q_r (mG D tc x0 y) 0, .int a1, .int a2] (I, J, P) (f_Mo_state I J a1 a2) (fun r : Int32 × q_I × q_J => (some (.int r.1), (r.2.1, r.2.2, P))) := by
  refine q_Ct_of (mIn D tc x0 y) (by decide) rfl (Nat.le_of_ble_eq_true rfl) rfl (fun X hX => ?_)
  subst hX
  unfold f_Mo_state
  refine q_aload_n 0 0 1 rfl (by decide +kernel) rfl ?_
  refine q_iload_n 2 2 2 rfl (by decide +kernel) rfl ?_
  refine q_callV_i 5 rfl (av := [.int a2]) (o := 0) (st := []) (c_Mo_findEdit X.1 D tc x0 y I J P a2) yv_Mo_findEdit tw_6_233 tw_6_235 sw_56 (cC_Mo D tc x0 y) (rfl : mKd 0 = (1, 0, 21, 0, 0)) rfl (Nat.le_of_ble_eq_true rfl) (by decide +kernel) ⟨Nat.le_of_ble_eq_true rfl, Nat.le_of_ble_eq_true rfl⟩ ⟨Nat.le_of_ble_eq_true rfl, Nat.le_of_ble_eq_true rfl⟩ rfl rfl (fun v1 => ?_)
  refine q_istore_n 3 3 6 rfl [(3, .int v1), (0, q_r (mG D tc x0 y) 0), (1, .int a1), (2, .int a2)] (by decide +kernel) rfl (Nat.le_of_ble_eq_true rfl) rfl ?_
  refine q_iload_n 2 1 7 rfl (by decide +kernel) rfl ?_
  refine q_callS_i 10 rfl (av := [.int a1]) (st := []) (c_Mo_isReplica X.1 D tc x0 y I J P a1) yv_Mo_isReplica tw_6_127 tw_6_128 rfl (Nat.le_of_ble_eq_true rfl) (by decide +kernel) ⟨Nat.le_of_ble_eq_true rfl, Nat.le_of_ble_eq_true rfl⟩ ⟨Nat.le_of_ble_eq_true rfl, Nat.le_of_ble_eq_true rfl⟩ rfl rfl (fun v2 => ?_)
  refine q_if_eq 13 rfl 26 (off := 16) (by decide +kernel) rfl (fun g2 => ?_) (fun g2 => ?_)
  · refine q_iconst (-1) (c := -1) 27 rfl (by decide +kernel) rfl ?_
    exact q_iret (by decide +kernel) rfl rfl (Nat.le_of_ble_eq_true rfl) (Nat.le_of_ble_eq_true rfl)
  · refine q_iload_n 0 3 14 rfl (by decide +kernel) rfl ?_
    refine q_if_lt 17 rfl 26 (off := 12) (by decide +kernel) rfl (fun g1 => ?_) (fun g1 => ?_)
    · refine q_iconst (-1) (c := -1) 27 rfl (by decide +kernel) rfl ?_
      exact q_iret (by decide +kernel) rfl rfl (Nat.le_of_ble_eq_true rfl) (Nat.le_of_ble_eq_true rfl)
    · refine q_aload_n 1 0 18 rfl (by decide +kernel) rfl ?_
      refine q_iload_n 2 1 19 rfl (by decide +kernel) rfl ?_
      refine q_iload_n 0 3 20 rfl (by decide +kernel) rfl ?_
      refine q_callV_iIJ 23 rfl (av := [.int a1, .int v1]) (o := 0) (st := []) (c_Mo_stateOf X.1 D tc x0 y I J P a1 v1) yv_Mo_stateOf tw_7_77 tw_7_79 sw_60 (cC_Mo D tc x0 y) (rfl : mKd 0 = (1, 0, 21, 0, 0)) rfl (Nat.le_of_ble_eq_true rfl) (by decide +kernel) ⟨Nat.le_of_ble_eq_true rfl, Nat.le_of_ble_eq_true rfl⟩ ⟨Nat.le_of_ble_eq_true rfl, Nat.le_of_ble_eq_true rfl⟩ rfl rfl (fun v3 I1 J1 => ?_)
      refine q_goto (off := 4) 27 (by decide +kernel) rfl ?_
      exact q_iret (by decide +kernel) rfl rfl (Nat.le_of_ble_eq_true rfl) (Nat.le_of_ble_eq_true rfl)
def f_Mo_acceptedWeight (I : q_I) (J : q_J) (a1 : Int32) : Option (Int32 × q_I × q_J) :=
  q_b1 (f_Mo_isReplica a1) (fun v1 => if v1 = 0 then (some ((-1), I, J)) else (q_b3 (f_Mo_accepted I J a1) (fun v2 I1 J1 => q_b1 (f_Mo_weight I1 v2) (fun v3 => some (v3, I1, J1)))))
def y_Mo_acceptedWeight : MethodName := ⟨"CalendarReplicasModel", "acceptedWeight", "(I)I"⟩
def m_Mo_acceptedWeight : q_M := (prog_11_method_69_code, 2, "CalendarReplicasModel", { frames := 7, cells := 0, slots := 0, locals := 171 }, (some FieldType.int))
theorem yv_Mo_acceptedWeight : q_Y y_Mo_acceptedWeight m_Mo_acceptedWeight 1 := ⟨rfl, ⟨by decide, by decide⟩, by decide +kernel, tw_7_88, tw_1_15⟩
set_option maxRecDepth 100000 in
set_option maxHeartbeats 4000000 in
theorem c_Mo_acceptedWeight (l : Launch) (D : va_G) (tc : Nat → ClassId) (x0 y : Nat) (I : q_I) (J : q_J) (P : q_P) (a1 : Int32) : q_Ct l (mG D tc x0 y) y_Mo_acceptedWeight m_Mo_acceptedWeight [q_r (mG D tc x0 y) 0, .int a1] (I, J, P) (f_Mo_acceptedWeight I J a1) (fun r : Int32 × q_I × q_J => (some (.int r.1), (r.2.1, r.2.2, P))) := by
  refine q_Ct_of (mIn D tc x0 y) (by decide) rfl (Nat.le_of_ble_eq_true rfl) rfl (fun X hX => ?_)
  subst hX
  unfold f_Mo_acceptedWeight
  refine q_iload_n 1 1 1 rfl (by decide +kernel) rfl ?_
  refine q_callS_i 4 rfl (av := [.int a1]) (st := []) (c_Mo_isReplica X.1 D tc x0 y I J P a1) yv_Mo_isReplica tw_6_127 tw_6_128 rfl (Nat.le_of_ble_eq_true rfl) (by decide +kernel) ⟨Nat.le_of_ble_eq_true rfl, Nat.le_of_ble_eq_true rfl⟩ ⟨Nat.le_of_ble_eq_true rfl, Nat.le_of_ble_eq_true rfl⟩ rfl rfl (fun v1 => ?_)
  refine q_if_eq 7 rfl 19 (off := 15) (by decide +kernel) rfl (fun g1 => ?_) (fun g1 => ?_)
  · refine q_iconst (-1) (c := -1) 20 rfl (by decide +kernel) rfl ?_
    exact q_iret (by decide +kernel) rfl rfl (Nat.le_of_ble_eq_true rfl) (Nat.le_of_ble_eq_true rfl)
  · refine q_aload_n 0 0 8 rfl (by decide +kernel) rfl ?_
    refine q_aload_n 0 0 9 rfl (by decide +kernel) rfl ?_
    refine q_iload_n 1 1 10 rfl (by decide +kernel) rfl ?_
    refine q_callV_iIJ 13 rfl (av := [.int a1]) (o := 0) (st := [q_r (mG D tc x0 y) 0]) (c_Mo_accepted X.1 D tc x0 y I J P a1) yv_Mo_accepted tw_6_138 tw_6_140 sw_42 (cC_Mo D tc x0 y) (rfl : mKd 0 = (1, 0, 21, 0, 0)) rfl (Nat.le_of_ble_eq_true rfl) (by decide +kernel) ⟨Nat.le_of_ble_eq_true rfl, Nat.le_of_ble_eq_true rfl⟩ ⟨Nat.le_of_ble_eq_true rfl, Nat.le_of_ble_eq_true rfl⟩ rfl rfl (fun v2 I1 J1 => ?_)
    refine q_callV_i 16 rfl (av := [.int v2]) (o := 0) (st := []) (c_Mo_weight X.1 D tc x0 y I1 J1 P v2) yv_Mo_weight tw_6_150 tw_6_152 sw_45 (cC_Mo D tc x0 y) (rfl : mKd 0 = (1, 0, 21, 0, 0)) rfl (Nat.le_of_ble_eq_true rfl) (by decide +kernel) ⟨Nat.le_of_ble_eq_true rfl, Nat.le_of_ble_eq_true rfl⟩ ⟨Nat.le_of_ble_eq_true rfl, Nat.le_of_ble_eq_true rfl⟩ rfl rfl (fun v3 => ?_)
    refine q_goto (off := 4) 20 (by decide +kernel) rfl ?_
    exact q_iret (by decide +kernel) rfl rfl (Nat.le_of_ble_eq_true rfl) (Nat.le_of_ble_eq_true rfl)
def f_Mo_rejectedWeight (I : q_I) (J : q_J) (a1 : Int32) : Option (Int32 × q_I × q_J) :=
  q_b1 (f_Mo_isReplica a1) (fun v1 => if v1 = 0 then (some ((-1), I, J)) else (q_b1 (f_Mo_usable I a1) (fun v2 => q_b3 (f_Mo_accepted I J a1) (fun v3 I1 J1 => q_b1 (f_Mo_weight I1 (v2 &&& (v3 ^^^ (-1)))) (fun v4 => some (v4, I1, J1))))))
def y_Mo_rejectedWeight : MethodName := ⟨"CalendarReplicasModel", "rejectedWeight", "(I)I"⟩
def m_Mo_rejectedWeight : q_M := (prog_11_method_70_code, 2, "CalendarReplicasModel", { frames := 7, cells := 0, slots := 0, locals := 171 }, (some FieldType.int))
theorem yv_Mo_rejectedWeight : q_Y y_Mo_rejectedWeight m_Mo_rejectedWeight 1 := ⟨rfl, ⟨by decide, by decide⟩, by decide +kernel, tw_7_92, tw_1_15⟩
set_option maxRecDepth 100000 in
set_option maxHeartbeats 4000000 in
theorem c_Mo_rejectedWeight (l : Launch) (D : va_G) (tc : Nat → ClassId) (x0 y : Nat) (I : q_I) (J : q_J) (P : q_P) (a1 : Int32) : q_Ct l (mG D tc x0 y) y_Mo_rejectedWeight m_Mo_rejectedWeight [q_r (mG D tc x0 y) 0, .int a1] (I, J, P) (f_Mo_rejectedWeight I J a1) (fun r : Int32 × q_I × q_J => (some (.int r.1), (r.2.1, r.2.2, P))) := by
  refine q_Ct_of (mIn D tc x0 y) (by decide) rfl (Nat.le_of_ble_eq_true rfl) rfl (fun X hX => ?_)
  subst hX
  unfold f_Mo_rejectedWeight
  refine q_iload_n 1 1 1 rfl (by decide +kernel) rfl ?_
  refine q_callS_i 4 rfl (av := [.int a1]) (st := []) (c_Mo_isReplica X.1 D tc x0 y I J P a1) yv_Mo_isReplica tw_6_127 tw_6_128 rfl (Nat.le_of_ble_eq_true rfl) (by decide +kernel) ⟨Nat.le_of_ble_eq_true rfl, Nat.le_of_ble_eq_true rfl⟩ ⟨Nat.le_of_ble_eq_true rfl, Nat.le_of_ble_eq_true rfl⟩ rfl rfl (fun v1 => ?_)
  refine q_if_eq 7 rfl 27 (off := 23) (by decide +kernel) rfl (fun g1 => ?_) (fun g1 => ?_)
  · refine q_iconst (-1) (c := -1) 28 rfl (by decide +kernel) rfl ?_
    exact q_iret (by decide +kernel) rfl rfl (Nat.le_of_ble_eq_true rfl) (Nat.le_of_ble_eq_true rfl)
  · refine q_aload_n 0 0 8 rfl (by decide +kernel) rfl ?_
    refine q_aload_n 0 0 9 rfl (by decide +kernel) rfl ?_
    refine q_iload_n 1 1 10 rfl (by decide +kernel) rfl ?_
    refine q_callV_i 13 rfl (av := [.int a1]) (o := 0) (st := [q_r (mG D tc x0 y) 0]) (c_Mo_usable X.1 D tc x0 y I J P a1) yv_Mo_usable tw_6_146 tw_6_148 sw_44 (cC_Mo D tc x0 y) (rfl : mKd 0 = (1, 0, 21, 0, 0)) rfl (Nat.le_of_ble_eq_true rfl) (by decide +kernel) ⟨Nat.le_of_ble_eq_true rfl, Nat.le_of_ble_eq_true rfl⟩ ⟨Nat.le_of_ble_eq_true rfl, Nat.le_of_ble_eq_true rfl⟩ rfl rfl (fun v2 => ?_)
    refine q_aload_n 0 0 14 rfl (by decide +kernel) rfl ?_
    refine q_iload_n 1 1 15 rfl (by decide +kernel) rfl ?_
    refine q_callV_iIJ 18 rfl (av := [.int a1]) (o := 0) (st := [.int v2, q_r (mG D tc x0 y) 0]) (c_Mo_accepted X.1 D tc x0 y I J P a1) yv_Mo_accepted tw_6_138 tw_6_140 sw_42 (cC_Mo D tc x0 y) (rfl : mKd 0 = (1, 0, 21, 0, 0)) rfl (Nat.le_of_ble_eq_true rfl) (by decide +kernel) ⟨Nat.le_of_ble_eq_true rfl, Nat.le_of_ble_eq_true rfl⟩ ⟨Nat.le_of_ble_eq_true rfl, Nat.le_of_ble_eq_true rfl⟩ rfl rfl (fun v3 I1 J1 => ?_)
    refine q_iconst (-1) (c := -1) 19 rfl (by decide +kernel) rfl ?_
    refine q_ixor 20 rfl (by decide +kernel) ?_
    refine q_iand 21 rfl (by decide +kernel) ?_
    refine q_callV_i 24 rfl (av := [.int (v2 &&& (v3 ^^^ (-1)))]) (o := 0) (st := []) (c_Mo_weight X.1 D tc x0 y I1 J1 P (v2 &&& (v3 ^^^ (-1)))) yv_Mo_weight tw_6_150 tw_6_152 sw_45 (cC_Mo D tc x0 y) (rfl : mKd 0 = (1, 0, 21, 0, 0)) rfl (Nat.le_of_ble_eq_true rfl) (by decide +kernel) ⟨Nat.le_of_ble_eq_true rfl, Nat.le_of_ble_eq_true rfl⟩ ⟨Nat.le_of_ble_eq_true rfl, Nat.le_of_ble_eq_true rfl⟩ rfl rfl (fun v4 => ?_)
    refine q_goto (off := 4) 28 (by decide +kernel) rfl ?_
    exact q_iret (by decide +kernel) rfl rfl (Nat.le_of_ble_eq_true rfl) (Nat.le_of_ble_eq_true rfl)
def f_Mo_agree (I : q_I) (a1 : Int32) (a2 : Int32) : Option (Int32) :=
  q_b1 (f_Mo_isReplica a1) (fun v1 => if v1 = 0 then (some ((-1))) else (q_b1 (f_Mo_isReplica a2) (fun v2 => if v2 = 0 then (some ((-1))) else (if a1 = a2 then (some ((-1))) else (q_ix (4 + a1) 280 (fun j1 => q_ix (4 + a2) 280 (fun j2 => if (I 1 j1) = (I 1 j2) then (some (1)) else (some (0)))))))))
def y_Mo_agree : MethodName := ⟨"CalendarReplicasModel", "agree", "(II)I"⟩
def m_Mo_agree : q_M := (prog_11_method_71_code, 3, "CalendarReplicasModel", { frames := 2, cells := 0, slots := 0, locals := 42 }, (some FieldType.int))
theorem yv_Mo_agree : q_Y y_Mo_agree m_Mo_agree 2 := ⟨rfl, ⟨by decide, by decide⟩, by decide +kernel, tw_7_96, tw_1_15⟩
set_option maxRecDepth 100000 in
set_option maxHeartbeats 4000000 in
theorem c_Mo_agree (l : Launch) (D : va_G) (tc : Nat → ClassId) (x0 y : Nat) (I : q_I) (J : q_J) (P : q_P) (a1 : Int32) (a2 : Int32) : q_Ct l (mG D tc x0 y) y_Mo_agree m_Mo_agree [q_r (mG D tc x0 y) 0, .int a1, .int a2] (I, J, P) (f_Mo_agree I a1 a2) (fun r : Int32 => (some (.int r), (I, J, P))) := by
  refine q_Ct_of (mIn D tc x0 y) (by decide) rfl (Nat.le_of_ble_eq_true rfl) rfl (fun X hX => ?_)
  subst hX
  unfold f_Mo_agree
  refine q_iload_n 1 1 1 rfl (by decide +kernel) rfl ?_
  refine q_callS_i 4 rfl (av := [.int a1]) (st := []) (c_Mo_isReplica X.1 D tc x0 y I J P a1) yv_Mo_isReplica tw_6_127 tw_6_128 rfl (Nat.le_of_ble_eq_true rfl) (by decide +kernel) ⟨Nat.le_of_ble_eq_true rfl, Nat.le_of_ble_eq_true rfl⟩ ⟨Nat.le_of_ble_eq_true rfl, Nat.le_of_ble_eq_true rfl⟩ rfl rfl (fun v1 => ?_)
  refine q_if_eq 7 rfl 19 (off := 15) (by decide +kernel) rfl (fun g4 => ?_) (fun g4 => ?_)
  · refine q_iconst (-1) (c := -1) 20 rfl (by decide +kernel) rfl ?_
    exact q_iret (by decide +kernel) rfl rfl (Nat.le_of_ble_eq_true rfl) (Nat.le_of_ble_eq_true rfl)
  · refine q_iload_n 2 2 8 rfl (by decide +kernel) rfl ?_
    refine q_callS_i 11 rfl (av := [.int a2]) (st := []) (c_Mo_isReplica X.1 D tc x0 y I J P a2) yv_Mo_isReplica tw_6_127 tw_6_128 rfl (Nat.le_of_ble_eq_true rfl) (by decide +kernel) ⟨Nat.le_of_ble_eq_true rfl, Nat.le_of_ble_eq_true rfl⟩ ⟨Nat.le_of_ble_eq_true rfl, Nat.le_of_ble_eq_true rfl⟩ rfl rfl (fun v2 => ?_)
    refine q_if_eq 14 rfl 19 (off := 8) (by decide +kernel) rfl (fun g3 => ?_) (fun g3 => ?_)
    · refine q_iconst (-1) (c := -1) 20 rfl (by decide +kernel) rfl ?_
      exact q_iret (by decide +kernel) rfl rfl (Nat.le_of_ble_eq_true rfl) (Nat.le_of_ble_eq_true rfl)
    · refine q_iload_n 1 1 15 rfl (by decide +kernel) rfl ?_
      refine q_iload_n 2 2 16 rfl (by decide +kernel) rfl ?_
      refine q_icmp_ne 19 rfl 21 (off := 5) (by decide +kernel) rfl (fun g2 => ?_) (fun g2 => ?_)
      · refine q_aload_n 0 0 22 rfl (by decide +kernel) rfl ?_
        refine q_getr (f := 0) 1 25 rfl (by decide +kernel) (cC_Mo D tc x0 y) (rfl : mKd 0 = (1, 0, 21, 0, 0)) (by decide) rfl rfl tw_5_212 ?_
        refine q_iconst 4 (c := 4) 26 rfl (by decide +kernel) rfl ?_
        refine q_iload_n 1 1 27 rfl (by decide +kernel) rfl ?_
        refine q_iadd 28 rfl (by decide +kernel) ?_
        refine q_iald (t := 0) 29 rfl (by decide +kernel) (rfl : mKd 1 = (2, 280, 0, 0, 0)) rfl (fun j1 hj1 => ?_)
        refine q_aload_n 0 0 30 rfl (by decide +kernel) rfl ?_
        refine q_getr (f := 0) 1 33 rfl (by decide +kernel) (cC_Mo D tc x0 y) (rfl : mKd 0 = (1, 0, 21, 0, 0)) (by decide) rfl rfl tw_5_212 ?_
        refine q_iconst 4 (c := 4) 34 rfl (by decide +kernel) rfl ?_
        refine q_iload_n 2 2 35 rfl (by decide +kernel) rfl ?_
        refine q_iadd 36 rfl (by decide +kernel) ?_
        refine q_iald (t := 0) 37 rfl (by decide +kernel) (rfl : mKd 1 = (2, 280, 0, 0, 0)) rfl (fun j2 hj2 => ?_)
        refine q_icmp_ne 40 rfl 44 (off := 7) (by decide +kernel) rfl (fun g1 => ?_) (fun g1 => ?_)
        · refine q_iconst 0 (c := 0) 45 rfl (by decide +kernel) rfl ?_
          exact q_iret (by decide +kernel) rfl rfl (Nat.le_of_ble_eq_true rfl) (Nat.le_of_ble_eq_true rfl)
        · refine q_iconst 1 (c := 1) 41 rfl (by decide +kernel) rfl ?_
          refine q_goto (off := 4) 45 (by decide +kernel) rfl ?_
          exact q_iret (by decide +kernel) rfl rfl (Nat.le_of_ble_eq_true rfl) (Nat.le_of_ble_eq_true rfl)
      · refine q_iconst (-1) (c := -1) 20 rfl (by decide +kernel) rfl ?_
        exact q_iret (by decide +kernel) rfl rfl (Nat.le_of_ble_eq_true rfl) (Nat.le_of_ble_eq_true rfl)
def f_Mo_obstacle_L1 (v1 : Int32) (v4 : Int32) (K : Int32 → q_I → q_J → Option (Int32 × q_I × q_J)) : Nat → Int32 → q_I → q_J → Option (Int32 × q_I × q_J)
  | 0, _, _, _ => none
  | n + 1, x1, I3, J3 => q_ix 0 280 (fun j1 => if (I3 1 j1) ≤ x1 then (some ((-4), I3, J3)) else (if ((v4 >>> (x1 &&& 31)) &&& 1) = 1 then (q_b3 (f_Mo_isAdmissible I3 J3 ((v4 ^^^ (1 <<< (x1 &&& 31))) ||| (1 <<< (v1 &&& 31)))) (fun v5 I4 J4 => if v5 = 0 then ((f_Mo_obstacle_L1 v1 v4 K n (x1 + 1) I4 J4)) else ((K x1 I4 J4)))) else ((f_Mo_obstacle_L1 v1 v4 K n (x1 + 1) I3 J3))))
def f_Mo_obstacle (I : q_I) (J : q_J) (a1 : Int32) (a2 : Int32) : Option (Int32 × q_I × q_J) :=
  q_b1 (f_Mo_findEdit I a2) (fun v1 => q_b1 (f_Mo_isReplica a1) (fun v2 => if v2 = 0 then (some ((-1), I, J)) else (if (0 : Int32) ≤ v1 then (q_b3 (f_Mo_stateOf I J a1 v1) (fun v3 I1 J1 => if v3 = 2 then (q_b3 (f_Mo_accepted I1 J1 a1) (fun v4 I2 J2 => f_Mo_obstacle_L1 v1 v4 (fun (x2 : Int32) (I5 : q_I) (J5 : q_J) => q_b1 (f_Mo_edit x2 0) (fun v6 => q_ix v6 280 (fun j2 => some ((I5 1 j2), I5, J5)))) q_fu 0 I2 J2)) else (some ((-3), I1, J1)))) else (some ((-1), I, J)))))
def y_Mo_obstacle : MethodName := ⟨"CalendarReplicasModel", "obstacle", "(II)I"⟩
def m_Mo_obstacle : q_M := (prog_11_method_72_code, 6, "CalendarReplicasModel", { frames := 8, cells := 0, slots := 0, locals := 193 }, (some FieldType.int))
theorem yv_Mo_obstacle : q_Y y_Mo_obstacle m_Mo_obstacle 2 := ⟨rfl, ⟨by decide, by decide⟩, by decide +kernel, tw_7_100, tw_1_15⟩
set_option maxRecDepth 100000 in
set_option maxHeartbeats 4000000 in
theorem c_Mo_obstacle (l : Launch) (D : va_G) (tc : Nat → ClassId) (x0 y : Nat) (I : q_I) (J : q_J) (P : q_P) (a1 : Int32) (a2 : Int32) : q_Ct l (mG D tc x0 y) y_Mo_obstacle m_Mo_obstacle [q_r (mG D tc x0 y) 0, .int a1, .int a2] (I, J, P) (f_Mo_obstacle I J a1 a2) (fun r : Int32 × q_I × q_J => (some (.int r.1), (r.2.1, r.2.2, P))) := by
  refine q_Ct_of (mIn D tc x0 y) (by decide) rfl (Nat.le_of_ble_eq_true rfl) rfl (fun X hX => ?_)
  subst hX
  unfold f_Mo_obstacle
  refine q_aload_n 0 0 1 rfl (by decide +kernel) rfl ?_
  refine q_iload_n 2 2 2 rfl (by decide +kernel) rfl ?_
  refine q_callV_i 5 rfl (av := [.int a2]) (o := 0) (st := []) (c_Mo_findEdit X.1 D tc x0 y I J P a2) yv_Mo_findEdit tw_6_233 tw_6_235 sw_56 (cC_Mo D tc x0 y) (rfl : mKd 0 = (1, 0, 21, 0, 0)) rfl (Nat.le_of_ble_eq_true rfl) (by decide +kernel) ⟨Nat.le_of_ble_eq_true rfl, Nat.le_of_ble_eq_true rfl⟩ ⟨Nat.le_of_ble_eq_true rfl, Nat.le_of_ble_eq_true rfl⟩ rfl rfl (fun v1 => ?_)
  refine q_istore_n 3 3 6 rfl [(3, .int v1), (0, q_r (mG D tc x0 y) 0), (1, .int a1), (2, .int a2)] (by decide +kernel) rfl (Nat.le_of_ble_eq_true rfl) rfl ?_
  refine q_iload_n 2 1 7 rfl (by decide +kernel) rfl ?_
  refine q_callS_i 10 rfl (av := [.int a1]) (st := []) (c_Mo_isReplica X.1 D tc x0 y I J P a1) yv_Mo_isReplica tw_6_127 tw_6_128 rfl (Nat.le_of_ble_eq_true rfl) (by decide +kernel) ⟨Nat.le_of_ble_eq_true rfl, Nat.le_of_ble_eq_true rfl⟩ ⟨Nat.le_of_ble_eq_true rfl, Nat.le_of_ble_eq_true rfl⟩ rfl rfl (fun v2 => ?_)
  refine q_if_eq 13 rfl 17 (off := 7) (by decide +kernel) rfl (fun g6 => ?_) (fun g6 => ?_)
  · refine q_iconst (-1) (c := -1) 18 rfl (by decide +kernel) rfl ?_
    exact q_iret (by decide +kernel) rfl rfl (Nat.le_of_ble_eq_true rfl) (Nat.le_of_ble_eq_true rfl)
  · refine q_iload_n 0 3 14 rfl (by decide +kernel) rfl ?_
    refine q_if_ge 17 rfl 19 (off := 5) (by decide +kernel) rfl (fun g5 => ?_) (fun g5 => ?_)
    · refine q_aload_n 1 0 20 rfl (by decide +kernel) rfl ?_
      refine q_iload_n 2 1 21 rfl (by decide +kernel) rfl ?_
      refine q_iload_n 0 3 22 rfl (by decide +kernel) rfl ?_
      refine q_callV_iIJ 25 rfl (av := [.int a1, .int v1]) (o := 0) (st := []) (c_Mo_stateOf X.1 D tc x0 y I J P a1 v1) yv_Mo_stateOf tw_7_77 tw_7_79 sw_60 (cC_Mo D tc x0 y) (rfl : mKd 0 = (1, 0, 21, 0, 0)) rfl (Nat.le_of_ble_eq_true rfl) (by decide +kernel) ⟨Nat.le_of_ble_eq_true rfl, Nat.le_of_ble_eq_true rfl⟩ ⟨Nat.le_of_ble_eq_true rfl, Nat.le_of_ble_eq_true rfl⟩ rfl rfl (fun v3 I1 J1 => ?_)
      refine q_iconst 2 (c := 2) 26 rfl (by decide +kernel) rfl ?_
      refine q_icmp_eq 29 rfl 32 (off := 6) (by decide +kernel) rfl (fun g4 => ?_) (fun g4 => ?_)
      · refine q_aload_n 1 0 33 rfl (by decide +kernel) rfl ?_
        refine q_iload_n 2 1 34 rfl (by decide +kernel) rfl ?_
        refine q_callV_iIJ 37 rfl (av := [.int a1]) (o := 0) (st := []) (c_Mo_accepted X.1 D tc x0 y I1 J1 P a1) yv_Mo_accepted tw_6_138 tw_6_140 sw_42 (cC_Mo D tc x0 y) (rfl : mKd 0 = (1, 0, 21, 0, 0)) rfl (Nat.le_of_ble_eq_true rfl) (by decide +kernel) ⟨Nat.le_of_ble_eq_true rfl, Nat.le_of_ble_eq_true rfl⟩ ⟨Nat.le_of_ble_eq_true rfl, Nat.le_of_ble_eq_true rfl⟩ rfl rfl (fun v4 I2 J2 => ?_)
        refine q_istore 4 39 rfl [(4, .int v4), (3, .int v1), (0, q_r (mG D tc x0 y) 0), (1, .int a1), (2, .int a2)] (by decide +kernel) (Nat.le_of_ble_eq_true rfl) rfl ?_
        refine q_iconst 0 (c := 0) 40 rfl (by decide +kernel) rfl ?_
        refine q_istore 5 42 rfl [(5, .int 0), (4, .int v4), (3, .int v1), (0, q_r (mG D tc x0 y) 0), (1, .int a1), (2, .int a2)] (by decide +kernel) (Nat.le_of_ble_eq_true rfl) rfl ?_
        have hL1 : ∀ (K1 : Int32 → q_I → q_J → Option (Int32 × q_I × q_J)) (hK1 : ∀ (x2 : Int32) (I5 : q_I) (J5 : q_J), q_V (mG D tc x0 y) m_Mo_obstacle X (fun r : Int32 × q_I × q_J => (some (.int r.1), (r.2.1, r.2.2, P))) 0 0 82 [(0, q_r (mG D tc x0 y) 0), (5, .int x2)] [] I5 J5 P (K1 x2 I5 J5)) (n1_ : Nat) (x1 : Int32) (I3 : q_I) (J3 : q_J), q_V (mG D tc x0 y) m_Mo_obstacle X (fun r : Int32 × q_I × q_J => (some (.int r.1), (r.2.1, r.2.2, P))) 0 0 42 [(0, q_r (mG D tc x0 y) 0), (3, .int v1), (4, .int v4), (5, .int x1)] [] I3 J3 P (f_Mo_obstacle_L1 v1 v4 K1 n1_ x1 I3 J3) := by
          intro K1 hK1 n1_
          induction n1_ with
          | zero => intro x1 I3 J3; exact q_none
          | succ n1_ ih1 =>
            intro x1 I3 J3
            rw [f_Mo_obstacle_L1]
            refine q_iload 3 5 44 rfl (by decide +kernel) rfl ?_
            refine q_aload_n 0 0 45 rfl (by decide +kernel) rfl ?_
            refine q_getr (f := 0) 1 48 rfl (by decide +kernel) (cC_Mo D tc x0 y) (rfl : mKd 0 = (1, 0, 21, 0, 0)) (by decide) rfl rfl tw_5_212 ?_
            refine q_iconst 0 (c := 0) 49 rfl (by decide +kernel) rfl ?_
            refine q_iald (t := 0) 50 rfl (by decide +kernel) (rfl : mKd 1 = (2, 280, 0, 0, 0)) rfl (fun j1 hj1 => ?_)
            refine q_icmp_ge 53 rfl 100 (off := 50) (by decide +kernel) rfl (fun g3 => ?_) (fun g3 => ?_)
            · refine q_bipush (-4) (c := -4) 102 rfl (by decide +kernel) rfl ?_
              exact q_iret (by decide +kernel) rfl rfl (Nat.le_of_ble_eq_true rfl) (Nat.le_of_ble_eq_true rfl)
            · refine q_iload 2 4 55 rfl (by decide +kernel) rfl ?_
              refine q_iload 3 5 57 rfl (by decide +kernel) rfl ?_
              refine q_ishr 58 rfl (by decide +kernel) ?_
              refine q_iconst 1 (c := 1) 59 rfl (by decide +kernel) rfl ?_
              refine q_iand 60 rfl (by decide +kernel) ?_
              refine q_iconst 1 (c := 1) 61 rfl (by decide +kernel) rfl ?_
              refine q_icmp_ne 64 rfl 94 (off := 33) (by decide +kernel) rfl (fun g2 => ?_) (fun g2 => ?_)
              · refine q_iinc (x1 + 1) (c := 1) 5 3 97 rfl [(5, .int (x1 + 1)), (0, q_r (mG D tc x0 y) 0), (3, .int v1), (4, .int v4)] (by decide +kernel) rfl rfl (Nat.le_of_ble_eq_true rfl) rfl ?_
                refine q_goto (off := -55) 42 (by decide +kernel) rfl ?_
                refine q_sub [1, 2, 3, 0] rfl ?_
                exact ih1 (x1 + 1) I3 J3
              · refine q_aload_n 0 0 65 rfl (by decide +kernel) rfl ?_
                refine q_iload 2 4 67 rfl (by decide +kernel) rfl ?_
                refine q_iconst 1 (c := 1) 68 rfl (by decide +kernel) rfl ?_
                refine q_iload 3 5 70 rfl (by decide +kernel) rfl ?_
                refine q_ishl 71 rfl (by decide +kernel) ?_
                refine q_ixor 72 rfl (by decide +kernel) ?_
                refine q_iconst 1 (c := 1) 73 rfl (by decide +kernel) rfl ?_
                refine q_iload_n 1 3 74 rfl (by decide +kernel) rfl ?_
                refine q_ishl 75 rfl (by decide +kernel) ?_
                refine q_ior 76 rfl (by decide +kernel) ?_
                refine q_callV_iIJ 79 rfl (av := [.int ((v4 ^^^ (1 <<< (x1 &&& 31))) ||| (1 <<< (v1 &&& 31)))]) (o := 0) (st := []) (c_Mo_isAdmissible X.1 D tc x0 y I3 J3 P ((v4 ^^^ (1 <<< (x1 &&& 31))) ||| (1 <<< (v1 &&& 31)))) yv_Mo_isAdmissible tw_6_55 tw_6_57 sw_27 (cC_Mo D tc x0 y) (rfl : mKd 0 = (1, 0, 21, 0, 0)) rfl (Nat.le_of_ble_eq_true rfl) (by decide +kernel) ⟨Nat.le_of_ble_eq_true rfl, Nat.le_of_ble_eq_true rfl⟩ ⟨Nat.le_of_ble_eq_true rfl, Nat.le_of_ble_eq_true rfl⟩ rfl rfl (fun v5 I4 J4 => ?_)
                refine q_if_eq 82 rfl 94 (off := 15) (by decide +kernel) rfl (fun g1 => ?_) (fun g1 => ?_)
                · refine q_iinc (x1 + 1) (c := 1) 5 3 97 rfl [(5, .int (x1 + 1)), (0, q_r (mG D tc x0 y) 0), (3, .int v1), (4, .int v4)] (by decide +kernel) rfl rfl (Nat.le_of_ble_eq_true rfl) rfl ?_
                  refine q_goto (off := -55) 42 (by decide +kernel) rfl ?_
                  refine q_sub [1, 2, 3, 0] rfl ?_
                  exact ih1 (x1 + 1) I4 J4
                · refine q_sub [0, 3] rfl ?_
                  exact hK1 x1 I4 J4
        refine q_sub [3, 2, 1, 0] rfl ?_
        refine hL1 _ (fun x2 I5 J5 => ?_) _ _ _ _
        refine q_aload_n 0 0 83 rfl (by decide +kernel) rfl ?_
        refine q_getr (f := 0) 1 86 rfl (by decide +kernel) (cC_Mo D tc x0 y) (rfl : mKd 0 = (1, 0, 21, 0, 0)) (by decide) rfl rfl tw_5_212 ?_
        refine q_iload 1 5 88 rfl (by decide +kernel) rfl ?_
        refine q_iconst 0 (c := 0) 89 rfl (by decide +kernel) rfl ?_
        refine q_callS_i 92 rfl (av := [.int x2, .int 0]) (st := [q_r (mG D tc x0 y) 1]) (c_Mo_edit X.1 D tc x0 y I5 J5 P x2 0) yv_Mo_edit tw_6_63 tw_6_64 rfl (Nat.le_of_ble_eq_true rfl) (by decide +kernel) ⟨Nat.le_of_ble_eq_true rfl, Nat.le_of_ble_eq_true rfl⟩ ⟨Nat.le_of_ble_eq_true rfl, Nat.le_of_ble_eq_true rfl⟩ rfl rfl (fun v6 => ?_)
        refine q_iald (t := 0) 93 rfl (by decide +kernel) (rfl : mKd 1 = (2, 280, 0, 0, 0)) rfl (fun j2 hj2 => ?_)
        exact q_iret (by decide +kernel) rfl rfl (Nat.le_of_ble_eq_true rfl) (Nat.le_of_ble_eq_true rfl)
      · refine q_bipush (-3) (c := -3) 31 rfl (by decide +kernel) rfl ?_
        exact q_iret (by decide +kernel) rfl rfl (Nat.le_of_ble_eq_true rfl) (Nat.le_of_ble_eq_true rfl)
    · refine q_iconst (-1) (c := -1) 18 rfl (by decide +kernel) rfl ?_
      exact q_iret (by decide +kernel) rfl rfl (Nat.le_of_ble_eq_true rfl) (Nat.le_of_ble_eq_true rfl)
def f_Mo_cost (I : q_I) (J : q_J) (a1 : Int32) (a2 : Int32) : Option (Int32 × q_I × q_J) :=
  q_b1 (f_Mo_findEdit I a2) (fun v1 => q_b1 (f_Mo_isReplica a1) (fun v2 => if v2 = 0 then (some ((-1), I, J)) else (if (0 : Int32) ≤ v1 then (q_b3 (f_Mo_stateOf I J a1 v1) (fun v3 I1 J1 => if (2 : Int32) ≤ v3 then (q_b3 (f_Mo_bestWith I1 J1 a1 (1 <<< (v1 &&& 31))) (fun v4 I2 J2 => if (0 : Int32) ≤ v4 then (q_b3 (f_Mo_accepted I2 J2 a1) (fun v5 I3 J3 => q_b1 (f_Mo_weight I3 v5) (fun v6 => q_b1 (f_Mo_weight I3 v4) (fun v7 => some ((v6 - v7), I3, J3))))) else (some ((-4), I2, J2)))) else (some ((-3), I1, J1)))) else (some ((-1), I, J)))))
def y_Mo_cost : MethodName := ⟨"CalendarReplicasModel", "cost", "(II)I"⟩
def m_Mo_cost : q_M := (prog_11_method_73_code, 5, "CalendarReplicasModel", { frames := 8, cells := 0, slots := 0, locals := 193 }, (some FieldType.int))
theorem yv_Mo_cost : q_Y y_Mo_cost m_Mo_cost 2 := ⟨rfl, ⟨by decide, by decide⟩, by decide +kernel, tw_7_104, tw_1_15⟩
set_option maxRecDepth 100000 in
set_option maxHeartbeats 4000000 in
theorem c_Mo_cost (l : Launch) (D : va_G) (tc : Nat → ClassId) (x0 y : Nat) (I : q_I) (J : q_J) (P : q_P) (a1 : Int32) (a2 : Int32) : q_Ct l (mG D tc x0 y) y_Mo_cost m_Mo_cost [q_r (mG D tc x0 y) 0, .int a1, .int a2] (I, J, P) (f_Mo_cost I J a1 a2) (fun r : Int32 × q_I × q_J => (some (.int r.1), (r.2.1, r.2.2, P))) := by
  refine q_Ct_of (mIn D tc x0 y) (by decide) rfl (Nat.le_of_ble_eq_true rfl) rfl (fun X hX => ?_)
  subst hX
  unfold f_Mo_cost
  refine q_aload_n 0 0 1 rfl (by decide +kernel) rfl ?_
  refine q_iload_n 2 2 2 rfl (by decide +kernel) rfl ?_
  refine q_callV_i 5 rfl (av := [.int a2]) (o := 0) (st := []) (c_Mo_findEdit X.1 D tc x0 y I J P a2) yv_Mo_findEdit tw_6_233 tw_6_235 sw_56 (cC_Mo D tc x0 y) (rfl : mKd 0 = (1, 0, 21, 0, 0)) rfl (Nat.le_of_ble_eq_true rfl) (by decide +kernel) ⟨Nat.le_of_ble_eq_true rfl, Nat.le_of_ble_eq_true rfl⟩ ⟨Nat.le_of_ble_eq_true rfl, Nat.le_of_ble_eq_true rfl⟩ rfl rfl (fun v1 => ?_)
  refine q_istore_n 3 3 6 rfl [(3, .int v1), (0, q_r (mG D tc x0 y) 0), (1, .int a1), (2, .int a2)] (by decide +kernel) rfl (Nat.le_of_ble_eq_true rfl) rfl ?_
  refine q_iload_n 2 1 7 rfl (by decide +kernel) rfl ?_
  refine q_callS_i 10 rfl (av := [.int a1]) (st := []) (c_Mo_isReplica X.1 D tc x0 y I J P a1) yv_Mo_isReplica tw_6_127 tw_6_128 rfl (Nat.le_of_ble_eq_true rfl) (by decide +kernel) ⟨Nat.le_of_ble_eq_true rfl, Nat.le_of_ble_eq_true rfl⟩ ⟨Nat.le_of_ble_eq_true rfl, Nat.le_of_ble_eq_true rfl⟩ rfl rfl (fun v2 => ?_)
  refine q_if_eq 13 rfl 17 (off := 7) (by decide +kernel) rfl (fun g4 => ?_) (fun g4 => ?_)
  · refine q_iconst (-1) (c := -1) 18 rfl (by decide +kernel) rfl ?_
    exact q_iret (by decide +kernel) rfl rfl (Nat.le_of_ble_eq_true rfl) (Nat.le_of_ble_eq_true rfl)
  · refine q_iload_n 0 3 14 rfl (by decide +kernel) rfl ?_
    refine q_if_ge 17 rfl 19 (off := 5) (by decide +kernel) rfl (fun g3 => ?_) (fun g3 => ?_)
    · refine q_aload_n 1 0 20 rfl (by decide +kernel) rfl ?_
      refine q_iload_n 2 1 21 rfl (by decide +kernel) rfl ?_
      refine q_iload_n 0 3 22 rfl (by decide +kernel) rfl ?_
      refine q_callV_iIJ 25 rfl (av := [.int a1, .int v1]) (o := 0) (st := []) (c_Mo_stateOf X.1 D tc x0 y I J P a1 v1) yv_Mo_stateOf tw_7_77 tw_7_79 sw_60 (cC_Mo D tc x0 y) (rfl : mKd 0 = (1, 0, 21, 0, 0)) rfl (Nat.le_of_ble_eq_true rfl) (by decide +kernel) ⟨Nat.le_of_ble_eq_true rfl, Nat.le_of_ble_eq_true rfl⟩ ⟨Nat.le_of_ble_eq_true rfl, Nat.le_of_ble_eq_true rfl⟩ rfl rfl (fun v3 I1 J1 => ?_)
      refine q_iconst 2 (c := 2) 26 rfl (by decide +kernel) rfl ?_
      refine q_icmp_ge 29 rfl 32 (off := 6) (by decide +kernel) rfl (fun g2 => ?_) (fun g2 => ?_)
      · refine q_aload_n 1 0 33 rfl (by decide +kernel) rfl ?_
        refine q_iload_n 2 1 34 rfl (by decide +kernel) rfl ?_
        refine q_iconst 1 (c := 1) 35 rfl (by decide +kernel) rfl ?_
        refine q_iload_n 0 3 36 rfl (by decide +kernel) rfl ?_
        refine q_ishl 37 rfl (by decide +kernel) ?_
        refine q_callV_iIJ 40 rfl (av := [.int a1, .int (1 <<< (v1 &&& 31))]) (o := 0) (st := []) (c_Mo_bestWith X.1 D tc x0 y I1 J1 P a1 (1 <<< (v1 &&& 31))) yv_Mo_bestWith tw_6_142 tw_6_144 sw_43 (cC_Mo D tc x0 y) (rfl : mKd 0 = (1, 0, 21, 0, 0)) rfl (Nat.le_of_ble_eq_true rfl) (by decide +kernel) ⟨Nat.le_of_ble_eq_true rfl, Nat.le_of_ble_eq_true rfl⟩ ⟨Nat.le_of_ble_eq_true rfl, Nat.le_of_ble_eq_true rfl⟩ rfl rfl (fun v4 I2 J2 => ?_)
        refine q_istore 4 42 rfl [(4, .int v4), (3, .int v1), (0, q_r (mG D tc x0 y) 0), (1, .int a1), (2, .int a2)] (by decide +kernel) (Nat.le_of_ble_eq_true rfl) rfl ?_
        refine q_iload 0 4 44 rfl (by decide +kernel) rfl ?_
        refine q_if_ge 47 rfl 52 (off := 8) (by decide +kernel) rfl (fun g1 => ?_) (fun g1 => ?_)
        · refine q_aload_n 2 0 53 rfl (by decide +kernel) rfl ?_
          refine q_aload_n 2 0 54 rfl (by decide +kernel) rfl ?_
          refine q_iload_n 3 1 55 rfl (by decide +kernel) rfl ?_
          refine q_callV_iIJ 58 rfl (av := [.int a1]) (o := 0) (st := [q_r (mG D tc x0 y) 0]) (c_Mo_accepted X.1 D tc x0 y I2 J2 P a1) yv_Mo_accepted tw_6_138 tw_6_140 sw_42 (cC_Mo D tc x0 y) (rfl : mKd 0 = (1, 0, 21, 0, 0)) rfl (Nat.le_of_ble_eq_true rfl) (by decide +kernel) ⟨Nat.le_of_ble_eq_true rfl, Nat.le_of_ble_eq_true rfl⟩ ⟨Nat.le_of_ble_eq_true rfl, Nat.le_of_ble_eq_true rfl⟩ rfl rfl (fun v5 I3 J3 => ?_)
          refine q_callV_i 61 rfl (av := [.int v5]) (o := 0) (st := []) (c_Mo_weight X.1 D tc x0 y I3 J3 P v5) yv_Mo_weight tw_6_150 tw_6_152 sw_45 (cC_Mo D tc x0 y) (rfl : mKd 0 = (1, 0, 21, 0, 0)) rfl (Nat.le_of_ble_eq_true rfl) (by decide +kernel) ⟨Nat.le_of_ble_eq_true rfl, Nat.le_of_ble_eq_true rfl⟩ ⟨Nat.le_of_ble_eq_true rfl, Nat.le_of_ble_eq_true rfl⟩ rfl rfl (fun v6 => ?_)
          refine q_aload_n 2 0 62 rfl (by decide +kernel) rfl ?_
          refine q_iload 0 4 64 rfl (by decide +kernel) rfl ?_
          refine q_callV_i 67 rfl (av := [.int v4]) (o := 0) (st := [.int v6]) (c_Mo_weight X.1 D tc x0 y I3 J3 P v4) yv_Mo_weight tw_6_150 tw_6_152 sw_45 (cC_Mo D tc x0 y) (rfl : mKd 0 = (1, 0, 21, 0, 0)) rfl (Nat.le_of_ble_eq_true rfl) (by decide +kernel) ⟨Nat.le_of_ble_eq_true rfl, Nat.le_of_ble_eq_true rfl⟩ ⟨Nat.le_of_ble_eq_true rfl, Nat.le_of_ble_eq_true rfl⟩ rfl rfl (fun v7 => ?_)
          refine q_isub 68 rfl (by decide +kernel) ?_
          exact q_iret (by decide +kernel) rfl rfl (Nat.le_of_ble_eq_true rfl) (Nat.le_of_ble_eq_true rfl)
        · refine q_bipush (-4) (c := -4) 49 rfl (by decide +kernel) rfl ?_
          refine q_goto (off := 19) 68 (by decide +kernel) rfl ?_
          exact q_iret (by decide +kernel) rfl rfl (Nat.le_of_ble_eq_true rfl) (Nat.le_of_ble_eq_true rfl)
      · refine q_bipush (-3) (c := -3) 31 rfl (by decide +kernel) rfl ?_
        exact q_iret (by decide +kernel) rfl rfl (Nat.le_of_ble_eq_true rfl) (Nat.le_of_ble_eq_true rfl)
    · refine q_iconst (-1) (c := -1) 18 rfl (by decide +kernel) rfl ?_
      exact q_iret (by decide +kernel) rfl rfl (Nat.le_of_ble_eq_true rfl) (Nat.le_of_ble_eq_true rfl)
def f_Mo_alternative_L2 (x2 : Int32) (x3 : Int32) (x4 : Int32) (x6 : Int32) (K : Int32 → q_I → q_J → Option (Int32 × q_I × q_J)) : Nat → Int32 → Int32 → q_I → q_J → Option (Int32 × q_I × q_J)
  | 0, _, _, _, _ => none
  | n + 1, x8, x9, I4, J4 => if (x4 + x6) < x9 then ((K x8 I4 J4)) else (if (0 : Int32) ≤ x8 then ((K x8 I4 J4)) else (q_ix x2 280 (fun j3 => q_l (q_ui I4 1 j3 x9) (fun I5 => q_b1 (f_Mo_in x9 0 95) (fun v6 => q_b3 (if v6 = 0 then ((some (x8, I5, J4))) else (q_b3 (f_Mo_isAdmissible I5 J4 x3) (fun v7 I7 J6 => if v7 = 0 then ((some (x8, I7, J6))) else ((some (x9, I7, J6))))) : Option (Int32 × q_I × q_J)) (fun (x10 : Int32) (I6 : q_I) (J5 : q_J) => if x6 = 0 then (q_l (x9 + 1 : Int32) (fun x12 => (f_Mo_alternative_L2 x2 x3 x4 x6 K n x10 x12 I6 J5))) else (q_l (x9 + (2 * x6) : Int32) (fun x11 => (f_Mo_alternative_L2 x2 x3 x4 x6 K n x10 x11 I6 J5)))))))))
def f_Mo_alternative_L1 (x2 : Int32) (x3 : Int32) (x4 : Int32) (K : Int32 → q_I → q_J → Option (Int32 × q_I × q_J)) : Nat → Int32 → Int32 → q_I → q_J → Option (Int32 × q_I × q_J)
  | 0, _, _, _, _ => none
  | n + 1, x5, x6, I3, J3 => if (96 : Int32) ≤ x6 then ((K x5 I3 J3)) else (if (0 : Int32) ≤ x5 then ((K x5 I3 J3)) else (q_l (x4 - x6 : Int32) (fun x7 => f_Mo_alternative_L2 x2 x3 x4 x6 (fun (x13 : Int32) (I8 : q_I) (J7 : q_J) => (f_Mo_alternative_L1 x2 x3 x4 K n x13 (x6 + 1) I8 J7)) q_fu x5 x7 I3 J3)))
def f_Mo_alternative (I : q_I) (J : q_J) (a1 : Int32) (a2 : Int32) : Option (Int32 × q_I × q_J) :=
  q_b1 (f_Mo_findEdit I a2) (fun v1 => q_b1 (f_Mo_isReplica a1) (fun v2 => if v2 = 0 then (some ((-1), I, J)) else (if (0 : Int32) ≤ v1 then (q_b1 (f_Mo_edit v1 3) (fun v3 => q_ix v3 280 (fun j1 => q_l (I 1 j1 : Int32) (fun x1 => q_b3 (f_Mo_stateOf I J a1 v1) (fun v4 I1 J1 => if v4 = 2 then (q_jj (q_b1 (if x1 = 1 then (q_b1 (f_Mo_edit v1 5) (fun v9 => (some (v9)))) else (q_b1 (f_Mo_edit v1 7) (fun v8 => (some (v8)))) : Option (Int32)) (fun (x2 : Int32) => q_b3 (f_Mo_accepted I1 J1 a1) (fun v5 I2 J2 => q_l (v5 ||| (1 <<< (v1 &&& 31)) : Int32) (fun x3 => q_ix x2 280 (fun j2 => q_l (I2 1 j2 : Int32) (fun x4 => f_Mo_alternative_L1 x2 x3 x4 (fun (x14 : Int32) (I9 : q_I) (J8 : q_J) => q_ix x2 280 (fun j4 => q_l (q_ui I9 1 j4 x4) (fun I10 => some (x14, I10, J8)))) q_fu (-4) 0 I2 J2)))))) (fun (jk1 : Option (Int32 × q_I × q_J)) => if x1 = 0 then (jk1) else (if x1 = 1 then (jk1) else (some ((-3), I1, J1))))) else (some ((-3), I1, J1))))))) else (some ((-1), I, J)))))
def y_Mo_alternative : MethodName := ⟨"CalendarReplicasModel", "alternative", "(II)I"⟩
def m_Mo_alternative : q_M := (prog_11_method_74_code, 11, "CalendarReplicasModel", { frames := 8, cells := 0, slots := 0, locals := 193 }, (some FieldType.int))
theorem yv_Mo_alternative : q_Y y_Mo_alternative m_Mo_alternative 2 := ⟨rfl, ⟨by decide, by decide⟩, by decide +kernel, tw_7_108, tw_1_15⟩
set_option maxRecDepth 100000 in
set_option maxHeartbeats 4000000 in
theorem c_Mo_alternative (l : Launch) (D : va_G) (tc : Nat → ClassId) (x0 y : Nat) (I : q_I) (J : q_J) (P : q_P) (a1 : Int32) (a2 : Int32) : q_Ct l (mG D tc x0 y) y_Mo_alternative m_Mo_alternative [q_r (mG D tc x0 y) 0, .int a1, .int a2] (I, J, P) (f_Mo_alternative I J a1 a2) (fun r : Int32 × q_I × q_J => (some (.int r.1), (r.2.1, r.2.2, P))) := by
  refine q_Ct_of (mIn D tc x0 y) (by decide) rfl (Nat.le_of_ble_eq_true rfl) rfl (fun X hX => ?_)
  subst hX
  unfold f_Mo_alternative
  refine q_aload_n 0 0 1 rfl (by decide +kernel) rfl ?_
  refine q_iload_n 2 2 2 rfl (by decide +kernel) rfl ?_
  refine q_callV_i 5 rfl (av := [.int a2]) (o := 0) (st := []) (c_Mo_findEdit X.1 D tc x0 y I J P a2) yv_Mo_findEdit tw_6_233 tw_6_235 sw_56 (cC_Mo D tc x0 y) (rfl : mKd 0 = (1, 0, 21, 0, 0)) rfl (Nat.le_of_ble_eq_true rfl) (by decide +kernel) ⟨Nat.le_of_ble_eq_true rfl, Nat.le_of_ble_eq_true rfl⟩ ⟨Nat.le_of_ble_eq_true rfl, Nat.le_of_ble_eq_true rfl⟩ rfl rfl (fun v1 => ?_)
  refine q_istore_n 3 3 6 rfl [(3, .int v1), (0, q_r (mG D tc x0 y) 0), (1, .int a1), (2, .int a2)] (by decide +kernel) rfl (Nat.le_of_ble_eq_true rfl) rfl ?_
  refine q_iload_n 2 1 7 rfl (by decide +kernel) rfl ?_
  refine q_callS_i 10 rfl (av := [.int a1]) (st := []) (c_Mo_isReplica X.1 D tc x0 y I J P a1) yv_Mo_isReplica tw_6_127 tw_6_128 rfl (Nat.le_of_ble_eq_true rfl) (by decide +kernel) ⟨Nat.le_of_ble_eq_true rfl, Nat.le_of_ble_eq_true rfl⟩ ⟨Nat.le_of_ble_eq_true rfl, Nat.le_of_ble_eq_true rfl⟩ rfl rfl (fun v2 => ?_)
  refine q_if_eq 13 rfl 17 (off := 7) (by decide +kernel) rfl (fun g13 => ?_) (fun g13 => ?_)
  · refine q_iconst (-1) (c := -1) 18 rfl (by decide +kernel) rfl ?_
    exact q_iret (by decide +kernel) rfl rfl (Nat.le_of_ble_eq_true rfl) (Nat.le_of_ble_eq_true rfl)
  · refine q_iload_n 0 3 14 rfl (by decide +kernel) rfl ?_
    refine q_if_ge 17 rfl 19 (off := 5) (by decide +kernel) rfl (fun g12 => ?_) (fun g12 => ?_)
    · refine q_aload_n 1 0 20 rfl (by decide +kernel) rfl ?_
      refine q_getr (f := 0) 1 23 rfl (by decide +kernel) (cC_Mo D tc x0 y) (rfl : mKd 0 = (1, 0, 21, 0, 0)) (by decide) rfl rfl tw_5_212 ?_
      refine q_iload_n 0 3 24 rfl (by decide +kernel) rfl ?_
      refine q_iconst 3 (c := 3) 25 rfl (by decide +kernel) rfl ?_
      refine q_callS_i 28 rfl (av := [.int v1, .int 3]) (st := [q_r (mG D tc x0 y) 1]) (c_Mo_edit X.1 D tc x0 y I J P v1 3) yv_Mo_edit tw_6_63 tw_6_64 rfl (Nat.le_of_ble_eq_true rfl) (by decide +kernel) ⟨Nat.le_of_ble_eq_true rfl, Nat.le_of_ble_eq_true rfl⟩ ⟨Nat.le_of_ble_eq_true rfl, Nat.le_of_ble_eq_true rfl⟩ rfl rfl (fun v3 => ?_)
      refine q_iald (t := 0) 29 rfl (by decide +kernel) (rfl : mKd 1 = (2, 280, 0, 0, 0)) rfl (fun j1 hj1 => ?_)
      refine q_leti (fun x1 => ?_)
      refine q_istore 4 31 rfl [(4, .int x1), (3, .int v1), (0, q_r (mG D tc x0 y) 0), (1, .int a1), (2, .int a2)] (by decide +kernel) (Nat.le_of_ble_eq_true rfl) rfl ?_
      refine q_aload_n 2 0 32 rfl (by decide +kernel) rfl ?_
      refine q_iload_n 3 1 33 rfl (by decide +kernel) rfl ?_
      refine q_iload_n 1 3 34 rfl (by decide +kernel) rfl ?_
      refine q_callV_iIJ 37 rfl (av := [.int a1, .int v1]) (o := 0) (st := []) (c_Mo_stateOf X.1 D tc x0 y I J P a1 v1) yv_Mo_stateOf tw_7_77 tw_7_79 sw_60 (cC_Mo D tc x0 y) (rfl : mKd 0 = (1, 0, 21, 0, 0)) rfl (Nat.le_of_ble_eq_true rfl) (by decide +kernel) ⟨Nat.le_of_ble_eq_true rfl, Nat.le_of_ble_eq_true rfl⟩ ⟨Nat.le_of_ble_eq_true rfl, Nat.le_of_ble_eq_true rfl⟩ rfl rfl (fun v4 I1 J1 => ?_)
      refine q_iconst 2 (c := 2) 38 rfl (by decide +kernel) rfl ?_
      refine q_icmp_ne 41 rfl 52 (off := 14) (by decide +kernel) rfl (fun g11 => ?_) (fun g11 => ?_)
      · refine q_bipush (-3) (c := -3) 54 rfl (by decide +kernel) rfl ?_
        exact q_iret (by decide +kernel) rfl rfl (Nat.le_of_ble_eq_true rfl) (Nat.le_of_ble_eq_true rfl)
      · refine q_iload 0 4 43 rfl (by decide +kernel) rfl ?_
        refine q_jj0 55 ([(0, q_r (mG D tc x0 y) 0), (1, .int a1), (3, .int v1), (4, .int x1)]) ([]) (I1) (J1) (P) ?_ ?_
        · refine q_iload 3 4 57 rfl (by decide +kernel) rfl ?_
          refine q_iconst 1 (c := 1) 58 rfl (by decide +kernel) rfl ?_
          refine q_jn1 75 (fun x2 => [(0, q_r (mG D tc x0 y) 0), (1, .int a1), (3, .int v1)]) (fun x2 => [.int x2]) (fun x2 => I1) (fun x2 => J1) (fun x2 => P) (fun jk2 => if x1 = 1 then (q_b1 (f_Mo_edit v1 5) (fun v9 => (jk2 (v9)))) else (q_b1 (f_Mo_edit v1 7) (fun v8 => (jk2 (v8))))) (by intro jk2; simp only [q_b1_if, q_b1_s, q_b1_n, q_b1_ix, q_b1_b1, q_b1_b2, q_b1_b3, q_b1_l, q_b1_ck, q_b1_el]) ?_ ?_
          · intro x2
            refine q_istore 5 77 rfl [(5, .int x2), (0, q_r (mG D tc x0 y) 0), (1, .int a1), (3, .int v1)] (by decide +kernel) (Nat.le_of_ble_eq_true rfl) rfl ?_
            refine q_aload_n 1 0 78 rfl (by decide +kernel) rfl ?_
            refine q_iload_n 2 1 79 rfl (by decide +kernel) rfl ?_
            refine q_callV_iIJ 82 rfl (av := [.int a1]) (o := 0) (st := []) (c_Mo_accepted X.1 D tc x0 y I1 J1 P a1) yv_Mo_accepted tw_6_138 tw_6_140 sw_42 (cC_Mo D tc x0 y) (rfl : mKd 0 = (1, 0, 21, 0, 0)) rfl (Nat.le_of_ble_eq_true rfl) (by decide +kernel) ⟨Nat.le_of_ble_eq_true rfl, Nat.le_of_ble_eq_true rfl⟩ ⟨Nat.le_of_ble_eq_true rfl, Nat.le_of_ble_eq_true rfl⟩ rfl rfl (fun v5 I2 J2 => ?_)
            refine q_iconst 1 (c := 1) 83 rfl (by decide +kernel) rfl ?_
            refine q_iload_n 3 3 84 rfl (by decide +kernel) rfl ?_
            refine q_ishl 85 rfl (by decide +kernel) ?_
            refine q_ior 86 rfl (by decide +kernel) ?_
            refine q_leti (fun x3 => ?_)
            refine q_istore 6 88 rfl [(6, .int x3), (5, .int x2), (0, q_r (mG D tc x0 y) 0), (1, .int a1), (3, .int v1)] (by decide +kernel) (Nat.le_of_ble_eq_true rfl) rfl ?_
            refine q_aload_n 2 0 89 rfl (by decide +kernel) rfl ?_
            refine q_getr (f := 0) 1 92 rfl (by decide +kernel) (cC_Mo D tc x0 y) (rfl : mKd 0 = (1, 0, 21, 0, 0)) (by decide) rfl rfl tw_5_212 ?_
            refine q_iload 1 5 94 rfl (by decide +kernel) rfl ?_
            refine q_iald (t := 0) 95 rfl (by decide +kernel) (rfl : mKd 1 = (2, 280, 0, 0, 0)) rfl (fun j2 hj2 => ?_)
            refine q_leti (fun x4 => ?_)
            refine q_istore 7 97 rfl [(7, .int x4), (6, .int x3), (5, .int x2), (0, q_r (mG D tc x0 y) 0), (1, .int a1), (3, .int v1)] (by decide +kernel) (Nat.le_of_ble_eq_true rfl) rfl ?_
            refine q_bipush (-4) (c := -4) 99 rfl (by decide +kernel) rfl ?_
            refine q_istore 8 101 rfl [(8, .int (-4)), (7, .int x4), (6, .int x3), (5, .int x2), (0, q_r (mG D tc x0 y) 0), (1, .int a1), (3, .int v1)] (by decide +kernel) (Nat.le_of_ble_eq_true rfl) rfl ?_
            refine q_iconst 0 (c := 0) 102 rfl (by decide +kernel) rfl ?_
            refine q_istore 9 104 rfl [(9, .int 0), (8, .int (-4)), (7, .int x4), (6, .int x3), (5, .int x2), (0, q_r (mG D tc x0 y) 0), (1, .int a1), (3, .int v1)] (by decide +kernel) (Nat.le_of_ble_eq_true rfl) rfl ?_
            have hL1 : ∀ (K1 : Int32 → q_I → q_J → Option (Int32 × q_I × q_J)) (hK1 : ∀ (x14 : Int32) (I9 : q_I) (J8 : q_J), q_V (mG D tc x0 y) m_Mo_alternative X (fun r : Int32 × q_I × q_J => (some (.int r.1), (r.2.1, r.2.2, P))) 0 0 203 [(0, q_r (mG D tc x0 y) 0), (5, .int x2), (7, .int x4), (8, .int x14)] [] I9 J8 P (K1 x14 I9 J8)) (n1_ : Nat) (x5 : Int32) (x6 : Int32) (I3 : q_I) (J3 : q_J), q_V (mG D tc x0 y) m_Mo_alternative X (fun r : Int32 × q_I × q_J => (some (.int r.1), (r.2.1, r.2.2, P))) 0 0 104 [(0, q_r (mG D tc x0 y) 0), (5, .int x2), (6, .int x3), (7, .int x4), (8, .int x5), (9, .int x6)] [] I3 J3 P (f_Mo_alternative_L1 x2 x3 x4 K1 n1_ x5 x6 I3 J3) := by
              intro K1 hK1 n1_
              induction n1_ with
              | zero => intro x5 x6 I3 J3; exact q_none
              | succ n1_ ih1 =>
                intro x5 x6 I3 J3
                rw [f_Mo_alternative_L1]
                refine q_iload 5 9 106 rfl (by decide +kernel) rfl ?_
                refine q_bipush 96 (c := 96) 108 rfl (by decide +kernel) rfl ?_
                refine q_icmp_ge 111 rfl 203 (off := 95) (by decide +kernel) rfl (fun g7 => ?_) (fun g7 => ?_)
                · refine q_sub [0, 1, 3, 4] rfl ?_
                  exact hK1 x5 I3 J3
                · refine q_iload 4 8 113 rfl (by decide +kernel) rfl ?_
                  refine q_if_ge 116 rfl 203 (off := 90) (by decide +kernel) rfl (fun g6 => ?_) (fun g6 => ?_)
                  · refine q_sub [0, 1, 3, 4] rfl ?_
                    exact hK1 x5 I3 J3
                  · refine q_iload 3 7 118 rfl (by decide +kernel) rfl ?_
                    refine q_iload 5 9 120 rfl (by decide +kernel) rfl ?_
                    refine q_isub 121 rfl (by decide +kernel) ?_
                    refine q_leti (fun x7 => ?_)
                    refine q_istore 10 123 rfl [(10, .int x7), (0, q_r (mG D tc x0 y) 0), (5, .int x2), (6, .int x3), (7, .int x4), (8, .int x5), (9, .int x6)] (by decide +kernel) (Nat.le_of_ble_eq_true rfl) rfl ?_
                    have hL2 : ∀ (K2 : Int32 → q_I → q_J → Option (Int32 × q_I × q_J)) (hK2 : ∀ (x13 : Int32) (I8 : q_I) (J7 : q_J), q_V (mG D tc x0 y) m_Mo_alternative X (fun r : Int32 × q_I × q_J => (some (.int r.1), (r.2.1, r.2.2, P))) 0 0 197 [(0, q_r (mG D tc x0 y) 0), (5, .int x2), (6, .int x3), (7, .int x4), (8, .int x13), (9, .int x6)] [] I8 J7 P (K2 x13 I8 J7)) (n2_ : Nat) (x8 : Int32) (x9 : Int32) (I4 : q_I) (J4 : q_J), q_V (mG D tc x0 y) m_Mo_alternative X (fun r : Int32 × q_I × q_J => (some (.int r.1), (r.2.1, r.2.2, P))) 0 0 123 [(0, q_r (mG D tc x0 y) 0), (5, .int x2), (6, .int x3), (7, .int x4), (8, .int x8), (9, .int x6), (10, .int x9)] [] I4 J4 P (f_Mo_alternative_L2 x2 x3 x4 x6 K2 n2_ x8 x9 I4 J4) := by
                      intro K2 hK2 n2_
                      induction n2_ with
                      | zero => intro x8 x9 I4 J4; exact q_none
                      | succ n2_ ih2 =>
                        intro x8 x9 I4 J4
                        rw [f_Mo_alternative_L2]
                        refine q_iload 6 10 125 rfl (by decide +kernel) rfl ?_
                        refine q_iload 3 7 127 rfl (by decide +kernel) rfl ?_
                        refine q_iload 5 9 129 rfl (by decide +kernel) rfl ?_
                        refine q_iadd 130 rfl (by decide +kernel) ?_
                        refine q_icmp_gt 133 rfl 197 (off := 67) (by decide +kernel) rfl (fun g5 => ?_) (fun g5 => ?_)
                        · refine q_sub [0, 1, 2, 3, 4, 5] rfl ?_
                          exact hK2 x8 I4 J4
                        · refine q_iload 4 8 135 rfl (by decide +kernel) rfl ?_
                          refine q_if_ge 138 rfl 197 (off := 62) (by decide +kernel) rfl (fun g4 => ?_) (fun g4 => ?_)
                          · refine q_sub [0, 1, 2, 3, 4, 5] rfl ?_
                            exact hK2 x8 I4 J4
                          · refine q_aload_n 0 0 139 rfl (by decide +kernel) rfl ?_
                            refine q_getr (f := 0) 1 142 rfl (by decide +kernel) (cC_Mo D tc x0 y) (rfl : mKd 0 = (1, 0, 21, 0, 0)) (by decide) rfl rfl tw_5_212 ?_
                            refine q_iload 1 5 144 rfl (by decide +kernel) rfl ?_
                            refine q_iload 6 10 146 rfl (by decide +kernel) rfl ?_
                            refine q_iast (t := 0) 147 rfl (by decide +kernel) (rfl : mKd 1 = (2, 280, 0, 0, 0)) rfl (fun j3 hj3 => ?_)
                            refine q_letI (fun I5 => ?_)
                            refine q_iload 6 10 149 rfl (by decide +kernel) rfl ?_
                            refine q_iconst 0 (c := 0) 150 rfl (by decide +kernel) rfl ?_
                            refine q_bipush 95 (c := 95) 152 rfl (by decide +kernel) rfl ?_
                            refine q_callS_i 155 rfl (av := [.int x9, .int 0, .int 95]) (st := []) (c_Mo_in X.1 D tc x0 y I5 J4 P x9 0 95) yv_Mo_in tw_6_40 tw_6_41 rfl (Nat.le_of_ble_eq_true rfl) (by decide +kernel) ⟨Nat.le_of_ble_eq_true rfl, Nat.le_of_ble_eq_true rfl⟩ ⟨Nat.le_of_ble_eq_true rfl, Nat.le_of_ble_eq_true rfl⟩ rfl rfl (fun v6 => ?_)
                            refine q_jn3 174 (fun x10 I6 J5 => [(0, q_r (mG D tc x0 y) 0), (5, .int x2), (6, .int x3), (7, .int x4), (9, .int x6), (10, .int x9)]) (fun x10 I6 J5 => [.int x10]) (fun x10 I6 J5 => I6) (fun x10 I6 J5 => J5) (fun x10 I6 J5 => P) (fun jk3 => if v6 = 0 then ((jk3 (x8, I5, J4))) else (q_b3 (f_Mo_isAdmissible I5 J4 x3) (fun v7 I7 J6 => if v7 = 0 then ((jk3 (x8, I7, J6))) else ((jk3 (x9, I7, J6)))))) (by intro jk3; simp only [q_b1_if, q_b1_s, q_b1_n, q_b1_ix, q_b1_b1, q_b1_b2, q_b1_b3, q_b1_l, q_b1_ck, q_b1_el]) ?_ ?_
                            · intro x10 I6 J5
                              refine q_istore 8 176 rfl [(8, .int x10), (0, q_r (mG D tc x0 y) 0), (5, .int x2), (6, .int x3), (7, .int x4), (9, .int x6), (10, .int x9)] (by decide +kernel) (Nat.le_of_ble_eq_true rfl) rfl ?_
                              refine q_iload 6 10 178 rfl (by decide +kernel) rfl ?_
                              refine q_iload 5 9 180 rfl (by decide +kernel) rfl ?_
                              refine q_if_ne 183 rfl 187 (off := 7) (by decide +kernel) rfl (fun g1 => ?_) (fun g1 => ?_)
                              · refine q_iconst 2 (c := 2) 188 rfl (by decide +kernel) rfl ?_
                                refine q_iload 5 9 190 rfl (by decide +kernel) rfl ?_
                                refine q_imul 191 rfl (by decide +kernel) ?_
                                refine q_iadd 192 rfl (by decide +kernel) ?_
                                refine q_leti (fun x11 => ?_)
                                refine q_istore 10 194 rfl [(10, .int x11), (8, .int x10), (0, q_r (mG D tc x0 y) 0), (5, .int x2), (6, .int x3), (7, .int x4), (9, .int x6)] (by decide +kernel) (Nat.le_of_ble_eq_true rfl) rfl ?_
                                refine q_goto (off := -71) 123 (by decide +kernel) rfl ?_
                                refine q_sub [2, 3, 4, 5, 1, 6, 0] rfl ?_
                                exact ih2 x10 x11 I6 J5
                              · refine q_iconst 1 (c := 1) 184 rfl (by decide +kernel) rfl ?_
                                refine q_goto (off := 7) 191 (by decide +kernel) rfl ?_
                                refine q_iadd 192 rfl (by decide +kernel) ?_
                                refine q_leti (fun x12 => ?_)
                                refine q_istore 10 194 rfl [(10, .int x12), (8, .int x10), (0, q_r (mG D tc x0 y) 0), (5, .int x2), (6, .int x3), (7, .int x4), (9, .int x6)] (by decide +kernel) (Nat.le_of_ble_eq_true rfl) rfl ?_
                                refine q_goto (off := -71) 123 (by decide +kernel) rfl ?_
                                refine q_sub [2, 3, 4, 5, 1, 6, 0] rfl ?_
                                exact ih2 x10 x12 I6 J5
                            · intro jk3 hq3
                              refine q_if_eq 158 rfl 172 (off := 17) (by decide +kernel) rfl (fun g3 => ?_) (fun g3 => ?_)
                              · refine q_iload 4 8 174 rfl (by decide +kernel) rfl ?_
                                refine q_sub [0, 1, 2, 3, 5, 6] rfl ?_
                                exact hq3 x8 I5 J4
                              · refine q_aload_n 0 0 159 rfl (by decide +kernel) rfl ?_
                                refine q_iload 2 6 161 rfl (by decide +kernel) rfl ?_
                                refine q_callV_iIJ 164 rfl (av := [.int x3]) (o := 0) (st := []) (c_Mo_isAdmissible X.1 D tc x0 y I5 J4 P x3) yv_Mo_isAdmissible tw_6_55 tw_6_57 sw_27 (cC_Mo D tc x0 y) (rfl : mKd 0 = (1, 0, 21, 0, 0)) rfl (Nat.le_of_ble_eq_true rfl) (by decide +kernel) ⟨Nat.le_of_ble_eq_true rfl, Nat.le_of_ble_eq_true rfl⟩ ⟨Nat.le_of_ble_eq_true rfl, Nat.le_of_ble_eq_true rfl⟩ rfl rfl (fun v7 I7 J6 => ?_)
                                refine q_if_eq 167 rfl 172 (off := 8) (by decide +kernel) rfl (fun g2 => ?_) (fun g2 => ?_)
                                · refine q_iload 4 8 174 rfl (by decide +kernel) rfl ?_
                                  refine q_sub [0, 1, 2, 3, 5, 6] rfl ?_
                                  exact hq3 x8 I7 J6
                                · refine q_iload 6 10 169 rfl (by decide +kernel) rfl ?_
                                  refine q_goto (off := 5) 174 (by decide +kernel) rfl ?_
                                  refine q_sub [0, 1, 2, 3, 5, 6] rfl ?_
                                  exact hq3 x9 I7 J6
                    refine q_sub [1, 2, 3, 4, 5, 6, 0] rfl ?_
                    refine hL2 _ (fun x13 I8 J7 => ?_) _ _ _ _ _
                    refine q_iinc (x6 + 1) (c := 1) 9 5 200 rfl [(9, .int (x6 + 1)), (0, q_r (mG D tc x0 y) 0), (5, .int x2), (6, .int x3), (7, .int x4), (8, .int x13)] (by decide +kernel) rfl rfl (Nat.le_of_ble_eq_true rfl) rfl ?_
                    refine q_goto (off := -96) 104 (by decide +kernel) rfl ?_
                    refine q_sub [1, 2, 3, 4, 5, 0] rfl ?_
                    exact ih1 x13 (x6 + 1) I8 J7
            refine q_sub [5, 4, 3, 2, 1, 0] rfl ?_
            refine hL1 _ (fun x14 I9 J8 => ?_) _ _ _ _ _
            refine q_aload_n 0 0 204 rfl (by decide +kernel) rfl ?_
            refine q_getr (f := 0) 1 207 rfl (by decide +kernel) (cC_Mo D tc x0 y) (rfl : mKd 0 = (1, 0, 21, 0, 0)) (by decide) rfl rfl tw_5_212 ?_
            refine q_iload 1 5 209 rfl (by decide +kernel) rfl ?_
            refine q_iload 2 7 211 rfl (by decide +kernel) rfl ?_
            refine q_iast (t := 0) 212 rfl (by decide +kernel) (rfl : mKd 1 = (2, 280, 0, 0, 0)) rfl (fun j4 hj4 => ?_)
            refine q_letI (fun I10 => ?_)
            refine q_iload 3 8 214 rfl (by decide +kernel) rfl ?_
            exact q_iret (by decide +kernel) rfl rfl (Nat.le_of_ble_eq_true rfl) (Nat.le_of_ble_eq_true rfl)
          · intro jk2 hq2
            refine q_icmp_ne 61 rfl 69 (off := 11) (by decide +kernel) rfl (fun g8 => ?_) (fun g8 => ?_)
            · refine q_iload_n 2 3 70 rfl (by decide +kernel) rfl ?_
              refine q_bipush 7 (c := 7) 72 rfl (by decide +kernel) rfl ?_
              refine q_callS_i 75 rfl (av := [.int v1, .int 7]) (st := []) (c_Mo_edit X.1 D tc x0 y I1 J1 P v1 7) yv_Mo_edit tw_6_63 tw_6_64 rfl (Nat.le_of_ble_eq_true rfl) (by decide +kernel) ⟨Nat.le_of_ble_eq_true rfl, Nat.le_of_ble_eq_true rfl⟩ ⟨Nat.le_of_ble_eq_true rfl, Nat.le_of_ble_eq_true rfl⟩ rfl rfl (fun v8 => ?_)
              refine q_sub [0, 1, 2] rfl ?_
              exact hq2 v8
            · refine q_iload_n 2 3 62 rfl (by decide +kernel) rfl ?_
              refine q_iconst 5 (c := 5) 63 rfl (by decide +kernel) rfl ?_
              refine q_callS_i 66 rfl (av := [.int v1, .int 5]) (st := []) (c_Mo_edit X.1 D tc x0 y I1 J1 P v1 5) yv_Mo_edit tw_6_63 tw_6_64 rfl (Nat.le_of_ble_eq_true rfl) (by decide +kernel) ⟨Nat.le_of_ble_eq_true rfl, Nat.le_of_ble_eq_true rfl⟩ ⟨Nat.le_of_ble_eq_true rfl, Nat.le_of_ble_eq_true rfl⟩ rfl rfl (fun v9 => ?_)
              refine q_goto (off := 9) 75 (by decide +kernel) rfl ?_
              refine q_sub [0, 1, 2] rfl ?_
              exact hq2 v9
        · intro jk1 hq1
          refine q_if_eq 46 rfl 55 (off := 12) (by decide +kernel) rfl (fun g10 => ?_) (fun g10 => ?_)
          · refine q_sub [2, 3, 1, 0] rfl ?_
            exact hq1
          · refine q_iload 0 4 48 rfl (by decide +kernel) rfl ?_
            refine q_iconst 1 (c := 1) 49 rfl (by decide +kernel) rfl ?_
            refine q_icmp_eq 52 rfl 55 (off := 6) (by decide +kernel) rfl (fun g9 => ?_) (fun g9 => ?_)
            · refine q_sub [2, 3, 1, 0] rfl ?_
              exact hq1
            · refine q_bipush (-3) (c := -3) 54 rfl (by decide +kernel) rfl ?_
              exact q_iret (by decide +kernel) rfl rfl (Nat.le_of_ble_eq_true rfl) (Nat.le_of_ble_eq_true rfl)
    · refine q_iconst (-1) (c := -1) 18 rfl (by decide +kernel) rfl ?_
      exact q_iret (by decide +kernel) rfl rfl (Nat.le_of_ble_eq_true rfl) (Nat.le_of_ble_eq_true rfl)
def f_Mo_freeStart_L1 (I1 : q_I) (K : q_J → Option (Int32 × q_I × q_J)) : Nat → Int32 → q_J → Option (Int32 × q_I × q_J)
  | 0, _, _ => none
  | n + 1, x1, J2 => if (I1 0 7) ≤ x1 then ((K J2)) else (q_b1 (f_Mo_findSlots I1 J2 x1) (fun J3 => (f_Mo_freeStart_L1 I1 K n (x1 + 1) J3)))
def f_Mo_freeStart_L3 (a2 : Int32) (a3 : Int32) (I1 : q_I) (J4 : q_J) (x2 : Int32) (K : Int32 → Option (Int32 × q_I × q_J)) : Nat → Int32 → Int32 → Option (Int32 × q_I × q_J)
  | 0, _, _ => none
  | n + 1, x5, x6 => if (I1 0 7) ≤ x6 then ((K x5)) else (if x5 = 0 then ((f_Mo_freeStart_L3 a2 a3 I1 J4 x2 K n 0 (x6 + 1))) else (q_b1 (f_Mo_meeting x6 3) (fun v5 => q_ix v5 175 (fun j1 => if (I1 6 j1) = a2 then (q_b1 (f_Mo_meets J4 x6 x2 (x2 + a3)) (fun v6 => if v6 = 0 then ((f_Mo_freeStart_L3 a2 a3 I1 J4 x2 K n 1 (x6 + 1))) else ((f_Mo_freeStart_L3 a2 a3 I1 J4 x2 K n 0 (x6 + 1))))) else ((f_Mo_freeStart_L3 a2 a3 I1 J4 x2 K n 1 (x6 + 1)))))))
def f_Mo_freeStart_L2 (a2 : Int32) (a3 : Int32) (I1 : q_I) (J4 : q_J) : Nat → Int32 → Option (Int32 × q_I × q_J)
  | 0, _ => none
  | n + 1, x2 => if (96 : Int32) < (x2 + a3) then (some ((-4), I1, J4)) else (q_b1 (f_Mo_slots x2 (x2 + a3) 0) (fun w1 => q_b1 (if (lg_cmp w1 0) = 0 then ((some (1))) else (q_b1 (f_Mo_slots x2 (x2 + a3) 0) (fun w4 => q_ix (12 + a2) 280 (fun j4 => q_ix (16 + a2) 280 (fun j5 => q_b1 (f_Mo_slots (I1 1 j4) (I1 1 j5) 0) (fun w5 => if (lg_cmp (w4 &&& w5) 0) = 0 then ((some (1))) else ((some (0)))))))) : Option (Int32)) (fun (x3 : Int32) => q_b1 (if x3 = 0 then ((some (0))) else (q_b1 (f_Mo_slots x2 (x2 + a3) 48) (fun w2 => q_ix (12 + a2) 280 (fun j2 => q_ix (16 + a2) 280 (fun j3 => q_b1 (f_Mo_slots (I1 1 j2) (I1 1 j3) 48) (fun w3 => if (lg_cmp (w2 &&& w3) 0) = 0 then ((some (1))) else ((some (0)))))))) : Option (Int32)) (fun (x4 : Int32) => f_Mo_freeStart_L3 a2 a3 I1 J4 x2 (fun (x7 : Int32) => if x7 = 0 then ((f_Mo_freeStart_L2 a2 a3 I1 J4 n (x2 + 1))) else (some (x2, I1, J4))) q_fu x4 0))))
def f_Mo_freeStart (I : q_I) (J : q_J) (a1 : Int32) (a2 : Int32) (a3 : Int32) (a4 : Int32) : Option (Int32 × q_I × q_J) :=
  q_b1 (f_Mo_isReplica a1) (fun v1 => if v1 = 0 then (some ((-1), I, J)) else (q_b1 (f_Mo_in a2 0 3) (fun v2 => if v2 = 0 then (some ((-1), I, J)) else (q_b1 (f_Mo_in a3 1 8) (fun v3 => if v3 = 0 then (some ((-1), I, J)) else (q_b1 (f_Mo_in a4 0 95) (fun v4 => if v4 = 0 then (some ((-1), I, J)) else (q_b2 (f_Mo_shows I J a1) (fun I1 J1 => f_Mo_freeStart_L1 I1 (fun (J4 : q_J) => f_Mo_freeStart_L2 a2 a3 I1 J4 q_fu a4) q_fu 0 J1)))))))))
def y_Mo_freeStart : MethodName := ⟨"CalendarReplicasModel", "freeStart", "(IIII)I"⟩
def m_Mo_freeStart : q_M := (prog_11_method_75_code, 8, "CalendarReplicasModel", { frames := 8, cells := 0, slots := 0, locals := 192 }, (some FieldType.int))
theorem yv_Mo_freeStart : q_Y y_Mo_freeStart m_Mo_freeStart 4 := ⟨rfl, ⟨by decide, by decide⟩, by decide +kernel, tw_7_112, tw_1_15⟩
set_option maxRecDepth 100000 in
set_option maxHeartbeats 4000000 in
theorem c_Mo_freeStart (l : Launch) (D : va_G) (tc : Nat → ClassId) (x0 y : Nat) (I : q_I) (J : q_J) (P : q_P) (a1 : Int32) (a2 : Int32) (a3 : Int32) (a4 : Int32) : q_Ct l (mG D tc x0 y) y_Mo_freeStart m_Mo_freeStart [q_r (mG D tc x0 y) 0, .int a1, .int a2, .int a3, .int a4] (I, J, P) (f_Mo_freeStart I J a1 a2 a3 a4) (fun r : Int32 × q_I × q_J => (some (.int r.1), (r.2.1, r.2.2, P))) := by
  refine q_Ct_of (mIn D tc x0 y) (by decide) rfl (Nat.le_of_ble_eq_true rfl) rfl (fun X hX => ?_)
  subst hX
  unfold f_Mo_freeStart
  refine q_iload_n 1 1 1 rfl (by decide +kernel) rfl ?_
  refine q_callS_i 4 rfl (av := [.int a1]) (st := []) (c_Mo_isReplica X.1 D tc x0 y I J P a1) yv_Mo_isReplica tw_6_127 tw_6_128 rfl (Nat.le_of_ble_eq_true rfl) (by decide +kernel) ⟨Nat.le_of_ble_eq_true rfl, Nat.le_of_ble_eq_true rfl⟩ ⟨Nat.le_of_ble_eq_true rfl, Nat.le_of_ble_eq_true rfl⟩ rfl rfl (fun v1 => ?_)
  refine q_if_eq 7 rfl 37 (off := 33) (by decide +kernel) rfl (fun g15 => ?_) (fun g15 => ?_)
  · refine q_iconst (-1) (c := -1) 38 rfl (by decide +kernel) rfl ?_
    exact q_iret (by decide +kernel) rfl rfl (Nat.le_of_ble_eq_true rfl) (Nat.le_of_ble_eq_true rfl)
  · refine q_iload_n 2 2 8 rfl (by decide +kernel) rfl ?_
    refine q_iconst 0 (c := 0) 9 rfl (by decide +kernel) rfl ?_
    refine q_iconst 3 (c := 3) 10 rfl (by decide +kernel) rfl ?_
    refine q_callS_i 13 rfl (av := [.int a2, .int 0, .int 3]) (st := []) (c_Mo_in X.1 D tc x0 y I J P a2 0 3) yv_Mo_in tw_6_40 tw_6_41 rfl (Nat.le_of_ble_eq_true rfl) (by decide +kernel) ⟨Nat.le_of_ble_eq_true rfl, Nat.le_of_ble_eq_true rfl⟩ ⟨Nat.le_of_ble_eq_true rfl, Nat.le_of_ble_eq_true rfl⟩ rfl rfl (fun v2 => ?_)
    refine q_if_eq 16 rfl 37 (off := 24) (by decide +kernel) rfl (fun g14 => ?_) (fun g14 => ?_)
    · refine q_iconst (-1) (c := -1) 38 rfl (by decide +kernel) rfl ?_
      exact q_iret (by decide +kernel) rfl rfl (Nat.le_of_ble_eq_true rfl) (Nat.le_of_ble_eq_true rfl)
    · refine q_iload_n 3 3 17 rfl (by decide +kernel) rfl ?_
      refine q_iconst 1 (c := 1) 18 rfl (by decide +kernel) rfl ?_
      refine q_bipush 8 (c := 8) 20 rfl (by decide +kernel) rfl ?_
      refine q_callS_i 23 rfl (av := [.int a3, .int 1, .int 8]) (st := []) (c_Mo_in X.1 D tc x0 y I J P a3 1 8) yv_Mo_in tw_6_40 tw_6_41 rfl (Nat.le_of_ble_eq_true rfl) (by decide +kernel) ⟨Nat.le_of_ble_eq_true rfl, Nat.le_of_ble_eq_true rfl⟩ ⟨Nat.le_of_ble_eq_true rfl, Nat.le_of_ble_eq_true rfl⟩ rfl rfl (fun v3 => ?_)
      refine q_if_eq 26 rfl 37 (off := 14) (by decide +kernel) rfl (fun g13 => ?_) (fun g13 => ?_)
      · refine q_iconst (-1) (c := -1) 38 rfl (by decide +kernel) rfl ?_
        exact q_iret (by decide +kernel) rfl rfl (Nat.le_of_ble_eq_true rfl) (Nat.le_of_ble_eq_true rfl)
      · refine q_iload 4 4 28 rfl (by decide +kernel) rfl ?_
        refine q_iconst 0 (c := 0) 29 rfl (by decide +kernel) rfl ?_
        refine q_bipush 95 (c := 95) 31 rfl (by decide +kernel) rfl ?_
        refine q_callS_i 34 rfl (av := [.int a4, .int 0, .int 95]) (st := []) (c_Mo_in X.1 D tc x0 y I J P a4 0 95) yv_Mo_in tw_6_40 tw_6_41 rfl (Nat.le_of_ble_eq_true rfl) (by decide +kernel) ⟨Nat.le_of_ble_eq_true rfl, Nat.le_of_ble_eq_true rfl⟩ ⟨Nat.le_of_ble_eq_true rfl, Nat.le_of_ble_eq_true rfl⟩ rfl rfl (fun v4 => ?_)
        refine q_if_ne 37 rfl 39 (off := 5) (by decide +kernel) rfl (fun g12 => ?_) (fun g12 => ?_)
        · refine q_aload_n 0 0 40 rfl (by decide +kernel) rfl ?_
          refine q_iload_n 1 1 41 rfl (by decide +kernel) rfl ?_
          refine q_callV_vIJ 44 rfl (av := [.int a1]) (o := 0) (st := []) (c_Mo_shows X.1 D tc x0 y I J P a1) yv_Mo_shows tw_6_201 tw_6_203 sw_55 (cC_Mo D tc x0 y) (rfl : mKd 0 = (1, 0, 21, 0, 0)) rfl (Nat.le_of_ble_eq_true rfl) (by decide +kernel) ⟨Nat.le_of_ble_eq_true rfl, Nat.le_of_ble_eq_true rfl⟩ ⟨Nat.le_of_ble_eq_true rfl, Nat.le_of_ble_eq_true rfl⟩ rfl rfl (fun I1 J1 => ?_)
          refine q_iconst 0 (c := 0) 45 rfl (by decide +kernel) rfl ?_
          refine q_istore 5 47 rfl [(5, .int 0), (0, q_r (mG D tc x0 y) 0), (1, .int a1), (2, .int a2), (3, .int a3), (4, .int a4)] (by decide +kernel) (Nat.le_of_ble_eq_true rfl) rfl ?_
          have hL1 : ∀ (K1 : q_J → Option (Int32 × q_I × q_J)) (hK1 : ∀ (J4 : q_J), q_V (mG D tc x0 y) m_Mo_freeStart X (fun r : Int32 × q_I × q_J => (some (.int r.1), (r.2.1, r.2.2, P))) 0 0 68 [(0, q_r (mG D tc x0 y) 0), (2, .int a2), (3, .int a3), (4, .int a4)] [] I1 J4 P (K1 J4)) (n1_ : Nat) (x1 : Int32) (J2 : q_J), q_V (mG D tc x0 y) m_Mo_freeStart X (fun r : Int32 × q_I × q_J => (some (.int r.1), (r.2.1, r.2.2, P))) 0 0 47 [(0, q_r (mG D tc x0 y) 0), (2, .int a2), (3, .int a3), (4, .int a4), (5, .int x1)] [] I1 J2 P (f_Mo_freeStart_L1 I1 K1 n1_ x1 J2) := by
            intro K1 hK1 n1_
            induction n1_ with
            | zero => intro x1 J2; exact q_none
            | succ n1_ ih1 =>
              intro x1 J2
              rw [f_Mo_freeStart_L1]
              refine q_iload 4 5 49 rfl (by decide +kernel) rfl ?_
              refine q_aload_n 0 0 50 rfl (by decide +kernel) rfl ?_
              refine q_geti (f := 7) 53 rfl (by decide +kernel) (cC_Mo D tc x0 y) (rfl : mKd 0 = (1, 0, 21, 0, 0)) (by decide) rfl tw_5_219 ?_
              refine q_icmp_ge 56 rfl 68 (off := 15) (by decide +kernel) rfl (fun g1 => ?_) (fun g1 => ?_)
              · refine q_sub [0, 1, 2, 3] rfl ?_
                exact hK1 J2
              · refine q_aload_n 0 0 57 rfl (by decide +kernel) rfl ?_
                refine q_iload 4 5 59 rfl (by decide +kernel) rfl ?_
                refine q_callV_vJ 62 rfl (av := [.int x1]) (o := 0) (st := []) (c_Mo_findSlots X.1 D tc x0 y I1 J2 P x1) yv_Mo_findSlots tw_6_108 tw_6_110 sw_38 (cC_Mo D tc x0 y) (rfl : mKd 0 = (1, 0, 21, 0, 0)) rfl (Nat.le_of_ble_eq_true rfl) (by decide +kernel) ⟨Nat.le_of_ble_eq_true rfl, Nat.le_of_ble_eq_true rfl⟩ ⟨Nat.le_of_ble_eq_true rfl, Nat.le_of_ble_eq_true rfl⟩ rfl rfl (fun J3 => ?_)
                refine q_iinc (x1 + 1) (c := 1) 5 4 65 rfl [(5, .int (x1 + 1)), (0, q_r (mG D tc x0 y) 0), (2, .int a2), (3, .int a3), (4, .int a4)] (by decide +kernel) rfl rfl (Nat.le_of_ble_eq_true rfl) rfl ?_
                refine q_goto (off := -18) 47 (by decide +kernel) rfl ?_
                refine q_sub [1, 2, 3, 4, 0] rfl ?_
                exact ih1 (x1 + 1) J3
          refine q_sub [1, 3, 4, 5, 0] rfl ?_
          refine hL1 _ (fun J4 => ?_) _ _ _
          refine q_iload 3 4 70 rfl (by decide +kernel) rfl ?_
          refine q_istore 5 72 rfl [(5, .int a4), (0, q_r (mG D tc x0 y) 0), (2, .int a2), (3, .int a3), (4, .int a4)] (by decide +kernel) (Nat.le_of_ble_eq_true rfl) rfl ?_
          have hL2 : ∀ (n2_ : Nat) (x2 : Int32), q_V (mG D tc x0 y) m_Mo_freeStart X (fun r : Int32 × q_I × q_J => (some (.int r.1), (r.2.1, r.2.2, P))) 0 0 72 [(0, q_r (mG D tc x0 y) 0), (2, .int a2), (3, .int a3), (5, .int x2)] [] I1 J4 P (f_Mo_freeStart_L2 a2 a3 I1 J4 n2_ x2) := by
            intro n2_
            induction n2_ with
            | zero => intro x2; exact q_none
            | succ n2_ ih2 =>
              intro x2
              rw [f_Mo_freeStart_L2]
              refine q_iload 3 5 74 rfl (by decide +kernel) rfl ?_
              refine q_iload_n 2 3 75 rfl (by decide +kernel) rfl ?_
              refine q_iadd 76 rfl (by decide +kernel) ?_
              refine q_bipush 96 (c := 96) 78 rfl (by decide +kernel) rfl ?_
              refine q_icmp_gt 81 rfl 267 (off := 189) (by decide +kernel) rfl (fun g11 => ?_) (fun g11 => ?_)
              · refine q_bipush (-4) (c := -4) 269 rfl (by decide +kernel) rfl ?_
                exact q_iret (by decide +kernel) rfl rfl (Nat.le_of_ble_eq_true rfl) (Nat.le_of_ble_eq_true rfl)
              · refine q_iload 3 5 83 rfl (by decide +kernel) rfl ?_
                refine q_iload 3 5 85 rfl (by decide +kernel) rfl ?_
                refine q_iload_n 2 3 86 rfl (by decide +kernel) rfl ?_
                refine q_iadd 87 rfl (by decide +kernel) ?_
                refine q_iconst 0 (c := 0) 88 rfl (by decide +kernel) rfl ?_
                refine q_callS_l 91 rfl (av := [.int x2, .int (x2 + a3), .int 0]) (st := []) (c_Mo_slots X.1 D tc x0 y I1 J4 P x2 (x2 + a3) 0) yv_Mo_slots tw_6_112 tw_6_113 rfl (Nat.le_of_ble_eq_true rfl) (by decide +kernel) ⟨Nat.le_of_ble_eq_true rfl, Nat.le_of_ble_eq_true rfl⟩ ⟨Nat.le_of_ble_eq_true rfl, Nat.le_of_ble_eq_true rfl⟩ rfl rfl (fun w1 => ?_)
                refine q_lconst 0 (c := 0) 92 rfl (by decide +kernel) rfl ?_
                refine q_lcmp 93 rfl (by decide +kernel) ?_
                refine q_jn1 139 (fun x3 => [(0, q_r (mG D tc x0 y) 0), (2, .int a2), (3, .int a3), (5, .int x2)]) (fun x3 => [.int x3]) (fun x3 => I1) (fun x3 => J4) (fun x3 => P) (fun jk1 => if (lg_cmp w1 0) = 0 then ((jk1 (1))) else (q_b1 (f_Mo_slots x2 (x2 + a3) 0) (fun w4 => q_ix (12 + a2) 280 (fun j4 => q_ix (16 + a2) 280 (fun j5 => q_b1 (f_Mo_slots (I1 1 j4) (I1 1 j5) 0) (fun w5 => if (lg_cmp (w4 &&& w5) 0) = 0 then ((jk1 (1))) else ((jk1 (0))))))))) (by intro jk1; simp only [q_b1_if, q_b1_s, q_b1_n, q_b1_ix, q_b1_b1, q_b1_b2, q_b1_b3, q_b1_l, q_b1_ck, q_b1_el]) ?_ ?_
                · intro x3
                  refine q_istore 6 141 rfl [(6, .int x3), (0, q_r (mG D tc x0 y) 0), (2, .int a2), (3, .int a3), (5, .int x2)] (by decide +kernel) (Nat.le_of_ble_eq_true rfl) rfl ?_
                  refine q_iload 0 6 143 rfl (by decide +kernel) rfl ?_
                  refine q_jn1 191 (fun x4 => [(0, q_r (mG D tc x0 y) 0), (2, .int a2), (3, .int a3), (5, .int x2)]) (fun x4 => [.int x4]) (fun x4 => I1) (fun x4 => J4) (fun x4 => P) (fun jk2 => if x3 = 0 then ((jk2 (0))) else (q_b1 (f_Mo_slots x2 (x2 + a3) 48) (fun w2 => q_ix (12 + a2) 280 (fun j2 => q_ix (16 + a2) 280 (fun j3 => q_b1 (f_Mo_slots (I1 1 j2) (I1 1 j3) 48) (fun w3 => if (lg_cmp (w2 &&& w3) 0) = 0 then ((jk2 (1))) else ((jk2 (0))))))))) (by intro jk2; simp only [q_b1_if, q_b1_s, q_b1_n, q_b1_ix, q_b1_b1, q_b1_b2, q_b1_b3, q_b1_l, q_b1_ck, q_b1_el]) ?_ ?_
                  · intro x4
                    refine q_istore 6 193 rfl [(6, .int x4), (0, q_r (mG D tc x0 y) 0), (2, .int a2), (3, .int a3), (5, .int x2)] (by decide +kernel) (Nat.le_of_ble_eq_true rfl) rfl ?_
                    refine q_iconst 0 (c := 0) 194 rfl (by decide +kernel) rfl ?_
                    refine q_istore 7 196 rfl [(7, .int 0), (6, .int x4), (0, q_r (mG D tc x0 y) 0), (2, .int a2), (3, .int a3), (5, .int x2)] (by decide +kernel) (Nat.le_of_ble_eq_true rfl) rfl ?_
                    have hL3 : ∀ (K3 : Int32 → Option (Int32 × q_I × q_J)) (hK3 : ∀ (x7 : Int32), q_V (mG D tc x0 y) m_Mo_freeStart X (fun r : Int32 × q_I × q_J => (some (.int r.1), (r.2.1, r.2.2, P))) 0 0 253 [(0, q_r (mG D tc x0 y) 0), (2, .int a2), (3, .int a3), (5, .int x2), (6, .int x7)] [] I1 J4 P (K3 x7)) (n3_ : Nat) (x5 : Int32) (x6 : Int32), q_V (mG D tc x0 y) m_Mo_freeStart X (fun r : Int32 × q_I × q_J => (some (.int r.1), (r.2.1, r.2.2, P))) 0 0 196 [(0, q_r (mG D tc x0 y) 0), (2, .int a2), (3, .int a3), (5, .int x2), (6, .int x5), (7, .int x6)] [] I1 J4 P (f_Mo_freeStart_L3 a2 a3 I1 J4 x2 K3 n3_ x5 x6) := by
                      intro K3 hK3 n3_
                      induction n3_ with
                      | zero => intro x5 x6; exact q_none
                      | succ n3_ ih3 =>
                        intro x5 x6
                        rw [f_Mo_freeStart_L3]
                        refine q_iload 5 7 198 rfl (by decide +kernel) rfl ?_
                        refine q_aload_n 0 0 199 rfl (by decide +kernel) rfl ?_
                        refine q_geti (f := 7) 202 rfl (by decide +kernel) (cC_Mo D tc x0 y) (rfl : mKd 0 = (1, 0, 21, 0, 0)) (by decide) rfl tw_5_219 ?_
                        refine q_icmp_ge 205 rfl 253 (off := 51) (by decide +kernel) rfl (fun g5 => ?_) (fun g5 => ?_)
                        · refine q_sub [0, 1, 2, 3, 4] rfl ?_
                          exact hK3 x5
                        · refine q_iload 4 6 207 rfl (by decide +kernel) rfl ?_
                          refine q_if_eq 210 rfl 244 (off := 37) (by decide +kernel) rfl (fun g4 => ?_) (fun g4 => ?_)
                          · refine q_iconst 0 (c := 0) 245 rfl (by decide +kernel) rfl ?_
                            refine q_istore 6 247 rfl [(6, .int 0), (0, q_r (mG D tc x0 y) 0), (2, .int a2), (3, .int a3), (5, .int x2), (7, .int x6)] (by decide +kernel) (Nat.le_of_ble_eq_true rfl) rfl ?_
                            refine q_iinc (x6 + 1) (c := 1) 7 5 250 rfl [(7, .int (x6 + 1)), (6, .int 0), (0, q_r (mG D tc x0 y) 0), (2, .int a2), (3, .int a3), (5, .int x2)] (by decide +kernel) rfl rfl (Nat.le_of_ble_eq_true rfl) rfl ?_
                            refine q_goto (off := -54) 196 (by decide +kernel) rfl ?_
                            refine q_sub [2, 3, 4, 5, 1, 0] rfl ?_
                            exact ih3 0 (x6 + 1)
                          · refine q_aload_n 0 0 211 rfl (by decide +kernel) rfl ?_
                            refine q_getr (f := 8) 6 214 rfl (by decide +kernel) (cC_Mo D tc x0 y) (rfl : mKd 0 = (1, 0, 21, 0, 0)) (by decide) rfl rfl tw_5_220 ?_
                            refine q_iload 5 7 216 rfl (by decide +kernel) rfl ?_
                            refine q_iconst 3 (c := 3) 217 rfl (by decide +kernel) rfl ?_
                            refine q_callS_i 220 rfl (av := [.int x6, .int 3]) (st := [q_r (mG D tc x0 y) 6]) (c_Mo_meeting X.1 D tc x0 y I1 J4 P x6 3) yv_Mo_meeting tw_6_86 tw_6_87 rfl (Nat.le_of_ble_eq_true rfl) (by decide +kernel) ⟨Nat.le_of_ble_eq_true rfl, Nat.le_of_ble_eq_true rfl⟩ ⟨Nat.le_of_ble_eq_true rfl, Nat.le_of_ble_eq_true rfl⟩ rfl rfl (fun v5 => ?_)
                            refine q_iald (t := 0) 221 rfl (by decide +kernel) (rfl : mKd 6 = (2, 175, 0, 0, 0)) rfl (fun j1 hj1 => ?_)
                            refine q_iload_n 1 2 222 rfl (by decide +kernel) rfl ?_
                            refine q_icmp_ne 225 rfl 240 (off := 18) (by decide +kernel) rfl (fun g3 => ?_) (fun g3 => ?_)
                            · refine q_iconst 1 (c := 1) 241 rfl (by decide +kernel) rfl ?_
                              refine q_goto (off := 4) 245 (by decide +kernel) rfl ?_
                              refine q_istore 6 247 rfl [(6, .int 1), (0, q_r (mG D tc x0 y) 0), (2, .int a2), (3, .int a3), (5, .int x2), (7, .int x6)] (by decide +kernel) (Nat.le_of_ble_eq_true rfl) rfl ?_
                              refine q_iinc (x6 + 1) (c := 1) 7 5 250 rfl [(7, .int (x6 + 1)), (6, .int 1), (0, q_r (mG D tc x0 y) 0), (2, .int a2), (3, .int a3), (5, .int x2)] (by decide +kernel) rfl rfl (Nat.le_of_ble_eq_true rfl) rfl ?_
                              refine q_goto (off := -54) 196 (by decide +kernel) rfl ?_
                              refine q_sub [2, 3, 4, 5, 1, 0] rfl ?_
                              exact ih3 1 (x6 + 1)
                            · refine q_aload_n 0 0 226 rfl (by decide +kernel) rfl ?_
                              refine q_iload 5 7 228 rfl (by decide +kernel) rfl ?_
                              refine q_iload 3 5 230 rfl (by decide +kernel) rfl ?_
                              refine q_iload 3 5 232 rfl (by decide +kernel) rfl ?_
                              refine q_iload_n 2 3 233 rfl (by decide +kernel) rfl ?_
                              refine q_iadd 234 rfl (by decide +kernel) ?_
                              refine q_callV_i 237 rfl (av := [.int x6, .int x2, .int (x2 + a3)]) (o := 0) (st := []) (c_Mo_meets X.1 D tc x0 y I1 J4 P x6 x2 (x2 + a3)) yv_Mo_meets tw_6_115 tw_6_117 sw_39 (cC_Mo D tc x0 y) (rfl : mKd 0 = (1, 0, 21, 0, 0)) rfl (Nat.le_of_ble_eq_true rfl) (by decide +kernel) ⟨Nat.le_of_ble_eq_true rfl, Nat.le_of_ble_eq_true rfl⟩ ⟨Nat.le_of_ble_eq_true rfl, Nat.le_of_ble_eq_true rfl⟩ rfl rfl (fun v6 => ?_)
                              refine q_if_ne 240 rfl 244 (off := 7) (by decide +kernel) rfl (fun g2 => ?_) (fun g2 => ?_)
                              · refine q_iconst 0 (c := 0) 245 rfl (by decide +kernel) rfl ?_
                                refine q_istore 6 247 rfl [(6, .int 0), (0, q_r (mG D tc x0 y) 0), (2, .int a2), (3, .int a3), (5, .int x2), (7, .int x6)] (by decide +kernel) (Nat.le_of_ble_eq_true rfl) rfl ?_
                                refine q_iinc (x6 + 1) (c := 1) 7 5 250 rfl [(7, .int (x6 + 1)), (6, .int 0), (0, q_r (mG D tc x0 y) 0), (2, .int a2), (3, .int a3), (5, .int x2)] (by decide +kernel) rfl rfl (Nat.le_of_ble_eq_true rfl) rfl ?_
                                refine q_goto (off := -54) 196 (by decide +kernel) rfl ?_
                                refine q_sub [2, 3, 4, 5, 1, 0] rfl ?_
                                exact ih3 0 (x6 + 1)
                              · refine q_iconst 1 (c := 1) 241 rfl (by decide +kernel) rfl ?_
                                refine q_goto (off := 4) 245 (by decide +kernel) rfl ?_
                                refine q_istore 6 247 rfl [(6, .int 1), (0, q_r (mG D tc x0 y) 0), (2, .int a2), (3, .int a3), (5, .int x2), (7, .int x6)] (by decide +kernel) (Nat.le_of_ble_eq_true rfl) rfl ?_
                                refine q_iinc (x6 + 1) (c := 1) 7 5 250 rfl [(7, .int (x6 + 1)), (6, .int 1), (0, q_r (mG D tc x0 y) 0), (2, .int a2), (3, .int a3), (5, .int x2)] (by decide +kernel) rfl rfl (Nat.le_of_ble_eq_true rfl) rfl ?_
                                refine q_goto (off := -54) 196 (by decide +kernel) rfl ?_
                                refine q_sub [2, 3, 4, 5, 1, 0] rfl ?_
                                exact ih3 1 (x6 + 1)
                    refine q_sub [2, 3, 4, 5, 1, 0] rfl ?_
                    refine hL3 _ (fun x7 => ?_) _ _ _
                    refine q_iload 4 6 255 rfl (by decide +kernel) rfl ?_
                    refine q_if_eq 258 rfl 261 (off := 6) (by decide +kernel) rfl (fun g6 => ?_) (fun g6 => ?_)
                    · refine q_iinc (x2 + 1) (c := 1) 5 3 264 rfl [(5, .int (x2 + 1)), (0, q_r (mG D tc x0 y) 0), (2, .int a2), (3, .int a3), (6, .int x7)] (by decide +kernel) rfl rfl (Nat.le_of_ble_eq_true rfl) rfl ?_
                      refine q_goto (off := -192) 72 (by decide +kernel) rfl ?_
                      refine q_sub [1, 2, 3, 0] rfl ?_
                      exact ih2 (x2 + 1)
                    · refine q_iload 3 5 260 rfl (by decide +kernel) rfl ?_
                      exact q_iret (by decide +kernel) rfl rfl (Nat.le_of_ble_eq_true rfl) (Nat.le_of_ble_eq_true rfl)
                  · intro jk2 hq2
                    refine q_if_eq 146 rfl 190 (off := 47) (by decide +kernel) rfl (fun g8 => ?_) (fun g8 => ?_)
                    · refine q_iconst 0 (c := 0) 191 rfl (by decide +kernel) rfl ?_
                      refine q_sub [1, 2, 3, 4] rfl ?_
                      exact hq2 0
                    · refine q_iload 4 5 148 rfl (by decide +kernel) rfl ?_
                      refine q_iload 4 5 150 rfl (by decide +kernel) rfl ?_
                      refine q_iload_n 3 3 151 rfl (by decide +kernel) rfl ?_
                      refine q_iadd 152 rfl (by decide +kernel) ?_
                      refine q_bipush 48 (c := 48) 154 rfl (by decide +kernel) rfl ?_
                      refine q_callS_l 157 rfl (av := [.int x2, .int (x2 + a3), .int 48]) (st := []) (c_Mo_slots X.1 D tc x0 y I1 J4 P x2 (x2 + a3) 48) yv_Mo_slots tw_6_112 tw_6_113 rfl (Nat.le_of_ble_eq_true rfl) (by decide +kernel) ⟨Nat.le_of_ble_eq_true rfl, Nat.le_of_ble_eq_true rfl⟩ ⟨Nat.le_of_ble_eq_true rfl, Nat.le_of_ble_eq_true rfl⟩ rfl rfl (fun w2 => ?_)
                      refine q_aload_n 1 0 158 rfl (by decide +kernel) rfl ?_
                      refine q_getr (f := 0) 1 161 rfl (by decide +kernel) (cC_Mo D tc x0 y) (rfl : mKd 0 = (1, 0, 21, 0, 0)) (by decide) rfl rfl tw_5_212 ?_
                      refine q_bipush 12 (c := 12) 163 rfl (by decide +kernel) rfl ?_
                      refine q_iload_n 2 2 164 rfl (by decide +kernel) rfl ?_
                      refine q_iadd 165 rfl (by decide +kernel) ?_
                      refine q_iald (t := 0) 166 rfl (by decide +kernel) (rfl : mKd 1 = (2, 280, 0, 0, 0)) rfl (fun j2 hj2 => ?_)
                      refine q_aload_n 1 0 167 rfl (by decide +kernel) rfl ?_
                      refine q_getr (f := 0) 1 170 rfl (by decide +kernel) (cC_Mo D tc x0 y) (rfl : mKd 0 = (1, 0, 21, 0, 0)) (by decide) rfl rfl tw_5_212 ?_
                      refine q_bipush 16 (c := 16) 172 rfl (by decide +kernel) rfl ?_
                      refine q_iload_n 2 2 173 rfl (by decide +kernel) rfl ?_
                      refine q_iadd 174 rfl (by decide +kernel) ?_
                      refine q_iald (t := 0) 175 rfl (by decide +kernel) (rfl : mKd 1 = (2, 280, 0, 0, 0)) rfl (fun j3 hj3 => ?_)
                      refine q_bipush 48 (c := 48) 177 rfl (by decide +kernel) rfl ?_
                      refine q_callS_l 180 rfl (av := [.int (I1 1 j2), .int (I1 1 j3), .int 48]) (st := [.long w2]) (c_Mo_slots X.1 D tc x0 y I1 J4 P (I1 1 j2) (I1 1 j3) 48) yv_Mo_slots tw_6_112 tw_6_113 rfl (Nat.le_of_ble_eq_true rfl) (by decide +kernel) ⟨Nat.le_of_ble_eq_true rfl, Nat.le_of_ble_eq_true rfl⟩ ⟨Nat.le_of_ble_eq_true rfl, Nat.le_of_ble_eq_true rfl⟩ rfl rfl (fun w3 => ?_)
                      refine q_land 181 rfl (by decide +kernel) ?_
                      refine q_lconst 0 (c := 0) 182 rfl (by decide +kernel) rfl ?_
                      refine q_lcmp 183 rfl (by decide +kernel) ?_
                      refine q_if_ne 186 rfl 190 (off := 7) (by decide +kernel) rfl (fun g7 => ?_) (fun g7 => ?_)
                      · refine q_iconst 0 (c := 0) 191 rfl (by decide +kernel) rfl ?_
                        refine q_sub [1, 2, 3, 4] rfl ?_
                        exact hq2 0
                      · refine q_iconst 1 (c := 1) 187 rfl (by decide +kernel) rfl ?_
                        refine q_goto (off := 4) 191 (by decide +kernel) rfl ?_
                        refine q_sub [1, 2, 3, 4] rfl ?_
                        exact hq2 1
                · intro jk1 hq1
                  refine q_if_eq 96 rfl 134 (off := 41) (by decide +kernel) rfl (fun g10 => ?_) (fun g10 => ?_)
                  · refine q_iconst 1 (c := 1) 135 rfl (by decide +kernel) rfl ?_
                    refine q_goto (off := 4) 139 (by decide +kernel) rfl ?_
                    exact hq1 1
                  · refine q_iload 3 5 98 rfl (by decide +kernel) rfl ?_
                    refine q_iload 3 5 100 rfl (by decide +kernel) rfl ?_
                    refine q_iload_n 2 3 101 rfl (by decide +kernel) rfl ?_
                    refine q_iadd 102 rfl (by decide +kernel) ?_
                    refine q_iconst 0 (c := 0) 103 rfl (by decide +kernel) rfl ?_
                    refine q_callS_l 106 rfl (av := [.int x2, .int (x2 + a3), .int 0]) (st := []) (c_Mo_slots X.1 D tc x0 y I1 J4 P x2 (x2 + a3) 0) yv_Mo_slots tw_6_112 tw_6_113 rfl (Nat.le_of_ble_eq_true rfl) (by decide +kernel) ⟨Nat.le_of_ble_eq_true rfl, Nat.le_of_ble_eq_true rfl⟩ ⟨Nat.le_of_ble_eq_true rfl, Nat.le_of_ble_eq_true rfl⟩ rfl rfl (fun w4 => ?_)
                    refine q_aload_n 0 0 107 rfl (by decide +kernel) rfl ?_
                    refine q_getr (f := 0) 1 110 rfl (by decide +kernel) (cC_Mo D tc x0 y) (rfl : mKd 0 = (1, 0, 21, 0, 0)) (by decide) rfl rfl tw_5_212 ?_
                    refine q_bipush 12 (c := 12) 112 rfl (by decide +kernel) rfl ?_
                    refine q_iload_n 1 2 113 rfl (by decide +kernel) rfl ?_
                    refine q_iadd 114 rfl (by decide +kernel) ?_
                    refine q_iald (t := 0) 115 rfl (by decide +kernel) (rfl : mKd 1 = (2, 280, 0, 0, 0)) rfl (fun j4 hj4 => ?_)
                    refine q_aload_n 0 0 116 rfl (by decide +kernel) rfl ?_
                    refine q_getr (f := 0) 1 119 rfl (by decide +kernel) (cC_Mo D tc x0 y) (rfl : mKd 0 = (1, 0, 21, 0, 0)) (by decide) rfl rfl tw_5_212 ?_
                    refine q_bipush 16 (c := 16) 121 rfl (by decide +kernel) rfl ?_
                    refine q_iload_n 1 2 122 rfl (by decide +kernel) rfl ?_
                    refine q_iadd 123 rfl (by decide +kernel) ?_
                    refine q_iald (t := 0) 124 rfl (by decide +kernel) (rfl : mKd 1 = (2, 280, 0, 0, 0)) rfl (fun j5 hj5 => ?_)
                    refine q_iconst 0 (c := 0) 125 rfl (by decide +kernel) rfl ?_
                    refine q_callS_l 128 rfl (av := [.int (I1 1 j4), .int (I1 1 j5), .int 0]) (st := [.long w4]) (c_Mo_slots X.1 D tc x0 y I1 J4 P (I1 1 j4) (I1 1 j5) 0) yv_Mo_slots tw_6_112 tw_6_113 rfl (Nat.le_of_ble_eq_true rfl) (by decide +kernel) ⟨Nat.le_of_ble_eq_true rfl, Nat.le_of_ble_eq_true rfl⟩ ⟨Nat.le_of_ble_eq_true rfl, Nat.le_of_ble_eq_true rfl⟩ rfl rfl (fun w5 => ?_)
                    refine q_land 129 rfl (by decide +kernel) ?_
                    refine q_lconst 0 (c := 0) 130 rfl (by decide +kernel) rfl ?_
                    refine q_lcmp 131 rfl (by decide +kernel) ?_
                    refine q_if_ne 134 rfl 138 (off := 7) (by decide +kernel) rfl (fun g9 => ?_) (fun g9 => ?_)
                    · refine q_iconst 0 (c := 0) 139 rfl (by decide +kernel) rfl ?_
                      exact hq1 0
                    · refine q_iconst 1 (c := 1) 135 rfl (by decide +kernel) rfl ?_
                      refine q_goto (off := 4) 139 (by decide +kernel) rfl ?_
                      exact hq1 1
          refine q_sub [1, 2, 3, 0] rfl ?_
          exact hL2 _ _
        · refine q_iconst (-1) (c := -1) 38 rfl (by decide +kernel) rfl ?_
          exact q_iret (by decide +kernel) rfl rfl (Nat.le_of_ble_eq_true rfl) (Nat.le_of_ble_eq_true rfl)
def f_Mo_commonStart_L2 (x1 : Int32) (x2 : Int32) (K : q_I → q_J → Option (Int32 × q_I × q_J)) : Nat → Int32 → q_I → q_J → Option (Int32 × q_I × q_J)
  | 0, _, _, _ => none
  | n + 1, x3, I9, J3 => if (4 : Int32) ≤ x3 then ((K I9 J3)) else (q_b1 (f_Mo_meeting x1 1) (fun v10 => q_ix v10 175 (fun j6 => q_l (q_ui I9 6 j6 x2) (fun I10 => q_b1 (f_Mo_meeting x1 3) (fun v11 => q_ix v11 175 (fun j7 => q_l (q_ui I10 6 j7 x3) (fun I11 => q_b2 (f_Mo_isValid I11 J3) (fun v12 J4 => if v12 = 0 then ((f_Mo_commonStart_L2 x1 x2 K n (x3 + 1) I11 J4)) else (some (((10 * x2) + x3), I11, J4))))))))))
def f_Mo_commonStart_L1 (x1 : Int32) : Nat → Int32 → q_I → q_J → Option (Int32 × q_I × q_J)
  | 0, _, _, _ => none
  | n + 1, x2, I8, J2 => if (96 : Int32) ≤ x2 then (some ((-4), I8, J2)) else (f_Mo_commonStart_L2 x1 x2 (fun (I12 : q_I) (J5 : q_J) => (f_Mo_commonStart_L1 x1 n (x2 + 1) I12 J5)) q_fu 0 I8 J2)
def f_Mo_commonStart (I : q_I) (J : q_J) (a1 : Int32) (a2 : Int32) (a3 : Int32) (a4 : Int32) : Option (Int32 × q_I × q_J) :=
  q_b1 (f_Mo_isReplica a1) (fun v1 => if v1 = 0 then (some ((-1), I, J)) else (q_b1 (f_Mo_in a2 1 63) (fun v2 => if v2 = 0 then (some ((-1), I, J)) else (q_b1 (f_Mo_in a3 1 8) (fun v3 => if v3 = 0 then (some ((-1), I, J)) else (q_b1 (f_Mo_in a4 0 95) (fun v4 => if v4 = 0 then (some ((-1), I, J)) else (q_b2 (f_Mo_shows I J a1) (fun I1 J1 => q_l (I1 0 7 : Int32) (fun x1 => q_l (q_ui I1 0 7 ((I1 0 7) + 1)) (fun I2 => q_b1 (f_Mo_meeting x1 0) (fun v5 => q_ix v5 175 (fun j1 => q_l (q_ui I2 6 j1 (-1)) (fun I3 => q_b1 (f_Mo_meeting x1 2) (fun v6 => q_ix v6 175 (fun j2 => q_l (q_ui I3 6 j2 a3) (fun I4 => q_b1 (f_Mo_meeting x1 4) (fun v7 => q_ix v7 175 (fun j3 => q_l (q_ui I4 6 j3 a2) (fun I5 => q_b1 (f_Mo_meeting x1 5) (fun v8 => q_ix v8 175 (fun j4 => q_l (q_ui I5 6 j4 0) (fun I6 => q_b1 (f_Mo_meeting x1 6) (fun v9 => q_ix v9 175 (fun j5 => q_l (q_ui I6 6 j5 1) (fun I7 => f_Mo_commonStart_L1 x1 q_fu a4 I7 J1))))))))))))))))))))))))))
def y_Mo_commonStart : MethodName := ⟨"CalendarReplicasModel", "commonStart", "(IIII)I"⟩
def m_Mo_commonStart : q_M := (prog_11_method_76_code, 8, "CalendarReplicasModel", { frames := 8, cells := 0, slots := 0, locals := 192 }, (some FieldType.int))
theorem yv_Mo_commonStart : q_Y y_Mo_commonStart m_Mo_commonStart 4 := ⟨rfl, ⟨by decide, by decide⟩, by decide +kernel, tw_7_116, tw_1_15⟩
set_option maxRecDepth 100000 in
set_option maxHeartbeats 4000000 in
theorem c_Mo_commonStart (l : Launch) (D : va_G) (tc : Nat → ClassId) (x0 y : Nat) (I : q_I) (J : q_J) (P : q_P) (a1 : Int32) (a2 : Int32) (a3 : Int32) (a4 : Int32) : q_Ct l (mG D tc x0 y) y_Mo_commonStart m_Mo_commonStart [q_r (mG D tc x0 y) 0, .int a1, .int a2, .int a3, .int a4] (I, J, P) (f_Mo_commonStart I J a1 a2 a3 a4) (fun r : Int32 × q_I × q_J => (some (.int r.1), (r.2.1, r.2.2, P))) := by
  refine q_Ct_of (mIn D tc x0 y) (by decide) rfl (Nat.le_of_ble_eq_true rfl) rfl (fun X hX => ?_)
  subst hX
  unfold f_Mo_commonStart
  refine q_iload_n 1 1 1 rfl (by decide +kernel) rfl ?_
  refine q_callS_i 4 rfl (av := [.int a1]) (st := []) (c_Mo_isReplica X.1 D tc x0 y I J P a1) yv_Mo_isReplica tw_6_127 tw_6_128 rfl (Nat.le_of_ble_eq_true rfl) (by decide +kernel) ⟨Nat.le_of_ble_eq_true rfl, Nat.le_of_ble_eq_true rfl⟩ ⟨Nat.le_of_ble_eq_true rfl, Nat.le_of_ble_eq_true rfl⟩ rfl rfl (fun v1 => ?_)
  refine q_if_eq 7 rfl 38 (off := 34) (by decide +kernel) rfl (fun g7 => ?_) (fun g7 => ?_)
  · refine q_iconst (-1) (c := -1) 39 rfl (by decide +kernel) rfl ?_
    exact q_iret (by decide +kernel) rfl rfl (Nat.le_of_ble_eq_true rfl) (Nat.le_of_ble_eq_true rfl)
  · refine q_iload_n 2 2 8 rfl (by decide +kernel) rfl ?_
    refine q_iconst 1 (c := 1) 9 rfl (by decide +kernel) rfl ?_
    refine q_bipush 63 (c := 63) 11 rfl (by decide +kernel) rfl ?_
    refine q_callS_i 14 rfl (av := [.int a2, .int 1, .int 63]) (st := []) (c_Mo_in X.1 D tc x0 y I J P a2 1 63) yv_Mo_in tw_6_40 tw_6_41 rfl (Nat.le_of_ble_eq_true rfl) (by decide +kernel) ⟨Nat.le_of_ble_eq_true rfl, Nat.le_of_ble_eq_true rfl⟩ ⟨Nat.le_of_ble_eq_true rfl, Nat.le_of_ble_eq_true rfl⟩ rfl rfl (fun v2 => ?_)
    refine q_if_eq 17 rfl 38 (off := 24) (by decide +kernel) rfl (fun g6 => ?_) (fun g6 => ?_)
    · refine q_iconst (-1) (c := -1) 39 rfl (by decide +kernel) rfl ?_
      exact q_iret (by decide +kernel) rfl rfl (Nat.le_of_ble_eq_true rfl) (Nat.le_of_ble_eq_true rfl)
    · refine q_iload_n 3 3 18 rfl (by decide +kernel) rfl ?_
      refine q_iconst 1 (c := 1) 19 rfl (by decide +kernel) rfl ?_
      refine q_bipush 8 (c := 8) 21 rfl (by decide +kernel) rfl ?_
      refine q_callS_i 24 rfl (av := [.int a3, .int 1, .int 8]) (st := []) (c_Mo_in X.1 D tc x0 y I J P a3 1 8) yv_Mo_in tw_6_40 tw_6_41 rfl (Nat.le_of_ble_eq_true rfl) (by decide +kernel) ⟨Nat.le_of_ble_eq_true rfl, Nat.le_of_ble_eq_true rfl⟩ ⟨Nat.le_of_ble_eq_true rfl, Nat.le_of_ble_eq_true rfl⟩ rfl rfl (fun v3 => ?_)
      refine q_if_eq 27 rfl 38 (off := 14) (by decide +kernel) rfl (fun g5 => ?_) (fun g5 => ?_)
      · refine q_iconst (-1) (c := -1) 39 rfl (by decide +kernel) rfl ?_
        exact q_iret (by decide +kernel) rfl rfl (Nat.le_of_ble_eq_true rfl) (Nat.le_of_ble_eq_true rfl)
      · refine q_iload 4 4 29 rfl (by decide +kernel) rfl ?_
        refine q_iconst 0 (c := 0) 30 rfl (by decide +kernel) rfl ?_
        refine q_bipush 95 (c := 95) 32 rfl (by decide +kernel) rfl ?_
        refine q_callS_i 35 rfl (av := [.int a4, .int 0, .int 95]) (st := []) (c_Mo_in X.1 D tc x0 y I J P a4 0 95) yv_Mo_in tw_6_40 tw_6_41 rfl (Nat.le_of_ble_eq_true rfl) (by decide +kernel) ⟨Nat.le_of_ble_eq_true rfl, Nat.le_of_ble_eq_true rfl⟩ ⟨Nat.le_of_ble_eq_true rfl, Nat.le_of_ble_eq_true rfl⟩ rfl rfl (fun v4 => ?_)
        refine q_if_ne 38 rfl 40 (off := 5) (by decide +kernel) rfl (fun g4 => ?_) (fun g4 => ?_)
        · refine q_aload_n 0 0 41 rfl (by decide +kernel) rfl ?_
          refine q_iload_n 1 1 42 rfl (by decide +kernel) rfl ?_
          refine q_callV_vIJ 45 rfl (av := [.int a1]) (o := 0) (st := []) (c_Mo_shows X.1 D tc x0 y I J P a1) yv_Mo_shows tw_6_201 tw_6_203 sw_55 (cC_Mo D tc x0 y) (rfl : mKd 0 = (1, 0, 21, 0, 0)) rfl (Nat.le_of_ble_eq_true rfl) (by decide +kernel) ⟨Nat.le_of_ble_eq_true rfl, Nat.le_of_ble_eq_true rfl⟩ ⟨Nat.le_of_ble_eq_true rfl, Nat.le_of_ble_eq_true rfl⟩ rfl rfl (fun I1 J1 => ?_)
          refine q_aload_n 0 0 46 rfl (by decide +kernel) rfl ?_
          refine q_geti (f := 7) 49 rfl (by decide +kernel) (cC_Mo D tc x0 y) (rfl : mKd 0 = (1, 0, 21, 0, 0)) (by decide) rfl tw_5_219 ?_
          refine q_leti (fun x1 => ?_)
          refine q_istore 5 51 rfl [(5, .int x1), (0, q_r (mG D tc x0 y) 0), (1, .int a1), (2, .int a2), (3, .int a3), (4, .int a4)] (by decide +kernel) (Nat.le_of_ble_eq_true rfl) rfl ?_
          refine q_aload_n 1 0 52 rfl (by decide +kernel) rfl ?_
          refine q_dup 53 rfl (by decide +kernel) rfl ?_
          refine q_geti (f := 7) 56 rfl (by decide +kernel) (cC_Mo D tc x0 y) (rfl : mKd 0 = (1, 0, 21, 0, 0)) (by decide) rfl tw_5_219 ?_
          refine q_iconst 1 (c := 1) 57 rfl (by decide +kernel) rfl ?_
          refine q_iadd 58 rfl (by decide +kernel) ?_
          refine q_puti (f := 7) 61 rfl (by decide +kernel) (cC_Mo D tc x0 y) (rfl : mKd 0 = (1, 0, 21, 0, 0)) (by decide) rfl rfl rfl tw_5_219 ?_
          refine q_letI (fun I2 => ?_)
          refine q_aload_n 1 0 62 rfl (by decide +kernel) rfl ?_
          refine q_getr (f := 8) 6 65 rfl (by decide +kernel) (cC_Mo D tc x0 y) (rfl : mKd 0 = (1, 0, 21, 0, 0)) (by decide) rfl rfl tw_5_220 ?_
          refine q_iload 0 5 67 rfl (by decide +kernel) rfl ?_
          refine q_iconst 0 (c := 0) 68 rfl (by decide +kernel) rfl ?_
          refine q_callS_i 71 rfl (av := [.int x1, .int 0]) (st := [q_r (mG D tc x0 y) 6]) (c_Mo_meeting X.1 D tc x0 y I2 J1 P x1 0) yv_Mo_meeting tw_6_86 tw_6_87 rfl (Nat.le_of_ble_eq_true rfl) (by decide +kernel) ⟨Nat.le_of_ble_eq_true rfl, Nat.le_of_ble_eq_true rfl⟩ ⟨Nat.le_of_ble_eq_true rfl, Nat.le_of_ble_eq_true rfl⟩ rfl rfl (fun v5 => ?_)
          refine q_iconst (-1) (c := -1) 72 rfl (by decide +kernel) rfl ?_
          refine q_iast (t := 0) 73 rfl (by decide +kernel) (rfl : mKd 6 = (2, 175, 0, 0, 0)) rfl (fun j1 hj1 => ?_)
          refine q_letI (fun I3 => ?_)
          refine q_aload_n 1 0 74 rfl (by decide +kernel) rfl ?_
          refine q_getr (f := 8) 6 77 rfl (by decide +kernel) (cC_Mo D tc x0 y) (rfl : mKd 0 = (1, 0, 21, 0, 0)) (by decide) rfl rfl tw_5_220 ?_
          refine q_iload 0 5 79 rfl (by decide +kernel) rfl ?_
          refine q_iconst 2 (c := 2) 80 rfl (by decide +kernel) rfl ?_
          refine q_callS_i 83 rfl (av := [.int x1, .int 2]) (st := [q_r (mG D tc x0 y) 6]) (c_Mo_meeting X.1 D tc x0 y I3 J1 P x1 2) yv_Mo_meeting tw_6_86 tw_6_87 rfl (Nat.le_of_ble_eq_true rfl) (by decide +kernel) ⟨Nat.le_of_ble_eq_true rfl, Nat.le_of_ble_eq_true rfl⟩ ⟨Nat.le_of_ble_eq_true rfl, Nat.le_of_ble_eq_true rfl⟩ rfl rfl (fun v6 => ?_)
          refine q_iload_n 4 3 84 rfl (by decide +kernel) rfl ?_
          refine q_iast (t := 0) 85 rfl (by decide +kernel) (rfl : mKd 6 = (2, 175, 0, 0, 0)) rfl (fun j2 hj2 => ?_)
          refine q_letI (fun I4 => ?_)
          refine q_aload_n 1 0 86 rfl (by decide +kernel) rfl ?_
          refine q_getr (f := 8) 6 89 rfl (by decide +kernel) (cC_Mo D tc x0 y) (rfl : mKd 0 = (1, 0, 21, 0, 0)) (by decide) rfl rfl tw_5_220 ?_
          refine q_iload 0 5 91 rfl (by decide +kernel) rfl ?_
          refine q_iconst 4 (c := 4) 92 rfl (by decide +kernel) rfl ?_
          refine q_callS_i 95 rfl (av := [.int x1, .int 4]) (st := [q_r (mG D tc x0 y) 6]) (c_Mo_meeting X.1 D tc x0 y I4 J1 P x1 4) yv_Mo_meeting tw_6_86 tw_6_87 rfl (Nat.le_of_ble_eq_true rfl) (by decide +kernel) ⟨Nat.le_of_ble_eq_true rfl, Nat.le_of_ble_eq_true rfl⟩ ⟨Nat.le_of_ble_eq_true rfl, Nat.le_of_ble_eq_true rfl⟩ rfl rfl (fun v7 => ?_)
          refine q_iload_n 3 2 96 rfl (by decide +kernel) rfl ?_
          refine q_iast (t := 0) 97 rfl (by decide +kernel) (rfl : mKd 6 = (2, 175, 0, 0, 0)) rfl (fun j3 hj3 => ?_)
          refine q_letI (fun I5 => ?_)
          refine q_aload_n 1 0 98 rfl (by decide +kernel) rfl ?_
          refine q_getr (f := 8) 6 101 rfl (by decide +kernel) (cC_Mo D tc x0 y) (rfl : mKd 0 = (1, 0, 21, 0, 0)) (by decide) rfl rfl tw_5_220 ?_
          refine q_iload 0 5 103 rfl (by decide +kernel) rfl ?_
          refine q_iconst 5 (c := 5) 104 rfl (by decide +kernel) rfl ?_
          refine q_callS_i 107 rfl (av := [.int x1, .int 5]) (st := [q_r (mG D tc x0 y) 6]) (c_Mo_meeting X.1 D tc x0 y I5 J1 P x1 5) yv_Mo_meeting tw_6_86 tw_6_87 rfl (Nat.le_of_ble_eq_true rfl) (by decide +kernel) ⟨Nat.le_of_ble_eq_true rfl, Nat.le_of_ble_eq_true rfl⟩ ⟨Nat.le_of_ble_eq_true rfl, Nat.le_of_ble_eq_true rfl⟩ rfl rfl (fun v8 => ?_)
          refine q_iconst 0 (c := 0) 108 rfl (by decide +kernel) rfl ?_
          refine q_iast (t := 0) 109 rfl (by decide +kernel) (rfl : mKd 6 = (2, 175, 0, 0, 0)) rfl (fun j4 hj4 => ?_)
          refine q_letI (fun I6 => ?_)
          refine q_aload_n 1 0 110 rfl (by decide +kernel) rfl ?_
          refine q_getr (f := 8) 6 113 rfl (by decide +kernel) (cC_Mo D tc x0 y) (rfl : mKd 0 = (1, 0, 21, 0, 0)) (by decide) rfl rfl tw_5_220 ?_
          refine q_iload 0 5 115 rfl (by decide +kernel) rfl ?_
          refine q_bipush 6 (c := 6) 117 rfl (by decide +kernel) rfl ?_
          refine q_callS_i 120 rfl (av := [.int x1, .int 6]) (st := [q_r (mG D tc x0 y) 6]) (c_Mo_meeting X.1 D tc x0 y I6 J1 P x1 6) yv_Mo_meeting tw_6_86 tw_6_87 rfl (Nat.le_of_ble_eq_true rfl) (by decide +kernel) ⟨Nat.le_of_ble_eq_true rfl, Nat.le_of_ble_eq_true rfl⟩ ⟨Nat.le_of_ble_eq_true rfl, Nat.le_of_ble_eq_true rfl⟩ rfl rfl (fun v9 => ?_)
          refine q_iconst 1 (c := 1) 121 rfl (by decide +kernel) rfl ?_
          refine q_iast (t := 0) 122 rfl (by decide +kernel) (rfl : mKd 6 = (2, 175, 0, 0, 0)) rfl (fun j5 hj5 => ?_)
          refine q_letI (fun I7 => ?_)
          refine q_iload 5 4 124 rfl (by decide +kernel) rfl ?_
          refine q_istore 6 126 rfl [(6, .int a4), (5, .int x1), (0, q_r (mG D tc x0 y) 0), (1, .int a1), (2, .int a2), (3, .int a3), (4, .int a4)] (by decide +kernel) (Nat.le_of_ble_eq_true rfl) rfl ?_
          have hL1 : ∀ (n1_ : Nat) (x2 : Int32) (I8 : q_I) (J2 : q_J), q_V (mG D tc x0 y) m_Mo_commonStart X (fun r : Int32 × q_I × q_J => (some (.int r.1), (r.2.1, r.2.2, P))) 0 0 126 [(0, q_r (mG D tc x0 y) 0), (5, .int x1), (6, .int x2)] [] I8 J2 P (f_Mo_commonStart_L1 x1 n1_ x2 I8 J2) := by
            intro n1_
            induction n1_ with
            | zero => intro x2 I8 J2; exact q_none
            | succ n1_ ih1 =>
              intro x2 I8 J2
              rw [f_Mo_commonStart_L1]
              refine q_iload 2 6 128 rfl (by decide +kernel) rfl ?_
              refine q_bipush 96 (c := 96) 130 rfl (by decide +kernel) rfl ?_
              refine q_icmp_ge 133 rfl 196 (off := 66) (by decide +kernel) rfl (fun g3 => ?_) (fun g3 => ?_)
              · refine q_bipush (-4) (c := -4) 198 rfl (by decide +kernel) rfl ?_
                exact q_iret (by decide +kernel) rfl rfl (Nat.le_of_ble_eq_true rfl) (Nat.le_of_ble_eq_true rfl)
              · refine q_iconst 0 (c := 0) 134 rfl (by decide +kernel) rfl ?_
                refine q_istore 7 136 rfl [(7, .int 0), (0, q_r (mG D tc x0 y) 0), (5, .int x1), (6, .int x2)] (by decide +kernel) (Nat.le_of_ble_eq_true rfl) rfl ?_
                have hL2 : ∀ (K2 : q_I → q_J → Option (Int32 × q_I × q_J)) (hK2 : ∀ (I12 : q_I) (J5 : q_J), q_V (mG D tc x0 y) m_Mo_commonStart X (fun r : Int32 × q_I × q_J => (some (.int r.1), (r.2.1, r.2.2, P))) 0 0 190 [(0, q_r (mG D tc x0 y) 0), (5, .int x1), (6, .int x2)] [] I12 J5 P (K2 I12 J5)) (n2_ : Nat) (x3 : Int32) (I9 : q_I) (J3 : q_J), q_V (mG D tc x0 y) m_Mo_commonStart X (fun r : Int32 × q_I × q_J => (some (.int r.1), (r.2.1, r.2.2, P))) 0 0 136 [(0, q_r (mG D tc x0 y) 0), (5, .int x1), (6, .int x2), (7, .int x3)] [] I9 J3 P (f_Mo_commonStart_L2 x1 x2 K2 n2_ x3 I9 J3) := by
                  intro K2 hK2 n2_
                  induction n2_ with
                  | zero => intro x3 I9 J3; exact q_none
                  | succ n2_ ih2 =>
                    intro x3 I9 J3
                    rw [f_Mo_commonStart_L2]
                    refine q_iload 3 7 138 rfl (by decide +kernel) rfl ?_
                    refine q_iconst 4 (c := 4) 139 rfl (by decide +kernel) rfl ?_
                    refine q_icmp_ge 142 rfl 190 (off := 51) (by decide +kernel) rfl (fun g2 => ?_) (fun g2 => ?_)
                    · refine q_sub [0, 1, 2] rfl ?_
                      exact hK2 I9 J3
                    · refine q_aload_n 0 0 143 rfl (by decide +kernel) rfl ?_
                      refine q_getr (f := 8) 6 146 rfl (by decide +kernel) (cC_Mo D tc x0 y) (rfl : mKd 0 = (1, 0, 21, 0, 0)) (by decide) rfl rfl tw_5_220 ?_
                      refine q_iload 1 5 148 rfl (by decide +kernel) rfl ?_
                      refine q_iconst 1 (c := 1) 149 rfl (by decide +kernel) rfl ?_
                      refine q_callS_i 152 rfl (av := [.int x1, .int 1]) (st := [q_r (mG D tc x0 y) 6]) (c_Mo_meeting X.1 D tc x0 y I9 J3 P x1 1) yv_Mo_meeting tw_6_86 tw_6_87 rfl (Nat.le_of_ble_eq_true rfl) (by decide +kernel) ⟨Nat.le_of_ble_eq_true rfl, Nat.le_of_ble_eq_true rfl⟩ ⟨Nat.le_of_ble_eq_true rfl, Nat.le_of_ble_eq_true rfl⟩ rfl rfl (fun v10 => ?_)
                      refine q_iload 2 6 154 rfl (by decide +kernel) rfl ?_
                      refine q_iast (t := 0) 155 rfl (by decide +kernel) (rfl : mKd 6 = (2, 175, 0, 0, 0)) rfl (fun j6 hj6 => ?_)
                      refine q_letI (fun I10 => ?_)
                      refine q_aload_n 0 0 156 rfl (by decide +kernel) rfl ?_
                      refine q_getr (f := 8) 6 159 rfl (by decide +kernel) (cC_Mo D tc x0 y) (rfl : mKd 0 = (1, 0, 21, 0, 0)) (by decide) rfl rfl tw_5_220 ?_
                      refine q_iload 1 5 161 rfl (by decide +kernel) rfl ?_
                      refine q_iconst 3 (c := 3) 162 rfl (by decide +kernel) rfl ?_
                      refine q_callS_i 165 rfl (av := [.int x1, .int 3]) (st := [q_r (mG D tc x0 y) 6]) (c_Mo_meeting X.1 D tc x0 y I10 J3 P x1 3) yv_Mo_meeting tw_6_86 tw_6_87 rfl (Nat.le_of_ble_eq_true rfl) (by decide +kernel) ⟨Nat.le_of_ble_eq_true rfl, Nat.le_of_ble_eq_true rfl⟩ ⟨Nat.le_of_ble_eq_true rfl, Nat.le_of_ble_eq_true rfl⟩ rfl rfl (fun v11 => ?_)
                      refine q_iload 3 7 167 rfl (by decide +kernel) rfl ?_
                      refine q_iast (t := 0) 168 rfl (by decide +kernel) (rfl : mKd 6 = (2, 175, 0, 0, 0)) rfl (fun j7 hj7 => ?_)
                      refine q_letI (fun I11 => ?_)
                      refine q_aload_n 0 0 169 rfl (by decide +kernel) rfl ?_
                      refine q_callV_iJ 172 rfl (av := []) (o := 0) (st := []) (c_Mo_isValid X.1 D tc x0 y I11 J3 P ) yv_Mo_isValid tw_6_93 tw_6_95 sw_35 (cC_Mo D tc x0 y) (rfl : mKd 0 = (1, 0, 21, 0, 0)) rfl (Nat.le_of_ble_eq_true rfl) (by decide +kernel) ⟨Nat.le_of_ble_eq_true rfl, Nat.le_of_ble_eq_true rfl⟩ ⟨Nat.le_of_ble_eq_true rfl, Nat.le_of_ble_eq_true rfl⟩ rfl rfl (fun v12 J4 => ?_)
                      refine q_if_eq 175 rfl 184 (off := 12) (by decide +kernel) rfl (fun g1 => ?_) (fun g1 => ?_)
                      · refine q_iinc (x3 + 1) (c := 1) 7 3 187 rfl [(7, .int (x3 + 1)), (0, q_r (mG D tc x0 y) 0), (5, .int x1), (6, .int x2)] (by decide +kernel) rfl rfl (Nat.le_of_ble_eq_true rfl) rfl ?_
                        refine q_goto (off := -51) 136 (by decide +kernel) rfl ?_
                        refine q_sub [1, 2, 3, 0] rfl ?_
                        exact ih2 (x3 + 1) I11 J4
                      · refine q_bipush 10 (c := 10) 177 rfl (by decide +kernel) rfl ?_
                        refine q_iload 2 6 179 rfl (by decide +kernel) rfl ?_
                        refine q_imul 180 rfl (by decide +kernel) ?_
                        refine q_iload 3 7 182 rfl (by decide +kernel) rfl ?_
                        refine q_iadd 183 rfl (by decide +kernel) ?_
                        exact q_iret (by decide +kernel) rfl rfl (Nat.le_of_ble_eq_true rfl) (Nat.le_of_ble_eq_true rfl)
                refine q_sub [1, 2, 3, 0] rfl ?_
                refine hL2 _ (fun I12 J5 => ?_) _ _ _ _
                refine q_iinc (x2 + 1) (c := 1) 6 2 193 rfl [(6, .int (x2 + 1)), (0, q_r (mG D tc x0 y) 0), (5, .int x1)] (by decide +kernel) rfl rfl (Nat.le_of_ble_eq_true rfl) rfl ?_
                refine q_goto (off := -67) 126 (by decide +kernel) rfl ?_
                refine q_sub [1, 2, 0] rfl ?_
                exact ih1 (x2 + 1) I12 J5
          refine q_sub [2, 1, 0] rfl ?_
          exact hL1 _ _ _ _
        · refine q_iconst (-1) (c := -1) 39 rfl (by decide +kernel) rfl ?_
          exact q_iret (by decide +kernel) rfl rfl (Nat.le_of_ble_eq_true rfl) (Nat.le_of_ble_eq_true rfl)
def f_Mo_busySlots_L1 (a2 : Int32) (I1 : q_I) (J1 : q_J) : Nat → Int32 → Int32 → Option (Int32 × q_I × q_J)
  | 0, _, _ => none
  | n + 1, x1, x2 => if (I1 0 7) ≤ x2 then (some (x1, I1, J1)) else (q_b1 (f_Mo_meeting x2 4) (fun v3 => q_ix v3 175 (fun j1 => q_b1 (if (((I1 6 j1) >>> (a2 &&& 31)) &&& 1) = 1 then ((some (1))) else ((some (0))) : Option (Int32)) (fun (x3 : Int32) => if x3 = 0 then (q_l (x1 + 0 : Int32) (fun x4 => (f_Mo_busySlots_L1 a2 I1 J1 n x4 (x2 + 1)))) else (q_b1 (f_Mo_meeting x2 6) (fun v4 => q_ix v4 175 (fun j2 => q_b1 (f_Mo_meeting x2 2) (fun v5 => q_ix v5 175 (fun j3 => q_l (x1 + ((I1 6 j2) * (I1 6 j3)) : Int32) (fun x5 => (f_Mo_busySlots_L1 a2 I1 J1 n x5 (x2 + 1))))))))))))
def f_Mo_busySlots (I : q_I) (J : q_J) (a1 : Int32) (a2 : Int32) : Option (Int32 × q_I × q_J) :=
  q_b1 (f_Mo_isReplica a1) (fun v1 => if v1 = 0 then (some ((-1), I, J)) else (q_b1 (f_Mo_in a2 0 5) (fun v2 => if v2 = 0 then (some ((-1), I, J)) else (q_b2 (f_Mo_shows I J a1) (fun I1 J1 => f_Mo_busySlots_L1 a2 I1 J1 q_fu 0 0)))))
def y_Mo_busySlots : MethodName := ⟨"CalendarReplicasModel", "busySlots", "(II)I"⟩
def m_Mo_busySlots : q_M := (prog_11_method_77_code, 6, "CalendarReplicasModel", { frames := 8, cells := 0, slots := 0, locals := 192 }, (some FieldType.int))
theorem yv_Mo_busySlots : q_Y y_Mo_busySlots m_Mo_busySlots 2 := ⟨rfl, ⟨by decide, by decide⟩, by decide +kernel, tw_7_120, tw_1_15⟩
set_option maxRecDepth 100000 in
set_option maxHeartbeats 4000000 in
theorem c_Mo_busySlots (l : Launch) (D : va_G) (tc : Nat → ClassId) (x0 y : Nat) (I : q_I) (J : q_J) (P : q_P) (a1 : Int32) (a2 : Int32) : q_Ct l (mG D tc x0 y) y_Mo_busySlots m_Mo_busySlots [q_r (mG D tc x0 y) 0, .int a1, .int a2] (I, J, P) (f_Mo_busySlots I J a1 a2) (fun r : Int32 × q_I × q_J => (some (.int r.1), (r.2.1, r.2.2, P))) := by
  refine q_Ct_of (mIn D tc x0 y) (by decide) rfl (Nat.le_of_ble_eq_true rfl) rfl (fun X hX => ?_)
  subst hX
  unfold f_Mo_busySlots
  refine q_iload_n 1 1 1 rfl (by decide +kernel) rfl ?_
  refine q_callS_i 4 rfl (av := [.int a1]) (st := []) (c_Mo_isReplica X.1 D tc x0 y I J P a1) yv_Mo_isReplica tw_6_127 tw_6_128 rfl (Nat.le_of_ble_eq_true rfl) (by decide +kernel) ⟨Nat.le_of_ble_eq_true rfl, Nat.le_of_ble_eq_true rfl⟩ ⟨Nat.le_of_ble_eq_true rfl, Nat.le_of_ble_eq_true rfl⟩ rfl rfl (fun v1 => ?_)
  refine q_if_eq 7 rfl 16 (off := 12) (by decide +kernel) rfl (fun g5 => ?_) (fun g5 => ?_)
  · refine q_iconst (-1) (c := -1) 17 rfl (by decide +kernel) rfl ?_
    exact q_iret (by decide +kernel) rfl rfl (Nat.le_of_ble_eq_true rfl) (Nat.le_of_ble_eq_true rfl)
  · refine q_iload_n 2 2 8 rfl (by decide +kernel) rfl ?_
    refine q_iconst 0 (c := 0) 9 rfl (by decide +kernel) rfl ?_
    refine q_iconst 5 (c := 5) 10 rfl (by decide +kernel) rfl ?_
    refine q_callS_i 13 rfl (av := [.int a2, .int 0, .int 5]) (st := []) (c_Mo_in X.1 D tc x0 y I J P a2 0 5) yv_Mo_in tw_6_40 tw_6_41 rfl (Nat.le_of_ble_eq_true rfl) (by decide +kernel) ⟨Nat.le_of_ble_eq_true rfl, Nat.le_of_ble_eq_true rfl⟩ ⟨Nat.le_of_ble_eq_true rfl, Nat.le_of_ble_eq_true rfl⟩ rfl rfl (fun v2 => ?_)
    refine q_if_ne 16 rfl 18 (off := 5) (by decide +kernel) rfl (fun g4 => ?_) (fun g4 => ?_)
    · refine q_aload_n 0 0 19 rfl (by decide +kernel) rfl ?_
      refine q_iload_n 1 1 20 rfl (by decide +kernel) rfl ?_
      refine q_callV_vIJ 23 rfl (av := [.int a1]) (o := 0) (st := []) (c_Mo_shows X.1 D tc x0 y I J P a1) yv_Mo_shows tw_6_201 tw_6_203 sw_55 (cC_Mo D tc x0 y) (rfl : mKd 0 = (1, 0, 21, 0, 0)) rfl (Nat.le_of_ble_eq_true rfl) (by decide +kernel) ⟨Nat.le_of_ble_eq_true rfl, Nat.le_of_ble_eq_true rfl⟩ ⟨Nat.le_of_ble_eq_true rfl, Nat.le_of_ble_eq_true rfl⟩ rfl rfl (fun I1 J1 => ?_)
      refine q_iconst 0 (c := 0) 24 rfl (by decide +kernel) rfl ?_
      refine q_istore_n 3 3 25 rfl [(3, .int 0), (0, q_r (mG D tc x0 y) 0), (1, .int a1), (2, .int a2)] (by decide +kernel) rfl (Nat.le_of_ble_eq_true rfl) rfl ?_
      refine q_iconst 0 (c := 0) 26 rfl (by decide +kernel) rfl ?_
      refine q_istore 4 28 rfl [(4, .int 0), (3, .int 0), (0, q_r (mG D tc x0 y) 0), (1, .int a1), (2, .int a2)] (by decide +kernel) (Nat.le_of_ble_eq_true rfl) rfl ?_
      have hL1 : ∀ (n1_ : Nat) (x1 : Int32) (x2 : Int32), q_V (mG D tc x0 y) m_Mo_busySlots X (fun r : Int32 × q_I × q_J => (some (.int r.1), (r.2.1, r.2.2, P))) 0 0 28 [(0, q_r (mG D tc x0 y) 0), (2, .int a2), (3, .int x1), (4, .int x2)] [] I1 J1 P (f_Mo_busySlots_L1 a2 I1 J1 n1_ x1 x2) := by
        intro n1_
        induction n1_ with
        | zero => intro x1 x2; exact q_none
        | succ n1_ ih1 =>
          intro x1 x2
          rw [f_Mo_busySlots_L1]
          refine q_iload 3 4 30 rfl (by decide +kernel) rfl ?_
          refine q_aload_n 0 0 31 rfl (by decide +kernel) rfl ?_
          refine q_geti (f := 7) 34 rfl (by decide +kernel) (cC_Mo D tc x0 y) (rfl : mKd 0 = (1, 0, 21, 0, 0)) (by decide) rfl tw_5_219 ?_
          refine q_icmp_ge 37 rfl 105 (off := 71) (by decide +kernel) rfl (fun g3 => ?_) (fun g3 => ?_)
          · refine q_iload_n 2 3 106 rfl (by decide +kernel) rfl ?_
            exact q_iret (by decide +kernel) rfl rfl (Nat.le_of_ble_eq_true rfl) (Nat.le_of_ble_eq_true rfl)
          · refine q_aload_n 0 0 38 rfl (by decide +kernel) rfl ?_
            refine q_getr (f := 8) 6 41 rfl (by decide +kernel) (cC_Mo D tc x0 y) (rfl : mKd 0 = (1, 0, 21, 0, 0)) (by decide) rfl rfl tw_5_220 ?_
            refine q_iload 3 4 43 rfl (by decide +kernel) rfl ?_
            refine q_iconst 4 (c := 4) 44 rfl (by decide +kernel) rfl ?_
            refine q_callS_i 47 rfl (av := [.int x2, .int 4]) (st := [q_r (mG D tc x0 y) 6]) (c_Mo_meeting X.1 D tc x0 y I1 J1 P x2 4) yv_Mo_meeting tw_6_86 tw_6_87 rfl (Nat.le_of_ble_eq_true rfl) (by decide +kernel) ⟨Nat.le_of_ble_eq_true rfl, Nat.le_of_ble_eq_true rfl⟩ ⟨Nat.le_of_ble_eq_true rfl, Nat.le_of_ble_eq_true rfl⟩ rfl rfl (fun v3 => ?_)
            refine q_iald (t := 0) 48 rfl (by decide +kernel) (rfl : mKd 6 = (2, 175, 0, 0, 0)) rfl (fun j1 hj1 => ?_)
            refine q_iload_n 1 2 49 rfl (by decide +kernel) rfl ?_
            refine q_ishr 50 rfl (by decide +kernel) ?_
            refine q_iconst 1 (c := 1) 51 rfl (by decide +kernel) rfl ?_
            refine q_iand 52 rfl (by decide +kernel) ?_
            refine q_iconst 1 (c := 1) 53 rfl (by decide +kernel) rfl ?_
            refine q_jn1 61 (fun x3 => [(0, q_r (mG D tc x0 y) 0), (2, .int a2), (3, .int x1), (4, .int x2)]) (fun x3 => [.int x3]) (fun x3 => I1) (fun x3 => J1) (fun x3 => P) (fun jk1 => if (((I1 6 j1) >>> (a2 &&& 31)) &&& 1) = 1 then ((jk1 (1))) else ((jk1 (0)))) (by intro jk1; simp only [q_b1_if, q_b1_s, q_b1_n, q_b1_ix, q_b1_b1, q_b1_b2, q_b1_b3, q_b1_l, q_b1_ck, q_b1_el]) ?_ ?_
            · intro x3
              refine q_istore 5 63 rfl [(5, .int x3), (0, q_r (mG D tc x0 y) 0), (2, .int a2), (3, .int x1), (4, .int x2)] (by decide +kernel) (Nat.le_of_ble_eq_true rfl) rfl ?_
              refine q_iload_n 3 3 64 rfl (by decide +kernel) rfl ?_
              refine q_iload 0 5 66 rfl (by decide +kernel) rfl ?_
              refine q_if_eq 69 rfl 96 (off := 30) (by decide +kernel) rfl (fun g1 => ?_) (fun g1 => ?_)
              · refine q_iconst 0 (c := 0) 97 rfl (by decide +kernel) rfl ?_
                refine q_iadd 98 rfl (by decide +kernel) ?_
                refine q_leti (fun x4 => ?_)
                refine q_istore_n 3 3 99 rfl [(3, .int x4), (5, .int x3), (0, q_r (mG D tc x0 y) 0), (2, .int a2), (4, .int x2)] (by decide +kernel) rfl (Nat.le_of_ble_eq_true rfl) rfl ?_
                refine q_iinc (x2 + 1) (c := 1) 4 4 102 rfl [(4, .int (x2 + 1)), (3, .int x4), (5, .int x3), (0, q_r (mG D tc x0 y) 0), (2, .int a2)] (by decide +kernel) rfl rfl (Nat.le_of_ble_eq_true rfl) rfl ?_
                refine q_goto (off := -74) 28 (by decide +kernel) rfl ?_
                refine q_sub [3, 4, 1, 0] rfl ?_
                exact ih1 x4 (x2 + 1)
              · refine q_aload_n 1 0 70 rfl (by decide +kernel) rfl ?_
                refine q_getr (f := 8) 6 73 rfl (by decide +kernel) (cC_Mo D tc x0 y) (rfl : mKd 0 = (1, 0, 21, 0, 0)) (by decide) rfl rfl tw_5_220 ?_
                refine q_iload 4 4 75 rfl (by decide +kernel) rfl ?_
                refine q_bipush 6 (c := 6) 77 rfl (by decide +kernel) rfl ?_
                refine q_callS_i 80 rfl (av := [.int x2, .int 6]) (st := [q_r (mG D tc x0 y) 6, .int x1]) (c_Mo_meeting X.1 D tc x0 y I1 J1 P x2 6) yv_Mo_meeting tw_6_86 tw_6_87 rfl (Nat.le_of_ble_eq_true rfl) (by decide +kernel) ⟨Nat.le_of_ble_eq_true rfl, Nat.le_of_ble_eq_true rfl⟩ ⟨Nat.le_of_ble_eq_true rfl, Nat.le_of_ble_eq_true rfl⟩ rfl rfl (fun v4 => ?_)
                refine q_iald (t := 0) 81 rfl (by decide +kernel) (rfl : mKd 6 = (2, 175, 0, 0, 0)) rfl (fun j2 hj2 => ?_)
                refine q_aload_n 1 0 82 rfl (by decide +kernel) rfl ?_
                refine q_getr (f := 8) 6 85 rfl (by decide +kernel) (cC_Mo D tc x0 y) (rfl : mKd 0 = (1, 0, 21, 0, 0)) (by decide) rfl rfl tw_5_220 ?_
                refine q_iload 4 4 87 rfl (by decide +kernel) rfl ?_
                refine q_iconst 2 (c := 2) 88 rfl (by decide +kernel) rfl ?_
                refine q_callS_i 91 rfl (av := [.int x2, .int 2]) (st := [q_r (mG D tc x0 y) 6, .int (I1 6 j2), .int x1]) (c_Mo_meeting X.1 D tc x0 y I1 J1 P x2 2) yv_Mo_meeting tw_6_86 tw_6_87 rfl (Nat.le_of_ble_eq_true rfl) (by decide +kernel) ⟨Nat.le_of_ble_eq_true rfl, Nat.le_of_ble_eq_true rfl⟩ ⟨Nat.le_of_ble_eq_true rfl, Nat.le_of_ble_eq_true rfl⟩ rfl rfl (fun v5 => ?_)
                refine q_iald (t := 0) 92 rfl (by decide +kernel) (rfl : mKd 6 = (2, 175, 0, 0, 0)) rfl (fun j3 hj3 => ?_)
                refine q_imul 93 rfl (by decide +kernel) ?_
                refine q_goto (off := 4) 97 (by decide +kernel) rfl ?_
                refine q_iadd 98 rfl (by decide +kernel) ?_
                refine q_leti (fun x5 => ?_)
                refine q_istore_n 3 3 99 rfl [(3, .int x5), (5, .int x3), (0, q_r (mG D tc x0 y) 0), (2, .int a2), (4, .int x2)] (by decide +kernel) rfl (Nat.le_of_ble_eq_true rfl) rfl ?_
                refine q_iinc (x2 + 1) (c := 1) 4 4 102 rfl [(4, .int (x2 + 1)), (3, .int x5), (5, .int x3), (0, q_r (mG D tc x0 y) 0), (2, .int a2)] (by decide +kernel) rfl rfl (Nat.le_of_ble_eq_true rfl) rfl ?_
                refine q_goto (off := -74) 28 (by decide +kernel) rfl ?_
                refine q_sub [3, 4, 1, 0] rfl ?_
                exact ih1 x5 (x2 + 1)
            · intro jk1 hq1
              refine q_icmp_ne 56 rfl 60 (off := 7) (by decide +kernel) rfl (fun g2 => ?_) (fun g2 => ?_)
              · refine q_iconst 0 (c := 0) 61 rfl (by decide +kernel) rfl ?_
                exact hq1 0
              · refine q_iconst 1 (c := 1) 57 rfl (by decide +kernel) rfl ?_
                refine q_goto (off := 4) 61 (by decide +kernel) rfl ?_
                exact hq1 1
      refine q_sub [2, 4, 1, 0] rfl ?_
      exact hL1 _ _ _
    · refine q_iconst (-1) (c := -1) 17 rfl (by decide +kernel) rfl ?_
      exact q_iret (by decide +kernel) rfl rfl (Nat.le_of_ble_eq_true rfl) (Nat.le_of_ble_eq_true rfl)
def f_Mo_append (I : q_I) (a1 : Int32) : Option (Int32 × q_I) :=
  q_b1 (f_Mo_in a1 32 126) (fun v1 => if v1 = 0 then (some ((-1), I)) else (if (I 0 4) = 60 then (some ((-2), I)) else (q_ix (I 0 4) 60 (fun j1 => q_l (q_ui I 4 j1 a1) (fun I1 => q_l (q_ui I1 0 4 ((I1 0 4) + 1)) (fun I2 => some ((I2 0 4), I2)))))))
def y_Mo_append : MethodName := ⟨"CalendarReplicasModel", "append", "(I)I"⟩
def m_Mo_append : q_M := (prog_11_method_78_code, 2, "CalendarReplicasModel", { frames := 1, cells := 0, slots := 0, locals := 22 }, (some FieldType.int))
theorem yv_Mo_append : q_Y y_Mo_append m_Mo_append 1 := ⟨rfl, ⟨by decide, by decide⟩, by decide +kernel, tw_7_124, tw_1_15⟩
set_option maxRecDepth 100000 in
set_option maxHeartbeats 4000000 in
theorem c_Mo_append (l : Launch) (D : va_G) (tc : Nat → ClassId) (x0 y : Nat) (I : q_I) (J : q_J) (P : q_P) (a1 : Int32) : q_Ct l (mG D tc x0 y) y_Mo_append m_Mo_append [q_r (mG D tc x0 y) 0, .int a1] (I, J, P) (f_Mo_append I a1) (fun r : Int32 × q_I => (some (.int r.1), (r.2, J, P))) := by
  refine q_Ct_of (mIn D tc x0 y) (by decide) rfl (Nat.le_of_ble_eq_true rfl) rfl (fun X hX => ?_)
  subst hX
  unfold f_Mo_append
  refine q_iload_n 1 1 1 rfl (by decide +kernel) rfl ?_
  refine q_bipush 32 (c := 32) 3 rfl (by decide +kernel) rfl ?_
  refine q_bipush 126 (c := 126) 5 rfl (by decide +kernel) rfl ?_
  refine q_callS_i 8 rfl (av := [.int a1, .int 32, .int 126]) (st := []) (c_Mo_in X.1 D tc x0 y I J P a1 32 126) yv_Mo_in tw_6_40 tw_6_41 rfl (Nat.le_of_ble_eq_true rfl) (by decide +kernel) ⟨Nat.le_of_ble_eq_true rfl, Nat.le_of_ble_eq_true rfl⟩ ⟨Nat.le_of_ble_eq_true rfl, Nat.le_of_ble_eq_true rfl⟩ rfl rfl (fun v1 => ?_)
  refine q_if_ne 11 rfl 13 (off := 5) (by decide +kernel) rfl (fun g2 => ?_) (fun g2 => ?_)
  · refine q_aload_n 0 0 14 rfl (by decide +kernel) rfl ?_
    refine q_geti (f := 4) 17 rfl (by decide +kernel) (cC_Mo D tc x0 y) (rfl : mKd 0 = (1, 0, 21, 0, 0)) (by decide) rfl tw_5_216 ?_
    refine q_bipush 60 (c := 60) 19 rfl (by decide +kernel) rfl ?_
    refine q_icmp_ne 22 rfl 25 (off := 6) (by decide +kernel) rfl (fun g1 => ?_) (fun g1 => ?_)
    · refine q_aload_n 0 0 26 rfl (by decide +kernel) rfl ?_
      refine q_getr (f := 3) 4 29 rfl (by decide +kernel) (cC_Mo D tc x0 y) (rfl : mKd 0 = (1, 0, 21, 0, 0)) (by decide) rfl rfl tw_5_215 ?_
      refine q_aload_n 0 0 30 rfl (by decide +kernel) rfl ?_
      refine q_geti (f := 4) 33 rfl (by decide +kernel) (cC_Mo D tc x0 y) (rfl : mKd 0 = (1, 0, 21, 0, 0)) (by decide) rfl tw_5_216 ?_
      refine q_iload_n 1 1 34 rfl (by decide +kernel) rfl ?_
      refine q_iast (t := 0) 35 rfl (by decide +kernel) (rfl : mKd 4 = (2, 60, 0, 0, 0)) rfl (fun j1 hj1 => ?_)
      refine q_letI (fun I1 => ?_)
      refine q_aload_n 0 0 36 rfl (by decide +kernel) rfl ?_
      refine q_dup 37 rfl (by decide +kernel) rfl ?_
      refine q_geti (f := 4) 40 rfl (by decide +kernel) (cC_Mo D tc x0 y) (rfl : mKd 0 = (1, 0, 21, 0, 0)) (by decide) rfl tw_5_216 ?_
      refine q_iconst 1 (c := 1) 41 rfl (by decide +kernel) rfl ?_
      refine q_iadd 42 rfl (by decide +kernel) ?_
      refine q_puti (f := 4) 45 rfl (by decide +kernel) (cC_Mo D tc x0 y) (rfl : mKd 0 = (1, 0, 21, 0, 0)) (by decide) rfl rfl rfl tw_5_216 ?_
      refine q_letI (fun I2 => ?_)
      refine q_aload_n 0 0 46 rfl (by decide +kernel) rfl ?_
      refine q_geti (f := 4) 49 rfl (by decide +kernel) (cC_Mo D tc x0 y) (rfl : mKd 0 = (1, 0, 21, 0, 0)) (by decide) rfl tw_5_216 ?_
      exact q_iret (by decide +kernel) rfl rfl (Nat.le_of_ble_eq_true rfl) (Nat.le_of_ble_eq_true rfl)
    · refine q_bipush (-2) (c := -2) 24 rfl (by decide +kernel) rfl ?_
      exact q_iret (by decide +kernel) rfl rfl (Nat.le_of_ble_eq_true rfl) (Nat.le_of_ble_eq_true rfl)
  · refine q_iconst (-1) (c := -1) 12 rfl (by decide +kernel) rfl ?_
    exact q_iret (by decide +kernel) rfl rfl (Nat.le_of_ble_eq_true rfl) (Nat.le_of_ble_eq_true rfl)
