def f_Mo_changes (I : q_I) (J : q_J) (a1 : Int32) (a2 : Int32) (a3 : Int32) (a4 : Int32) (a5 : Int32) (a6 : Int32) : Option (Int32 × q_I × q_J) :=
  q_b1 (if a2 = 3 then ((some (1))) else ((some (0))) : Option (Int32)) (fun (x1 : Int32) => q_b3 (f_Mo_isThere I J a1 a3) (fun v1 I1 J1 => if v1 = 0 then (some ((-1), I1, J1)) else (q_b1 (f_Mo_in a4 x1 a5) (fun v2 => if v2 = 0 then (some ((-1), I1, J1)) else (q_b1 (f_Mo_in a6 1 9) (fun v3 => if v3 = 0 then (some ((-1), I1, J1)) else (q_ix 0 280 (fun j1 => if (I1 1 j1) = 12 then (some ((-2), I1, J1)) else (q_b3 (f_Mo_makes I1 J1 a1 a2 a3 a4 a6) (fun v4 I2 J2 => some (v4, I2, J2)))))))))))
def y_Mo_changes : MethodName := ⟨"CalendarReplicasModel", "changes", "(IIIIII)I"⟩
def m_Mo_changes : q_M := (prog_11_method_37_code, 8, "CalendarReplicasModel", { frames := 9, cells := 0, slots := 0, locals := 214 }, (some FieldType.int))
theorem yv_Mo_changes : q_Y y_Mo_changes m_Mo_changes 6 := ⟨rfl, ⟨by decide, by decide⟩, by decide +kernel, tw_6_196, tw_1_15⟩
set_option maxRecDepth 100000 in
set_option maxHeartbeats 4000000 in
theorem c_Mo_changes (l : Launch) (D : va_G) (tc : Nat → ClassId) (x0 y : Nat) (I : q_I) (J : q_J) (P : q_P) (a1 : Int32) (a2 : Int32) (a3 : Int32) (a4 : Int32) (a5 : Int32) (a6 : Int32) : q_Ct l (mG D tc x0 y) y_Mo_changes m_Mo_changes [q_r (mG D tc x0 y) 0, .int a1, .int a2, .int a3, .int a4, .int a5, .int a6] (I, J, P) (f_Mo_changes I J a1 a2 a3 a4 a5 a6) (fun r : Int32 × q_I × q_J => (some (.int r.1), (r.2.1, r.2.2, P))) := by
  refine q_Ct_of (mIn D tc x0 y) (by decide) rfl (Nat.le_of_ble_eq_true rfl) rfl (fun X hX => ?_)
  subst hX
  unfold f_Mo_changes
  refine q_iload_n 2 2 1 rfl (by decide +kernel) rfl ?_
  refine q_iconst 3 (c := 3) 2 rfl (by decide +kernel) rfl ?_
  refine q_jn1 10 (fun x1 => [(0, q_r (mG D tc x0 y) 0), (1, .int a1), (2, .int a2), (3, .int a3), (4, .int a4), (5, .int a5), (6, .int a6)]) (fun x1 => [.int x1]) (fun x1 => I) (fun x1 => J) (fun x1 => P) (fun jk1 => if a2 = 3 then ((jk1 (1))) else ((jk1 (0)))) (by intro jk1; simp only [q_b1_if, q_b1_s, q_b1_n, q_b1_ix, q_b1_b1, q_b1_b2, q_b1_b3, q_b1_l, q_b1_ck, q_b1_el]) ?_ ?_
  · intro x1
    refine q_istore 7 12 rfl [(7, .int x1), (0, q_r (mG D tc x0 y) 0), (1, .int a1), (2, .int a2), (3, .int a3), (4, .int a4), (5, .int a5), (6, .int a6)] (by decide +kernel) (Nat.le_of_ble_eq_true rfl) rfl ?_
    refine q_aload_n 1 0 13 rfl (by decide +kernel) rfl ?_
    refine q_iload_n 2 1 14 rfl (by decide +kernel) rfl ?_
    refine q_iload_n 4 3 15 rfl (by decide +kernel) rfl ?_
    refine q_callV_iIJ 18 rfl (av := [.int a1, .int a3]) (o := 0) (st := []) (c_Mo_isThere X.1 D tc x0 y I J P a1 a3) yv_Mo_isThere tw_6_197 tw_6_199 sw_54 (cC_Mo D tc x0 y) (rfl : mKd 0 = (1, 0, 21, 0, 0)) rfl (Nat.le_of_ble_eq_true rfl) (by decide +kernel) ⟨Nat.le_of_ble_eq_true rfl, Nat.le_of_ble_eq_true rfl⟩ ⟨Nat.le_of_ble_eq_true rfl, Nat.le_of_ble_eq_true rfl⟩ rfl rfl (fun v1 I1 J1 => ?_)
    refine q_if_eq 21 rfl 44 (off := 26) (by decide +kernel) rfl (fun g4 => ?_) (fun g4 => ?_)
    · refine q_iconst (-1) (c := -1) 45 rfl (by decide +kernel) rfl ?_
      exact q_iret (by decide +kernel) rfl rfl (Nat.le_of_ble_eq_true rfl) (Nat.le_of_ble_eq_true rfl)
    · refine q_iload 5 4 23 rfl (by decide +kernel) rfl ?_
      refine q_iload 0 7 25 rfl (by decide +kernel) rfl ?_
      refine q_iload 6 5 27 rfl (by decide +kernel) rfl ?_
      refine q_callS_i 30 rfl (av := [.int a4, .int x1, .int a5]) (st := []) (c_Mo_in X.1 D tc x0 y I1 J1 P a4 x1 a5) yv_Mo_in tw_6_40 tw_6_41 rfl (Nat.le_of_ble_eq_true rfl) (by decide +kernel) ⟨Nat.le_of_ble_eq_true rfl, Nat.le_of_ble_eq_true rfl⟩ ⟨Nat.le_of_ble_eq_true rfl, Nat.le_of_ble_eq_true rfl⟩ rfl rfl (fun v2 => ?_)
      refine q_if_eq 33 rfl 44 (off := 14) (by decide +kernel) rfl (fun g3 => ?_) (fun g3 => ?_)
      · refine q_iconst (-1) (c := -1) 45 rfl (by decide +kernel) rfl ?_
        exact q_iret (by decide +kernel) rfl rfl (Nat.le_of_ble_eq_true rfl) (Nat.le_of_ble_eq_true rfl)
      · refine q_iload 7 6 35 rfl (by decide +kernel) rfl ?_
        refine q_iconst 1 (c := 1) 36 rfl (by decide +kernel) rfl ?_
        refine q_bipush 9 (c := 9) 38 rfl (by decide +kernel) rfl ?_
        refine q_callS_i 41 rfl (av := [.int a6, .int 1, .int 9]) (st := []) (c_Mo_in X.1 D tc x0 y I1 J1 P a6 1 9) yv_Mo_in tw_6_40 tw_6_41 rfl (Nat.le_of_ble_eq_true rfl) (by decide +kernel) ⟨Nat.le_of_ble_eq_true rfl, Nat.le_of_ble_eq_true rfl⟩ ⟨Nat.le_of_ble_eq_true rfl, Nat.le_of_ble_eq_true rfl⟩ rfl rfl (fun v3 => ?_)
        refine q_if_ne 44 rfl 46 (off := 5) (by decide +kernel) rfl (fun g2 => ?_) (fun g2 => ?_)
        · refine q_aload_n 1 0 47 rfl (by decide +kernel) rfl ?_
          refine q_getr (f := 0) 1 50 rfl (by decide +kernel) (cC_Mo D tc x0 y) (rfl : mKd 0 = (1, 0, 21, 0, 0)) (by decide) rfl rfl tw_5_212 ?_
          refine q_iconst 0 (c := 0) 51 rfl (by decide +kernel) rfl ?_
          refine q_iald (t := 0) 52 rfl (by decide +kernel) (rfl : mKd 1 = (2, 280, 0, 0, 0)) rfl (fun j1 hj1 => ?_)
          refine q_bipush 12 (c := 12) 54 rfl (by decide +kernel) rfl ?_
          refine q_icmp_ne 57 rfl 62 (off := 8) (by decide +kernel) rfl (fun g1 => ?_) (fun g1 => ?_)
          · refine q_aload_n 1 0 63 rfl (by decide +kernel) rfl ?_
            refine q_iload_n 2 1 64 rfl (by decide +kernel) rfl ?_
            refine q_iload_n 3 2 65 rfl (by decide +kernel) rfl ?_
            refine q_iload_n 4 3 66 rfl (by decide +kernel) rfl ?_
            refine q_iload 5 4 68 rfl (by decide +kernel) rfl ?_
            refine q_iload 7 6 70 rfl (by decide +kernel) rfl ?_
            refine q_callV_iIJ 73 rfl (av := [.int a1, .int a2, .int a3, .int a4, .int a6]) (o := 0) (st := []) (c_Mo_makes X.1 D tc x0 y I1 J1 P a1 a2 a3 a4 a6) yv_Mo_makes tw_6_134 tw_6_136 sw_41 (cC_Mo D tc x0 y) (rfl : mKd 0 = (1, 0, 21, 0, 0)) rfl (Nat.le_of_ble_eq_true rfl) (by decide +kernel) ⟨Nat.le_of_ble_eq_true rfl, Nat.le_of_ble_eq_true rfl⟩ ⟨Nat.le_of_ble_eq_true rfl, Nat.le_of_ble_eq_true rfl⟩ rfl rfl (fun v4 I2 J2 => ?_)
            exact q_iret (by decide +kernel) rfl rfl (Nat.le_of_ble_eq_true rfl) (Nat.le_of_ble_eq_true rfl)
          · refine q_bipush (-2) (c := -2) 59 rfl (by decide +kernel) rfl ?_
            refine q_goto (off := 14) 73 (by decide +kernel) rfl ?_
            exact q_iret (by decide +kernel) rfl rfl (Nat.le_of_ble_eq_true rfl) (Nat.le_of_ble_eq_true rfl)
        · refine q_iconst (-1) (c := -1) 45 rfl (by decide +kernel) rfl ?_
          exact q_iret (by decide +kernel) rfl rfl (Nat.le_of_ble_eq_true rfl) (Nat.le_of_ble_eq_true rfl)
  · intro jk1 hq1
    refine q_icmp_ne 5 rfl 9 (off := 7) (by decide +kernel) rfl (fun g5 => ?_) (fun g5 => ?_)
    · refine q_iconst 0 (c := 0) 10 rfl (by decide +kernel) rfl ?_
      exact hq1 0
    · refine q_iconst 1 (c := 1) 6 rfl (by decide +kernel) rfl ?_
      refine q_goto (off := 4) 10 (by decide +kernel) rfl ?_
      exact hq1 1
def f_Mo_move (I : q_I) (J : q_J) (a1 : Int32) (a2 : Int32) (a3 : Int32) (a4 : Int32) : Option (Int32 × q_I × q_J) :=
  q_b3 (f_Mo_changes I J a1 1 a2 a3 95 a4) (fun v1 I1 J1 => some (v1, I1, J1))
def y_Mo_move : MethodName := ⟨"CalendarReplicasModel", "move", "(IIII)I"⟩
def m_Mo_move : q_M := (prog_11_method_38_code, 5, "CalendarReplicasModel", { frames := 10, cells := 0, slots := 0, locals := 241 }, (some FieldType.int))
theorem yv_Mo_move : q_Y y_Mo_move m_Mo_move 4 := ⟨rfl, ⟨by decide, by decide⟩, by decide +kernel, tw_6_192, tw_1_15⟩
set_option maxRecDepth 100000 in
set_option maxHeartbeats 4000000 in
theorem c_Mo_move (l : Launch) (D : va_G) (tc : Nat → ClassId) (x0 y : Nat) (I : q_I) (J : q_J) (P : q_P) (a1 : Int32) (a2 : Int32) (a3 : Int32) (a4 : Int32) : q_Ct l (mG D tc x0 y) y_Mo_move m_Mo_move [q_r (mG D tc x0 y) 0, .int a1, .int a2, .int a3, .int a4] (I, J, P) (f_Mo_move I J a1 a2 a3 a4) (fun r : Int32 × q_I × q_J => (some (.int r.1), (r.2.1, r.2.2, P))) := by
  refine q_Ct_of (mIn D tc x0 y) (by decide) rfl (Nat.le_of_ble_eq_true rfl) rfl (fun X hX => ?_)
  subst hX
  unfold f_Mo_move
  refine q_aload_n 0 0 1 rfl (by decide +kernel) rfl ?_
  refine q_iload_n 1 1 2 rfl (by decide +kernel) rfl ?_
  refine q_iconst 1 (c := 1) 3 rfl (by decide +kernel) rfl ?_
  refine q_iload_n 2 2 4 rfl (by decide +kernel) rfl ?_
  refine q_iload_n 3 3 5 rfl (by decide +kernel) rfl ?_
  refine q_bipush 95 (c := 95) 7 rfl (by decide +kernel) rfl ?_
  refine q_iload 4 4 9 rfl (by decide +kernel) rfl ?_
  refine q_callV_iIJ 12 rfl (av := [.int a1, .int 1, .int a2, .int a3, .int 95, .int a4]) (o := 0) (st := []) (c_Mo_changes X.1 D tc x0 y I J P a1 1 a2 a3 95 a4) yv_Mo_changes tw_6_193 tw_6_195 sw_53 (cC_Mo D tc x0 y) (rfl : mKd 0 = (1, 0, 21, 0, 0)) rfl (Nat.le_of_ble_eq_true rfl) (by decide +kernel) ⟨Nat.le_of_ble_eq_true rfl, Nat.le_of_ble_eq_true rfl⟩ ⟨Nat.le_of_ble_eq_true rfl, Nat.le_of_ble_eq_true rfl⟩ rfl rfl (fun v1 I1 J1 => ?_)
  exact q_iret (by decide +kernel) rfl rfl (Nat.le_of_ble_eq_true rfl) (Nat.le_of_ble_eq_true rfl)
def f_Mo_changeRoom (I : q_I) (J : q_J) (a1 : Int32) (a2 : Int32) (a3 : Int32) (a4 : Int32) : Option (Int32 × q_I × q_J) :=
  q_b3 (f_Mo_changes I J a1 2 a2 a3 3 a4) (fun v1 I1 J1 => some (v1, I1, J1))
def y_Mo_changeRoom : MethodName := ⟨"CalendarReplicasModel", "changeRoom", "(IIII)I"⟩
def m_Mo_changeRoom : q_M := (prog_11_method_39_code, 5, "CalendarReplicasModel", { frames := 10, cells := 0, slots := 0, locals := 241 }, (some FieldType.int))
theorem yv_Mo_changeRoom : q_Y y_Mo_changeRoom m_Mo_changeRoom 4 := ⟨rfl, ⟨by decide, by decide⟩, by decide +kernel, tw_6_208, tw_1_15⟩
set_option maxRecDepth 100000 in
set_option maxHeartbeats 4000000 in
theorem c_Mo_changeRoom (l : Launch) (D : va_G) (tc : Nat → ClassId) (x0 y : Nat) (I : q_I) (J : q_J) (P : q_P) (a1 : Int32) (a2 : Int32) (a3 : Int32) (a4 : Int32) : q_Ct l (mG D tc x0 y) y_Mo_changeRoom m_Mo_changeRoom [q_r (mG D tc x0 y) 0, .int a1, .int a2, .int a3, .int a4] (I, J, P) (f_Mo_changeRoom I J a1 a2 a3 a4) (fun r : Int32 × q_I × q_J => (some (.int r.1), (r.2.1, r.2.2, P))) := by
  refine q_Ct_of (mIn D tc x0 y) (by decide) rfl (Nat.le_of_ble_eq_true rfl) rfl (fun X hX => ?_)
  subst hX
  unfold f_Mo_changeRoom
  refine q_aload_n 0 0 1 rfl (by decide +kernel) rfl ?_
  refine q_iload_n 1 1 2 rfl (by decide +kernel) rfl ?_
  refine q_iconst 2 (c := 2) 3 rfl (by decide +kernel) rfl ?_
  refine q_iload_n 2 2 4 rfl (by decide +kernel) rfl ?_
  refine q_iload_n 3 3 5 rfl (by decide +kernel) rfl ?_
  refine q_iconst 3 (c := 3) 6 rfl (by decide +kernel) rfl ?_
  refine q_iload 4 4 8 rfl (by decide +kernel) rfl ?_
  refine q_callV_iIJ 11 rfl (av := [.int a1, .int 2, .int a2, .int a3, .int 3, .int a4]) (o := 0) (st := []) (c_Mo_changes X.1 D tc x0 y I J P a1 2 a2 a3 3 a4) yv_Mo_changes tw_6_193 tw_6_195 sw_53 (cC_Mo D tc x0 y) (rfl : mKd 0 = (1, 0, 21, 0, 0)) rfl (Nat.le_of_ble_eq_true rfl) (by decide +kernel) ⟨Nat.le_of_ble_eq_true rfl, Nat.le_of_ble_eq_true rfl⟩ ⟨Nat.le_of_ble_eq_true rfl, Nat.le_of_ble_eq_true rfl⟩ rfl rfl (fun v1 I1 J1 => ?_)
  exact q_iret (by decide +kernel) rfl rfl (Nat.le_of_ble_eq_true rfl) (Nat.le_of_ble_eq_true rfl)
def f_Mo_resize (I : q_I) (J : q_J) (a1 : Int32) (a2 : Int32) (a3 : Int32) (a4 : Int32) : Option (Int32 × q_I × q_J) :=
  q_b3 (f_Mo_changes I J a1 3 a2 a3 8 a4) (fun v1 I1 J1 => some (v1, I1, J1))
def y_Mo_resize : MethodName := ⟨"CalendarReplicasModel", "resize", "(IIII)I"⟩
def m_Mo_resize : q_M := (prog_11_method_40_code, 5, "CalendarReplicasModel", { frames := 10, cells := 0, slots := 0, locals := 241 }, (some FieldType.int))
theorem yv_Mo_resize : q_Y y_Mo_resize m_Mo_resize 4 := ⟨rfl, ⟨by decide, by decide⟩, by decide +kernel, tw_6_212, tw_1_15⟩
set_option maxRecDepth 100000 in
set_option maxHeartbeats 4000000 in
theorem c_Mo_resize (l : Launch) (D : va_G) (tc : Nat → ClassId) (x0 y : Nat) (I : q_I) (J : q_J) (P : q_P) (a1 : Int32) (a2 : Int32) (a3 : Int32) (a4 : Int32) : q_Ct l (mG D tc x0 y) y_Mo_resize m_Mo_resize [q_r (mG D tc x0 y) 0, .int a1, .int a2, .int a3, .int a4] (I, J, P) (f_Mo_resize I J a1 a2 a3 a4) (fun r : Int32 × q_I × q_J => (some (.int r.1), (r.2.1, r.2.2, P))) := by
  refine q_Ct_of (mIn D tc x0 y) (by decide) rfl (Nat.le_of_ble_eq_true rfl) rfl (fun X hX => ?_)
  subst hX
  unfold f_Mo_resize
  refine q_aload_n 0 0 1 rfl (by decide +kernel) rfl ?_
  refine q_iload_n 1 1 2 rfl (by decide +kernel) rfl ?_
  refine q_iconst 3 (c := 3) 3 rfl (by decide +kernel) rfl ?_
  refine q_iload_n 2 2 4 rfl (by decide +kernel) rfl ?_
  refine q_iload_n 3 3 5 rfl (by decide +kernel) rfl ?_
  refine q_bipush 8 (c := 8) 7 rfl (by decide +kernel) rfl ?_
  refine q_iload 4 4 9 rfl (by decide +kernel) rfl ?_
  refine q_callV_iIJ 12 rfl (av := [.int a1, .int 3, .int a2, .int a3, .int 8, .int a4]) (o := 0) (st := []) (c_Mo_changes X.1 D tc x0 y I J P a1 3 a2 a3 8 a4) yv_Mo_changes tw_6_193 tw_6_195 sw_53 (cC_Mo D tc x0 y) (rfl : mKd 0 = (1, 0, 21, 0, 0)) rfl (Nat.le_of_ble_eq_true rfl) (by decide +kernel) ⟨Nat.le_of_ble_eq_true rfl, Nat.le_of_ble_eq_true rfl⟩ ⟨Nat.le_of_ble_eq_true rfl, Nat.le_of_ble_eq_true rfl⟩ rfl rfl (fun v1 I1 J1 => ?_)
  exact q_iret (by decide +kernel) rfl rfl (Nat.le_of_ble_eq_true rfl) (Nat.le_of_ble_eq_true rfl)
def f_Mo_join (I : q_I) (J : q_J) (a1 : Int32) (a2 : Int32) (a3 : Int32) (a4 : Int32) : Option (Int32 × q_I × q_J) :=
  q_b3 (f_Mo_changes I J a1 4 a2 a3 5 a4) (fun v1 I1 J1 => some (v1, I1, J1))
def y_Mo_join : MethodName := ⟨"CalendarReplicasModel", "join", "(IIII)I"⟩
def m_Mo_join : q_M := (prog_11_method_41_code, 5, "CalendarReplicasModel", { frames := 10, cells := 0, slots := 0, locals := 241 }, (some FieldType.int))
theorem yv_Mo_join : q_Y y_Mo_join m_Mo_join 4 := ⟨rfl, ⟨by decide, by decide⟩, by decide +kernel, tw_6_216, tw_1_15⟩
set_option maxRecDepth 100000 in
set_option maxHeartbeats 4000000 in
theorem c_Mo_join (l : Launch) (D : va_G) (tc : Nat → ClassId) (x0 y : Nat) (I : q_I) (J : q_J) (P : q_P) (a1 : Int32) (a2 : Int32) (a3 : Int32) (a4 : Int32) : q_Ct l (mG D tc x0 y) y_Mo_join m_Mo_join [q_r (mG D tc x0 y) 0, .int a1, .int a2, .int a3, .int a4] (I, J, P) (f_Mo_join I J a1 a2 a3 a4) (fun r : Int32 × q_I × q_J => (some (.int r.1), (r.2.1, r.2.2, P))) := by
  refine q_Ct_of (mIn D tc x0 y) (by decide) rfl (Nat.le_of_ble_eq_true rfl) rfl (fun X hX => ?_)
  subst hX
  unfold f_Mo_join
  refine q_aload_n 0 0 1 rfl (by decide +kernel) rfl ?_
  refine q_iload_n 1 1 2 rfl (by decide +kernel) rfl ?_
  refine q_iconst 4 (c := 4) 3 rfl (by decide +kernel) rfl ?_
  refine q_iload_n 2 2 4 rfl (by decide +kernel) rfl ?_
  refine q_iload_n 3 3 5 rfl (by decide +kernel) rfl ?_
  refine q_iconst 5 (c := 5) 6 rfl (by decide +kernel) rfl ?_
  refine q_iload 4 4 8 rfl (by decide +kernel) rfl ?_
  refine q_callV_iIJ 11 rfl (av := [.int a1, .int 4, .int a2, .int a3, .int 5, .int a4]) (o := 0) (st := []) (c_Mo_changes X.1 D tc x0 y I J P a1 4 a2 a3 5 a4) yv_Mo_changes tw_6_193 tw_6_195 sw_53 (cC_Mo D tc x0 y) (rfl : mKd 0 = (1, 0, 21, 0, 0)) rfl (Nat.le_of_ble_eq_true rfl) (by decide +kernel) ⟨Nat.le_of_ble_eq_true rfl, Nat.le_of_ble_eq_true rfl⟩ ⟨Nat.le_of_ble_eq_true rfl, Nat.le_of_ble_eq_true rfl⟩ rfl rfl (fun v1 I1 J1 => ?_)
  exact q_iret (by decide +kernel) rfl rfl (Nat.le_of_ble_eq_true rfl) (Nat.le_of_ble_eq_true rfl)
def f_Mo_leave (I : q_I) (J : q_J) (a1 : Int32) (a2 : Int32) (a3 : Int32) (a4 : Int32) : Option (Int32 × q_I × q_J) :=
  q_b3 (f_Mo_changes I J a1 5 a2 a3 5 a4) (fun v1 I1 J1 => some (v1, I1, J1))
def y_Mo_leave : MethodName := ⟨"CalendarReplicasModel", "leave", "(IIII)I"⟩
def m_Mo_leave : q_M := (prog_11_method_42_code, 5, "CalendarReplicasModel", { frames := 10, cells := 0, slots := 0, locals := 241 }, (some FieldType.int))
theorem yv_Mo_leave : q_Y y_Mo_leave m_Mo_leave 4 := ⟨rfl, ⟨by decide, by decide⟩, by decide +kernel, tw_6_220, tw_1_15⟩
set_option maxRecDepth 100000 in
set_option maxHeartbeats 4000000 in
theorem c_Mo_leave (l : Launch) (D : va_G) (tc : Nat → ClassId) (x0 y : Nat) (I : q_I) (J : q_J) (P : q_P) (a1 : Int32) (a2 : Int32) (a3 : Int32) (a4 : Int32) : q_Ct l (mG D tc x0 y) y_Mo_leave m_Mo_leave [q_r (mG D tc x0 y) 0, .int a1, .int a2, .int a3, .int a4] (I, J, P) (f_Mo_leave I J a1 a2 a3 a4) (fun r : Int32 × q_I × q_J => (some (.int r.1), (r.2.1, r.2.2, P))) := by
  refine q_Ct_of (mIn D tc x0 y) (by decide) rfl (Nat.le_of_ble_eq_true rfl) rfl (fun X hX => ?_)
  subst hX
  unfold f_Mo_leave
  refine q_aload_n 0 0 1 rfl (by decide +kernel) rfl ?_
  refine q_iload_n 1 1 2 rfl (by decide +kernel) rfl ?_
  refine q_iconst 5 (c := 5) 3 rfl (by decide +kernel) rfl ?_
  refine q_iload_n 2 2 4 rfl (by decide +kernel) rfl ?_
  refine q_iload_n 3 3 5 rfl (by decide +kernel) rfl ?_
  refine q_iconst 5 (c := 5) 6 rfl (by decide +kernel) rfl ?_
  refine q_iload 4 4 8 rfl (by decide +kernel) rfl ?_
  refine q_callV_iIJ 11 rfl (av := [.int a1, .int 5, .int a2, .int a3, .int 5, .int a4]) (o := 0) (st := []) (c_Mo_changes X.1 D tc x0 y I J P a1 5 a2 a3 5 a4) yv_Mo_changes tw_6_193 tw_6_195 sw_53 (cC_Mo D tc x0 y) (rfl : mKd 0 = (1, 0, 21, 0, 0)) rfl (Nat.le_of_ble_eq_true rfl) (by decide +kernel) ⟨Nat.le_of_ble_eq_true rfl, Nat.le_of_ble_eq_true rfl⟩ ⟨Nat.le_of_ble_eq_true rfl, Nat.le_of_ble_eq_true rfl⟩ rfl rfl (fun v1 I1 J1 => ?_)
  exact q_iret (by decide +kernel) rfl rfl (Nat.le_of_ble_eq_true rfl) (Nat.le_of_ble_eq_true rfl)
def f_Mo_cancel (I : q_I) (J : q_J) (a1 : Int32) (a2 : Int32) (a3 : Int32) : Option (Int32 × q_I × q_J) :=
  q_b3 (f_Mo_changes I J a1 6 a2 0 0 a3) (fun v1 I1 J1 => some (v1, I1, J1))
def y_Mo_cancel : MethodName := ⟨"CalendarReplicasModel", "cancel", "(III)I"⟩
def m_Mo_cancel : q_M := (prog_11_method_43_code, 4, "CalendarReplicasModel", { frames := 10, cells := 0, slots := 0, locals := 241 }, (some FieldType.int))
theorem yv_Mo_cancel : q_Y y_Mo_cancel m_Mo_cancel 3 := ⟨rfl, ⟨by decide, by decide⟩, by decide +kernel, tw_6_224, tw_1_15⟩
set_option maxRecDepth 100000 in
set_option maxHeartbeats 4000000 in
theorem c_Mo_cancel (l : Launch) (D : va_G) (tc : Nat → ClassId) (x0 y : Nat) (I : q_I) (J : q_J) (P : q_P) (a1 : Int32) (a2 : Int32) (a3 : Int32) : q_Ct l (mG D tc x0 y) y_Mo_cancel m_Mo_cancel [q_r (mG D tc x0 y) 0, .int a1, .int a2, .int a3] (I, J, P) (f_Mo_cancel I J a1 a2 a3) (fun r : Int32 × q_I × q_J => (some (.int r.1), (r.2.1, r.2.2, P))) := by
  refine q_Ct_of (mIn D tc x0 y) (by decide) rfl (Nat.le_of_ble_eq_true rfl) rfl (fun X hX => ?_)
  subst hX
  unfold f_Mo_cancel
  refine q_aload_n 0 0 1 rfl (by decide +kernel) rfl ?_
  refine q_iload_n 1 1 2 rfl (by decide +kernel) rfl ?_
  refine q_bipush 6 (c := 6) 4 rfl (by decide +kernel) rfl ?_
  refine q_iload_n 2 2 5 rfl (by decide +kernel) rfl ?_
  refine q_iconst 0 (c := 0) 6 rfl (by decide +kernel) rfl ?_
  refine q_iconst 0 (c := 0) 7 rfl (by decide +kernel) rfl ?_
  refine q_iload_n 3 3 8 rfl (by decide +kernel) rfl ?_
  refine q_callV_iIJ 11 rfl (av := [.int a1, .int 6, .int a2, .int 0, .int 0, .int a3]) (o := 0) (st := []) (c_Mo_changes X.1 D tc x0 y I J P a1 6 a2 0 0 a3) yv_Mo_changes tw_6_193 tw_6_195 sw_53 (cC_Mo D tc x0 y) (rfl : mKd 0 = (1, 0, 21, 0, 0)) rfl (Nat.le_of_ble_eq_true rfl) (by decide +kernel) ⟨Nat.le_of_ble_eq_true rfl, Nat.le_of_ble_eq_true rfl⟩ ⟨Nat.le_of_ble_eq_true rfl, Nat.le_of_ble_eq_true rfl⟩ rfl rfl (fun v1 I1 J1 => ?_)
  exact q_iret (by decide +kernel) rfl rfl (Nat.le_of_ble_eq_true rfl) (Nat.le_of_ble_eq_true rfl)
def f_Mo_findEdit_L1 (I : q_I) (a1 : Int32) : Nat → Int32 → Option (Int32)
  | 0, _ => none
  | n + 1, x1 => q_ix 0 280 (fun j1 => if (I 1 j1) ≤ x1 then (some ((-1))) else (q_b1 (f_Mo_edit x1 0) (fun v1 => q_ix v1 280 (fun j2 => if (I 1 j2) = a1 then (some (x1)) else ((f_Mo_findEdit_L1 I a1 n (x1 + 1)))))))
def f_Mo_findEdit (I : q_I) (a1 : Int32) : Option (Int32) :=
  f_Mo_findEdit_L1 I a1 q_fu 0
def y_Mo_findEdit : MethodName := ⟨"CalendarReplicasModel", "findEdit", "(I)I"⟩
def m_Mo_findEdit : q_M := (prog_11_method_44_code, 3, "CalendarReplicasModel", { frames := 1, cells := 0, slots := 0, locals := 21 }, (some FieldType.int))
theorem yv_Mo_findEdit : q_Y y_Mo_findEdit m_Mo_findEdit 1 := ⟨rfl, ⟨by decide, by decide⟩, by decide +kernel, tw_6_236, tw_1_15⟩
set_option maxRecDepth 100000 in
set_option maxHeartbeats 4000000 in
theorem c_Mo_findEdit (l : Launch) (D : va_G) (tc : Nat → ClassId) (x0 y : Nat) (I : q_I) (J : q_J) (P : q_P) (a1 : Int32) : q_Ct l (mG D tc x0 y) y_Mo_findEdit m_Mo_findEdit [q_r (mG D tc x0 y) 0, .int a1] (I, J, P) (f_Mo_findEdit I a1) (fun r : Int32 => (some (.int r), (I, J, P))) := by
  refine q_Ct_of (mIn D tc x0 y) (by decide) rfl (Nat.le_of_ble_eq_true rfl) rfl (fun X hX => ?_)
  subst hX
  unfold f_Mo_findEdit
  refine q_iconst 0 (c := 0) 1 rfl (by decide +kernel) rfl ?_
  refine q_istore_n 2 2 2 rfl [(2, .int 0), (0, q_r (mG D tc x0 y) 0), (1, .int a1)] (by decide +kernel) rfl (Nat.le_of_ble_eq_true rfl) rfl ?_
  have hL1 : ∀ (n1_ : Nat) (x1 : Int32), q_V (mG D tc x0 y) m_Mo_findEdit X (fun r : Int32 => (some (.int r), (I, J, P))) 0 0 2 [(0, q_r (mG D tc x0 y) 0), (1, .int a1), (2, .int x1)] [] I J P (f_Mo_findEdit_L1 I a1 n1_ x1) := by
    intro n1_
    induction n1_ with
    | zero => intro x1; exact q_none
    | succ n1_ ih1 =>
      intro x1
      rw [f_Mo_findEdit_L1]
      refine q_iload_n 2 2 3 rfl (by decide +kernel) rfl ?_
      refine q_aload_n 0 0 4 rfl (by decide +kernel) rfl ?_
      refine q_getr (f := 0) 1 7 rfl (by decide +kernel) (cC_Mo D tc x0 y) (rfl : mKd 0 = (1, 0, 21, 0, 0)) (by decide) rfl rfl tw_5_212 ?_
      refine q_iconst 0 (c := 0) 8 rfl (by decide +kernel) rfl ?_
      refine q_iald (t := 0) 9 rfl (by decide +kernel) (rfl : mKd 1 = (2, 280, 0, 0, 0)) rfl (fun j1 hj1 => ?_)
      refine q_icmp_ge 12 rfl 34 (off := 25) (by decide +kernel) rfl (fun g2 => ?_) (fun g2 => ?_)
      · refine q_iconst (-1) (c := -1) 35 rfl (by decide +kernel) rfl ?_
        exact q_iret (by decide +kernel) rfl rfl (Nat.le_of_ble_eq_true rfl) (Nat.le_of_ble_eq_true rfl)
      · refine q_aload_n 0 0 13 rfl (by decide +kernel) rfl ?_
        refine q_getr (f := 0) 1 16 rfl (by decide +kernel) (cC_Mo D tc x0 y) (rfl : mKd 0 = (1, 0, 21, 0, 0)) (by decide) rfl rfl tw_5_212 ?_
        refine q_iload_n 2 2 17 rfl (by decide +kernel) rfl ?_
        refine q_iconst 0 (c := 0) 18 rfl (by decide +kernel) rfl ?_
        refine q_callS_i 21 rfl (av := [.int x1, .int 0]) (st := [q_r (mG D tc x0 y) 1]) (c_Mo_edit X.1 D tc x0 y I J P x1 0) yv_Mo_edit tw_6_63 tw_6_64 rfl (Nat.le_of_ble_eq_true rfl) (by decide +kernel) ⟨Nat.le_of_ble_eq_true rfl, Nat.le_of_ble_eq_true rfl⟩ ⟨Nat.le_of_ble_eq_true rfl, Nat.le_of_ble_eq_true rfl⟩ rfl rfl (fun v1 => ?_)
        refine q_iald (t := 0) 22 rfl (by decide +kernel) (rfl : mKd 1 = (2, 280, 0, 0, 0)) rfl (fun j2 hj2 => ?_)
        refine q_iload_n 1 1 23 rfl (by decide +kernel) rfl ?_
        refine q_icmp_ne 26 rfl 28 (off := 5) (by decide +kernel) rfl (fun g1 => ?_) (fun g1 => ?_)
        · refine q_iinc (x1 + 1) (c := 1) 2 2 31 rfl [(2, .int (x1 + 1)), (0, q_r (mG D tc x0 y) 0), (1, .int a1)] (by decide +kernel) rfl rfl (Nat.le_of_ble_eq_true rfl) rfl ?_
          refine q_goto (off := -29) 2 (by decide +kernel) rfl ?_
          refine q_sub [1, 2, 0] rfl ?_
          exact ih1 (x1 + 1)
        · refine q_iload_n 2 2 27 rfl (by decide +kernel) rfl ?_
          exact q_iret (by decide +kernel) rfl rfl (Nat.le_of_ble_eq_true rfl) (Nat.le_of_ble_eq_true rfl)
  refine q_sub [1, 2, 0] rfl ?_
  exact hL1 _ _
def f_Mo_send (I : q_I) (a1 : Int32) (a2 : Int32) : Option (Int32 × q_I) :=
  q_b1 (f_Mo_isReplica a1) (fun v1 => if v1 = 0 then (some ((-1), I)) else (q_b1 (f_Mo_isReplica a2) (fun v2 => if v2 = 0 then (some ((-1), I)) else (if a1 = a2 then (some ((-1), I)) else (q_ix (4 + a1) 280 (fun j1 => q_ix (4 + a2) 280 (fun j2 => q_l ((I 1 j1) &&& ((I 1 j2) ^^^ (-1)) : Int32) (fun x1 => q_ix (4 + a2) 280 (fun j3 => q_ix (4 + a2) 280 (fun j4 => q_l (q_ui I 1 j4 ((I 1 j3) ||| x1)) (fun I1 => q_b1 (f_Mo_bits x1) (fun v3 => some (v3, I1)))))))))))))
def y_Mo_send : MethodName := ⟨"CalendarReplicasModel", "send", "(II)I"⟩
def m_Mo_send : q_M := (prog_11_method_45_code, 4, "CalendarReplicasModel", { frames := 2, cells := 0, slots := 0, locals := 42 }, (some FieldType.int))
theorem yv_Mo_send : q_Y y_Mo_send m_Mo_send 2 := ⟨rfl, ⟨by decide, by decide⟩, by decide +kernel, tw_6_228, tw_1_15⟩
set_option maxRecDepth 100000 in
set_option maxHeartbeats 4000000 in
theorem c_Mo_send (l : Launch) (D : va_G) (tc : Nat → ClassId) (x0 y : Nat) (I : q_I) (J : q_J) (P : q_P) (a1 : Int32) (a2 : Int32) : q_Ct l (mG D tc x0 y) y_Mo_send m_Mo_send [q_r (mG D tc x0 y) 0, .int a1, .int a2] (I, J, P) (f_Mo_send I a1 a2) (fun r : Int32 × q_I => (some (.int r.1), (r.2, J, P))) := by
  refine q_Ct_of (mIn D tc x0 y) (by decide) rfl (Nat.le_of_ble_eq_true rfl) rfl (fun X hX => ?_)
  subst hX
  unfold f_Mo_send
  refine q_iload_n 1 1 1 rfl (by decide +kernel) rfl ?_
  refine q_callS_i 4 rfl (av := [.int a1]) (st := []) (c_Mo_isReplica X.1 D tc x0 y I J P a1) yv_Mo_isReplica tw_6_127 tw_6_128 rfl (Nat.le_of_ble_eq_true rfl) (by decide +kernel) ⟨Nat.le_of_ble_eq_true rfl, Nat.le_of_ble_eq_true rfl⟩ ⟨Nat.le_of_ble_eq_true rfl, Nat.le_of_ble_eq_true rfl⟩ rfl rfl (fun v1 => ?_)
  refine q_if_eq 7 rfl 19 (off := 15) (by decide +kernel) rfl (fun g3 => ?_) (fun g3 => ?_)
  · refine q_iconst (-1) (c := -1) 20 rfl (by decide +kernel) rfl ?_
    exact q_iret (by decide +kernel) rfl rfl (Nat.le_of_ble_eq_true rfl) (Nat.le_of_ble_eq_true rfl)
  · refine q_iload_n 2 2 8 rfl (by decide +kernel) rfl ?_
    refine q_callS_i 11 rfl (av := [.int a2]) (st := []) (c_Mo_isReplica X.1 D tc x0 y I J P a2) yv_Mo_isReplica tw_6_127 tw_6_128 rfl (Nat.le_of_ble_eq_true rfl) (by decide +kernel) ⟨Nat.le_of_ble_eq_true rfl, Nat.le_of_ble_eq_true rfl⟩ ⟨Nat.le_of_ble_eq_true rfl, Nat.le_of_ble_eq_true rfl⟩ rfl rfl (fun v2 => ?_)
    refine q_if_eq 14 rfl 19 (off := 8) (by decide +kernel) rfl (fun g2 => ?_) (fun g2 => ?_)
    · refine q_iconst (-1) (c := -1) 20 rfl (by decide +kernel) rfl ?_
      exact q_iret (by decide +kernel) rfl rfl (Nat.le_of_ble_eq_true rfl) (Nat.le_of_ble_eq_true rfl)
    · refine q_iload_n 1 1 15 rfl (by decide +kernel) rfl ?_
      refine q_iload_n 2 2 16 rfl (by decide +kernel) rfl ?_
      refine q_icmp_ne 19 rfl 21 (off := 5) (by decide +kernel) rfl (fun g1 => ?_) (fun g1 => ?_)
      · refine q_aload_n 0 0 22 rfl (by decide +kernel) rfl ?_
        refine q_getr (f := 0) 1 25 rfl (by decide +kernel) (cC_Mo D tc x0 y) (rfl : mKd 0 = (1, 0, 21, 0, 0)) (by decide) rfl rfl tw_5_212 ?_
        refine q_iconst 4 (c := 4) 26 rfl (by decide +kernel) rfl ?_
        refine q_iload_n 1 1 27 rfl (by decide +kernel) rfl ?_
        refine q_iadd 28 rfl (by decide +kernel) ?_
        refine q_iald (t := 0) 29 rfl (by decide +kernel) (rfl : mKd 1 = (2, 280, 0, 0, 0)) rfl (fun j1 hj1 => ?_)
        refine q_aload_n 0 0 30 rfl (by decide +kernel) rfl ?_
        refine q_getr (f := 0) 1 33 rfl (by decide +kernel) (cC_Mo D tc x0 y) (rfl : mKd 0 = (1, 0, 21, 0, 0)) (by decide) rfl rfl tw_5_212 ?_
        refine q_iconst 4 (c := 4) 34 rfl (by decide +kernel) rfl ?_
        refine q_iload_n 2 2 35 rfl (by decide +kernel) rfl ?_
        refine q_iadd 36 rfl (by decide +kernel) ?_
        refine q_iald (t := 0) 37 rfl (by decide +kernel) (rfl : mKd 1 = (2, 280, 0, 0, 0)) rfl (fun j2 hj2 => ?_)
        refine q_iconst (-1) (c := -1) 38 rfl (by decide +kernel) rfl ?_
        refine q_ixor 39 rfl (by decide +kernel) ?_
        refine q_iand 40 rfl (by decide +kernel) ?_
        refine q_leti (fun x1 => ?_)
        refine q_istore_n 3 3 41 rfl [(3, .int x1), (0, q_r (mG D tc x0 y) 0), (1, .int a1), (2, .int a2)] (by decide +kernel) rfl (Nat.le_of_ble_eq_true rfl) rfl ?_
        refine q_aload_n 1 0 42 rfl (by decide +kernel) rfl ?_
        refine q_getr (f := 0) 1 45 rfl (by decide +kernel) (cC_Mo D tc x0 y) (rfl : mKd 0 = (1, 0, 21, 0, 0)) (by decide) rfl rfl tw_5_212 ?_
        refine q_iconst 4 (c := 4) 46 rfl (by decide +kernel) rfl ?_
        refine q_iload_n 3 2 47 rfl (by decide +kernel) rfl ?_
        refine q_iadd 48 rfl (by decide +kernel) ?_
        refine q_dup2 49 rfl (by decide +kernel) rfl rfl ?_
        refine q_iald (t := 0) 50 rfl (by decide +kernel) (rfl : mKd 1 = (2, 280, 0, 0, 0)) rfl (fun j3 hj3 => ?_)
        refine q_iload_n 0 3 51 rfl (by decide +kernel) rfl ?_
        refine q_ior 52 rfl (by decide +kernel) ?_
        refine q_iast (t := 0) 53 rfl (by decide +kernel) (rfl : mKd 1 = (2, 280, 0, 0, 0)) rfl (fun j4 hj4 => ?_)
        refine q_letI (fun I1 => ?_)
        refine q_iload_n 0 3 54 rfl (by decide +kernel) rfl ?_
        refine q_callS_i 57 rfl (av := [.int x1]) (st := []) (c_Mo_bits X.1 D tc x0 y I1 J P x1) yv_Mo_bits tw_6_105 tw_6_106 rfl (Nat.le_of_ble_eq_true rfl) (by decide +kernel) ⟨Nat.le_of_ble_eq_true rfl, Nat.le_of_ble_eq_true rfl⟩ ⟨Nat.le_of_ble_eq_true rfl, Nat.le_of_ble_eq_true rfl⟩ rfl rfl (fun v3 => ?_)
        exact q_iret (by decide +kernel) rfl rfl (Nat.le_of_ble_eq_true rfl) (Nat.le_of_ble_eq_true rfl)
      · refine q_iconst (-1) (c := -1) 20 rfl (by decide +kernel) rfl ?_
        exact q_iret (by decide +kernel) rfl rfl (Nat.le_of_ble_eq_true rfl) (Nat.le_of_ble_eq_true rfl)
def f_Mo_sendOne (I : q_I) (a1 : Int32) (a2 : Int32) (a3 : Int32) : Option (Int32 × q_I) :=
  q_b1 (f_Mo_findEdit I a3) (fun v1 => q_b1 (f_Mo_isReplica a1) (fun v2 => if v2 = 0 then (some ((-1), I)) else (q_b1 (f_Mo_isReplica a2) (fun v3 => if v3 = 0 then (some ((-1), I)) else (if a1 = a2 then (some ((-1), I)) else (if v1 < 0 then (some ((-1), I)) else (q_ix (4 + a1) 280 (fun j1 => if (((I 1 j1) >>> (v1 &&& 31)) &&& 1) = 0 then (some ((-1), I)) else (q_ix (4 + a2) 280 (fun j2 => q_l ((1 <<< (v1 &&& 31)) &&& ((I 1 j2) ^^^ (-1)) : Int32) (fun x1 => q_ix (4 + a2) 280 (fun j3 => q_ix (4 + a2) 280 (fun j4 => q_l (q_ui I 1 j4 ((I 1 j3) ||| x1)) (fun I1 => if x1 = 0 then (some (0, I1)) else (some (1, I1))))))))))))))))
def y_Mo_sendOne : MethodName := ⟨"CalendarReplicasModel", "sendOne", "(III)I"⟩
def m_Mo_sendOne : q_M := (prog_11_method_46_code, 6, "CalendarReplicasModel", { frames := 2, cells := 0, slots := 0, locals := 43 }, (some FieldType.int))
theorem yv_Mo_sendOne : q_Y y_Mo_sendOne m_Mo_sendOne 3 := ⟨rfl, ⟨by decide, by decide⟩, by decide +kernel, tw_6_232, tw_1_15⟩
set_option maxRecDepth 100000 in
set_option maxHeartbeats 4000000 in
theorem c_Mo_sendOne (l : Launch) (D : va_G) (tc : Nat → ClassId) (x0 y : Nat) (I : q_I) (J : q_J) (P : q_P) (a1 : Int32) (a2 : Int32) (a3 : Int32) : q_Ct l (mG D tc x0 y) y_Mo_sendOne m_Mo_sendOne [q_r (mG D tc x0 y) 0, .int a1, .int a2, .int a3] (I, J, P) (f_Mo_sendOne I a1 a2 a3) (fun r : Int32 × q_I => (some (.int r.1), (r.2, J, P))) := by
  refine q_Ct_of (mIn D tc x0 y) (by decide) rfl (Nat.le_of_ble_eq_true rfl) rfl (fun X hX => ?_)
  subst hX
  unfold f_Mo_sendOne
  refine q_aload_n 0 0 1 rfl (by decide +kernel) rfl ?_
  refine q_iload_n 3 3 2 rfl (by decide +kernel) rfl ?_
  refine q_callV_i 5 rfl (av := [.int a3]) (o := 0) (st := []) (c_Mo_findEdit X.1 D tc x0 y I J P a3) yv_Mo_findEdit tw_6_233 tw_6_235 sw_56 (cC_Mo D tc x0 y) (rfl : mKd 0 = (1, 0, 21, 0, 0)) rfl (Nat.le_of_ble_eq_true rfl) (by decide +kernel) ⟨Nat.le_of_ble_eq_true rfl, Nat.le_of_ble_eq_true rfl⟩ ⟨Nat.le_of_ble_eq_true rfl, Nat.le_of_ble_eq_true rfl⟩ rfl rfl (fun v1 => ?_)
  refine q_istore 4 7 rfl [(4, .int v1), (0, q_r (mG D tc x0 y) 0), (1, .int a1), (2, .int a2), (3, .int a3)] (by decide +kernel) (Nat.le_of_ble_eq_true rfl) rfl ?_
  refine q_iload_n 2 1 8 rfl (by decide +kernel) rfl ?_
  refine q_callS_i 11 rfl (av := [.int a1]) (st := []) (c_Mo_isReplica X.1 D tc x0 y I J P a1) yv_Mo_isReplica tw_6_127 tw_6_128 rfl (Nat.le_of_ble_eq_true rfl) (by decide +kernel) ⟨Nat.le_of_ble_eq_true rfl, Nat.le_of_ble_eq_true rfl⟩ ⟨Nat.le_of_ble_eq_true rfl, Nat.le_of_ble_eq_true rfl⟩ rfl rfl (fun v2 => ?_)
  refine q_if_eq 14 rfl 47 (off := 36) (by decide +kernel) rfl (fun g6 => ?_) (fun g6 => ?_)
  · refine q_iconst (-1) (c := -1) 48 rfl (by decide +kernel) rfl ?_
    exact q_iret (by decide +kernel) rfl rfl (Nat.le_of_ble_eq_true rfl) (Nat.le_of_ble_eq_true rfl)
  · refine q_iload_n 3 2 15 rfl (by decide +kernel) rfl ?_
    refine q_callS_i 18 rfl (av := [.int a2]) (st := []) (c_Mo_isReplica X.1 D tc x0 y I J P a2) yv_Mo_isReplica tw_6_127 tw_6_128 rfl (Nat.le_of_ble_eq_true rfl) (by decide +kernel) ⟨Nat.le_of_ble_eq_true rfl, Nat.le_of_ble_eq_true rfl⟩ ⟨Nat.le_of_ble_eq_true rfl, Nat.le_of_ble_eq_true rfl⟩ rfl rfl (fun v3 => ?_)
    refine q_if_eq 21 rfl 47 (off := 29) (by decide +kernel) rfl (fun g5 => ?_) (fun g5 => ?_)
    · refine q_iconst (-1) (c := -1) 48 rfl (by decide +kernel) rfl ?_
      exact q_iret (by decide +kernel) rfl rfl (Nat.le_of_ble_eq_true rfl) (Nat.le_of_ble_eq_true rfl)
    · refine q_iload_n 2 1 22 rfl (by decide +kernel) rfl ?_
      refine q_iload_n 3 2 23 rfl (by decide +kernel) rfl ?_
      refine q_icmp_eq 26 rfl 47 (off := 24) (by decide +kernel) rfl (fun g4 => ?_) (fun g4 => ?_)
      · refine q_iconst (-1) (c := -1) 48 rfl (by decide +kernel) rfl ?_
        exact q_iret (by decide +kernel) rfl rfl (Nat.le_of_ble_eq_true rfl) (Nat.le_of_ble_eq_true rfl)
      · refine q_iload 0 4 28 rfl (by decide +kernel) rfl ?_
        refine q_if_lt 31 rfl 47 (off := 19) (by decide +kernel) rfl (fun g3 => ?_) (fun g3 => ?_)
        · refine q_iconst (-1) (c := -1) 48 rfl (by decide +kernel) rfl ?_
          exact q_iret (by decide +kernel) rfl rfl (Nat.le_of_ble_eq_true rfl) (Nat.le_of_ble_eq_true rfl)
        · refine q_aload_n 1 0 32 rfl (by decide +kernel) rfl ?_
          refine q_getr (f := 0) 1 35 rfl (by decide +kernel) (cC_Mo D tc x0 y) (rfl : mKd 0 = (1, 0, 21, 0, 0)) (by decide) rfl rfl tw_5_212 ?_
          refine q_iconst 4 (c := 4) 36 rfl (by decide +kernel) rfl ?_
          refine q_iload_n 2 1 37 rfl (by decide +kernel) rfl ?_
          refine q_iadd 38 rfl (by decide +kernel) ?_
          refine q_iald (t := 0) 39 rfl (by decide +kernel) (rfl : mKd 1 = (2, 280, 0, 0, 0)) rfl (fun j1 hj1 => ?_)
          refine q_iload 0 4 41 rfl (by decide +kernel) rfl ?_
          refine q_ishr 42 rfl (by decide +kernel) ?_
          refine q_iconst 1 (c := 1) 43 rfl (by decide +kernel) rfl ?_
          refine q_iand 44 rfl (by decide +kernel) ?_
          refine q_if_ne 47 rfl 49 (off := 5) (by decide +kernel) rfl (fun g2 => ?_) (fun g2 => ?_)
          · refine q_iconst 1 (c := 1) 50 rfl (by decide +kernel) rfl ?_
            refine q_iload 0 4 52 rfl (by decide +kernel) rfl ?_
            refine q_ishl 53 rfl (by decide +kernel) ?_
            refine q_aload_n 1 0 54 rfl (by decide +kernel) rfl ?_
            refine q_getr (f := 0) 1 57 rfl (by decide +kernel) (cC_Mo D tc x0 y) (rfl : mKd 0 = (1, 0, 21, 0, 0)) (by decide) rfl rfl tw_5_212 ?_
            refine q_iconst 4 (c := 4) 58 rfl (by decide +kernel) rfl ?_
            refine q_iload_n 3 2 59 rfl (by decide +kernel) rfl ?_
            refine q_iadd 60 rfl (by decide +kernel) ?_
            refine q_iald (t := 0) 61 rfl (by decide +kernel) (rfl : mKd 1 = (2, 280, 0, 0, 0)) rfl (fun j2 hj2 => ?_)
            refine q_iconst (-1) (c := -1) 62 rfl (by decide +kernel) rfl ?_
            refine q_ixor 63 rfl (by decide +kernel) ?_
            refine q_iand 64 rfl (by decide +kernel) ?_
            refine q_leti (fun x1 => ?_)
            refine q_istore 5 66 rfl [(5, .int x1), (4, .int v1), (0, q_r (mG D tc x0 y) 0), (1, .int a1), (2, .int a2), (3, .int a3)] (by decide +kernel) (Nat.le_of_ble_eq_true rfl) rfl ?_
            refine q_aload_n 2 0 67 rfl (by decide +kernel) rfl ?_
            refine q_getr (f := 0) 1 70 rfl (by decide +kernel) (cC_Mo D tc x0 y) (rfl : mKd 0 = (1, 0, 21, 0, 0)) (by decide) rfl rfl tw_5_212 ?_
            refine q_iconst 4 (c := 4) 71 rfl (by decide +kernel) rfl ?_
            refine q_iload_n 4 2 72 rfl (by decide +kernel) rfl ?_
            refine q_iadd 73 rfl (by decide +kernel) ?_
            refine q_dup2 74 rfl (by decide +kernel) rfl rfl ?_
            refine q_iald (t := 0) 75 rfl (by decide +kernel) (rfl : mKd 1 = (2, 280, 0, 0, 0)) rfl (fun j3 hj3 => ?_)
            refine q_iload 0 5 77 rfl (by decide +kernel) rfl ?_
            refine q_ior 78 rfl (by decide +kernel) ?_
            refine q_iast (t := 0) 79 rfl (by decide +kernel) (rfl : mKd 1 = (2, 280, 0, 0, 0)) rfl (fun j4 hj4 => ?_)
            refine q_letI (fun I1 => ?_)
            refine q_iload 0 5 81 rfl (by decide +kernel) rfl ?_
            refine q_if_ne 84 rfl 88 (off := 7) (by decide +kernel) rfl (fun g1 => ?_) (fun g1 => ?_)
            · refine q_iconst 1 (c := 1) 89 rfl (by decide +kernel) rfl ?_
              exact q_iret (by decide +kernel) rfl rfl (Nat.le_of_ble_eq_true rfl) (Nat.le_of_ble_eq_true rfl)
            · refine q_iconst 0 (c := 0) 85 rfl (by decide +kernel) rfl ?_
              refine q_goto (off := 4) 89 (by decide +kernel) rfl ?_
              exact q_iret (by decide +kernel) rfl rfl (Nat.le_of_ble_eq_true rfl) (Nat.le_of_ble_eq_true rfl)
          · refine q_iconst (-1) (c := -1) 48 rfl (by decide +kernel) rfl ?_
            exact q_iret (by decide +kernel) rfl rfl (Nat.le_of_ble_eq_true rfl) (Nat.le_of_ble_eq_true rfl)
def f_Mo_compact_L1 (K : q_I → Option (Int32 × q_I × q_J)) : Nat → Int32 → q_I → Option (Int32 × q_I × q_J)
  | 0, _, _ => none
  | n + 1, x2, I3 => if (7 * (I3 0 7)) ≤ x2 then ((K I3)) else (q_ix x2 175 (fun j6 => q_ix (40 + x2) 280 (fun j7 => q_l (q_ui I3 1 j7 (I3 6 j6)) (fun I4 => (f_Mo_compact_L1  K n (x2 + 1) I4)))))
def f_Mo_compact_L2 (K : q_I → Option (Int32 × q_I × q_J)) : Nat → Int32 → q_I → Option (Int32 × q_I × q_J)
  | 0, _, _ => none
  | n + 1, x3, I7 => if (3 : Int32) ≤ x3 then ((K I7)) else (q_ix (4 + x3) 280 (fun j9 => q_l (q_ui I7 1 j9 0) (fun I8 => (f_Mo_compact_L2  K n (x3 + 1) I8))))
def f_Mo_compact (I : q_I) (J : q_J) : Option (Int32 × q_I × q_J) :=
  q_ix 0 280 (fun j1 => q_l ((1 <<< ((I 1 j1) &&& 31)) - 1 : Int32) (fun x1 => q_ix 4 280 (fun j2 => if (I 1 j2) = x1 then (q_ix 5 280 (fun j3 => if (I 1 j3) = x1 then (q_ix 6 280 (fun j4 => if (I 1 j4) = x1 then (q_b2 (f_Mo_shows I J 0) (fun I1 J1 => if (I1 0 7) ≤ 12 then (q_ix 2 280 (fun j5 => q_l (q_ui I1 1 j5 (I1 0 7)) (fun I2 => f_Mo_compact_L1  (fun (I5 : q_I) => q_ix 0 280 (fun j8 => q_l (q_ui I5 1 j8 0) (fun I6 => f_Mo_compact_L2  (fun (I9 : q_I) => some ((I9 0 7), I9, J1)) q_fu 0 I6))) q_fu 0 I2))) else (some ((-2), I1, J1)))) else (some ((-3), I, J)))) else (some ((-3), I, J)))) else (some ((-3), I, J)))))
def y_Mo_compact : MethodName := ⟨"CalendarReplicasModel", "compact", "()I"⟩
def m_Mo_compact : q_M := (prog_11_method_47_code, 3, "CalendarReplicasModel", { frames := 8, cells := 0, slots := 0, locals := 192 }, (some FieldType.int))
theorem yv_Mo_compact : q_Y y_Mo_compact m_Mo_compact 0 := ⟨rfl, ⟨by decide, by decide⟩, by decide +kernel, tw_7_0, tw_1_15⟩
set_option maxRecDepth 100000 in
set_option maxHeartbeats 4000000 in
theorem c_Mo_compact (l : Launch) (D : va_G) (tc : Nat → ClassId) (x0 y : Nat) (I : q_I) (J : q_J) (P : q_P) : q_Ct l (mG D tc x0 y) y_Mo_compact m_Mo_compact [q_r (mG D tc x0 y) 0] (I, J, P) (f_Mo_compact I J) (fun r : Int32 × q_I × q_J => (some (.int r.1), (r.2.1, r.2.2, P))) := by
  refine q_Ct_of (mIn D tc x0 y) (by decide) rfl (Nat.le_of_ble_eq_true rfl) rfl (fun X hX => ?_)
  subst hX
  unfold f_Mo_compact
  refine q_iconst 1 (c := 1) 1 rfl (by decide +kernel) rfl ?_
  refine q_aload_n 0 0 2 rfl (by decide +kernel) rfl ?_
  refine q_getr (f := 0) 1 5 rfl (by decide +kernel) (cC_Mo D tc x0 y) (rfl : mKd 0 = (1, 0, 21, 0, 0)) (by decide) rfl rfl tw_5_212 ?_
  refine q_iconst 0 (c := 0) 6 rfl (by decide +kernel) rfl ?_
  refine q_iald (t := 0) 7 rfl (by decide +kernel) (rfl : mKd 1 = (2, 280, 0, 0, 0)) rfl (fun j1 hj1 => ?_)
  refine q_ishl 8 rfl (by decide +kernel) ?_
  refine q_iconst 1 (c := 1) 9 rfl (by decide +kernel) rfl ?_
  refine q_isub 10 rfl (by decide +kernel) ?_
  refine q_leti (fun x1 => ?_)
  refine q_istore_n 1 1 11 rfl [(1, .int x1), (0, q_r (mG D tc x0 y) 0)] (by decide +kernel) rfl (Nat.le_of_ble_eq_true rfl) rfl ?_
  refine q_aload_n 1 0 12 rfl (by decide +kernel) rfl ?_
  refine q_getr (f := 0) 1 15 rfl (by decide +kernel) (cC_Mo D tc x0 y) (rfl : mKd 0 = (1, 0, 21, 0, 0)) (by decide) rfl rfl tw_5_212 ?_
  refine q_iconst 4 (c := 4) 16 rfl (by decide +kernel) rfl ?_
  refine q_iald (t := 0) 17 rfl (by decide +kernel) (rfl : mKd 1 = (2, 280, 0, 0, 0)) rfl (fun j2 hj2 => ?_)
  refine q_iload_n 0 1 18 rfl (by decide +kernel) rfl ?_
  refine q_icmp_ne 21 rfl 42 (off := 24) (by decide +kernel) rfl (fun g6 => ?_) (fun g6 => ?_)
  · refine q_bipush (-3) (c := -3) 44 rfl (by decide +kernel) rfl ?_
    exact q_iret (by decide +kernel) rfl rfl (Nat.le_of_ble_eq_true rfl) (Nat.le_of_ble_eq_true rfl)
  · refine q_aload_n 1 0 22 rfl (by decide +kernel) rfl ?_
    refine q_getr (f := 0) 1 25 rfl (by decide +kernel) (cC_Mo D tc x0 y) (rfl : mKd 0 = (1, 0, 21, 0, 0)) (by decide) rfl rfl tw_5_212 ?_
    refine q_iconst 5 (c := 5) 26 rfl (by decide +kernel) rfl ?_
    refine q_iald (t := 0) 27 rfl (by decide +kernel) (rfl : mKd 1 = (2, 280, 0, 0, 0)) rfl (fun j3 hj3 => ?_)
    refine q_iload_n 0 1 28 rfl (by decide +kernel) rfl ?_
    refine q_icmp_ne 31 rfl 42 (off := 14) (by decide +kernel) rfl (fun g5 => ?_) (fun g5 => ?_)
    · refine q_bipush (-3) (c := -3) 44 rfl (by decide +kernel) rfl ?_
      exact q_iret (by decide +kernel) rfl rfl (Nat.le_of_ble_eq_true rfl) (Nat.le_of_ble_eq_true rfl)
    · refine q_aload_n 1 0 32 rfl (by decide +kernel) rfl ?_
      refine q_getr (f := 0) 1 35 rfl (by decide +kernel) (cC_Mo D tc x0 y) (rfl : mKd 0 = (1, 0, 21, 0, 0)) (by decide) rfl rfl tw_5_212 ?_
      refine q_bipush 6 (c := 6) 37 rfl (by decide +kernel) rfl ?_
      refine q_iald (t := 0) 38 rfl (by decide +kernel) (rfl : mKd 1 = (2, 280, 0, 0, 0)) rfl (fun j4 hj4 => ?_)
      refine q_iload_n 0 1 39 rfl (by decide +kernel) rfl ?_
      refine q_icmp_eq 42 rfl 45 (off := 6) (by decide +kernel) rfl (fun g4 => ?_) (fun g4 => ?_)
      · refine q_aload_n 1 0 46 rfl (by decide +kernel) rfl ?_
        refine q_iconst 0 (c := 0) 47 rfl (by decide +kernel) rfl ?_
        refine q_callV_vIJ 50 rfl (av := [.int 0]) (o := 0) (st := []) (c_Mo_shows X.1 D tc x0 y I J P 0) yv_Mo_shows tw_6_201 tw_6_203 sw_55 (cC_Mo D tc x0 y) (rfl : mKd 0 = (1, 0, 21, 0, 0)) rfl (Nat.le_of_ble_eq_true rfl) (by decide +kernel) ⟨Nat.le_of_ble_eq_true rfl, Nat.le_of_ble_eq_true rfl⟩ ⟨Nat.le_of_ble_eq_true rfl, Nat.le_of_ble_eq_true rfl⟩ rfl rfl (fun I1 J1 => ?_)
        refine q_aload_n 1 0 51 rfl (by decide +kernel) rfl ?_
        refine q_geti (f := 7) 54 rfl (by decide +kernel) (cC_Mo D tc x0 y) (rfl : mKd 0 = (1, 0, 21, 0, 0)) (by decide) rfl tw_5_219 ?_
        refine q_bipush 12 (c := 12) 56 rfl (by decide +kernel) rfl ?_
        refine q_icmp_le 59 rfl 62 (off := 6) (by decide +kernel) rfl (fun g3 => ?_) (fun g3 => ?_)
        · refine q_aload_n 1 0 63 rfl (by decide +kernel) rfl ?_
          refine q_getr (f := 0) 1 66 rfl (by decide +kernel) (cC_Mo D tc x0 y) (rfl : mKd 0 = (1, 0, 21, 0, 0)) (by decide) rfl rfl tw_5_212 ?_
          refine q_iconst 2 (c := 2) 67 rfl (by decide +kernel) rfl ?_
          refine q_aload_n 1 0 68 rfl (by decide +kernel) rfl ?_
          refine q_geti (f := 7) 71 rfl (by decide +kernel) (cC_Mo D tc x0 y) (rfl : mKd 0 = (1, 0, 21, 0, 0)) (by decide) rfl tw_5_219 ?_
          refine q_iast (t := 0) 72 rfl (by decide +kernel) (rfl : mKd 1 = (2, 280, 0, 0, 0)) rfl (fun j5 hj5 => ?_)
          refine q_letI (fun I2 => ?_)
          refine q_iconst 0 (c := 0) 73 rfl (by decide +kernel) rfl ?_
          refine q_istore_n 2 2 74 rfl [(2, .int 0), (1, .int x1), (0, q_r (mG D tc x0 y) 0)] (by decide +kernel) rfl (Nat.le_of_ble_eq_true rfl) rfl ?_
          have hL1 : ∀ (K1 : q_I → Option (Int32 × q_I × q_J)) (hK1 : ∀ (I5 : q_I), q_V (mG D tc x0 y) m_Mo_compact X (fun r : Int32 × q_I × q_J => (some (.int r.1), (r.2.1, r.2.2, P))) 0 0 106 [(0, q_r (mG D tc x0 y) 0)] [] I5 J1 P (K1 I5)) (n1_ : Nat) (x2 : Int32) (I3 : q_I), q_V (mG D tc x0 y) m_Mo_compact X (fun r : Int32 × q_I × q_J => (some (.int r.1), (r.2.1, r.2.2, P))) 0 0 74 [(0, q_r (mG D tc x0 y) 0), (2, .int x2)] [] I3 J1 P (f_Mo_compact_L1  K1 n1_ x2 I3) := by
            intro K1 hK1 n1_
            induction n1_ with
            | zero => intro x2 I3; exact q_none
            | succ n1_ ih1 =>
              intro x2 I3
              rw [f_Mo_compact_L1]
              refine q_iload_n 1 2 75 rfl (by decide +kernel) rfl ?_
              refine q_bipush 7 (c := 7) 77 rfl (by decide +kernel) rfl ?_
              refine q_aload_n 0 0 78 rfl (by decide +kernel) rfl ?_
              refine q_geti (f := 7) 81 rfl (by decide +kernel) (cC_Mo D tc x0 y) (rfl : mKd 0 = (1, 0, 21, 0, 0)) (by decide) rfl tw_5_219 ?_
              refine q_imul 82 rfl (by decide +kernel) ?_
              refine q_icmp_ge 85 rfl 106 (off := 24) (by decide +kernel) rfl (fun g1 => ?_) (fun g1 => ?_)
              · refine q_sub [0] rfl ?_
                exact hK1 I3
              · refine q_aload_n 0 0 86 rfl (by decide +kernel) rfl ?_
                refine q_getr (f := 0) 1 89 rfl (by decide +kernel) (cC_Mo D tc x0 y) (rfl : mKd 0 = (1, 0, 21, 0, 0)) (by decide) rfl rfl tw_5_212 ?_
                refine q_bipush 40 (c := 40) 91 rfl (by decide +kernel) rfl ?_
                refine q_iload_n 1 2 92 rfl (by decide +kernel) rfl ?_
                refine q_iadd 93 rfl (by decide +kernel) ?_
                refine q_aload_n 0 0 94 rfl (by decide +kernel) rfl ?_
                refine q_getr (f := 8) 6 97 rfl (by decide +kernel) (cC_Mo D tc x0 y) (rfl : mKd 0 = (1, 0, 21, 0, 0)) (by decide) rfl rfl tw_5_220 ?_
                refine q_iload_n 1 2 98 rfl (by decide +kernel) rfl ?_
                refine q_iald (t := 0) 99 rfl (by decide +kernel) (rfl : mKd 6 = (2, 175, 0, 0, 0)) rfl (fun j6 hj6 => ?_)
                refine q_iast (t := 0) 100 rfl (by decide +kernel) (rfl : mKd 1 = (2, 280, 0, 0, 0)) rfl (fun j7 hj7 => ?_)
                refine q_letI (fun I4 => ?_)
                refine q_iinc (x2 + 1) (c := 1) 2 1 103 rfl [(2, .int (x2 + 1)), (0, q_r (mG D tc x0 y) 0)] (by decide +kernel) rfl rfl (Nat.le_of_ble_eq_true rfl) rfl ?_
                refine q_goto (off := -29) 74 (by decide +kernel) rfl ?_
                refine q_sub [1, 0] rfl ?_
                exact ih1 (x2 + 1) I4
          refine q_sub [2, 0] rfl ?_
          refine hL1 _ (fun I5 => ?_) _ _ _
          refine q_aload_n 0 0 107 rfl (by decide +kernel) rfl ?_
          refine q_getr (f := 0) 1 110 rfl (by decide +kernel) (cC_Mo D tc x0 y) (rfl : mKd 0 = (1, 0, 21, 0, 0)) (by decide) rfl rfl tw_5_212 ?_
          refine q_iconst 0 (c := 0) 111 rfl (by decide +kernel) rfl ?_
          refine q_iconst 0 (c := 0) 112 rfl (by decide +kernel) rfl ?_
          refine q_iast (t := 0) 113 rfl (by decide +kernel) (rfl : mKd 1 = (2, 280, 0, 0, 0)) rfl (fun j8 hj8 => ?_)
          refine q_letI (fun I6 => ?_)
          refine q_iconst 0 (c := 0) 114 rfl (by decide +kernel) rfl ?_
          refine q_istore_n 2 2 115 rfl [(2, .int 0), (0, q_r (mG D tc x0 y) 0)] (by decide +kernel) rfl (Nat.le_of_ble_eq_true rfl) rfl ?_
          have hL2 : ∀ (K2 : q_I → Option (Int32 × q_I × q_J)) (hK2 : ∀ (I9 : q_I), q_V (mG D tc x0 y) m_Mo_compact X (fun r : Int32 × q_I × q_J => (some (.int r.1), (r.2.1, r.2.2, P))) 0 0 135 [(0, q_r (mG D tc x0 y) 0)] [] I9 J1 P (K2 I9)) (n2_ : Nat) (x3 : Int32) (I7 : q_I), q_V (mG D tc x0 y) m_Mo_compact X (fun r : Int32 × q_I × q_J => (some (.int r.1), (r.2.1, r.2.2, P))) 0 0 115 [(0, q_r (mG D tc x0 y) 0), (2, .int x3)] [] I7 J1 P (f_Mo_compact_L2  K2 n2_ x3 I7) := by
            intro K2 hK2 n2_
            induction n2_ with
            | zero => intro x3 I7; exact q_none
            | succ n2_ ih2 =>
              intro x3 I7
              rw [f_Mo_compact_L2]
              refine q_iload_n 1 2 116 rfl (by decide +kernel) rfl ?_
              refine q_iconst 3 (c := 3) 117 rfl (by decide +kernel) rfl ?_
              refine q_icmp_ge 120 rfl 135 (off := 18) (by decide +kernel) rfl (fun g2 => ?_) (fun g2 => ?_)
              · refine q_sub [0] rfl ?_
                exact hK2 I7
              · refine q_aload_n 0 0 121 rfl (by decide +kernel) rfl ?_
                refine q_getr (f := 0) 1 124 rfl (by decide +kernel) (cC_Mo D tc x0 y) (rfl : mKd 0 = (1, 0, 21, 0, 0)) (by decide) rfl rfl tw_5_212 ?_
                refine q_iconst 4 (c := 4) 125 rfl (by decide +kernel) rfl ?_
                refine q_iload_n 1 2 126 rfl (by decide +kernel) rfl ?_
                refine q_iadd 127 rfl (by decide +kernel) ?_
                refine q_iconst 0 (c := 0) 128 rfl (by decide +kernel) rfl ?_
                refine q_iast (t := 0) 129 rfl (by decide +kernel) (rfl : mKd 1 = (2, 280, 0, 0, 0)) rfl (fun j9 hj9 => ?_)
                refine q_letI (fun I8 => ?_)
                refine q_iinc (x3 + 1) (c := 1) 2 1 132 rfl [(2, .int (x3 + 1)), (0, q_r (mG D tc x0 y) 0)] (by decide +kernel) rfl rfl (Nat.le_of_ble_eq_true rfl) rfl ?_
                refine q_goto (off := -17) 115 (by decide +kernel) rfl ?_
                refine q_sub [1, 0] rfl ?_
                exact ih2 (x3 + 1) I8
          refine q_sub [1, 0] rfl ?_
          refine hL2 _ (fun I9 => ?_) _ _ _
          refine q_aload_n 0 0 136 rfl (by decide +kernel) rfl ?_
          refine q_geti (f := 7) 139 rfl (by decide +kernel) (cC_Mo D tc x0 y) (rfl : mKd 0 = (1, 0, 21, 0, 0)) (by decide) rfl tw_5_219 ?_
          exact q_iret (by decide +kernel) rfl rfl (Nat.le_of_ble_eq_true rfl) (Nat.le_of_ble_eq_true rfl)
        · refine q_bipush (-2) (c := -2) 61 rfl (by decide +kernel) rfl ?_
          exact q_iret (by decide +kernel) rfl rfl (Nat.le_of_ble_eq_true rfl) (Nat.le_of_ble_eq_true rfl)
      · refine q_bipush (-3) (c := -3) 44 rfl (by decide +kernel) rfl ?_
        exact q_iret (by decide +kernel) rfl rfl (Nat.le_of_ble_eq_true rfl) (Nat.le_of_ble_eq_true rfl)
def f_Mo_meetings (I : q_I) (J : q_J) (a1 : Int32) : Option (Int32 × q_I × q_J) :=
  q_b1 (f_Mo_isReplica a1) (fun v1 => if v1 = 0 then (some ((-1), I, J)) else (q_b2 (f_Mo_shows I J a1) (fun I1 J1 => some ((I1 0 7), I1, J1))))
def y_Mo_meetings : MethodName := ⟨"CalendarReplicasModel", "meetings", "(I)I"⟩
def m_Mo_meetings : q_M := (prog_11_method_48_code, 2, "CalendarReplicasModel", { frames := 8, cells := 0, slots := 0, locals := 192 }, (some FieldType.int))
theorem yv_Mo_meetings : q_Y y_Mo_meetings m_Mo_meetings 1 := ⟨rfl, ⟨by decide, by decide⟩, by decide +kernel, tw_7_4, tw_1_15⟩
set_option maxRecDepth 100000 in
set_option maxHeartbeats 4000000 in
theorem c_Mo_meetings (l : Launch) (D : va_G) (tc : Nat → ClassId) (x0 y : Nat) (I : q_I) (J : q_J) (P : q_P) (a1 : Int32) : q_Ct l (mG D tc x0 y) y_Mo_meetings m_Mo_meetings [q_r (mG D tc x0 y) 0, .int a1] (I, J, P) (f_Mo_meetings I J a1) (fun r : Int32 × q_I × q_J => (some (.int r.1), (r.2.1, r.2.2, P))) := by
  refine q_Ct_of (mIn D tc x0 y) (by decide) rfl (Nat.le_of_ble_eq_true rfl) rfl (fun X hX => ?_)
  subst hX
  unfold f_Mo_meetings
  refine q_iload_n 1 1 1 rfl (by decide +kernel) rfl ?_
  refine q_callS_i 4 rfl (av := [.int a1]) (st := []) (c_Mo_isReplica X.1 D tc x0 y I J P a1) yv_Mo_isReplica tw_6_127 tw_6_128 rfl (Nat.le_of_ble_eq_true rfl) (by decide +kernel) ⟨Nat.le_of_ble_eq_true rfl, Nat.le_of_ble_eq_true rfl⟩ ⟨Nat.le_of_ble_eq_true rfl, Nat.le_of_ble_eq_true rfl⟩ rfl rfl (fun v1 => ?_)
  refine q_if_ne 7 rfl 9 (off := 5) (by decide +kernel) rfl (fun g1 => ?_) (fun g1 => ?_)
  · refine q_aload_n 0 0 10 rfl (by decide +kernel) rfl ?_
    refine q_iload_n 1 1 11 rfl (by decide +kernel) rfl ?_
    refine q_callV_vIJ 14 rfl (av := [.int a1]) (o := 0) (st := []) (c_Mo_shows X.1 D tc x0 y I J P a1) yv_Mo_shows tw_6_201 tw_6_203 sw_55 (cC_Mo D tc x0 y) (rfl : mKd 0 = (1, 0, 21, 0, 0)) rfl (Nat.le_of_ble_eq_true rfl) (by decide +kernel) ⟨Nat.le_of_ble_eq_true rfl, Nat.le_of_ble_eq_true rfl⟩ ⟨Nat.le_of_ble_eq_true rfl, Nat.le_of_ble_eq_true rfl⟩ rfl rfl (fun I1 J1 => ?_)
    refine q_aload_n 0 0 15 rfl (by decide +kernel) rfl ?_
    refine q_geti (f := 7) 18 rfl (by decide +kernel) (cC_Mo D tc x0 y) (rfl : mKd 0 = (1, 0, 21, 0, 0)) (by decide) rfl tw_5_219 ?_
    exact q_iret (by decide +kernel) rfl rfl (Nat.le_of_ble_eq_true rfl) (Nat.le_of_ble_eq_true rfl)
  · refine q_iconst (-1) (c := -1) 8 rfl (by decide +kernel) rfl ?_
    exact q_iret (by decide +kernel) rfl rfl (Nat.le_of_ble_eq_true rfl) (Nat.le_of_ble_eq_true rfl)
def f_Mo_indexOf_L2 (I : q_I) (x1 : Int32) (K : Int32 → Option (Int32)) : Nat → Int32 → Int32 → Option (Int32)
  | 0, _, _ => none
  | n + 1, x2, x3 => if (I 0 7) ≤ x3 then ((K x2)) else (q_b1 (f_Mo_meeting x3 0) (fun v1 => q_ix v1 175 (fun j1 => q_b1 (f_Mo_meeting x1 0) (fun v2 => q_ix v2 175 (fun j2 => if (I 6 j2) ≤ (I 6 j1) then (q_l (x2 + 0 : Int32) (fun x4 => (f_Mo_indexOf_L2 I x1 K n x4 (x3 + 1)))) else (q_l (x2 + 1 : Int32) (fun x5 => (f_Mo_indexOf_L2 I x1 K n x5 (x3 + 1)))))))))
def f_Mo_indexOf_L1 (I : q_I) (a1 : Int32) : Nat → Int32 → Option (Int32)
  | 0, _ => none
  | n + 1, x1 => if (I 0 7) ≤ x1 then (some ((-1))) else (f_Mo_indexOf_L2 I x1 (fun (x6 : Int32) => if x6 = a1 then (some (x1)) else ((f_Mo_indexOf_L1 I a1 n (x1 + 1)))) q_fu 0 0)
def f_Mo_indexOf (I : q_I) (a1 : Int32) : Option (Int32) :=
  f_Mo_indexOf_L1 I a1 q_fu 0
def y_Mo_indexOf : MethodName := ⟨"CalendarReplicasModel", "indexOf", "(I)I"⟩
def m_Mo_indexOf : q_M := (prog_11_method_49_code, 5, "CalendarReplicasModel", { frames := 1, cells := 0, slots := 0, locals := 21 }, (some FieldType.int))
theorem yv_Mo_indexOf : q_Y y_Mo_indexOf m_Mo_indexOf 1 := ⟨rfl, ⟨by decide, by decide⟩, by decide +kernel, tw_7_12, tw_1_15⟩
set_option maxRecDepth 100000 in
set_option maxHeartbeats 4000000 in
theorem c_Mo_indexOf (l : Launch) (D : va_G) (tc : Nat → ClassId) (x0 y : Nat) (I : q_I) (J : q_J) (P : q_P) (a1 : Int32) : q_Ct l (mG D tc x0 y) y_Mo_indexOf m_Mo_indexOf [q_r (mG D tc x0 y) 0, .int a1] (I, J, P) (f_Mo_indexOf I a1) (fun r : Int32 => (some (.int r), (I, J, P))) := by
  refine q_Ct_of (mIn D tc x0 y) (by decide) rfl (Nat.le_of_ble_eq_true rfl) rfl (fun X hX => ?_)
  subst hX
  unfold f_Mo_indexOf
  refine q_iconst 0 (c := 0) 1 rfl (by decide +kernel) rfl ?_
  refine q_istore_n 2 2 2 rfl [(2, .int 0), (0, q_r (mG D tc x0 y) 0), (1, .int a1)] (by decide +kernel) rfl (Nat.le_of_ble_eq_true rfl) rfl ?_
  have hL1 : ∀ (n1_ : Nat) (x1 : Int32), q_V (mG D tc x0 y) m_Mo_indexOf X (fun r : Int32 => (some (.int r), (I, J, P))) 0 0 2 [(0, q_r (mG D tc x0 y) 0), (1, .int a1), (2, .int x1)] [] I J P (f_Mo_indexOf_L1 I a1 n1_ x1) := by
    intro n1_
    induction n1_ with
    | zero => intro x1; exact q_none
    | succ n1_ ih1 =>
      intro x1
      rw [f_Mo_indexOf_L1]
      refine q_iload_n 2 2 3 rfl (by decide +kernel) rfl ?_
      refine q_aload_n 0 0 4 rfl (by decide +kernel) rfl ?_
      refine q_geti (f := 7) 7 rfl (by decide +kernel) (cC_Mo D tc x0 y) (rfl : mKd 0 = (1, 0, 21, 0, 0)) (by decide) rfl tw_5_219 ?_
      refine q_icmp_ge 10 rfl 75 (off := 68) (by decide +kernel) rfl (fun g4 => ?_) (fun g4 => ?_)
      · refine q_iconst (-1) (c := -1) 76 rfl (by decide +kernel) rfl ?_
        exact q_iret (by decide +kernel) rfl rfl (Nat.le_of_ble_eq_true rfl) (Nat.le_of_ble_eq_true rfl)
      · refine q_iconst 0 (c := 0) 11 rfl (by decide +kernel) rfl ?_
        refine q_istore_n 3 3 12 rfl [(3, .int 0), (0, q_r (mG D tc x0 y) 0), (1, .int a1), (2, .int x1)] (by decide +kernel) rfl (Nat.le_of_ble_eq_true rfl) rfl ?_
        refine q_iconst 0 (c := 0) 13 rfl (by decide +kernel) rfl ?_
        refine q_istore 4 15 rfl [(4, .int 0), (3, .int 0), (0, q_r (mG D tc x0 y) 0), (1, .int a1), (2, .int x1)] (by decide +kernel) (Nat.le_of_ble_eq_true rfl) rfl ?_
        have hL2 : ∀ (K2 : Int32 → Option (Int32)) (hK2 : ∀ (x6 : Int32), q_V (mG D tc x0 y) m_Mo_indexOf X (fun r : Int32 => (some (.int r), (I, J, P))) 0 0 62 [(0, q_r (mG D tc x0 y) 0), (1, .int a1), (2, .int x1), (3, .int x6)] [] I J P (K2 x6)) (n2_ : Nat) (x2 : Int32) (x3 : Int32), q_V (mG D tc x0 y) m_Mo_indexOf X (fun r : Int32 => (some (.int r), (I, J, P))) 0 0 15 [(0, q_r (mG D tc x0 y) 0), (1, .int a1), (2, .int x1), (3, .int x2), (4, .int x3)] [] I J P (f_Mo_indexOf_L2 I x1 K2 n2_ x2 x3) := by
          intro K2 hK2 n2_
          induction n2_ with
          | zero => intro x2 x3; exact q_none
          | succ n2_ ih2 =>
            intro x2 x3
            rw [f_Mo_indexOf_L2]
            refine q_iload 4 4 17 rfl (by decide +kernel) rfl ?_
            refine q_aload_n 0 0 18 rfl (by decide +kernel) rfl ?_
            refine q_geti (f := 7) 21 rfl (by decide +kernel) (cC_Mo D tc x0 y) (rfl : mKd 0 = (1, 0, 21, 0, 0)) (by decide) rfl tw_5_219 ?_
            refine q_icmp_ge 24 rfl 62 (off := 41) (by decide +kernel) rfl (fun g2 => ?_) (fun g2 => ?_)
            · refine q_sub [0, 1, 2, 3] rfl ?_
              exact hK2 x2
            · refine q_iload_n 3 3 25 rfl (by decide +kernel) rfl ?_
              refine q_aload_n 0 0 26 rfl (by decide +kernel) rfl ?_
              refine q_getr (f := 8) 6 29 rfl (by decide +kernel) (cC_Mo D tc x0 y) (rfl : mKd 0 = (1, 0, 21, 0, 0)) (by decide) rfl rfl tw_5_220 ?_
              refine q_iload 4 4 31 rfl (by decide +kernel) rfl ?_
              refine q_iconst 0 (c := 0) 32 rfl (by decide +kernel) rfl ?_
              refine q_callS_i 35 rfl (av := [.int x3, .int 0]) (st := [q_r (mG D tc x0 y) 6, .int x2]) (c_Mo_meeting X.1 D tc x0 y I J P x3 0) yv_Mo_meeting tw_6_86 tw_6_87 rfl (Nat.le_of_ble_eq_true rfl) (by decide +kernel) ⟨Nat.le_of_ble_eq_true rfl, Nat.le_of_ble_eq_true rfl⟩ ⟨Nat.le_of_ble_eq_true rfl, Nat.le_of_ble_eq_true rfl⟩ rfl rfl (fun v1 => ?_)
              refine q_iald (t := 0) 36 rfl (by decide +kernel) (rfl : mKd 6 = (2, 175, 0, 0, 0)) rfl (fun j1 hj1 => ?_)
              refine q_aload_n 0 0 37 rfl (by decide +kernel) rfl ?_
              refine q_getr (f := 8) 6 40 rfl (by decide +kernel) (cC_Mo D tc x0 y) (rfl : mKd 0 = (1, 0, 21, 0, 0)) (by decide) rfl rfl tw_5_220 ?_
              refine q_iload_n 2 2 41 rfl (by decide +kernel) rfl ?_
              refine q_iconst 0 (c := 0) 42 rfl (by decide +kernel) rfl ?_
              refine q_callS_i 45 rfl (av := [.int x1, .int 0]) (st := [q_r (mG D tc x0 y) 6, .int (I 6 j1), .int x2]) (c_Mo_meeting X.1 D tc x0 y I J P x1 0) yv_Mo_meeting tw_6_86 tw_6_87 rfl (Nat.le_of_ble_eq_true rfl) (by decide +kernel) ⟨Nat.le_of_ble_eq_true rfl, Nat.le_of_ble_eq_true rfl⟩ ⟨Nat.le_of_ble_eq_true rfl, Nat.le_of_ble_eq_true rfl⟩ rfl rfl (fun v2 => ?_)
              refine q_iald (t := 0) 46 rfl (by decide +kernel) (rfl : mKd 6 = (2, 175, 0, 0, 0)) rfl (fun j2 hj2 => ?_)
              refine q_icmp_ge 49 rfl 53 (off := 7) (by decide +kernel) rfl (fun g1 => ?_) (fun g1 => ?_)
              · refine q_iconst 0 (c := 0) 54 rfl (by decide +kernel) rfl ?_
                refine q_iadd 55 rfl (by decide +kernel) ?_
                refine q_leti (fun x4 => ?_)
                refine q_istore_n 3 3 56 rfl [(3, .int x4), (0, q_r (mG D tc x0 y) 0), (1, .int a1), (2, .int x1), (4, .int x3)] (by decide +kernel) rfl (Nat.le_of_ble_eq_true rfl) rfl ?_
                refine q_iinc (x3 + 1) (c := 1) 4 4 59 rfl [(4, .int (x3 + 1)), (3, .int x4), (0, q_r (mG D tc x0 y) 0), (1, .int a1), (2, .int x1)] (by decide +kernel) rfl rfl (Nat.le_of_ble_eq_true rfl) rfl ?_
                refine q_goto (off := -44) 15 (by decide +kernel) rfl ?_
                refine q_sub [2, 3, 4, 1, 0] rfl ?_
                exact ih2 x4 (x3 + 1)
              · refine q_iconst 1 (c := 1) 50 rfl (by decide +kernel) rfl ?_
                refine q_goto (off := 4) 54 (by decide +kernel) rfl ?_
                refine q_iadd 55 rfl (by decide +kernel) ?_
                refine q_leti (fun x5 => ?_)
                refine q_istore_n 3 3 56 rfl [(3, .int x5), (0, q_r (mG D tc x0 y) 0), (1, .int a1), (2, .int x1), (4, .int x3)] (by decide +kernel) rfl (Nat.le_of_ble_eq_true rfl) rfl ?_
                refine q_iinc (x3 + 1) (c := 1) 4 4 59 rfl [(4, .int (x3 + 1)), (3, .int x5), (0, q_r (mG D tc x0 y) 0), (1, .int a1), (2, .int x1)] (by decide +kernel) rfl rfl (Nat.le_of_ble_eq_true rfl) rfl ?_
                refine q_goto (off := -44) 15 (by decide +kernel) rfl ?_
                refine q_sub [2, 3, 4, 1, 0] rfl ?_
                exact ih2 x5 (x3 + 1)
        refine q_sub [2, 3, 4, 1, 0] rfl ?_
        refine hL2 _ (fun x6 => ?_) _ _ _
        refine q_iload_n 3 3 63 rfl (by decide +kernel) rfl ?_
        refine q_iload_n 1 1 64 rfl (by decide +kernel) rfl ?_
        refine q_icmp_ne 67 rfl 69 (off := 5) (by decide +kernel) rfl (fun g3 => ?_) (fun g3 => ?_)
        · refine q_iinc (x1 + 1) (c := 1) 2 2 72 rfl [(2, .int (x1 + 1)), (0, q_r (mG D tc x0 y) 0), (1, .int a1), (3, .int x6)] (by decide +kernel) rfl rfl (Nat.le_of_ble_eq_true rfl) rfl ?_
          refine q_goto (off := -70) 2 (by decide +kernel) rfl ?_
          refine q_sub [1, 2, 0] rfl ?_
          exact ih1 (x1 + 1)
        · refine q_iload_n 2 2 68 rfl (by decide +kernel) rfl ?_
          exact q_iret (by decide +kernel) rfl rfl (Nat.le_of_ble_eq_true rfl) (Nat.le_of_ble_eq_true rfl)
  refine q_sub [1, 2, 0] rfl ?_
  exact hL1 _ _
def f_Mo_meetingAt (I : q_I) (J : q_J) (a1 : Int32) (a2 : Int32) : Option (Int32 × q_I × q_J) :=
  q_b1 (f_Mo_isReplica a1) (fun v1 => if v1 = 0 then (some ((-1), I, J)) else (if (0 : Int32) ≤ a2 then (q_b2 (f_Mo_shows I J a1) (fun I1 J1 => q_b1 (f_Mo_indexOf I1 a2) (fun v2 => if (0 : Int32) ≤ v2 then (q_b1 (f_Mo_meeting v2 0) (fun v3 => q_ix v3 175 (fun j1 => some ((I1 6 j1), I1, J1)))) else (some ((-1), I1, J1))))) else (some ((-1), I, J))))
def y_Mo_meetingAt : MethodName := ⟨"CalendarReplicasModel", "meetingAt", "(II)I"⟩
def m_Mo_meetingAt : q_M := (prog_11_method_50_code, 4, "CalendarReplicasModel", { frames := 8, cells := 0, slots := 0, locals := 192 }, (some FieldType.int))
theorem yv_Mo_meetingAt : q_Y y_Mo_meetingAt m_Mo_meetingAt 2 := ⟨rfl, ⟨by decide, by decide⟩, by decide +kernel, tw_7_8, tw_1_15⟩
set_option maxRecDepth 100000 in
set_option maxHeartbeats 4000000 in
theorem c_Mo_meetingAt (l : Launch) (D : va_G) (tc : Nat → ClassId) (x0 y : Nat) (I : q_I) (J : q_J) (P : q_P) (a1 : Int32) (a2 : Int32) : q_Ct l (mG D tc x0 y) y_Mo_meetingAt m_Mo_meetingAt [q_r (mG D tc x0 y) 0, .int a1, .int a2] (I, J, P) (f_Mo_meetingAt I J a1 a2) (fun r : Int32 × q_I × q_J => (some (.int r.1), (r.2.1, r.2.2, P))) := by
  refine q_Ct_of (mIn D tc x0 y) (by decide) rfl (Nat.le_of_ble_eq_true rfl) rfl (fun X hX => ?_)
  subst hX
  unfold f_Mo_meetingAt
  refine q_iload_n 1 1 1 rfl (by decide +kernel) rfl ?_
  refine q_callS_i 4 rfl (av := [.int a1]) (st := []) (c_Mo_isReplica X.1 D tc x0 y I J P a1) yv_Mo_isReplica tw_6_127 tw_6_128 rfl (Nat.le_of_ble_eq_true rfl) (by decide +kernel) ⟨Nat.le_of_ble_eq_true rfl, Nat.le_of_ble_eq_true rfl⟩ ⟨Nat.le_of_ble_eq_true rfl, Nat.le_of_ble_eq_true rfl⟩ rfl rfl (fun v1 => ?_)
  refine q_if_eq 7 rfl 11 (off := 7) (by decide +kernel) rfl (fun g3 => ?_) (fun g3 => ?_)
  · refine q_iconst (-1) (c := -1) 12 rfl (by decide +kernel) rfl ?_
    exact q_iret (by decide +kernel) rfl rfl (Nat.le_of_ble_eq_true rfl) (Nat.le_of_ble_eq_true rfl)
  · refine q_iload_n 2 2 8 rfl (by decide +kernel) rfl ?_
    refine q_if_ge 11 rfl 13 (off := 5) (by decide +kernel) rfl (fun g2 => ?_) (fun g2 => ?_)
    · refine q_aload_n 0 0 14 rfl (by decide +kernel) rfl ?_
      refine q_iload_n 1 1 15 rfl (by decide +kernel) rfl ?_
      refine q_callV_vIJ 18 rfl (av := [.int a1]) (o := 0) (st := []) (c_Mo_shows X.1 D tc x0 y I J P a1) yv_Mo_shows tw_6_201 tw_6_203 sw_55 (cC_Mo D tc x0 y) (rfl : mKd 0 = (1, 0, 21, 0, 0)) rfl (Nat.le_of_ble_eq_true rfl) (by decide +kernel) ⟨Nat.le_of_ble_eq_true rfl, Nat.le_of_ble_eq_true rfl⟩ ⟨Nat.le_of_ble_eq_true rfl, Nat.le_of_ble_eq_true rfl⟩ rfl rfl (fun I1 J1 => ?_)
      refine q_aload_n 0 0 19 rfl (by decide +kernel) rfl ?_
      refine q_iload_n 2 2 20 rfl (by decide +kernel) rfl ?_
      refine q_callV_i 23 rfl (av := [.int a2]) (o := 0) (st := []) (c_Mo_indexOf X.1 D tc x0 y I1 J1 P a2) yv_Mo_indexOf tw_7_9 tw_7_11 sw_57 (cC_Mo D tc x0 y) (rfl : mKd 0 = (1, 0, 21, 0, 0)) rfl (Nat.le_of_ble_eq_true rfl) (by decide +kernel) ⟨Nat.le_of_ble_eq_true rfl, Nat.le_of_ble_eq_true rfl⟩ ⟨Nat.le_of_ble_eq_true rfl, Nat.le_of_ble_eq_true rfl⟩ rfl rfl (fun v2 => ?_)
      refine q_istore_n 3 3 24 rfl [(3, .int v2), (0, q_r (mG D tc x0 y) 0), (1, .int a1), (2, .int a2)] (by decide +kernel) rfl (Nat.le_of_ble_eq_true rfl) rfl ?_
      refine q_iload_n 0 3 25 rfl (by decide +kernel) rfl ?_
      refine q_if_ge 28 rfl 32 (off := 7) (by decide +kernel) rfl (fun g1 => ?_) (fun g1 => ?_)
      · refine q_aload_n 1 0 33 rfl (by decide +kernel) rfl ?_
        refine q_getr (f := 8) 6 36 rfl (by decide +kernel) (cC_Mo D tc x0 y) (rfl : mKd 0 = (1, 0, 21, 0, 0)) (by decide) rfl rfl tw_5_220 ?_
        refine q_iload_n 0 3 37 rfl (by decide +kernel) rfl ?_
        refine q_iconst 0 (c := 0) 38 rfl (by decide +kernel) rfl ?_
        refine q_callS_i 41 rfl (av := [.int v2, .int 0]) (st := [q_r (mG D tc x0 y) 6]) (c_Mo_meeting X.1 D tc x0 y I1 J1 P v2 0) yv_Mo_meeting tw_6_86 tw_6_87 rfl (Nat.le_of_ble_eq_true rfl) (by decide +kernel) ⟨Nat.le_of_ble_eq_true rfl, Nat.le_of_ble_eq_true rfl⟩ ⟨Nat.le_of_ble_eq_true rfl, Nat.le_of_ble_eq_true rfl⟩ rfl rfl (fun v3 => ?_)
        refine q_iald (t := 0) 42 rfl (by decide +kernel) (rfl : mKd 6 = (2, 175, 0, 0, 0)) rfl (fun j1 hj1 => ?_)
        exact q_iret (by decide +kernel) rfl rfl (Nat.le_of_ble_eq_true rfl) (Nat.le_of_ble_eq_true rfl)
      · refine q_iconst (-1) (c := -1) 29 rfl (by decide +kernel) rfl ?_
        refine q_goto (off := 13) 42 (by decide +kernel) rfl ?_
        exact q_iret (by decide +kernel) rfl rfl (Nat.le_of_ble_eq_true rfl) (Nat.le_of_ble_eq_true rfl)
    · refine q_iconst (-1) (c := -1) 12 rfl (by decide +kernel) rfl ?_
      exact q_iret (by decide +kernel) rfl rfl (Nat.le_of_ble_eq_true rfl) (Nat.le_of_ble_eq_true rfl)
