def f_Mo_clearOrders (I : q_I) : Option (Int32 × q_I) :=
  q_ix 3 280 (fun j1 => q_l (I 1 j1 : Int32) (fun x1 => q_ix 3 280 (fun j2 => q_l (q_ui I 1 j2 0) (fun I1 => some (x1, I1)))))
def y_Mo_clearOrders : MethodName := ⟨"CalendarReplicasModel", "clearOrders", "()I"⟩
def m_Mo_clearOrders : q_M := (prog_11_method_31_code, 2, "CalendarReplicasModel", { frames := 0, cells := 0, slots := 0, locals := 0 }, (some FieldType.int))
theorem yv_Mo_clearOrders : q_Y y_Mo_clearOrders m_Mo_clearOrders 0 := ⟨rfl, ⟨by decide, by decide⟩, by decide +kernel, tw_6_122, tw_1_15⟩
set_option maxRecDepth 100000 in
set_option maxHeartbeats 4000000 in
theorem c_Mo_clearOrders (l : Launch) (D : va_G) (tc : Nat → ClassId) (x0 y : Nat) (I : q_I) (J : q_J) (P : q_P) : q_Ct l (mG D tc x0 y) y_Mo_clearOrders m_Mo_clearOrders [q_r (mG D tc x0 y) 0] (I, J, P) (f_Mo_clearOrders I) (fun r : Int32 × q_I => (some (.int r.1), (r.2, J, P))) := by
  refine q_Ct_of (mIn D tc x0 y) (by decide) rfl (Nat.le_of_ble_eq_true rfl) rfl (fun X hX => ?_)
  subst hX
  unfold f_Mo_clearOrders
  refine q_aload_n 0 0 1 rfl (by decide +kernel) rfl ?_
  refine q_getr (f := 0) 1 4 rfl (by decide +kernel) (cC_Mo D tc x0 y) (rfl : mKd 0 = (1, 0, 21, 0, 0)) (by decide) rfl rfl tw_5_212 ?_
  refine q_iconst 3 (c := 3) 5 rfl (by decide +kernel) rfl ?_
  refine q_iald (t := 0) 6 rfl (by decide +kernel) (rfl : mKd 1 = (2, 280, 0, 0, 0)) rfl (fun j1 hj1 => ?_)
  refine q_leti (fun x1 => ?_)
  refine q_istore_n 1 1 7 rfl [(1, .int x1), (0, q_r (mG D tc x0 y) 0)] (by decide +kernel) rfl (Nat.le_of_ble_eq_true rfl) rfl ?_
  refine q_aload_n 1 0 8 rfl (by decide +kernel) rfl ?_
  refine q_getr (f := 0) 1 11 rfl (by decide +kernel) (cC_Mo D tc x0 y) (rfl : mKd 0 = (1, 0, 21, 0, 0)) (by decide) rfl rfl tw_5_212 ?_
  refine q_iconst 3 (c := 3) 12 rfl (by decide +kernel) rfl ?_
  refine q_iconst 0 (c := 0) 13 rfl (by decide +kernel) rfl ?_
  refine q_iast (t := 0) 14 rfl (by decide +kernel) (rfl : mKd 1 = (2, 280, 0, 0, 0)) rfl (fun j2 hj2 => ?_)
  refine q_letI (fun I1 => ?_)
  refine q_iload_n 0 1 15 rfl (by decide +kernel) rfl ?_
  exact q_iret (by decide +kernel) rfl rfl (Nat.le_of_ble_eq_true rfl) (Nat.le_of_ble_eq_true rfl)
def f_Mo_makes (I : q_I) (J : q_J) (a1 : Int32) (a2 : Int32) (a3 : Int32) (a4 : Int32) (a5 : Int32) : Option (Int32 × q_I × q_J) :=
  q_ix 0 280 (fun j1 => q_l (I 1 j1 : Int32) (fun x1 => q_b3 (f_Mo_accepted I J a1) (fun v1 I1 J1 => q_ix (4 + a1) 280 (fun j2 => q_l (I1 1 j2 : Int32) (fun x2 => q_b1 (f_Mo_edit x1 0) (fun v2 => q_ix 1 280 (fun j3 => q_ix v2 280 (fun j4 => q_l (q_ui I1 1 j4 (I1 1 j3)) (fun I2 => q_b1 (f_Mo_edit x1 1) (fun v3 => q_ix v3 280 (fun j5 => q_l (q_ui I2 1 j5 a1) (fun I3 => q_b1 (f_Mo_edit x1 2) (fun v4 => q_ix v4 280 (fun j6 => q_l (q_ui I3 1 j6 a5) (fun I4 => q_b1 (f_Mo_edit x1 3) (fun v5 => q_ix v5 280 (fun j7 => q_l (q_ui I4 1 j7 a2) (fun I5 => q_b1 (f_Mo_edit x1 4) (fun v6 => q_b1 (if a2 = 0 then (q_ix 1 280 (fun j21 => (some ((I5 1 j21))))) else ((some (a3))) : Option (Int32)) (fun (x3 : Int32) => q_ix v6 280 (fun j8 => q_l (q_ui I5 1 j8 x3) (fun I6 => q_b1 (f_Mo_edit x1 5) (fun v7 => q_ix v7 280 (fun j9 => q_l (q_ui I6 1 j9 a4) (fun I7 => q_b1 (f_Mo_edit x1 6) (fun v8 => q_ix v8 280 (fun j10 => q_l (q_ui I7 1 j10 x2) (fun I8 => q_ix 0 280 (fun j11 => q_ix 0 280 (fun j12 => q_l (q_ui I8 1 j12 ((I8 1 j11) + 1)) (fun I9 => q_ix (4 + a1) 280 (fun j13 => q_ix (4 + a1) 280 (fun j14 => q_l (q_ui I9 1 j14 ((I9 1 j13) ||| (1 <<< (x1 &&& 31)))) (fun I10 => q_b3 (f_Mo_accepted I10 J1 a1) (fun v9 I11 J2 => if v9 = (v1 ||| (1 <<< (x1 &&& 31))) then (q_ix 1 280 (fun j15 => q_ix 1 280 (fun j16 => q_l (q_ui I11 1 j16 ((I11 1 j15) + 1)) (fun I12 => q_ix 1 280 (fun j17 => some (((I12 1 j17) - 1), I12, J2)))))) else (q_ix 0 280 (fun j18 => q_ix 0 280 (fun j19 => q_l (q_ui I11 1 j19 ((I11 1 j18) - 1)) (fun I13 => q_ix (4 + a1) 280 (fun j20 => q_l (q_ui I13 1 j20 x2) (fun I14 => some ((-3), I14, J2))))))))))))))))))))))))))))))))))))))))))
def y_Mo_makes : MethodName := ⟨"CalendarReplicasModel", "makes", "(IIIII)I"⟩
def m_Mo_makes : q_M := (prog_11_method_32_code, 9, "CalendarReplicasModel", { frames := 7, cells := 0, slots := 0, locals := 171 }, (some FieldType.int))
theorem yv_Mo_makes : q_Y y_Mo_makes m_Mo_makes 5 := ⟨rfl, ⟨by decide, by decide⟩, by decide +kernel, tw_6_137, tw_1_15⟩
set_option maxRecDepth 100000 in
set_option maxHeartbeats 4000000 in
theorem c_Mo_makes (l : Launch) (D : va_G) (tc : Nat → ClassId) (x0 y : Nat) (I : q_I) (J : q_J) (P : q_P) (a1 : Int32) (a2 : Int32) (a3 : Int32) (a4 : Int32) (a5 : Int32) : q_Ct l (mG D tc x0 y) y_Mo_makes m_Mo_makes [q_r (mG D tc x0 y) 0, .int a1, .int a2, .int a3, .int a4, .int a5] (I, J, P) (f_Mo_makes I J a1 a2 a3 a4 a5) (fun r : Int32 × q_I × q_J => (some (.int r.1), (r.2.1, r.2.2, P))) := by
  refine q_Ct_of (mIn D tc x0 y) (by decide) rfl (Nat.le_of_ble_eq_true rfl) rfl (fun X hX => ?_)
  subst hX
  unfold f_Mo_makes
  refine q_aload_n 0 0 1 rfl (by decide +kernel) rfl ?_
  refine q_getr (f := 0) 1 4 rfl (by decide +kernel) (cC_Mo D tc x0 y) (rfl : mKd 0 = (1, 0, 21, 0, 0)) (by decide) rfl rfl tw_5_212 ?_
  refine q_iconst 0 (c := 0) 5 rfl (by decide +kernel) rfl ?_
  refine q_iald (t := 0) 6 rfl (by decide +kernel) (rfl : mKd 1 = (2, 280, 0, 0, 0)) rfl (fun j1 hj1 => ?_)
  refine q_leti (fun x1 => ?_)
  refine q_istore 6 8 rfl [(6, .int x1), (0, q_r (mG D tc x0 y) 0), (1, .int a1), (2, .int a2), (3, .int a3), (4, .int a4), (5, .int a5)] (by decide +kernel) (Nat.le_of_ble_eq_true rfl) rfl ?_
  refine q_aload_n 1 0 9 rfl (by decide +kernel) rfl ?_
  refine q_iload_n 2 1 10 rfl (by decide +kernel) rfl ?_
  refine q_callV_iIJ 13 rfl (av := [.int a1]) (o := 0) (st := []) (c_Mo_accepted X.1 D tc x0 y I J P a1) yv_Mo_accepted tw_6_138 tw_6_140 sw_42 (cC_Mo D tc x0 y) (rfl : mKd 0 = (1, 0, 21, 0, 0)) rfl (Nat.le_of_ble_eq_true rfl) (by decide +kernel) ⟨Nat.le_of_ble_eq_true rfl, Nat.le_of_ble_eq_true rfl⟩ ⟨Nat.le_of_ble_eq_true rfl, Nat.le_of_ble_eq_true rfl⟩ rfl rfl (fun v1 I1 J1 => ?_)
  refine q_istore 7 15 rfl [(7, .int v1), (6, .int x1), (0, q_r (mG D tc x0 y) 0), (1, .int a1), (2, .int a2), (3, .int a3), (4, .int a4), (5, .int a5)] (by decide +kernel) (Nat.le_of_ble_eq_true rfl) rfl ?_
  refine q_aload_n 2 0 16 rfl (by decide +kernel) rfl ?_
  refine q_getr (f := 0) 1 19 rfl (by decide +kernel) (cC_Mo D tc x0 y) (rfl : mKd 0 = (1, 0, 21, 0, 0)) (by decide) rfl rfl tw_5_212 ?_
  refine q_iconst 4 (c := 4) 20 rfl (by decide +kernel) rfl ?_
  refine q_iload_n 3 1 21 rfl (by decide +kernel) rfl ?_
  refine q_iadd 22 rfl (by decide +kernel) ?_
  refine q_iald (t := 0) 23 rfl (by decide +kernel) (rfl : mKd 1 = (2, 280, 0, 0, 0)) rfl (fun j2 hj2 => ?_)
  refine q_leti (fun x2 => ?_)
  refine q_istore 8 25 rfl [(8, .int x2), (7, .int v1), (6, .int x1), (0, q_r (mG D tc x0 y) 0), (1, .int a1), (2, .int a2), (3, .int a3), (4, .int a4), (5, .int a5)] (by decide +kernel) (Nat.le_of_ble_eq_true rfl) rfl ?_
  refine q_aload_n 3 0 26 rfl (by decide +kernel) rfl ?_
  refine q_getr (f := 0) 1 29 rfl (by decide +kernel) (cC_Mo D tc x0 y) (rfl : mKd 0 = (1, 0, 21, 0, 0)) (by decide) rfl rfl tw_5_212 ?_
  refine q_iload 2 6 31 rfl (by decide +kernel) rfl ?_
  refine q_iconst 0 (c := 0) 32 rfl (by decide +kernel) rfl ?_
  refine q_callS_i 35 rfl (av := [.int x1, .int 0]) (st := [q_r (mG D tc x0 y) 1]) (c_Mo_edit X.1 D tc x0 y I1 J1 P x1 0) yv_Mo_edit tw_6_63 tw_6_64 rfl (Nat.le_of_ble_eq_true rfl) (by decide +kernel) ⟨Nat.le_of_ble_eq_true rfl, Nat.le_of_ble_eq_true rfl⟩ ⟨Nat.le_of_ble_eq_true rfl, Nat.le_of_ble_eq_true rfl⟩ rfl rfl (fun v2 => ?_)
  refine q_aload_n 3 0 36 rfl (by decide +kernel) rfl ?_
  refine q_getr (f := 0) 1 39 rfl (by decide +kernel) (cC_Mo D tc x0 y) (rfl : mKd 0 = (1, 0, 21, 0, 0)) (by decide) rfl rfl tw_5_212 ?_
  refine q_iconst 1 (c := 1) 40 rfl (by decide +kernel) rfl ?_
  refine q_iald (t := 0) 41 rfl (by decide +kernel) (rfl : mKd 1 = (2, 280, 0, 0, 0)) rfl (fun j3 hj3 => ?_)
  refine q_iast (t := 0) 42 rfl (by decide +kernel) (rfl : mKd 1 = (2, 280, 0, 0, 0)) rfl (fun j4 hj4 => ?_)
  refine q_letI (fun I2 => ?_)
  refine q_aload_n 3 0 43 rfl (by decide +kernel) rfl ?_
  refine q_getr (f := 0) 1 46 rfl (by decide +kernel) (cC_Mo D tc x0 y) (rfl : mKd 0 = (1, 0, 21, 0, 0)) (by decide) rfl rfl tw_5_212 ?_
  refine q_iload 2 6 48 rfl (by decide +kernel) rfl ?_
  refine q_iconst 1 (c := 1) 49 rfl (by decide +kernel) rfl ?_
  refine q_callS_i 52 rfl (av := [.int x1, .int 1]) (st := [q_r (mG D tc x0 y) 1]) (c_Mo_edit X.1 D tc x0 y I2 J1 P x1 1) yv_Mo_edit tw_6_63 tw_6_64 rfl (Nat.le_of_ble_eq_true rfl) (by decide +kernel) ⟨Nat.le_of_ble_eq_true rfl, Nat.le_of_ble_eq_true rfl⟩ ⟨Nat.le_of_ble_eq_true rfl, Nat.le_of_ble_eq_true rfl⟩ rfl rfl (fun v3 => ?_)
  refine q_iload_n 4 1 53 rfl (by decide +kernel) rfl ?_
  refine q_iast (t := 0) 54 rfl (by decide +kernel) (rfl : mKd 1 = (2, 280, 0, 0, 0)) rfl (fun j5 hj5 => ?_)
  refine q_letI (fun I3 => ?_)
  refine q_aload_n 3 0 55 rfl (by decide +kernel) rfl ?_
  refine q_getr (f := 0) 1 58 rfl (by decide +kernel) (cC_Mo D tc x0 y) (rfl : mKd 0 = (1, 0, 21, 0, 0)) (by decide) rfl rfl tw_5_212 ?_
  refine q_iload 2 6 60 rfl (by decide +kernel) rfl ?_
  refine q_iconst 2 (c := 2) 61 rfl (by decide +kernel) rfl ?_
  refine q_callS_i 64 rfl (av := [.int x1, .int 2]) (st := [q_r (mG D tc x0 y) 1]) (c_Mo_edit X.1 D tc x0 y I3 J1 P x1 2) yv_Mo_edit tw_6_63 tw_6_64 rfl (Nat.le_of_ble_eq_true rfl) (by decide +kernel) ⟨Nat.le_of_ble_eq_true rfl, Nat.le_of_ble_eq_true rfl⟩ ⟨Nat.le_of_ble_eq_true rfl, Nat.le_of_ble_eq_true rfl⟩ rfl rfl (fun v4 => ?_)
  refine q_iload 8 5 66 rfl (by decide +kernel) rfl ?_
  refine q_iast (t := 0) 67 rfl (by decide +kernel) (rfl : mKd 1 = (2, 280, 0, 0, 0)) rfl (fun j6 hj6 => ?_)
  refine q_letI (fun I4 => ?_)
  refine q_aload_n 3 0 68 rfl (by decide +kernel) rfl ?_
  refine q_getr (f := 0) 1 71 rfl (by decide +kernel) (cC_Mo D tc x0 y) (rfl : mKd 0 = (1, 0, 21, 0, 0)) (by decide) rfl rfl tw_5_212 ?_
  refine q_iload 2 6 73 rfl (by decide +kernel) rfl ?_
  refine q_iconst 3 (c := 3) 74 rfl (by decide +kernel) rfl ?_
  refine q_callS_i 77 rfl (av := [.int x1, .int 3]) (st := [q_r (mG D tc x0 y) 1]) (c_Mo_edit X.1 D tc x0 y I4 J1 P x1 3) yv_Mo_edit tw_6_63 tw_6_64 rfl (Nat.le_of_ble_eq_true rfl) (by decide +kernel) ⟨Nat.le_of_ble_eq_true rfl, Nat.le_of_ble_eq_true rfl⟩ ⟨Nat.le_of_ble_eq_true rfl, Nat.le_of_ble_eq_true rfl⟩ rfl rfl (fun v5 => ?_)
  refine q_iload_n 5 2 78 rfl (by decide +kernel) rfl ?_
  refine q_iast (t := 0) 79 rfl (by decide +kernel) (rfl : mKd 1 = (2, 280, 0, 0, 0)) rfl (fun j7 hj7 => ?_)
  refine q_letI (fun I5 => ?_)
  refine q_aload_n 3 0 80 rfl (by decide +kernel) rfl ?_
  refine q_getr (f := 0) 1 83 rfl (by decide +kernel) (cC_Mo D tc x0 y) (rfl : mKd 0 = (1, 0, 21, 0, 0)) (by decide) rfl rfl tw_5_212 ?_
  refine q_iload 2 6 85 rfl (by decide +kernel) rfl ?_
  refine q_iconst 4 (c := 4) 86 rfl (by decide +kernel) rfl ?_
  refine q_callS_i 89 rfl (av := [.int x1, .int 4]) (st := [q_r (mG D tc x0 y) 1]) (c_Mo_edit X.1 D tc x0 y I5 J1 P x1 4) yv_Mo_edit tw_6_63 tw_6_64 rfl (Nat.le_of_ble_eq_true rfl) (by decide +kernel) ⟨Nat.le_of_ble_eq_true rfl, Nat.le_of_ble_eq_true rfl⟩ ⟨Nat.le_of_ble_eq_true rfl, Nat.le_of_ble_eq_true rfl⟩ rfl rfl (fun v6 => ?_)
  refine q_iload_n 5 2 90 rfl (by decide +kernel) rfl ?_
  refine q_jn1 103 (fun x3 => [(0, q_r (mG D tc x0 y) 0), (1, .int a1), (4, .int a4), (6, .int x1), (7, .int v1), (8, .int x2)]) (fun x3 => [.int x3, .int v6, q_r (mG D tc x0 y) 1]) (fun x3 => I5) (fun x3 => J1) (fun x3 => P) (fun jk1 => if a2 = 0 then (q_ix 1 280 (fun j21 => (jk1 ((I5 1 j21))))) else ((jk1 (a3)))) (by intro jk1; simp only [q_b1_if, q_b1_s, q_b1_n, q_b1_ix, q_b1_b1, q_b1_b2, q_b1_b3, q_b1_l, q_b1_ck, q_b1_el]) ?_ ?_
  · intro x3
    refine q_iast (t := 0) 104 rfl (by decide +kernel) (rfl : mKd 1 = (2, 280, 0, 0, 0)) rfl (fun j8 hj8 => ?_)
    refine q_letI (fun I6 => ?_)
    refine q_aload_n 0 0 105 rfl (by decide +kernel) rfl ?_
    refine q_getr (f := 0) 1 108 rfl (by decide +kernel) (cC_Mo D tc x0 y) (rfl : mKd 0 = (1, 0, 21, 0, 0)) (by decide) rfl rfl tw_5_212 ?_
    refine q_iload 3 6 110 rfl (by decide +kernel) rfl ?_
    refine q_iconst 5 (c := 5) 111 rfl (by decide +kernel) rfl ?_
    refine q_callS_i 114 rfl (av := [.int x1, .int 5]) (st := [q_r (mG D tc x0 y) 1]) (c_Mo_edit X.1 D tc x0 y I6 J1 P x1 5) yv_Mo_edit tw_6_63 tw_6_64 rfl (Nat.le_of_ble_eq_true rfl) (by decide +kernel) ⟨Nat.le_of_ble_eq_true rfl, Nat.le_of_ble_eq_true rfl⟩ ⟨Nat.le_of_ble_eq_true rfl, Nat.le_of_ble_eq_true rfl⟩ rfl rfl (fun v7 => ?_)
    refine q_iload 2 4 116 rfl (by decide +kernel) rfl ?_
    refine q_iast (t := 0) 117 rfl (by decide +kernel) (rfl : mKd 1 = (2, 280, 0, 0, 0)) rfl (fun j9 hj9 => ?_)
    refine q_letI (fun I7 => ?_)
    refine q_aload_n 0 0 118 rfl (by decide +kernel) rfl ?_
    refine q_getr (f := 0) 1 121 rfl (by decide +kernel) (cC_Mo D tc x0 y) (rfl : mKd 0 = (1, 0, 21, 0, 0)) (by decide) rfl rfl tw_5_212 ?_
    refine q_iload 3 6 123 rfl (by decide +kernel) rfl ?_
    refine q_bipush 6 (c := 6) 125 rfl (by decide +kernel) rfl ?_
    refine q_callS_i 128 rfl (av := [.int x1, .int 6]) (st := [q_r (mG D tc x0 y) 1]) (c_Mo_edit X.1 D tc x0 y I7 J1 P x1 6) yv_Mo_edit tw_6_63 tw_6_64 rfl (Nat.le_of_ble_eq_true rfl) (by decide +kernel) ⟨Nat.le_of_ble_eq_true rfl, Nat.le_of_ble_eq_true rfl⟩ ⟨Nat.le_of_ble_eq_true rfl, Nat.le_of_ble_eq_true rfl⟩ rfl rfl (fun v8 => ?_)
    refine q_iload 5 8 130 rfl (by decide +kernel) rfl ?_
    refine q_iast (t := 0) 131 rfl (by decide +kernel) (rfl : mKd 1 = (2, 280, 0, 0, 0)) rfl (fun j10 hj10 => ?_)
    refine q_letI (fun I8 => ?_)
    refine q_aload_n 0 0 132 rfl (by decide +kernel) rfl ?_
    refine q_getr (f := 0) 1 135 rfl (by decide +kernel) (cC_Mo D tc x0 y) (rfl : mKd 0 = (1, 0, 21, 0, 0)) (by decide) rfl rfl tw_5_212 ?_
    refine q_iconst 0 (c := 0) 136 rfl (by decide +kernel) rfl ?_
    refine q_dup2 137 rfl (by decide +kernel) rfl rfl ?_
    refine q_iald (t := 0) 138 rfl (by decide +kernel) (rfl : mKd 1 = (2, 280, 0, 0, 0)) rfl (fun j11 hj11 => ?_)
    refine q_iconst 1 (c := 1) 139 rfl (by decide +kernel) rfl ?_
    refine q_iadd 140 rfl (by decide +kernel) ?_
    refine q_iast (t := 0) 141 rfl (by decide +kernel) (rfl : mKd 1 = (2, 280, 0, 0, 0)) rfl (fun j12 hj12 => ?_)
    refine q_letI (fun I9 => ?_)
    refine q_aload_n 0 0 142 rfl (by decide +kernel) rfl ?_
    refine q_getr (f := 0) 1 145 rfl (by decide +kernel) (cC_Mo D tc x0 y) (rfl : mKd 0 = (1, 0, 21, 0, 0)) (by decide) rfl rfl tw_5_212 ?_
    refine q_iconst 4 (c := 4) 146 rfl (by decide +kernel) rfl ?_
    refine q_iload_n 1 1 147 rfl (by decide +kernel) rfl ?_
    refine q_iadd 148 rfl (by decide +kernel) ?_
    refine q_dup2 149 rfl (by decide +kernel) rfl rfl ?_
    refine q_iald (t := 0) 150 rfl (by decide +kernel) (rfl : mKd 1 = (2, 280, 0, 0, 0)) rfl (fun j13 hj13 => ?_)
    refine q_iconst 1 (c := 1) 151 rfl (by decide +kernel) rfl ?_
    refine q_iload 3 6 153 rfl (by decide +kernel) rfl ?_
    refine q_ishl 154 rfl (by decide +kernel) ?_
    refine q_ior 155 rfl (by decide +kernel) ?_
    refine q_iast (t := 0) 156 rfl (by decide +kernel) (rfl : mKd 1 = (2, 280, 0, 0, 0)) rfl (fun j14 hj14 => ?_)
    refine q_letI (fun I10 => ?_)
    refine q_aload_n 0 0 157 rfl (by decide +kernel) rfl ?_
    refine q_iload_n 1 1 158 rfl (by decide +kernel) rfl ?_
    refine q_callV_iIJ 161 rfl (av := [.int a1]) (o := 0) (st := []) (c_Mo_accepted X.1 D tc x0 y I10 J1 P a1) yv_Mo_accepted tw_6_138 tw_6_140 sw_42 (cC_Mo D tc x0 y) (rfl : mKd 0 = (1, 0, 21, 0, 0)) rfl (Nat.le_of_ble_eq_true rfl) (by decide +kernel) ⟨Nat.le_of_ble_eq_true rfl, Nat.le_of_ble_eq_true rfl⟩ ⟨Nat.le_of_ble_eq_true rfl, Nat.le_of_ble_eq_true rfl⟩ rfl rfl (fun v9 I11 J2 => ?_)
    refine q_iload 4 7 163 rfl (by decide +kernel) rfl ?_
    refine q_iconst 1 (c := 1) 164 rfl (by decide +kernel) rfl ?_
    refine q_iload 3 6 166 rfl (by decide +kernel) rfl ?_
    refine q_ishl 167 rfl (by decide +kernel) ?_
    refine q_ior 168 rfl (by decide +kernel) ?_
    refine q_icmp_eq 171 rfl 194 (off := 26) (by decide +kernel) rfl (fun g1 => ?_) (fun g1 => ?_)
    · refine q_aload_n 0 0 195 rfl (by decide +kernel) rfl ?_
      refine q_getr (f := 0) 1 198 rfl (by decide +kernel) (cC_Mo D tc x0 y) (rfl : mKd 0 = (1, 0, 21, 0, 0)) (by decide) rfl rfl tw_5_212 ?_
      refine q_iconst 1 (c := 1) 199 rfl (by decide +kernel) rfl ?_
      refine q_dup2 200 rfl (by decide +kernel) rfl rfl ?_
      refine q_iald (t := 0) 201 rfl (by decide +kernel) (rfl : mKd 1 = (2, 280, 0, 0, 0)) rfl (fun j15 hj15 => ?_)
      refine q_iconst 1 (c := 1) 202 rfl (by decide +kernel) rfl ?_
      refine q_iadd 203 rfl (by decide +kernel) ?_
      refine q_iast (t := 0) 204 rfl (by decide +kernel) (rfl : mKd 1 = (2, 280, 0, 0, 0)) rfl (fun j16 hj16 => ?_)
      refine q_letI (fun I12 => ?_)
      refine q_aload_n 0 0 205 rfl (by decide +kernel) rfl ?_
      refine q_getr (f := 0) 1 208 rfl (by decide +kernel) (cC_Mo D tc x0 y) (rfl : mKd 0 = (1, 0, 21, 0, 0)) (by decide) rfl rfl tw_5_212 ?_
      refine q_iconst 1 (c := 1) 209 rfl (by decide +kernel) rfl ?_
      refine q_iald (t := 0) 210 rfl (by decide +kernel) (rfl : mKd 1 = (2, 280, 0, 0, 0)) rfl (fun j17 hj17 => ?_)
      refine q_iconst 1 (c := 1) 211 rfl (by decide +kernel) rfl ?_
      refine q_isub 212 rfl (by decide +kernel) ?_
      exact q_iret (by decide +kernel) rfl rfl (Nat.le_of_ble_eq_true rfl) (Nat.le_of_ble_eq_true rfl)
    · refine q_aload_n 0 0 172 rfl (by decide +kernel) rfl ?_
      refine q_getr (f := 0) 1 175 rfl (by decide +kernel) (cC_Mo D tc x0 y) (rfl : mKd 0 = (1, 0, 21, 0, 0)) (by decide) rfl rfl tw_5_212 ?_
      refine q_iconst 0 (c := 0) 176 rfl (by decide +kernel) rfl ?_
      refine q_dup2 177 rfl (by decide +kernel) rfl rfl ?_
      refine q_iald (t := 0) 178 rfl (by decide +kernel) (rfl : mKd 1 = (2, 280, 0, 0, 0)) rfl (fun j18 hj18 => ?_)
      refine q_iconst 1 (c := 1) 179 rfl (by decide +kernel) rfl ?_
      refine q_isub 180 rfl (by decide +kernel) ?_
      refine q_iast (t := 0) 181 rfl (by decide +kernel) (rfl : mKd 1 = (2, 280, 0, 0, 0)) rfl (fun j19 hj19 => ?_)
      refine q_letI (fun I13 => ?_)
      refine q_aload_n 0 0 182 rfl (by decide +kernel) rfl ?_
      refine q_getr (f := 0) 1 185 rfl (by decide +kernel) (cC_Mo D tc x0 y) (rfl : mKd 0 = (1, 0, 21, 0, 0)) (by decide) rfl rfl tw_5_212 ?_
      refine q_iconst 4 (c := 4) 186 rfl (by decide +kernel) rfl ?_
      refine q_iload_n 1 1 187 rfl (by decide +kernel) rfl ?_
      refine q_iadd 188 rfl (by decide +kernel) ?_
      refine q_iload 5 8 190 rfl (by decide +kernel) rfl ?_
      refine q_iast (t := 0) 191 rfl (by decide +kernel) (rfl : mKd 1 = (2, 280, 0, 0, 0)) rfl (fun j20 hj20 => ?_)
      refine q_letI (fun I14 => ?_)
      refine q_bipush (-3) (c := -3) 193 rfl (by decide +kernel) rfl ?_
      exact q_iret (by decide +kernel) rfl rfl (Nat.le_of_ble_eq_true rfl) (Nat.le_of_ble_eq_true rfl)
  · intro jk1 hq1
    refine q_if_ne 93 rfl 102 (off := 12) (by decide +kernel) rfl (fun g2 => ?_) (fun g2 => ?_)
    · refine q_iload_n 6 3 103 rfl (by decide +kernel) rfl ?_
      refine q_sub [3, 4, 7, 2, 1, 0] rfl ?_
      exact hq1 a3
    · refine q_aload_n 3 0 94 rfl (by decide +kernel) rfl ?_
      refine q_getr (f := 0) 1 97 rfl (by decide +kernel) (cC_Mo D tc x0 y) (rfl : mKd 0 = (1, 0, 21, 0, 0)) (by decide) rfl rfl tw_5_212 ?_
      refine q_iconst 1 (c := 1) 98 rfl (by decide +kernel) rfl ?_
      refine q_iald (t := 0) 99 rfl (by decide +kernel) (rfl : mKd 1 = (2, 280, 0, 0, 0)) rfl (fun j21 hj21 => ?_)
      refine q_goto (off := 4) 103 (by decide +kernel) rfl ?_
      refine q_sub [3, 4, 7, 2, 1, 0] rfl ?_
      exact hq1 (I5 1 j21)
def f_Mo_creates (I : q_I) (J : q_J) (a1 : Int32) (a2 : Int32) (a3 : Int32) (a4 : Int32) (a5 : Int32) (a6 : Int32) : Option (Int32 × q_I × q_J) :=
  q_ix 0 280 (fun j1 => if (I 1 j1) = 12 then (some ((-2), I, J)) else (q_ix 0 280 (fun j2 => q_l (I 1 j2 : Int32) (fun x1 => q_b1 (f_Mo_edit x1 7) (fun v1 => q_ix v1 280 (fun j3 => q_l (q_ui I 1 j3 a2) (fun I1 => q_b1 (f_Mo_edit x1 8) (fun v2 => q_ix v2 280 (fun j4 => q_l (q_ui I1 1 j4 a3) (fun I2 => q_b1 (f_Mo_edit x1 9) (fun v3 => q_ix v3 280 (fun j5 => q_l (q_ui I2 1 j5 a4) (fun I3 => q_b1 (f_Mo_edit x1 10) (fun v4 => q_ix v4 280 (fun j6 => q_l (q_ui I3 1 j6 a5) (fun I4 => q_b1 (f_Mo_edit x1 11) (fun v5 => q_ix v5 280 (fun j7 => q_l (q_ui I4 1 j7 (I4 0 16)) (fun I5 => q_b1 (f_Mo_edit x1 12) (fun v6 => q_ix v6 280 (fun j8 => q_l (q_ui I5 1 j8 (I5 0 17)) (fun I6 => q_b3 (f_Mo_makes I6 J a1 0 0 0 a6) (fun v7 I7 J1 => some (v7, I7, J1))))))))))))))))))))))))
def y_Mo_creates : MethodName := ⟨"CalendarReplicasModel", "creates", "(IIIIII)I"⟩
def m_Mo_creates : q_M := (prog_11_method_33_code, 8, "CalendarReplicasModel", { frames := 8, cells := 0, slots := 0, locals := 199 }, (some FieldType.int))
theorem yv_Mo_creates : q_Y y_Mo_creates m_Mo_creates 6 := ⟨rfl, ⟨by decide, by decide⟩, by decide +kernel, tw_6_133, tw_1_15⟩
set_option maxRecDepth 100000 in
set_option maxHeartbeats 4000000 in
theorem c_Mo_creates (l : Launch) (D : va_G) (tc : Nat → ClassId) (x0 y : Nat) (I : q_I) (J : q_J) (P : q_P) (a1 : Int32) (a2 : Int32) (a3 : Int32) (a4 : Int32) (a5 : Int32) (a6 : Int32) : q_Ct l (mG D tc x0 y) y_Mo_creates m_Mo_creates [q_r (mG D tc x0 y) 0, .int a1, .int a2, .int a3, .int a4, .int a5, .int a6] (I, J, P) (f_Mo_creates I J a1 a2 a3 a4 a5 a6) (fun r : Int32 × q_I × q_J => (some (.int r.1), (r.2.1, r.2.2, P))) := by
  refine q_Ct_of (mIn D tc x0 y) (by decide) rfl (Nat.le_of_ble_eq_true rfl) rfl (fun X hX => ?_)
  subst hX
  unfold f_Mo_creates
  refine q_aload_n 0 0 1 rfl (by decide +kernel) rfl ?_
  refine q_getr (f := 0) 1 4 rfl (by decide +kernel) (cC_Mo D tc x0 y) (rfl : mKd 0 = (1, 0, 21, 0, 0)) (by decide) rfl rfl tw_5_212 ?_
  refine q_iconst 0 (c := 0) 5 rfl (by decide +kernel) rfl ?_
  refine q_iald (t := 0) 6 rfl (by decide +kernel) (rfl : mKd 1 = (2, 280, 0, 0, 0)) rfl (fun j1 hj1 => ?_)
  refine q_bipush 12 (c := 12) 8 rfl (by decide +kernel) rfl ?_
  refine q_icmp_ne 11 rfl 14 (off := 6) (by decide +kernel) rfl (fun g1 => ?_) (fun g1 => ?_)
  · refine q_aload_n 0 0 15 rfl (by decide +kernel) rfl ?_
    refine q_getr (f := 0) 1 18 rfl (by decide +kernel) (cC_Mo D tc x0 y) (rfl : mKd 0 = (1, 0, 21, 0, 0)) (by decide) rfl rfl tw_5_212 ?_
    refine q_iconst 0 (c := 0) 19 rfl (by decide +kernel) rfl ?_
    refine q_iald (t := 0) 20 rfl (by decide +kernel) (rfl : mKd 1 = (2, 280, 0, 0, 0)) rfl (fun j2 hj2 => ?_)
    refine q_leti (fun x1 => ?_)
    refine q_istore 7 22 rfl [(7, .int x1), (0, q_r (mG D tc x0 y) 0), (1, .int a1), (2, .int a2), (3, .int a3), (4, .int a4), (5, .int a5), (6, .int a6)] (by decide +kernel) (Nat.le_of_ble_eq_true rfl) rfl ?_
    refine q_aload_n 1 0 23 rfl (by decide +kernel) rfl ?_
    refine q_getr (f := 0) 1 26 rfl (by decide +kernel) (cC_Mo D tc x0 y) (rfl : mKd 0 = (1, 0, 21, 0, 0)) (by decide) rfl rfl tw_5_212 ?_
    refine q_iload 0 7 28 rfl (by decide +kernel) rfl ?_
    refine q_bipush 7 (c := 7) 30 rfl (by decide +kernel) rfl ?_
    refine q_callS_i 33 rfl (av := [.int x1, .int 7]) (st := [q_r (mG D tc x0 y) 1]) (c_Mo_edit X.1 D tc x0 y I J P x1 7) yv_Mo_edit tw_6_63 tw_6_64 rfl (Nat.le_of_ble_eq_true rfl) (by decide +kernel) ⟨Nat.le_of_ble_eq_true rfl, Nat.le_of_ble_eq_true rfl⟩ ⟨Nat.le_of_ble_eq_true rfl, Nat.le_of_ble_eq_true rfl⟩ rfl rfl (fun v1 => ?_)
    refine q_iload_n 3 2 34 rfl (by decide +kernel) rfl ?_
    refine q_iast (t := 0) 35 rfl (by decide +kernel) (rfl : mKd 1 = (2, 280, 0, 0, 0)) rfl (fun j3 hj3 => ?_)
    refine q_letI (fun I1 => ?_)
    refine q_aload_n 1 0 36 rfl (by decide +kernel) rfl ?_
    refine q_getr (f := 0) 1 39 rfl (by decide +kernel) (cC_Mo D tc x0 y) (rfl : mKd 0 = (1, 0, 21, 0, 0)) (by decide) rfl rfl tw_5_212 ?_
    refine q_iload 0 7 41 rfl (by decide +kernel) rfl ?_
    refine q_bipush 8 (c := 8) 43 rfl (by decide +kernel) rfl ?_
    refine q_callS_i 46 rfl (av := [.int x1, .int 8]) (st := [q_r (mG D tc x0 y) 1]) (c_Mo_edit X.1 D tc x0 y I1 J P x1 8) yv_Mo_edit tw_6_63 tw_6_64 rfl (Nat.le_of_ble_eq_true rfl) (by decide +kernel) ⟨Nat.le_of_ble_eq_true rfl, Nat.le_of_ble_eq_true rfl⟩ ⟨Nat.le_of_ble_eq_true rfl, Nat.le_of_ble_eq_true rfl⟩ rfl rfl (fun v2 => ?_)
    refine q_iload_n 4 3 47 rfl (by decide +kernel) rfl ?_
    refine q_iast (t := 0) 48 rfl (by decide +kernel) (rfl : mKd 1 = (2, 280, 0, 0, 0)) rfl (fun j4 hj4 => ?_)
    refine q_letI (fun I2 => ?_)
    refine q_aload_n 1 0 49 rfl (by decide +kernel) rfl ?_
    refine q_getr (f := 0) 1 52 rfl (by decide +kernel) (cC_Mo D tc x0 y) (rfl : mKd 0 = (1, 0, 21, 0, 0)) (by decide) rfl rfl tw_5_212 ?_
    refine q_iload 0 7 54 rfl (by decide +kernel) rfl ?_
    refine q_bipush 9 (c := 9) 56 rfl (by decide +kernel) rfl ?_
    refine q_callS_i 59 rfl (av := [.int x1, .int 9]) (st := [q_r (mG D tc x0 y) 1]) (c_Mo_edit X.1 D tc x0 y I2 J P x1 9) yv_Mo_edit tw_6_63 tw_6_64 rfl (Nat.le_of_ble_eq_true rfl) (by decide +kernel) ⟨Nat.le_of_ble_eq_true rfl, Nat.le_of_ble_eq_true rfl⟩ ⟨Nat.le_of_ble_eq_true rfl, Nat.le_of_ble_eq_true rfl⟩ rfl rfl (fun v3 => ?_)
    refine q_iload 5 4 61 rfl (by decide +kernel) rfl ?_
    refine q_iast (t := 0) 62 rfl (by decide +kernel) (rfl : mKd 1 = (2, 280, 0, 0, 0)) rfl (fun j5 hj5 => ?_)
    refine q_letI (fun I3 => ?_)
    refine q_aload_n 1 0 63 rfl (by decide +kernel) rfl ?_
    refine q_getr (f := 0) 1 66 rfl (by decide +kernel) (cC_Mo D tc x0 y) (rfl : mKd 0 = (1, 0, 21, 0, 0)) (by decide) rfl rfl tw_5_212 ?_
    refine q_iload 0 7 68 rfl (by decide +kernel) rfl ?_
    refine q_bipush 10 (c := 10) 70 rfl (by decide +kernel) rfl ?_
    refine q_callS_i 73 rfl (av := [.int x1, .int 10]) (st := [q_r (mG D tc x0 y) 1]) (c_Mo_edit X.1 D tc x0 y I3 J P x1 10) yv_Mo_edit tw_6_63 tw_6_64 rfl (Nat.le_of_ble_eq_true rfl) (by decide +kernel) ⟨Nat.le_of_ble_eq_true rfl, Nat.le_of_ble_eq_true rfl⟩ ⟨Nat.le_of_ble_eq_true rfl, Nat.le_of_ble_eq_true rfl⟩ rfl rfl (fun v4 => ?_)
    refine q_iload 6 5 75 rfl (by decide +kernel) rfl ?_
    refine q_iast (t := 0) 76 rfl (by decide +kernel) (rfl : mKd 1 = (2, 280, 0, 0, 0)) rfl (fun j6 hj6 => ?_)
    refine q_letI (fun I4 => ?_)
    refine q_aload_n 1 0 77 rfl (by decide +kernel) rfl ?_
    refine q_getr (f := 0) 1 80 rfl (by decide +kernel) (cC_Mo D tc x0 y) (rfl : mKd 0 = (1, 0, 21, 0, 0)) (by decide) rfl rfl tw_5_212 ?_
    refine q_iload 0 7 82 rfl (by decide +kernel) rfl ?_
    refine q_bipush 11 (c := 11) 84 rfl (by decide +kernel) rfl ?_
    refine q_callS_i 87 rfl (av := [.int x1, .int 11]) (st := [q_r (mG D tc x0 y) 1]) (c_Mo_edit X.1 D tc x0 y I4 J P x1 11) yv_Mo_edit tw_6_63 tw_6_64 rfl (Nat.le_of_ble_eq_true rfl) (by decide +kernel) ⟨Nat.le_of_ble_eq_true rfl, Nat.le_of_ble_eq_true rfl⟩ ⟨Nat.le_of_ble_eq_true rfl, Nat.le_of_ble_eq_true rfl⟩ rfl rfl (fun v5 => ?_)
    refine q_aload_n 1 0 88 rfl (by decide +kernel) rfl ?_
    refine q_geti (f := 16) 91 rfl (by decide +kernel) (cC_Mo D tc x0 y) (rfl : mKd 0 = (1, 0, 21, 0, 0)) (by decide) rfl tw_5_228 ?_
    refine q_iast (t := 0) 92 rfl (by decide +kernel) (rfl : mKd 1 = (2, 280, 0, 0, 0)) rfl (fun j7 hj7 => ?_)
    refine q_letI (fun I5 => ?_)
    refine q_aload_n 1 0 93 rfl (by decide +kernel) rfl ?_
    refine q_getr (f := 0) 1 96 rfl (by decide +kernel) (cC_Mo D tc x0 y) (rfl : mKd 0 = (1, 0, 21, 0, 0)) (by decide) rfl rfl tw_5_212 ?_
    refine q_iload 0 7 98 rfl (by decide +kernel) rfl ?_
    refine q_bipush 12 (c := 12) 100 rfl (by decide +kernel) rfl ?_
    refine q_callS_i 103 rfl (av := [.int x1, .int 12]) (st := [q_r (mG D tc x0 y) 1]) (c_Mo_edit X.1 D tc x0 y I5 J P x1 12) yv_Mo_edit tw_6_63 tw_6_64 rfl (Nat.le_of_ble_eq_true rfl) (by decide +kernel) ⟨Nat.le_of_ble_eq_true rfl, Nat.le_of_ble_eq_true rfl⟩ ⟨Nat.le_of_ble_eq_true rfl, Nat.le_of_ble_eq_true rfl⟩ rfl rfl (fun v6 => ?_)
    refine q_aload_n 1 0 104 rfl (by decide +kernel) rfl ?_
    refine q_geti (f := 17) 107 rfl (by decide +kernel) (cC_Mo D tc x0 y) (rfl : mKd 0 = (1, 0, 21, 0, 0)) (by decide) rfl tw_5_229 ?_
    refine q_iast (t := 0) 108 rfl (by decide +kernel) (rfl : mKd 1 = (2, 280, 0, 0, 0)) rfl (fun j8 hj8 => ?_)
    refine q_letI (fun I6 => ?_)
    refine q_aload_n 1 0 109 rfl (by decide +kernel) rfl ?_
    refine q_iload_n 2 1 110 rfl (by decide +kernel) rfl ?_
    refine q_iconst 0 (c := 0) 111 rfl (by decide +kernel) rfl ?_
    refine q_iconst 0 (c := 0) 112 rfl (by decide +kernel) rfl ?_
    refine q_iconst 0 (c := 0) 113 rfl (by decide +kernel) rfl ?_
    refine q_iload 7 6 115 rfl (by decide +kernel) rfl ?_
    refine q_callV_iIJ 118 rfl (av := [.int a1, .int 0, .int 0, .int 0, .int a6]) (o := 0) (st := []) (c_Mo_makes X.1 D tc x0 y I6 J P a1 0 0 0 a6) yv_Mo_makes tw_6_134 tw_6_136 sw_41 (cC_Mo D tc x0 y) (rfl : mKd 0 = (1, 0, 21, 0, 0)) rfl (Nat.le_of_ble_eq_true rfl) (by decide +kernel) ⟨Nat.le_of_ble_eq_true rfl, Nat.le_of_ble_eq_true rfl⟩ ⟨Nat.le_of_ble_eq_true rfl, Nat.le_of_ble_eq_true rfl⟩ rfl rfl (fun v7 I7 J1 => ?_)
    exact q_iret (by decide +kernel) rfl rfl (Nat.le_of_ble_eq_true rfl) (Nat.le_of_ble_eq_true rfl)
  · refine q_bipush (-2) (c := -2) 13 rfl (by decide +kernel) rfl ?_
    exact q_iret (by decide +kernel) rfl rfl (Nat.le_of_ble_eq_true rfl) (Nat.le_of_ble_eq_true rfl)
def f_Mo_create (I : q_I) (J : q_J) (a1 : Int32) (a2 : Int32) (a3 : Int32) (a4 : Int32) (a5 : Int32) (a6 : Int32) : Option (Int32 × q_I × q_J) :=
  q_b1 (f_Mo_isReplica a1) (fun v1 => q_b1 (if v1 = 0 then ((some (0))) else (q_b1 (f_Mo_in a2 0 95) (fun v5 => if v5 = 0 then ((some (0))) else (q_b1 (f_Mo_in a3 1 8) (fun v6 => if v6 = 0 then ((some (0))) else (q_b1 (f_Mo_in a4 0 3) (fun v7 => if v7 = 0 then ((some (0))) else ((some (1))))))))) : Option (Int32)) (fun (x1 : Int32) => if x1 = 0 then (some ((-1), I, J)) else (q_b1 (f_Mo_in a5 1 63) (fun v2 => if v2 = 0 then (some ((-1), I, J)) else (q_b1 (f_Mo_in a6 1 9) (fun v3 => if v3 = 0 then (some ((-1), I, J)) else (q_l (q_ui I 0 16 0) (fun I1 => q_l (q_ui I1 0 17 1) (fun I2 => q_b3 (f_Mo_creates I2 J a1 a2 a3 a4 a5 a6) (fun v4 I3 J1 => some (v4, I3, J1)))))))))))
def y_Mo_create : MethodName := ⟨"CalendarReplicasModel", "create", "(IIIIII)I"⟩
def m_Mo_create : q_M := (prog_11_method_34_code, 8, "CalendarReplicasModel", { frames := 9, cells := 0, slots := 0, locals := 226 }, (some FieldType.int))
theorem yv_Mo_create : q_Y y_Mo_create m_Mo_create 6 := ⟨rfl, ⟨by decide, by decide⟩, by decide +kernel, tw_6_126, tw_1_15⟩
set_option maxRecDepth 100000 in
set_option maxHeartbeats 4000000 in
theorem c_Mo_create (l : Launch) (D : va_G) (tc : Nat → ClassId) (x0 y : Nat) (I : q_I) (J : q_J) (P : q_P) (a1 : Int32) (a2 : Int32) (a3 : Int32) (a4 : Int32) (a5 : Int32) (a6 : Int32) : q_Ct l (mG D tc x0 y) y_Mo_create m_Mo_create [q_r (mG D tc x0 y) 0, .int a1, .int a2, .int a3, .int a4, .int a5, .int a6] (I, J, P) (f_Mo_create I J a1 a2 a3 a4 a5 a6) (fun r : Int32 × q_I × q_J => (some (.int r.1), (r.2.1, r.2.2, P))) := by
  refine q_Ct_of (mIn D tc x0 y) (by decide) rfl (Nat.le_of_ble_eq_true rfl) rfl (fun X hX => ?_)
  subst hX
  unfold f_Mo_create
  refine q_iload_n 1 1 1 rfl (by decide +kernel) rfl ?_
  refine q_callS_i 4 rfl (av := [.int a1]) (st := []) (c_Mo_isReplica X.1 D tc x0 y I J P a1) yv_Mo_isReplica tw_6_127 tw_6_128 rfl (Nat.le_of_ble_eq_true rfl) (by decide +kernel) ⟨Nat.le_of_ble_eq_true rfl, Nat.le_of_ble_eq_true rfl⟩ ⟨Nat.le_of_ble_eq_true rfl, Nat.le_of_ble_eq_true rfl⟩ rfl rfl (fun v1 => ?_)
  refine q_jn1 42 (fun x1 => [(0, q_r (mG D tc x0 y) 0), (1, .int a1), (2, .int a2), (3, .int a3), (4, .int a4), (5, .int a5), (6, .int a6)]) (fun x1 => [.int x1]) (fun x1 => I) (fun x1 => J) (fun x1 => P) (fun jk1 => if v1 = 0 then ((jk1 (0))) else (q_b1 (f_Mo_in a2 0 95) (fun v5 => if v5 = 0 then ((jk1 (0))) else (q_b1 (f_Mo_in a3 1 8) (fun v6 => if v6 = 0 then ((jk1 (0))) else (q_b1 (f_Mo_in a4 0 3) (fun v7 => if v7 = 0 then ((jk1 (0))) else ((jk1 (1)))))))))) (by intro jk1; simp only [q_b1_if, q_b1_s, q_b1_n, q_b1_ix, q_b1_b1, q_b1_b2, q_b1_b3, q_b1_l, q_b1_ck, q_b1_el]) ?_ ?_
  · intro x1
    refine q_istore 7 44 rfl [(7, .int x1), (0, q_r (mG D tc x0 y) 0), (1, .int a1), (2, .int a2), (3, .int a3), (4, .int a4), (5, .int a5), (6, .int a6)] (by decide +kernel) (Nat.le_of_ble_eq_true rfl) rfl ?_
    refine q_iload 0 7 46 rfl (by decide +kernel) rfl ?_
    refine q_if_eq 49 rfl 71 (off := 25) (by decide +kernel) rfl (fun g3 => ?_) (fun g3 => ?_)
    · refine q_iconst (-1) (c := -1) 72 rfl (by decide +kernel) rfl ?_
      exact q_iret (by decide +kernel) rfl rfl (Nat.le_of_ble_eq_true rfl) (Nat.le_of_ble_eq_true rfl)
    · refine q_iload 6 5 51 rfl (by decide +kernel) rfl ?_
      refine q_iconst 1 (c := 1) 52 rfl (by decide +kernel) rfl ?_
      refine q_bipush 63 (c := 63) 54 rfl (by decide +kernel) rfl ?_
      refine q_callS_i 57 rfl (av := [.int a5, .int 1, .int 63]) (st := []) (c_Mo_in X.1 D tc x0 y I J P a5 1 63) yv_Mo_in tw_6_40 tw_6_41 rfl (Nat.le_of_ble_eq_true rfl) (by decide +kernel) ⟨Nat.le_of_ble_eq_true rfl, Nat.le_of_ble_eq_true rfl⟩ ⟨Nat.le_of_ble_eq_true rfl, Nat.le_of_ble_eq_true rfl⟩ rfl rfl (fun v2 => ?_)
      refine q_if_eq 60 rfl 71 (off := 14) (by decide +kernel) rfl (fun g2 => ?_) (fun g2 => ?_)
      · refine q_iconst (-1) (c := -1) 72 rfl (by decide +kernel) rfl ?_
        exact q_iret (by decide +kernel) rfl rfl (Nat.le_of_ble_eq_true rfl) (Nat.le_of_ble_eq_true rfl)
      · refine q_iload 7 6 62 rfl (by decide +kernel) rfl ?_
        refine q_iconst 1 (c := 1) 63 rfl (by decide +kernel) rfl ?_
        refine q_bipush 9 (c := 9) 65 rfl (by decide +kernel) rfl ?_
        refine q_callS_i 68 rfl (av := [.int a6, .int 1, .int 9]) (st := []) (c_Mo_in X.1 D tc x0 y I J P a6 1 9) yv_Mo_in tw_6_40 tw_6_41 rfl (Nat.le_of_ble_eq_true rfl) (by decide +kernel) ⟨Nat.le_of_ble_eq_true rfl, Nat.le_of_ble_eq_true rfl⟩ ⟨Nat.le_of_ble_eq_true rfl, Nat.le_of_ble_eq_true rfl⟩ rfl rfl (fun v3 => ?_)
        refine q_if_ne 71 rfl 73 (off := 5) (by decide +kernel) rfl (fun g1 => ?_) (fun g1 => ?_)
        · refine q_aload_n 1 0 74 rfl (by decide +kernel) rfl ?_
          refine q_iconst 0 (c := 0) 75 rfl (by decide +kernel) rfl ?_
          refine q_puti (f := 16) 78 rfl (by decide +kernel) (cC_Mo D tc x0 y) (rfl : mKd 0 = (1, 0, 21, 0, 0)) (by decide) rfl rfl rfl tw_5_228 ?_
          refine q_letI (fun I1 => ?_)
          refine q_aload_n 1 0 79 rfl (by decide +kernel) rfl ?_
          refine q_iconst 1 (c := 1) 80 rfl (by decide +kernel) rfl ?_
          refine q_puti (f := 17) 83 rfl (by decide +kernel) (cC_Mo D tc x0 y) (rfl : mKd 0 = (1, 0, 21, 0, 0)) (by decide) rfl rfl rfl tw_5_229 ?_
          refine q_letI (fun I2 => ?_)
          refine q_aload_n 1 0 84 rfl (by decide +kernel) rfl ?_
          refine q_iload_n 2 1 85 rfl (by decide +kernel) rfl ?_
          refine q_iload_n 3 2 86 rfl (by decide +kernel) rfl ?_
          refine q_iload_n 4 3 87 rfl (by decide +kernel) rfl ?_
          refine q_iload 5 4 89 rfl (by decide +kernel) rfl ?_
          refine q_iload 6 5 91 rfl (by decide +kernel) rfl ?_
          refine q_iload 7 6 93 rfl (by decide +kernel) rfl ?_
          refine q_callV_iIJ 96 rfl (av := [.int a1, .int a2, .int a3, .int a4, .int a5, .int a6]) (o := 0) (st := []) (c_Mo_creates X.1 D tc x0 y I2 J P a1 a2 a3 a4 a5 a6) yv_Mo_creates tw_6_130 tw_6_132 sw_40 (cC_Mo D tc x0 y) (rfl : mKd 0 = (1, 0, 21, 0, 0)) rfl (Nat.le_of_ble_eq_true rfl) (by decide +kernel) ⟨Nat.le_of_ble_eq_true rfl, Nat.le_of_ble_eq_true rfl⟩ ⟨Nat.le_of_ble_eq_true rfl, Nat.le_of_ble_eq_true rfl⟩ rfl rfl (fun v4 I3 J1 => ?_)
          exact q_iret (by decide +kernel) rfl rfl (Nat.le_of_ble_eq_true rfl) (Nat.le_of_ble_eq_true rfl)
        · refine q_iconst (-1) (c := -1) 72 rfl (by decide +kernel) rfl ?_
          exact q_iret (by decide +kernel) rfl rfl (Nat.le_of_ble_eq_true rfl) (Nat.le_of_ble_eq_true rfl)
  · intro jk1 hq1
    refine q_if_eq 7 rfl 41 (off := 37) (by decide +kernel) rfl (fun g7 => ?_) (fun g7 => ?_)
    · refine q_iconst 0 (c := 0) 42 rfl (by decide +kernel) rfl ?_
      exact hq1 0
    · refine q_iload_n 2 2 8 rfl (by decide +kernel) rfl ?_
      refine q_iconst 0 (c := 0) 9 rfl (by decide +kernel) rfl ?_
      refine q_bipush 95 (c := 95) 11 rfl (by decide +kernel) rfl ?_
      refine q_callS_i 14 rfl (av := [.int a2, .int 0, .int 95]) (st := []) (c_Mo_in X.1 D tc x0 y I J P a2 0 95) yv_Mo_in tw_6_40 tw_6_41 rfl (Nat.le_of_ble_eq_true rfl) (by decide +kernel) ⟨Nat.le_of_ble_eq_true rfl, Nat.le_of_ble_eq_true rfl⟩ ⟨Nat.le_of_ble_eq_true rfl, Nat.le_of_ble_eq_true rfl⟩ rfl rfl (fun v5 => ?_)
      refine q_if_eq 17 rfl 41 (off := 27) (by decide +kernel) rfl (fun g6 => ?_) (fun g6 => ?_)
      · refine q_iconst 0 (c := 0) 42 rfl (by decide +kernel) rfl ?_
        exact hq1 0
      · refine q_iload_n 3 3 18 rfl (by decide +kernel) rfl ?_
        refine q_iconst 1 (c := 1) 19 rfl (by decide +kernel) rfl ?_
        refine q_bipush 8 (c := 8) 21 rfl (by decide +kernel) rfl ?_
        refine q_callS_i 24 rfl (av := [.int a3, .int 1, .int 8]) (st := []) (c_Mo_in X.1 D tc x0 y I J P a3 1 8) yv_Mo_in tw_6_40 tw_6_41 rfl (Nat.le_of_ble_eq_true rfl) (by decide +kernel) ⟨Nat.le_of_ble_eq_true rfl, Nat.le_of_ble_eq_true rfl⟩ ⟨Nat.le_of_ble_eq_true rfl, Nat.le_of_ble_eq_true rfl⟩ rfl rfl (fun v6 => ?_)
        refine q_if_eq 27 rfl 41 (off := 17) (by decide +kernel) rfl (fun g5 => ?_) (fun g5 => ?_)
        · refine q_iconst 0 (c := 0) 42 rfl (by decide +kernel) rfl ?_
          exact hq1 0
        · refine q_iload 4 4 29 rfl (by decide +kernel) rfl ?_
          refine q_iconst 0 (c := 0) 30 rfl (by decide +kernel) rfl ?_
          refine q_iconst 3 (c := 3) 31 rfl (by decide +kernel) rfl ?_
          refine q_callS_i 34 rfl (av := [.int a4, .int 0, .int 3]) (st := []) (c_Mo_in X.1 D tc x0 y I J P a4 0 3) yv_Mo_in tw_6_40 tw_6_41 rfl (Nat.le_of_ble_eq_true rfl) (by decide +kernel) ⟨Nat.le_of_ble_eq_true rfl, Nat.le_of_ble_eq_true rfl⟩ ⟨Nat.le_of_ble_eq_true rfl, Nat.le_of_ble_eq_true rfl⟩ rfl rfl (fun v7 => ?_)
          refine q_if_eq 37 rfl 41 (off := 7) (by decide +kernel) rfl (fun g4 => ?_) (fun g4 => ?_)
          · refine q_iconst 0 (c := 0) 42 rfl (by decide +kernel) rfl ?_
            exact hq1 0
          · refine q_iconst 1 (c := 1) 38 rfl (by decide +kernel) rfl ?_
            refine q_goto (off := 4) 42 (by decide +kernel) rfl ?_
            exact hq1 1
def f_Mo_here (I : q_I) : Option (Int32) :=
  if (I 0 4) ≤ (I 0 18) then (some (0)) else (q_ix (I 0 18) 60 (fun j1 => some ((I 4 j1))))
def y_Mo_here : MethodName := ⟨"CalendarReplicasModel", "here", "()I"⟩
def m_Mo_here : q_M := (prog_11_method_80_code, 1, "CalendarReplicasModel", { frames := 0, cells := 0, slots := 0, locals := 0 }, (some FieldType.int))
theorem yv_Mo_here : q_Y y_Mo_here m_Mo_here 0 := ⟨rfl, ⟨by decide, by decide⟩, by decide +kernel, tw_6_169, tw_1_15⟩
set_option maxRecDepth 100000 in
set_option maxHeartbeats 4000000 in
theorem c_Mo_here (l : Launch) (D : va_G) (tc : Nat → ClassId) (x0 y : Nat) (I : q_I) (J : q_J) (P : q_P) : q_Ct l (mG D tc x0 y) y_Mo_here m_Mo_here [q_r (mG D tc x0 y) 0] (I, J, P) (f_Mo_here I) (fun r : Int32 => (some (.int r), (I, J, P))) := by
  refine q_Ct_of (mIn D tc x0 y) (by decide) rfl (Nat.le_of_ble_eq_true rfl) rfl (fun X hX => ?_)
  subst hX
  unfold f_Mo_here
  refine q_aload_n 0 0 1 rfl (by decide +kernel) rfl ?_
  refine q_geti (f := 18) 4 rfl (by decide +kernel) (cC_Mo D tc x0 y) (rfl : mKd 0 = (1, 0, 21, 0, 0)) (by decide) rfl tw_5_230 ?_
  refine q_aload_n 0 0 5 rfl (by decide +kernel) rfl ?_
  refine q_geti (f := 4) 8 rfl (by decide +kernel) (cC_Mo D tc x0 y) (rfl : mKd 0 = (1, 0, 21, 0, 0)) (by decide) rfl tw_5_216 ?_
  refine q_icmp_ge 11 rfl 23 (off := 15) (by decide +kernel) rfl (fun g1 => ?_) (fun g1 => ?_)
  · refine q_iconst 0 (c := 0) 24 rfl (by decide +kernel) rfl ?_
    exact q_iret (by decide +kernel) rfl rfl (Nat.le_of_ble_eq_true rfl) (Nat.le_of_ble_eq_true rfl)
  · refine q_aload_n 0 0 12 rfl (by decide +kernel) rfl ?_
    refine q_getr (f := 3) 4 15 rfl (by decide +kernel) (cC_Mo D tc x0 y) (rfl : mKd 0 = (1, 0, 21, 0, 0)) (by decide) rfl rfl tw_5_215 ?_
    refine q_aload_n 0 0 16 rfl (by decide +kernel) rfl ?_
    refine q_geti (f := 18) 19 rfl (by decide +kernel) (cC_Mo D tc x0 y) (rfl : mKd 0 = (1, 0, 21, 0, 0)) (by decide) rfl tw_5_230 ?_
    refine q_iald (t := 0) 20 rfl (by decide +kernel) (rfl : mKd 4 = (2, 60, 0, 0, 0)) rfl (fun j1 hj1 => ?_)
    refine q_goto (off := 4) 24 (by decide +kernel) rfl ?_
    exact q_iret (by decide +kernel) rfl rfl (Nat.le_of_ble_eq_true rfl) (Nat.le_of_ble_eq_true rfl)
def f_Mo_isDigit (a0 : Int32) : Option (Int32) :=
  q_b1 (f_Mo_in a0 48 57) (fun v1 => some ((v1 &&& 1)))
def y_Mo_isDigit : MethodName := ⟨"CalendarReplicasModel", "isDigit", "(I)Z"⟩
def m_Mo_isDigit : q_M := (prog_11_method_81_code, 1, "CalendarReplicasModel", { frames := 1, cells := 0, slots := 0, locals := 22 }, (some FieldType.boolean))
theorem yv_Mo_isDigit : q_Y y_Mo_isDigit m_Mo_isDigit 1 := ⟨rfl, ⟨by decide, by decide⟩, by decide +kernel, tw_6_172, tw_1_15⟩
set_option maxRecDepth 100000 in
set_option maxHeartbeats 4000000 in
theorem c_Mo_isDigit (l : Launch) (D : va_G) (tc : Nat → ClassId) (x0 y : Nat) (I : q_I) (J : q_J) (P : q_P) (a0 : Int32) : q_Ct l (mG D tc x0 y) y_Mo_isDigit m_Mo_isDigit [.int a0] (I, J, P) (f_Mo_isDigit a0) (fun r : Int32 => (some (.int r), (I, J, P))) := by
  refine q_Ct_of (mIn D tc x0 y) (by decide) rfl (Nat.le_of_ble_eq_true rfl) rfl (fun X hX => ?_)
  subst hX
  unfold f_Mo_isDigit
  refine q_iload_n 0 0 1 rfl (by decide +kernel) rfl ?_
  refine q_bipush 48 (c := 48) 3 rfl (by decide +kernel) rfl ?_
  refine q_bipush 57 (c := 57) 5 rfl (by decide +kernel) rfl ?_
  refine q_callS_i 8 rfl (av := [.int a0, .int 48, .int 57]) (st := []) (c_Mo_in X.1 D tc x0 y I J P a0 48 57) yv_Mo_in tw_6_40 tw_6_41 rfl (Nat.le_of_ble_eq_true rfl) (by decide +kernel) ⟨Nat.le_of_ble_eq_true rfl, Nat.le_of_ble_eq_true rfl⟩ ⟨Nat.le_of_ble_eq_true rfl, Nat.le_of_ble_eq_true rfl⟩ rfl rfl (fun v1 => ?_)
  exact q_zret (w := (v1 &&& 1)) (by decide +kernel) rfl rfl rfl (Nat.le_of_ble_eq_true rfl) (Nat.le_of_ble_eq_true rfl)
def f_Mo_number (I : q_I) : Option (Int32 × q_I) :=
  q_b1 (f_Mo_here I) (fun v1 => q_b1 (f_Mo_isDigit v1) (fun v2 => if v2 = 0 then (some ((-1), I)) else (q_b1 (f_Mo_here I) (fun v3 => q_l (v3 - 48 : Int32) (fun x1 => q_l (q_ui I 0 18 ((I 0 18) + 1)) (fun I1 => q_b1 (f_Mo_here I1) (fun v4 => q_b1 (f_Mo_isDigit v4) (fun v5 => if v5 = 0 then (some (x1, I1)) else (q_b1 (f_Mo_here I1) (fun v6 => q_l (((10 * x1) + v6) - 48 : Int32) (fun x2 => q_l (q_ui I1 0 18 ((I1 0 18) + 1)) (fun I2 => some (x2, I2)))))))))))))
def y_Mo_number : MethodName := ⟨"CalendarReplicasModel", "numbe\x72", "()I"⟩
def m_Mo_number : q_M := (prog_11_method_82_code, 2, "CalendarReplicasModel", { frames := 2, cells := 0, slots := 0, locals := 42 }, (some FieldType.int))
theorem yv_Mo_number : q_Y y_Mo_number m_Mo_number 0 := ⟨rfl, ⟨by decide, by decide⟩, by decide +kernel, tw_6_165, tw_1_15⟩
set_option maxRecDepth 100000 in
set_option maxHeartbeats 4000000 in
theorem c_Mo_number (l : Launch) (D : va_G) (tc : Nat → ClassId) (x0 y : Nat) (I : q_I) (J : q_J) (P : q_P) : q_Ct l (mG D tc x0 y) y_Mo_number m_Mo_number [q_r (mG D tc x0 y) 0] (I, J, P) (f_Mo_number I) (fun r : Int32 × q_I => (some (.int r.1), (r.2, J, P))) := by
  refine q_Ct_of (mIn D tc x0 y) (by decide) rfl (Nat.le_of_ble_eq_true rfl) rfl (fun X hX => ?_)
  subst hX
  unfold f_Mo_number
  refine q_aload_n 0 0 1 rfl (by decide +kernel) rfl ?_
  refine q_callV_i 4 rfl (av := []) (o := 0) (st := []) (c_Mo_here X.1 D tc x0 y I J P ) yv_Mo_here tw_6_166 tw_6_168 sw_48 (cC_Mo D tc x0 y) (rfl : mKd 0 = (1, 0, 21, 0, 0)) rfl (Nat.le_of_ble_eq_true rfl) (by decide +kernel) ⟨Nat.le_of_ble_eq_true rfl, Nat.le_of_ble_eq_true rfl⟩ ⟨Nat.le_of_ble_eq_true rfl, Nat.le_of_ble_eq_true rfl⟩ rfl rfl (fun v1 => ?_)
  refine q_callS_i 7 rfl (av := [.int v1]) (st := []) (c_Mo_isDigit X.1 D tc x0 y I J P v1) yv_Mo_isDigit tw_6_170 tw_6_171 rfl (Nat.le_of_ble_eq_true rfl) (by decide +kernel) ⟨Nat.le_of_ble_eq_true rfl, Nat.le_of_ble_eq_true rfl⟩ ⟨Nat.le_of_ble_eq_true rfl, Nat.le_of_ble_eq_true rfl⟩ rfl rfl (fun v2 => ?_)
  refine q_if_ne 10 rfl 12 (off := 5) (by decide +kernel) rfl (fun g2 => ?_) (fun g2 => ?_)
  · refine q_aload_n 0 0 13 rfl (by decide +kernel) rfl ?_
    refine q_callV_i 16 rfl (av := []) (o := 0) (st := []) (c_Mo_here X.1 D tc x0 y I J P ) yv_Mo_here tw_6_166 tw_6_168 sw_48 (cC_Mo D tc x0 y) (rfl : mKd 0 = (1, 0, 21, 0, 0)) rfl (Nat.le_of_ble_eq_true rfl) (by decide +kernel) ⟨Nat.le_of_ble_eq_true rfl, Nat.le_of_ble_eq_true rfl⟩ ⟨Nat.le_of_ble_eq_true rfl, Nat.le_of_ble_eq_true rfl⟩ rfl rfl (fun v3 => ?_)
    refine q_bipush 48 (c := 48) 18 rfl (by decide +kernel) rfl ?_
    refine q_isub 19 rfl (by decide +kernel) ?_
    refine q_leti (fun x1 => ?_)
    refine q_istore_n 1 1 20 rfl [(1, .int x1), (0, q_r (mG D tc x0 y) 0)] (by decide +kernel) rfl (Nat.le_of_ble_eq_true rfl) rfl ?_
    refine q_aload_n 1 0 21 rfl (by decide +kernel) rfl ?_
    refine q_dup 22 rfl (by decide +kernel) rfl ?_
    refine q_geti (f := 18) 25 rfl (by decide +kernel) (cC_Mo D tc x0 y) (rfl : mKd 0 = (1, 0, 21, 0, 0)) (by decide) rfl tw_5_230 ?_
    refine q_iconst 1 (c := 1) 26 rfl (by decide +kernel) rfl ?_
    refine q_iadd 27 rfl (by decide +kernel) ?_
    refine q_puti (f := 18) 30 rfl (by decide +kernel) (cC_Mo D tc x0 y) (rfl : mKd 0 = (1, 0, 21, 0, 0)) (by decide) rfl rfl rfl tw_5_230 ?_
    refine q_letI (fun I1 => ?_)
    refine q_aload_n 1 0 31 rfl (by decide +kernel) rfl ?_
    refine q_callV_i 34 rfl (av := []) (o := 0) (st := []) (c_Mo_here X.1 D tc x0 y I1 J P ) yv_Mo_here tw_6_166 tw_6_168 sw_48 (cC_Mo D tc x0 y) (rfl : mKd 0 = (1, 0, 21, 0, 0)) rfl (Nat.le_of_ble_eq_true rfl) (by decide +kernel) ⟨Nat.le_of_ble_eq_true rfl, Nat.le_of_ble_eq_true rfl⟩ ⟨Nat.le_of_ble_eq_true rfl, Nat.le_of_ble_eq_true rfl⟩ rfl rfl (fun v4 => ?_)
    refine q_callS_i 37 rfl (av := [.int v4]) (st := []) (c_Mo_isDigit X.1 D tc x0 y I1 J P v4) yv_Mo_isDigit tw_6_170 tw_6_171 rfl (Nat.le_of_ble_eq_true rfl) (by decide +kernel) ⟨Nat.le_of_ble_eq_true rfl, Nat.le_of_ble_eq_true rfl⟩ ⟨Nat.le_of_ble_eq_true rfl, Nat.le_of_ble_eq_true rfl⟩ rfl rfl (fun v5 => ?_)
    refine q_if_eq 40 rfl 63 (off := 26) (by decide +kernel) rfl (fun g1 => ?_) (fun g1 => ?_)
    · refine q_iload_n 0 1 64 rfl (by decide +kernel) rfl ?_
      exact q_iret (by decide +kernel) rfl rfl (Nat.le_of_ble_eq_true rfl) (Nat.le_of_ble_eq_true rfl)
    · refine q_bipush 10 (c := 10) 42 rfl (by decide +kernel) rfl ?_
      refine q_iload_n 0 1 43 rfl (by decide +kernel) rfl ?_
      refine q_imul 44 rfl (by decide +kernel) ?_
      refine q_aload_n 1 0 45 rfl (by decide +kernel) rfl ?_
      refine q_callV_i 48 rfl (av := []) (o := 0) (st := [.int (10 * x1)]) (c_Mo_here X.1 D tc x0 y I1 J P ) yv_Mo_here tw_6_166 tw_6_168 sw_48 (cC_Mo D tc x0 y) (rfl : mKd 0 = (1, 0, 21, 0, 0)) rfl (Nat.le_of_ble_eq_true rfl) (by decide +kernel) ⟨Nat.le_of_ble_eq_true rfl, Nat.le_of_ble_eq_true rfl⟩ ⟨Nat.le_of_ble_eq_true rfl, Nat.le_of_ble_eq_true rfl⟩ rfl rfl (fun v6 => ?_)
      refine q_iadd 49 rfl (by decide +kernel) ?_
      refine q_bipush 48 (c := 48) 51 rfl (by decide +kernel) rfl ?_
      refine q_isub 52 rfl (by decide +kernel) ?_
      refine q_leti (fun x2 => ?_)
      refine q_istore_n 1 1 53 rfl [(1, .int x2), (0, q_r (mG D tc x0 y) 0)] (by decide +kernel) rfl (Nat.le_of_ble_eq_true rfl) rfl ?_
      refine q_aload_n 1 0 54 rfl (by decide +kernel) rfl ?_
      refine q_dup 55 rfl (by decide +kernel) rfl ?_
      refine q_geti (f := 18) 58 rfl (by decide +kernel) (cC_Mo D tc x0 y) (rfl : mKd 0 = (1, 0, 21, 0, 0)) (by decide) rfl tw_5_230 ?_
      refine q_iconst 1 (c := 1) 59 rfl (by decide +kernel) rfl ?_
      refine q_iadd 60 rfl (by decide +kernel) ?_
      refine q_puti (f := 18) 63 rfl (by decide +kernel) (cC_Mo D tc x0 y) (rfl : mKd 0 = (1, 0, 21, 0, 0)) (by decide) rfl rfl rfl tw_5_230 ?_
      refine q_letI (fun I2 => ?_)
      refine q_iload_n 0 1 64 rfl (by decide +kernel) rfl ?_
      exact q_iret (by decide +kernel) rfl rfl (Nat.le_of_ble_eq_true rfl) (Nat.le_of_ble_eq_true rfl)
  · refine q_iconst (-1) (c := -1) 11 rfl (by decide +kernel) rfl ?_
    exact q_iret (by decide +kernel) rfl rfl (Nat.le_of_ble_eq_true rfl) (Nat.le_of_ble_eq_true rfl)
def f_Mo_takes (I : q_I) (a1 : Int32) : Option (Int32 × q_I) :=
  q_b1 (f_Mo_here I) (fun v1 => q_b1 (if v1 = a1 then ((some (1))) else ((some (0))) : Option (Int32)) (fun (x1 : Int32) => q_b1 (if x1 = 0 then ((some (0))) else ((some (1))) : Option (Int32)) (fun (x2 : Int32) => q_l (q_ui I 0 18 ((I 0 18) + x2)) (fun I1 => some ((x1 &&& 1), I1)))))
def y_Mo_takes : MethodName := ⟨"CalendarReplicasModel", "takes", "(I)Z"⟩
def m_Mo_takes : q_M := (prog_11_method_83_code, 3, "CalendarReplicasModel", { frames := 1, cells := 0, slots := 0, locals := 20 }, (some FieldType.boolean))
theorem yv_Mo_takes : q_Y y_Mo_takes m_Mo_takes 1 := ⟨rfl, ⟨by decide, by decide⟩, by decide +kernel, tw_6_176, tw_1_15⟩
set_option maxRecDepth 100000 in
set_option maxHeartbeats 4000000 in
theorem c_Mo_takes (l : Launch) (D : va_G) (tc : Nat → ClassId) (x0 y : Nat) (I : q_I) (J : q_J) (P : q_P) (a1 : Int32) : q_Ct l (mG D tc x0 y) y_Mo_takes m_Mo_takes [q_r (mG D tc x0 y) 0, .int a1] (I, J, P) (f_Mo_takes I a1) (fun r : Int32 × q_I => (some (.int r.1), (r.2, J, P))) := by
  refine q_Ct_of (mIn D tc x0 y) (by decide) rfl (Nat.le_of_ble_eq_true rfl) rfl (fun X hX => ?_)
  subst hX
  unfold f_Mo_takes
  refine q_aload_n 0 0 1 rfl (by decide +kernel) rfl ?_
  refine q_callV_i 4 rfl (av := []) (o := 0) (st := []) (c_Mo_here X.1 D tc x0 y I J P ) yv_Mo_here tw_6_166 tw_6_168 sw_48 (cC_Mo D tc x0 y) (rfl : mKd 0 = (1, 0, 21, 0, 0)) rfl (Nat.le_of_ble_eq_true rfl) (by decide +kernel) ⟨Nat.le_of_ble_eq_true rfl, Nat.le_of_ble_eq_true rfl⟩ ⟨Nat.le_of_ble_eq_true rfl, Nat.le_of_ble_eq_true rfl⟩ rfl rfl (fun v1 => ?_)
  refine q_iload_n 1 1 5 rfl (by decide +kernel) rfl ?_
  refine q_jn1 13 (fun x1 => [(0, q_r (mG D tc x0 y) 0)]) (fun x1 => [.int x1]) (fun x1 => I) (fun x1 => J) (fun x1 => P) (fun jk1 => if v1 = a1 then ((jk1 (1))) else ((jk1 (0)))) (by intro jk1; simp only [q_b1_if, q_b1_s, q_b1_n, q_b1_ix, q_b1_b1, q_b1_b2, q_b1_b3, q_b1_l, q_b1_ck, q_b1_el]) ?_ ?_
  · intro x1
    refine q_istore_n 2 2 14 rfl [(2, .int x1), (0, q_r (mG D tc x0 y) 0)] (by decide +kernel) rfl (Nat.le_of_ble_eq_true rfl) rfl ?_
    refine q_aload_n 1 0 15 rfl (by decide +kernel) rfl ?_
    refine q_dup 16 rfl (by decide +kernel) rfl ?_
    refine q_geti (f := 18) 19 rfl (by decide +kernel) (cC_Mo D tc x0 y) (rfl : mKd 0 = (1, 0, 21, 0, 0)) (by decide) rfl tw_5_230 ?_
    refine q_iload_n 0 2 20 rfl (by decide +kernel) rfl ?_
    refine q_jn1 28 (fun x2 => [(2, .int x1)]) (fun x2 => [.int x2, .int (I 0 18), q_r (mG D tc x0 y) 0]) (fun x2 => I) (fun x2 => J) (fun x2 => P) (fun jk2 => if x1 = 0 then ((jk2 (0))) else ((jk2 (1)))) (by intro jk2; simp only [q_b1_if, q_b1_s, q_b1_n, q_b1_ix, q_b1_b1, q_b1_b2, q_b1_b3, q_b1_l, q_b1_ck, q_b1_el]) ?_ ?_
    · intro x2
      refine q_iadd 29 rfl (by decide +kernel) ?_
      refine q_puti (f := 18) 32 rfl (by decide +kernel) (cC_Mo D tc x0 y) (rfl : mKd 0 = (1, 0, 21, 0, 0)) (by decide) rfl rfl rfl tw_5_230 ?_
      refine q_letI (fun I1 => ?_)
      refine q_iload_n 0 2 33 rfl (by decide +kernel) rfl ?_
      exact q_zret (w := (x1 &&& 1)) (by decide +kernel) rfl rfl rfl (Nat.le_of_ble_eq_true rfl) (Nat.le_of_ble_eq_true rfl)
    · intro jk2 hq2
      refine q_if_eq 23 rfl 27 (off := 7) (by decide +kernel) rfl (fun g1 => ?_) (fun g1 => ?_)
      · refine q_iconst 0 (c := 0) 28 rfl (by decide +kernel) rfl ?_
        refine q_sub [0] rfl ?_
        exact hq2 0
      · refine q_iconst 1 (c := 1) 24 rfl (by decide +kernel) rfl ?_
        refine q_goto (off := 4) 28 (by decide +kernel) rfl ?_
        refine q_sub [0] rfl ?_
        exact hq2 1
  · intro jk1 hq1
    refine q_icmp_ne 8 rfl 12 (off := 7) (by decide +kernel) rfl (fun g2 => ?_) (fun g2 => ?_)
    · refine q_iconst 0 (c := 0) 13 rfl (by decide +kernel) rfl ?_
      refine q_sub [0] rfl ?_
      exact hq1 0
    · refine q_iconst 1 (c := 1) 9 rfl (by decide +kernel) rfl ?_
      refine q_goto (off := 4) 13 (by decide +kernel) rfl ?_
      refine q_sub [0] rfl ?_
      exact hq1 1
def f_Mo_areToldPersons_L1 : Nat → Int32 → q_I → Option (Int32 × q_I)
  | 0, _, _ => none
  | n + 1, x1, I2 => q_b1 (f_Mo_here I2) (fun v3 => q_b1 (f_Mo_in v3 48 53) (fun v4 => if v4 = 0 then (some (1, I2)) else (q_b1 (f_Mo_here I2) (fun v5 => if (v5 - 48) ≤ x1 then (some (1, I2)) else (q_b1 (f_Mo_here I2) (fun v6 => q_l (v6 - 48 : Int32) (fun x2 => q_l (q_ui I2 0 14 ((I2 0 14) ||| (1 <<< (x2 &&& 31)))) (fun I3 => q_l (q_ui I3 0 18 ((I3 0 18) + 1)) (fun I4 => (f_Mo_areToldPersons_L1  n x2 I4))))))))))
def f_Mo_areToldPersons (I : q_I) : Option (Int32 × q_I) :=
  q_b1 (f_Mo_here I) (fun v1 => q_b1 (f_Mo_in v1 48 53) (fun v2 => if v2 = 0 then (some (0, I)) else (q_l (q_ui I 0 14 0) (fun I1 => f_Mo_areToldPersons_L1  q_fu (-1) I1))))
def y_Mo_areToldPersons : MethodName := ⟨"CalendarReplicasModel", "areToldPersons", "()Z"⟩
def m_Mo_areToldPersons : q_M := (prog_11_method_84_code, 2, "CalendarReplicasModel", { frames := 1, cells := 0, slots := 0, locals := 22 }, (some FieldType.boolean))
theorem yv_Mo_areToldPersons : q_Y y_Mo_areToldPersons m_Mo_areToldPersons 0 := ⟨rfl, ⟨by decide, by decide⟩, by decide +kernel, tw_6_188, tw_1_15⟩
set_option maxRecDepth 100000 in
set_option maxHeartbeats 4000000 in
theorem c_Mo_areToldPersons (l : Launch) (D : va_G) (tc : Nat → ClassId) (x0 y : Nat) (I : q_I) (J : q_J) (P : q_P) : q_Ct l (mG D tc x0 y) y_Mo_areToldPersons m_Mo_areToldPersons [q_r (mG D tc x0 y) 0] (I, J, P) (f_Mo_areToldPersons I) (fun r : Int32 × q_I => (some (.int r.1), (r.2, J, P))) := by
  refine q_Ct_of (mIn D tc x0 y) (by decide) rfl (Nat.le_of_ble_eq_true rfl) rfl (fun X hX => ?_)
  subst hX
  unfold f_Mo_areToldPersons
  refine q_aload_n 0 0 1 rfl (by decide +kernel) rfl ?_
  refine q_callV_i 4 rfl (av := []) (o := 0) (st := []) (c_Mo_here X.1 D tc x0 y I J P ) yv_Mo_here tw_6_166 tw_6_168 sw_48 (cC_Mo D tc x0 y) (rfl : mKd 0 = (1, 0, 21, 0, 0)) rfl (Nat.le_of_ble_eq_true rfl) (by decide +kernel) ⟨Nat.le_of_ble_eq_true rfl, Nat.le_of_ble_eq_true rfl⟩ ⟨Nat.le_of_ble_eq_true rfl, Nat.le_of_ble_eq_true rfl⟩ rfl rfl (fun v1 => ?_)
  refine q_bipush 48 (c := 48) 6 rfl (by decide +kernel) rfl ?_
  refine q_bipush 53 (c := 53) 8 rfl (by decide +kernel) rfl ?_
  refine q_callS_i 11 rfl (av := [.int v1, .int 48, .int 53]) (st := []) (c_Mo_in X.1 D tc x0 y I J P v1 48 53) yv_Mo_in tw_6_40 tw_6_41 rfl (Nat.le_of_ble_eq_true rfl) (by decide +kernel) ⟨Nat.le_of_ble_eq_true rfl, Nat.le_of_ble_eq_true rfl⟩ ⟨Nat.le_of_ble_eq_true rfl, Nat.le_of_ble_eq_true rfl⟩ rfl rfl (fun v2 => ?_)
  refine q_if_ne 14 rfl 16 (off := 5) (by decide +kernel) rfl (fun g3 => ?_) (fun g3 => ?_)
  · refine q_aload_n 0 0 17 rfl (by decide +kernel) rfl ?_
    refine q_iconst 0 (c := 0) 18 rfl (by decide +kernel) rfl ?_
    refine q_puti (f := 14) 21 rfl (by decide +kernel) (cC_Mo D tc x0 y) (rfl : mKd 0 = (1, 0, 21, 0, 0)) (by decide) rfl rfl rfl tw_5_226 ?_
    refine q_letI (fun I1 => ?_)
    refine q_iconst (-1) (c := -1) 22 rfl (by decide +kernel) rfl ?_
    refine q_istore_n 1 1 23 rfl [(1, .int (-1)), (0, q_r (mG D tc x0 y) 0)] (by decide +kernel) rfl (Nat.le_of_ble_eq_true rfl) rfl ?_
    have hL1 : ∀ (n1_ : Nat) (x1 : Int32) (I2 : q_I), q_V (mG D tc x0 y) m_Mo_areToldPersons X (fun r : Int32 × q_I => (some (.int r.1), (r.2, J, P))) 0 0 23 [(0, q_r (mG D tc x0 y) 0), (1, .int x1)] [] I2 J P (f_Mo_areToldPersons_L1  n1_ x1 I2) := by
      intro n1_
      induction n1_ with
      | zero => intro x1 I2; exact q_none
      | succ n1_ ih1 =>
        intro x1 I2
        rw [f_Mo_areToldPersons_L1]
        refine q_aload_n 0 0 24 rfl (by decide +kernel) rfl ?_
        refine q_callV_i 27 rfl (av := []) (o := 0) (st := []) (c_Mo_here X.1 D tc x0 y I2 J P ) yv_Mo_here tw_6_166 tw_6_168 sw_48 (cC_Mo D tc x0 y) (rfl : mKd 0 = (1, 0, 21, 0, 0)) rfl (Nat.le_of_ble_eq_true rfl) (by decide +kernel) ⟨Nat.le_of_ble_eq_true rfl, Nat.le_of_ble_eq_true rfl⟩ ⟨Nat.le_of_ble_eq_true rfl, Nat.le_of_ble_eq_true rfl⟩ rfl rfl (fun v3 => ?_)
        refine q_bipush 48 (c := 48) 29 rfl (by decide +kernel) rfl ?_
        refine q_bipush 53 (c := 53) 31 rfl (by decide +kernel) rfl ?_
        refine q_callS_i 34 rfl (av := [.int v3, .int 48, .int 53]) (st := []) (c_Mo_in X.1 D tc x0 y I2 J P v3 48 53) yv_Mo_in tw_6_40 tw_6_41 rfl (Nat.le_of_ble_eq_true rfl) (by decide +kernel) ⟨Nat.le_of_ble_eq_true rfl, Nat.le_of_ble_eq_true rfl⟩ ⟨Nat.le_of_ble_eq_true rfl, Nat.le_of_ble_eq_true rfl⟩ rfl rfl (fun v4 => ?_)
        refine q_if_eq 37 rfl 81 (off := 47) (by decide +kernel) rfl (fun g2 => ?_) (fun g2 => ?_)
        · refine q_iconst 1 (c := 1) 82 rfl (by decide +kernel) rfl ?_
          exact q_zret (w := 1) (by decide +kernel) rfl rfl rfl (Nat.le_of_ble_eq_true rfl) (Nat.le_of_ble_eq_true rfl)
        · refine q_aload_n 0 0 38 rfl (by decide +kernel) rfl ?_
          refine q_callV_i 41 rfl (av := []) (o := 0) (st := []) (c_Mo_here X.1 D tc x0 y I2 J P ) yv_Mo_here tw_6_166 tw_6_168 sw_48 (cC_Mo D tc x0 y) (rfl : mKd 0 = (1, 0, 21, 0, 0)) rfl (Nat.le_of_ble_eq_true rfl) (by decide +kernel) ⟨Nat.le_of_ble_eq_true rfl, Nat.le_of_ble_eq_true rfl⟩ ⟨Nat.le_of_ble_eq_true rfl, Nat.le_of_ble_eq_true rfl⟩ rfl rfl (fun v5 => ?_)
          refine q_bipush 48 (c := 48) 43 rfl (by decide +kernel) rfl ?_
          refine q_isub 44 rfl (by decide +kernel) ?_
          refine q_iload_n 1 1 45 rfl (by decide +kernel) rfl ?_
          refine q_icmp_le 48 rfl 81 (off := 36) (by decide +kernel) rfl (fun g1 => ?_) (fun g1 => ?_)
          · refine q_iconst 1 (c := 1) 82 rfl (by decide +kernel) rfl ?_
            exact q_zret (w := 1) (by decide +kernel) rfl rfl rfl (Nat.le_of_ble_eq_true rfl) (Nat.le_of_ble_eq_true rfl)
          · refine q_aload_n 0 0 49 rfl (by decide +kernel) rfl ?_
            refine q_callV_i 52 rfl (av := []) (o := 0) (st := []) (c_Mo_here X.1 D tc x0 y I2 J P ) yv_Mo_here tw_6_166 tw_6_168 sw_48 (cC_Mo D tc x0 y) (rfl : mKd 0 = (1, 0, 21, 0, 0)) rfl (Nat.le_of_ble_eq_true rfl) (by decide +kernel) ⟨Nat.le_of_ble_eq_true rfl, Nat.le_of_ble_eq_true rfl⟩ ⟨Nat.le_of_ble_eq_true rfl, Nat.le_of_ble_eq_true rfl⟩ rfl rfl (fun v6 => ?_)
            refine q_bipush 48 (c := 48) 54 rfl (by decide +kernel) rfl ?_
            refine q_isub 55 rfl (by decide +kernel) ?_
            refine q_leti (fun x2 => ?_)
            refine q_istore_n 1 1 56 rfl [(1, .int x2), (0, q_r (mG D tc x0 y) 0)] (by decide +kernel) rfl (Nat.le_of_ble_eq_true rfl) rfl ?_
            refine q_aload_n 1 0 57 rfl (by decide +kernel) rfl ?_
            refine q_dup 58 rfl (by decide +kernel) rfl ?_
            refine q_geti (f := 14) 61 rfl (by decide +kernel) (cC_Mo D tc x0 y) (rfl : mKd 0 = (1, 0, 21, 0, 0)) (by decide) rfl tw_5_226 ?_
            refine q_iconst 1 (c := 1) 62 rfl (by decide +kernel) rfl ?_
            refine q_iload_n 0 1 63 rfl (by decide +kernel) rfl ?_
            refine q_ishl 64 rfl (by decide +kernel) ?_
            refine q_ior 65 rfl (by decide +kernel) ?_
            refine q_puti (f := 14) 68 rfl (by decide +kernel) (cC_Mo D tc x0 y) (rfl : mKd 0 = (1, 0, 21, 0, 0)) (by decide) rfl rfl rfl tw_5_226 ?_
            refine q_letI (fun I3 => ?_)
            refine q_aload_n 1 0 69 rfl (by decide +kernel) rfl ?_
            refine q_dup 70 rfl (by decide +kernel) rfl ?_
            refine q_geti (f := 18) 73 rfl (by decide +kernel) (cC_Mo D tc x0 y) (rfl : mKd 0 = (1, 0, 21, 0, 0)) (by decide) rfl tw_5_230 ?_
            refine q_iconst 1 (c := 1) 74 rfl (by decide +kernel) rfl ?_
            refine q_iadd 75 rfl (by decide +kernel) ?_
            refine q_puti (f := 18) 78 rfl (by decide +kernel) (cC_Mo D tc x0 y) (rfl : mKd 0 = (1, 0, 21, 0, 0)) (by decide) rfl rfl rfl tw_5_230 ?_
            refine q_letI (fun I4 => ?_)
            refine q_goto (off := -55) 23 (by decide +kernel) rfl ?_
            refine q_sub [1, 0] rfl ?_
            exact ih1 x2 I4
    refine q_sub [1, 0] rfl ?_
    exact hL1 _ _ _
  · refine q_iconst 0 (c := 0) 15 rfl (by decide +kernel) rfl ?_
    exact q_zret (w := 0) (by decide +kernel) rfl rfl rfl (Nat.le_of_ble_eq_true rfl) (Nat.le_of_ble_eq_true rfl)
def f_Mo_isOption (I : q_I) (a1 : Int32) : Option (Int32 × q_I) :=
  if a1 = 112 then (q_b2 (f_Mo_areToldPersons I) (fun v1 I1 => some ((v1 &&& 1), I1))) else (if a1 = 114 then (q_b1 (f_Mo_here I) (fun v2 => q_l (q_ui I 0 13 (v2 - 48)) (fun I2 => q_b1 (f_Mo_in (I2 0 13) 0 3) (fun v3 => q_b1 (if v3 = 0 then ((some (0))) else ((some (1))) : Option (Int32)) (fun (x1 : Int32) => q_l (q_ui I2 0 18 ((I2 0 18) + x1)) (fun I3 => q_b1 (f_Mo_in (I3 0 13) 0 3) (fun v4 => some ((v4 &&& 1), I3)))))))) else (if a1 = 119 then (q_b1 (f_Mo_here I) (fun v5 => q_l (q_ui I 0 15 (v5 - 48)) (fun I4 => q_b1 (f_Mo_in (I4 0 15) 1 9) (fun v6 => q_b1 (if v6 = 0 then ((some (0))) else ((some (1))) : Option (Int32)) (fun (x2 : Int32) => q_l (q_ui I4 0 18 ((I4 0 18) + x2)) (fun I5 => q_b1 (f_Mo_in (I5 0 15) 1 9) (fun v7 => some ((v7 &&& 1), I5)))))))) else (q_b2 (f_Mo_number I) (fun v8 I6 => q_l (q_ui I6 0 16 v8) (fun I7 => if (I7 0 16) < 0 then (some (0, I7)) else (q_b2 (f_Mo_takes I7 120) (fun v9 I8 => if v9 = 0 then (some (0, I8)) else (q_b1 (f_Mo_here I8) (fun v10 => q_l (q_ui I8 0 17 (v10 - 48)) (fun I9 => q_b1 (f_Mo_in (I9 0 17) 1 4) (fun v11 => q_b1 (if v11 = 0 then ((some (0))) else ((some (1))) : Option (Int32)) (fun (x3 : Int32) => q_l (q_ui I9 0 18 ((I9 0 18) + x3)) (fun I10 => q_b1 (f_Mo_in (I10 0 17) 1 4) (fun v12 => some ((v12 &&& 1), I10)))))))))))))))
def y_Mo_isOption : MethodName := ⟨"CalendarReplicasModel", "isOption", "(I)Z"⟩
def m_Mo_isOption : q_M := (prog_11_method_85_code, 2, "CalendarReplicasModel", { frames := 3, cells := 0, slots := 0, locals := 63 }, (some FieldType.boolean))
theorem yv_Mo_isOption : q_Y y_Mo_isOption m_Mo_isOption 1 := ⟨rfl, ⟨by decide, by decide⟩, by decide +kernel, tw_6_184, tw_1_15⟩
set_option maxRecDepth 100000 in
set_option maxHeartbeats 4000000 in
theorem c_Mo_isOption (l : Launch) (D : va_G) (tc : Nat → ClassId) (x0 y : Nat) (I : q_I) (J : q_J) (P : q_P) (a1 : Int32) : q_Ct l (mG D tc x0 y) y_Mo_isOption m_Mo_isOption [q_r (mG D tc x0 y) 0, .int a1] (I, J, P) (f_Mo_isOption I a1) (fun r : Int32 × q_I => (some (.int r.1), (r.2, J, P))) := by
  refine q_Ct_of (mIn D tc x0 y) (by decide) rfl (Nat.le_of_ble_eq_true rfl) rfl (fun X hX => ?_)
  subst hX
  unfold f_Mo_isOption
  refine q_iload_n 1 1 1 rfl (by decide +kernel) rfl ?_
  refine q_case (fun g1 => ?_) (fun g1 => ?_)
  · refine q_lookupE (dflt := 136) (ps := #[(112, 82), (114, 35), (119, 87)]) (len := 35) (c := 112) (off := 82) g1 83 (by decide +kernel) (by decide) (by decide) (by decide) ?_
    refine q_aload_n 0 0 84 rfl (by decide +kernel) rfl ?_
    refine q_callV_iI 87 rfl (av := []) (o := 0) (st := []) (c_Mo_areToldPersons X.1 D tc x0 y I J P ) yv_Mo_areToldPersons tw_6_185 tw_6_187 sw_52 (cC_Mo D tc x0 y) (rfl : mKd 0 = (1, 0, 21, 0, 0)) rfl (Nat.le_of_ble_eq_true rfl) (by decide +kernel) ⟨Nat.le_of_ble_eq_true rfl, Nat.le_of_ble_eq_true rfl⟩ ⟨Nat.le_of_ble_eq_true rfl, Nat.le_of_ble_eq_true rfl⟩ rfl rfl (fun v1 I1 => ?_)
    exact q_zret (w := (v1 &&& 1)) (by decide +kernel) rfl rfl rfl (Nat.le_of_ble_eq_true rfl) (Nat.le_of_ble_eq_true rfl)
  refine q_case (fun g3 => ?_) (fun g3 => ?_)
  · refine q_lookupE (dflt := 136) (ps := #[(112, 82), (114, 35), (119, 87)]) (len := 35) (c := 114) (off := 35) g3 36 (by decide +kernel) (by decide) (by decide) (by decide) ?_
    refine q_aload_n 0 0 37 rfl (by decide +kernel) rfl ?_
    refine q_aload_n 0 0 38 rfl (by decide +kernel) rfl ?_
    refine q_callV_i 41 rfl (av := []) (o := 0) (st := [q_r (mG D tc x0 y) 0]) (c_Mo_here X.1 D tc x0 y I J P ) yv_Mo_here tw_6_166 tw_6_168 sw_48 (cC_Mo D tc x0 y) (rfl : mKd 0 = (1, 0, 21, 0, 0)) rfl (Nat.le_of_ble_eq_true rfl) (by decide +kernel) ⟨Nat.le_of_ble_eq_true rfl, Nat.le_of_ble_eq_true rfl⟩ ⟨Nat.le_of_ble_eq_true rfl, Nat.le_of_ble_eq_true rfl⟩ rfl rfl (fun v2 => ?_)
    refine q_bipush 48 (c := 48) 43 rfl (by decide +kernel) rfl ?_
    refine q_isub 44 rfl (by decide +kernel) ?_
    refine q_puti (f := 13) 47 rfl (by decide +kernel) (cC_Mo D tc x0 y) (rfl : mKd 0 = (1, 0, 21, 0, 0)) (by decide) rfl rfl rfl tw_5_225 ?_
    refine q_letI (fun I2 => ?_)
    refine q_aload_n 0 0 48 rfl (by decide +kernel) rfl ?_
    refine q_dup 49 rfl (by decide +kernel) rfl ?_
    refine q_geti (f := 18) 52 rfl (by decide +kernel) (cC_Mo D tc x0 y) (rfl : mKd 0 = (1, 0, 21, 0, 0)) (by decide) rfl tw_5_230 ?_
    refine q_aload_n 0 0 53 rfl (by decide +kernel) rfl ?_
    refine q_geti (f := 13) 56 rfl (by decide +kernel) (cC_Mo D tc x0 y) (rfl : mKd 0 = (1, 0, 21, 0, 0)) (by decide) rfl tw_5_225 ?_
    refine q_iconst 0 (c := 0) 57 rfl (by decide +kernel) rfl ?_
    refine q_iconst 3 (c := 3) 58 rfl (by decide +kernel) rfl ?_
    refine q_callS_i 61 rfl (av := [.int (I2 0 13), .int 0, .int 3]) (st := [.int (I2 0 18), q_r (mG D tc x0 y) 0]) (c_Mo_in X.1 D tc x0 y I2 J P (I2 0 13) 0 3) yv_Mo_in tw_6_40 tw_6_41 rfl (Nat.le_of_ble_eq_true rfl) (by decide +kernel) ⟨Nat.le_of_ble_eq_true rfl, Nat.le_of_ble_eq_true rfl⟩ ⟨Nat.le_of_ble_eq_true rfl, Nat.le_of_ble_eq_true rfl⟩ rfl rfl (fun v3 => ?_)
    refine q_jn1 69 (fun x1 => [(0, q_r (mG D tc x0 y) 0)]) (fun x1 => [.int x1, .int (I2 0 18), q_r (mG D tc x0 y) 0]) (fun x1 => I2) (fun x1 => J) (fun x1 => P) (fun jk1 => if v3 = 0 then ((jk1 (0))) else ((jk1 (1)))) (by intro jk1; simp only [q_b1_if, q_b1_s, q_b1_n, q_b1_ix, q_b1_b1, q_b1_b2, q_b1_b3, q_b1_l, q_b1_ck, q_b1_el]) ?_ ?_
    · intro x1
      refine q_iadd 70 rfl (by decide +kernel) ?_
      refine q_puti (f := 18) 73 rfl (by decide +kernel) (cC_Mo D tc x0 y) (rfl : mKd 0 = (1, 0, 21, 0, 0)) (by decide) rfl rfl rfl tw_5_230 ?_
      refine q_letI (fun I3 => ?_)
      refine q_aload_n 0 0 74 rfl (by decide +kernel) rfl ?_
      refine q_geti (f := 13) 77 rfl (by decide +kernel) (cC_Mo D tc x0 y) (rfl : mKd 0 = (1, 0, 21, 0, 0)) (by decide) rfl tw_5_225 ?_
      refine q_iconst 0 (c := 0) 78 rfl (by decide +kernel) rfl ?_
      refine q_iconst 3 (c := 3) 79 rfl (by decide +kernel) rfl ?_
      refine q_callS_i 82 rfl (av := [.int (I3 0 13), .int 0, .int 3]) (st := []) (c_Mo_in X.1 D tc x0 y I3 J P (I3 0 13) 0 3) yv_Mo_in tw_6_40 tw_6_41 rfl (Nat.le_of_ble_eq_true rfl) (by decide +kernel) ⟨Nat.le_of_ble_eq_true rfl, Nat.le_of_ble_eq_true rfl⟩ ⟨Nat.le_of_ble_eq_true rfl, Nat.le_of_ble_eq_true rfl⟩ rfl rfl (fun v4 => ?_)
      exact q_zret (w := (v4 &&& 1)) (by decide +kernel) rfl rfl rfl (Nat.le_of_ble_eq_true rfl) (Nat.le_of_ble_eq_true rfl)
    · intro jk1 hq1
      refine q_if_eq 64 rfl 68 (off := 7) (by decide +kernel) rfl (fun g2 => ?_) (fun g2 => ?_)
      · refine q_iconst 0 (c := 0) 69 rfl (by decide +kernel) rfl ?_
        refine q_sub [0] rfl ?_
        exact hq1 0
      · refine q_iconst 1 (c := 1) 65 rfl (by decide +kernel) rfl ?_
        refine q_goto (off := 4) 69 (by decide +kernel) rfl ?_
        refine q_sub [0] rfl ?_
        exact hq1 1
  refine q_case (fun g5 => ?_) (fun g5 => ?_)
  · refine q_lookupE (dflt := 136) (ps := #[(112, 82), (114, 35), (119, 87)]) (len := 35) (c := 119) (off := 87) g5 88 (by decide +kernel) (by decide) (by decide) (by decide) ?_
    refine q_aload_n 0 0 89 rfl (by decide +kernel) rfl ?_
    refine q_aload_n 0 0 90 rfl (by decide +kernel) rfl ?_
    refine q_callV_i 93 rfl (av := []) (o := 0) (st := [q_r (mG D tc x0 y) 0]) (c_Mo_here X.1 D tc x0 y I J P ) yv_Mo_here tw_6_166 tw_6_168 sw_48 (cC_Mo D tc x0 y) (rfl : mKd 0 = (1, 0, 21, 0, 0)) rfl (Nat.le_of_ble_eq_true rfl) (by decide +kernel) ⟨Nat.le_of_ble_eq_true rfl, Nat.le_of_ble_eq_true rfl⟩ ⟨Nat.le_of_ble_eq_true rfl, Nat.le_of_ble_eq_true rfl⟩ rfl rfl (fun v5 => ?_)
    refine q_bipush 48 (c := 48) 95 rfl (by decide +kernel) rfl ?_
    refine q_isub 96 rfl (by decide +kernel) ?_
    refine q_puti (f := 15) 99 rfl (by decide +kernel) (cC_Mo D tc x0 y) (rfl : mKd 0 = (1, 0, 21, 0, 0)) (by decide) rfl rfl rfl tw_5_227 ?_
    refine q_letI (fun I4 => ?_)
    refine q_aload_n 0 0 100 rfl (by decide +kernel) rfl ?_
    refine q_dup 101 rfl (by decide +kernel) rfl ?_
    refine q_geti (f := 18) 104 rfl (by decide +kernel) (cC_Mo D tc x0 y) (rfl : mKd 0 = (1, 0, 21, 0, 0)) (by decide) rfl tw_5_230 ?_
    refine q_aload_n 0 0 105 rfl (by decide +kernel) rfl ?_
    refine q_geti (f := 15) 108 rfl (by decide +kernel) (cC_Mo D tc x0 y) (rfl : mKd 0 = (1, 0, 21, 0, 0)) (by decide) rfl tw_5_227 ?_
    refine q_iconst 1 (c := 1) 109 rfl (by decide +kernel) rfl ?_
    refine q_bipush 9 (c := 9) 111 rfl (by decide +kernel) rfl ?_
    refine q_callS_i 114 rfl (av := [.int (I4 0 15), .int 1, .int 9]) (st := [.int (I4 0 18), q_r (mG D tc x0 y) 0]) (c_Mo_in X.1 D tc x0 y I4 J P (I4 0 15) 1 9) yv_Mo_in tw_6_40 tw_6_41 rfl (Nat.le_of_ble_eq_true rfl) (by decide +kernel) ⟨Nat.le_of_ble_eq_true rfl, Nat.le_of_ble_eq_true rfl⟩ ⟨Nat.le_of_ble_eq_true rfl, Nat.le_of_ble_eq_true rfl⟩ rfl rfl (fun v6 => ?_)
    refine q_jn1 122 (fun x2 => [(0, q_r (mG D tc x0 y) 0)]) (fun x2 => [.int x2, .int (I4 0 18), q_r (mG D tc x0 y) 0]) (fun x2 => I4) (fun x2 => J) (fun x2 => P) (fun jk2 => if v6 = 0 then ((jk2 (0))) else ((jk2 (1)))) (by intro jk2; simp only [q_b1_if, q_b1_s, q_b1_n, q_b1_ix, q_b1_b1, q_b1_b2, q_b1_b3, q_b1_l, q_b1_ck, q_b1_el]) ?_ ?_
    · intro x2
      refine q_iadd 123 rfl (by decide +kernel) ?_
      refine q_puti (f := 18) 126 rfl (by decide +kernel) (cC_Mo D tc x0 y) (rfl : mKd 0 = (1, 0, 21, 0, 0)) (by decide) rfl rfl rfl tw_5_230 ?_
      refine q_letI (fun I5 => ?_)
      refine q_aload_n 0 0 127 rfl (by decide +kernel) rfl ?_
      refine q_geti (f := 15) 130 rfl (by decide +kernel) (cC_Mo D tc x0 y) (rfl : mKd 0 = (1, 0, 21, 0, 0)) (by decide) rfl tw_5_227 ?_
      refine q_iconst 1 (c := 1) 131 rfl (by decide +kernel) rfl ?_
      refine q_bipush 9 (c := 9) 133 rfl (by decide +kernel) rfl ?_
      refine q_callS_i 136 rfl (av := [.int (I5 0 15), .int 1, .int 9]) (st := []) (c_Mo_in X.1 D tc x0 y I5 J P (I5 0 15) 1 9) yv_Mo_in tw_6_40 tw_6_41 rfl (Nat.le_of_ble_eq_true rfl) (by decide +kernel) ⟨Nat.le_of_ble_eq_true rfl, Nat.le_of_ble_eq_true rfl⟩ ⟨Nat.le_of_ble_eq_true rfl, Nat.le_of_ble_eq_true rfl⟩ rfl rfl (fun v7 => ?_)
      exact q_zret (w := (v7 &&& 1)) (by decide +kernel) rfl rfl rfl (Nat.le_of_ble_eq_true rfl) (Nat.le_of_ble_eq_true rfl)
    · intro jk2 hq2
      refine q_if_eq 117 rfl 121 (off := 7) (by decide +kernel) rfl (fun g4 => ?_) (fun g4 => ?_)
      · refine q_iconst 0 (c := 0) 122 rfl (by decide +kernel) rfl ?_
        refine q_sub [0] rfl ?_
        exact hq2 0
      · refine q_iconst 1 (c := 1) 118 rfl (by decide +kernel) rfl ?_
        refine q_goto (off := 4) 122 (by decide +kernel) rfl ?_
        refine q_sub [0] rfl ?_
        exact hq2 1
  have eg1 := q_neI (z := 112) (by decide) g1
  have eg3 := q_neI (z := 114) (by decide) g3
  have eg5 := q_neI (z := 119) (by decide) g5
  refine q_lookup (dflt := 136) (ps := #[(112, 82), (114, 35), (119, 87)]) (len := 35) (off := 136) 137 (by decide +kernel) (by decide) (by simp [Op.lookupswitch.offset, eg1, Ne.symm eg1, eg3, Ne.symm eg3, eg5, Ne.symm eg5]) (by decide) ?_
  refine q_aload_n 0 0 138 rfl (by decide +kernel) rfl ?_
  refine q_aload_n 0 0 139 rfl (by decide +kernel) rfl ?_
  refine q_callV_iI 142 rfl (av := []) (o := 0) (st := [q_r (mG D tc x0 y) 0]) (c_Mo_number X.1 D tc x0 y I J P ) yv_Mo_number tw_6_162 tw_6_164 sw_47 (cC_Mo D tc x0 y) (rfl : mKd 0 = (1, 0, 21, 0, 0)) rfl (Nat.le_of_ble_eq_true rfl) (by decide +kernel) ⟨Nat.le_of_ble_eq_true rfl, Nat.le_of_ble_eq_true rfl⟩ ⟨Nat.le_of_ble_eq_true rfl, Nat.le_of_ble_eq_true rfl⟩ rfl rfl (fun v8 I6 => ?_)
  refine q_puti (f := 16) 145 rfl (by decide +kernel) (cC_Mo D tc x0 y) (rfl : mKd 0 = (1, 0, 21, 0, 0)) (by decide) rfl rfl rfl tw_5_228 ?_
  refine q_letI (fun I7 => ?_)
  refine q_aload_n 0 0 146 rfl (by decide +kernel) rfl ?_
  refine q_geti (f := 16) 149 rfl (by decide +kernel) (cC_Mo D tc x0 y) (rfl : mKd 0 = (1, 0, 21, 0, 0)) (by decide) rfl tw_5_228 ?_
  refine q_if_lt 152 rfl 161 (off := 12) (by decide +kernel) rfl (fun g8 => ?_) (fun g8 => ?_)
  · refine q_iconst 0 (c := 0) 162 rfl (by decide +kernel) rfl ?_
    exact q_zret (w := 0) (by decide +kernel) rfl rfl rfl (Nat.le_of_ble_eq_true rfl) (Nat.le_of_ble_eq_true rfl)
  · refine q_aload_n 0 0 153 rfl (by decide +kernel) rfl ?_
    refine q_bipush 120 (c := 120) 155 rfl (by decide +kernel) rfl ?_
    refine q_callV_iI 158 rfl (av := [.int 120]) (o := 0) (st := []) (c_Mo_takes X.1 D tc x0 y I7 J P 120) yv_Mo_takes tw_6_173 tw_6_175 sw_49 (cC_Mo D tc x0 y) (rfl : mKd 0 = (1, 0, 21, 0, 0)) rfl (Nat.le_of_ble_eq_true rfl) (by decide +kernel) ⟨Nat.le_of_ble_eq_true rfl, Nat.le_of_ble_eq_true rfl⟩ ⟨Nat.le_of_ble_eq_true rfl, Nat.le_of_ble_eq_true rfl⟩ rfl rfl (fun v9 I8 => ?_)
    refine q_if_ne 161 rfl 163 (off := 5) (by decide +kernel) rfl (fun g7 => ?_) (fun g7 => ?_)
    · refine q_aload_n 0 0 164 rfl (by decide +kernel) rfl ?_
      refine q_aload_n 0 0 165 rfl (by decide +kernel) rfl ?_
      refine q_callV_i 168 rfl (av := []) (o := 0) (st := [q_r (mG D tc x0 y) 0]) (c_Mo_here X.1 D tc x0 y I8 J P ) yv_Mo_here tw_6_166 tw_6_168 sw_48 (cC_Mo D tc x0 y) (rfl : mKd 0 = (1, 0, 21, 0, 0)) rfl (Nat.le_of_ble_eq_true rfl) (by decide +kernel) ⟨Nat.le_of_ble_eq_true rfl, Nat.le_of_ble_eq_true rfl⟩ ⟨Nat.le_of_ble_eq_true rfl, Nat.le_of_ble_eq_true rfl⟩ rfl rfl (fun v10 => ?_)
      refine q_bipush 48 (c := 48) 170 rfl (by decide +kernel) rfl ?_
      refine q_isub 171 rfl (by decide +kernel) ?_
      refine q_puti (f := 17) 174 rfl (by decide +kernel) (cC_Mo D tc x0 y) (rfl : mKd 0 = (1, 0, 21, 0, 0)) (by decide) rfl rfl rfl tw_5_229 ?_
      refine q_letI (fun I9 => ?_)
      refine q_aload_n 0 0 175 rfl (by decide +kernel) rfl ?_
      refine q_dup 176 rfl (by decide +kernel) rfl ?_
      refine q_geti (f := 18) 179 rfl (by decide +kernel) (cC_Mo D tc x0 y) (rfl : mKd 0 = (1, 0, 21, 0, 0)) (by decide) rfl tw_5_230 ?_
      refine q_aload_n 0 0 180 rfl (by decide +kernel) rfl ?_
      refine q_geti (f := 17) 183 rfl (by decide +kernel) (cC_Mo D tc x0 y) (rfl : mKd 0 = (1, 0, 21, 0, 0)) (by decide) rfl tw_5_229 ?_
      refine q_iconst 1 (c := 1) 184 rfl (by decide +kernel) rfl ?_
      refine q_iconst 4 (c := 4) 185 rfl (by decide +kernel) rfl ?_
      refine q_callS_i 188 rfl (av := [.int (I9 0 17), .int 1, .int 4]) (st := [.int (I9 0 18), q_r (mG D tc x0 y) 0]) (c_Mo_in X.1 D tc x0 y I9 J P (I9 0 17) 1 4) yv_Mo_in tw_6_40 tw_6_41 rfl (Nat.le_of_ble_eq_true rfl) (by decide +kernel) ⟨Nat.le_of_ble_eq_true rfl, Nat.le_of_ble_eq_true rfl⟩ ⟨Nat.le_of_ble_eq_true rfl, Nat.le_of_ble_eq_true rfl⟩ rfl rfl (fun v11 => ?_)
      refine q_jn1 196 (fun x3 => [(0, q_r (mG D tc x0 y) 0)]) (fun x3 => [.int x3, .int (I9 0 18), q_r (mG D tc x0 y) 0]) (fun x3 => I9) (fun x3 => J) (fun x3 => P) (fun jk3 => if v11 = 0 then ((jk3 (0))) else ((jk3 (1)))) (by intro jk3; simp only [q_b1_if, q_b1_s, q_b1_n, q_b1_ix, q_b1_b1, q_b1_b2, q_b1_b3, q_b1_l, q_b1_ck, q_b1_el]) ?_ ?_
      · intro x3
        refine q_iadd 197 rfl (by decide +kernel) ?_
        refine q_puti (f := 18) 200 rfl (by decide +kernel) (cC_Mo D tc x0 y) (rfl : mKd 0 = (1, 0, 21, 0, 0)) (by decide) rfl rfl rfl tw_5_230 ?_
        refine q_letI (fun I10 => ?_)
        refine q_aload_n 0 0 201 rfl (by decide +kernel) rfl ?_
        refine q_geti (f := 17) 204 rfl (by decide +kernel) (cC_Mo D tc x0 y) (rfl : mKd 0 = (1, 0, 21, 0, 0)) (by decide) rfl tw_5_229 ?_
        refine q_iconst 1 (c := 1) 205 rfl (by decide +kernel) rfl ?_
        refine q_iconst 4 (c := 4) 206 rfl (by decide +kernel) rfl ?_
        refine q_callS_i 209 rfl (av := [.int (I10 0 17), .int 1, .int 4]) (st := []) (c_Mo_in X.1 D tc x0 y I10 J P (I10 0 17) 1 4) yv_Mo_in tw_6_40 tw_6_41 rfl (Nat.le_of_ble_eq_true rfl) (by decide +kernel) ⟨Nat.le_of_ble_eq_true rfl, Nat.le_of_ble_eq_true rfl⟩ ⟨Nat.le_of_ble_eq_true rfl, Nat.le_of_ble_eq_true rfl⟩ rfl rfl (fun v12 => ?_)
        exact q_zret (w := (v12 &&& 1)) (by decide +kernel) rfl rfl rfl (Nat.le_of_ble_eq_true rfl) (Nat.le_of_ble_eq_true rfl)
      · intro jk3 hq3
        refine q_if_eq 191 rfl 195 (off := 7) (by decide +kernel) rfl (fun g6 => ?_) (fun g6 => ?_)
        · refine q_iconst 0 (c := 0) 196 rfl (by decide +kernel) rfl ?_
          refine q_sub [0] rfl ?_
          exact hq3 0
        · refine q_iconst 1 (c := 1) 192 rfl (by decide +kernel) rfl ?_
          refine q_goto (off := 4) 196 (by decide +kernel) rfl ?_
          refine q_sub [0] rfl ?_
          exact hq3 1
    · refine q_iconst 0 (c := 0) 162 rfl (by decide +kernel) rfl ?_
      exact q_zret (w := 0) (by decide +kernel) rfl rfl rfl (Nat.le_of_ble_eq_true rfl) (Nat.le_of_ble_eq_true rfl)
def f_Mo_areOptions_L1 : Nat → Int32 → Int32 → q_I → Option (Int32 × q_I)
  | 0, _, _, _ => none
  | n + 1, x1, x2, I1 => if x2 = 0 then (some ((x2 &&& 1), I1)) else (if (I1 0 4) ≤ (I1 0 18) then (some ((x2 &&& 1), I1)) else (q_b2 (if (15 : Int32) ≤ x1 then ((some (0, I1))) else (q_b2 (f_Mo_takes I1 32) (fun v3 I5 => if v3 = 0 then ((some (0, I5))) else ((some (1, I5))))) : Option (Int32 × q_I)) (fun (x3 : Int32) (I2 : q_I) => if x3 = 0 then ((f_Mo_areOptions_L1  n x1 x3 I2)) else (q_b1 (f_Mo_here I2) (fun v1 => q_b1 (if v1 = 114 then ((some (1))) else (if v1 = 112 then ((some (2))) else (if v1 = 119 then ((some (4))) else (if v1 = 101 then ((some (8))) else ((some (0)))))) : Option (Int32)) (fun (x4 : Int32) => q_b1 (if x4 ≤ 0 then ((some (0))) else (if (x1 &&& x4) = 0 then ((some (1))) else ((some (0)))) : Option (Int32)) (fun (x5 : Int32) => if x5 = 0 then ((f_Mo_areOptions_L1  n x1 x5 I2)) else (q_l (x1 ||| x4 : Int32) (fun x6 => q_l (q_ui I2 0 18 ((I2 0 18) + 1)) (fun I3 => q_b2 (f_Mo_isOption I3 v1) (fun v2 I4 => (f_Mo_areOptions_L1  n x6 v2 I4))))))))))))
def f_Mo_areOptions (I : q_I) : Option (Int32 × q_I) :=
  f_Mo_areOptions_L1  q_fu 0 1 I
def y_Mo_areOptions : MethodName := ⟨"CalendarReplicasModel", "areOptions", "()Z"⟩
def m_Mo_areOptions : q_M := (prog_11_method_86_code, 5, "CalendarReplicasModel", { frames := 4, cells := 0, slots := 0, locals := 84 }, (some FieldType.boolean))
theorem yv_Mo_areOptions : q_Y y_Mo_areOptions m_Mo_areOptions 0 := ⟨rfl, ⟨by decide, by decide⟩, by decide +kernel, tw_6_180, tw_1_15⟩
set_option maxRecDepth 100000 in
set_option maxHeartbeats 4000000 in
theorem c_Mo_areOptions (l : Launch) (D : va_G) (tc : Nat → ClassId) (x0 y : Nat) (I : q_I) (J : q_J) (P : q_P) : q_Ct l (mG D tc x0 y) y_Mo_areOptions m_Mo_areOptions [q_r (mG D tc x0 y) 0] (I, J, P) (f_Mo_areOptions I) (fun r : Int32 × q_I => (some (.int r.1), (r.2, J, P))) := by
  refine q_Ct_of (mIn D tc x0 y) (by decide) rfl (Nat.le_of_ble_eq_true rfl) rfl (fun X hX => ?_)
  subst hX
  unfold f_Mo_areOptions
  refine q_iconst 0 (c := 0) 1 rfl (by decide +kernel) rfl ?_
  refine q_istore_n 1 1 2 rfl [(1, .int 0), (0, q_r (mG D tc x0 y) 0)] (by decide +kernel) rfl (Nat.le_of_ble_eq_true rfl) rfl ?_
  refine q_iconst 1 (c := 1) 3 rfl (by decide +kernel) rfl ?_
  refine q_istore_n 2 2 4 rfl [(2, .int 1), (1, .int 0), (0, q_r (mG D tc x0 y) 0)] (by decide +kernel) rfl (Nat.le_of_ble_eq_true rfl) rfl ?_
  have hL1 : ∀ (n1_ : Nat) (x1 : Int32) (x2 : Int32) (I1 : q_I), q_V (mG D tc x0 y) m_Mo_areOptions X (fun r : Int32 × q_I => (some (.int r.1), (r.2, J, P))) 0 0 4 [(0, q_r (mG D tc x0 y) 0), (1, .int x1), (2, .int x2)] [] I1 J P (f_Mo_areOptions_L1  n1_ x1 x2 I1) := by
    intro n1_
    induction n1_ with
    | zero => intro x1 x2 I1; exact q_none
    | succ n1_ ih1 =>
      intro x1 x2 I1
      rw [f_Mo_areOptions_L1]
      refine q_iload_n 2 2 5 rfl (by decide +kernel) rfl ?_
      refine q_if_eq 8 rfl 139 (off := 134) (by decide +kernel) rfl (fun g12 => ?_) (fun g12 => ?_)
      · refine q_iload_n 2 2 140 rfl (by decide +kernel) rfl ?_
        exact q_zret (w := (x2 &&& 1)) (by decide +kernel) rfl rfl rfl (Nat.le_of_ble_eq_true rfl) (Nat.le_of_ble_eq_true rfl)
      · refine q_aload_n 0 0 9 rfl (by decide +kernel) rfl ?_
        refine q_geti (f := 18) 12 rfl (by decide +kernel) (cC_Mo D tc x0 y) (rfl : mKd 0 = (1, 0, 21, 0, 0)) (by decide) rfl tw_5_230 ?_
        refine q_aload_n 0 0 13 rfl (by decide +kernel) rfl ?_
        refine q_geti (f := 4) 16 rfl (by decide +kernel) (cC_Mo D tc x0 y) (rfl : mKd 0 = (1, 0, 21, 0, 0)) (by decide) rfl tw_5_216 ?_
        refine q_icmp_ge 19 rfl 139 (off := 123) (by decide +kernel) rfl (fun g11 => ?_) (fun g11 => ?_)
        · refine q_iload_n 2 2 140 rfl (by decide +kernel) rfl ?_
          exact q_zret (w := (x2 &&& 1)) (by decide +kernel) rfl rfl rfl (Nat.le_of_ble_eq_true rfl) (Nat.le_of_ble_eq_true rfl)
        · refine q_iload_n 1 1 20 rfl (by decide +kernel) rfl ?_
          refine q_bipush 15 (c := 15) 22 rfl (by decide +kernel) rfl ?_
          refine q_jn2 39 (fun x3 I2 => [(0, q_r (mG D tc x0 y) 0), (1, .int x1)]) (fun x3 I2 => [.int x3]) (fun x3 I2 => I2) (fun x3 I2 => J) (fun x3 I2 => P) (fun jk1 => if (15 : Int32) ≤ x1 then ((jk1 (0, I1))) else (q_b2 (f_Mo_takes I1 32) (fun v3 I5 => if v3 = 0 then ((jk1 (0, I5))) else ((jk1 (1, I5)))))) (by intro jk1; simp only [q_b1_if, q_b1_s, q_b1_n, q_b1_ix, q_b1_b1, q_b1_b2, q_b1_b3, q_b1_l, q_b1_ck, q_b1_el]) ?_ ?_
          · intro x3 I2
            refine q_istore_n 2 2 40 rfl [(2, .int x3), (0, q_r (mG D tc x0 y) 0), (1, .int x1)] (by decide +kernel) rfl (Nat.le_of_ble_eq_true rfl) rfl ?_
            refine q_iload_n 0 2 41 rfl (by decide +kernel) rfl ?_
            refine q_if_eq 44 rfl 4 (off := -37) (by decide +kernel) rfl (fun g8 => ?_) (fun g8 => ?_)
            · refine q_sub [1, 2, 0] rfl ?_
              exact ih1 x1 x3 I2
            · refine q_aload_n 1 0 45 rfl (by decide +kernel) rfl ?_
              refine q_callV_i 48 rfl (av := []) (o := 0) (st := []) (c_Mo_here X.1 D tc x0 y I2 J P ) yv_Mo_here tw_6_166 tw_6_168 sw_48 (cC_Mo D tc x0 y) (rfl : mKd 0 = (1, 0, 21, 0, 0)) rfl (Nat.le_of_ble_eq_true rfl) (by decide +kernel) ⟨Nat.le_of_ble_eq_true rfl, Nat.le_of_ble_eq_true rfl⟩ ⟨Nat.le_of_ble_eq_true rfl, Nat.le_of_ble_eq_true rfl⟩ rfl rfl (fun v1 => ?_)
              refine q_istore_n 3 3 49 rfl [(3, .int v1), (2, .int x3), (0, q_r (mG D tc x0 y) 0), (1, .int x1)] (by decide +kernel) rfl (Nat.le_of_ble_eq_true rfl) rfl ?_
              refine q_iload_n 0 3 50 rfl (by decide +kernel) rfl ?_
              refine q_bipush 114 (c := 114) 52 rfl (by decide +kernel) rfl ?_
              refine q_jn1 91 (fun x4 => [(0, q_r (mG D tc x0 y) 0), (1, .int x1), (3, .int v1)]) (fun x4 => [.int x4]) (fun x4 => I2) (fun x4 => J) (fun x4 => P) (fun jk2 => if v1 = 114 then ((jk2 (1))) else (if v1 = 112 then ((jk2 (2))) else (if v1 = 119 then ((jk2 (4))) else (if v1 = 101 then ((jk2 (8))) else ((jk2 (0))))))) (by intro jk2; simp only [q_b1_if, q_b1_s, q_b1_n, q_b1_ix, q_b1_b1, q_b1_b2, q_b1_b3, q_b1_l, q_b1_ck, q_b1_el]) ?_ ?_
              · intro x4
                refine q_istore 4 93 rfl [(4, .int x4), (0, q_r (mG D tc x0 y) 0), (1, .int x1), (3, .int v1)] (by decide +kernel) (Nat.le_of_ble_eq_true rfl) rfl ?_
                refine q_iload 0 4 95 rfl (by decide +kernel) rfl ?_
                refine q_jn1 110 (fun x5 => [(0, q_r (mG D tc x0 y) 0), (1, .int x1), (3, .int v1), (4, .int x4)]) (fun x5 => [.int x5]) (fun x5 => I2) (fun x5 => J) (fun x5 => P) (fun jk3 => if x4 ≤ 0 then ((jk3 (0))) else (if (x1 &&& x4) = 0 then ((jk3 (1))) else ((jk3 (0))))) (by intro jk3; simp only [q_b1_if, q_b1_s, q_b1_n, q_b1_ix, q_b1_b1, q_b1_b2, q_b1_b3, q_b1_l, q_b1_ck, q_b1_el]) ?_ ?_
                · intro x5
                  refine q_istore_n 2 2 111 rfl [(2, .int x5), (0, q_r (mG D tc x0 y) 0), (1, .int x1), (3, .int v1), (4, .int x4)] (by decide +kernel) rfl (Nat.le_of_ble_eq_true rfl) rfl ?_
                  refine q_iload_n 0 2 112 rfl (by decide +kernel) rfl ?_
                  refine q_if_eq 115 rfl 136 (off := 24) (by decide +kernel) rfl (fun g1 => ?_) (fun g1 => ?_)
                  · refine q_goto (off := -132) 4 (by decide +kernel) rfl ?_
                    refine q_sub [1, 2, 0] rfl ?_
                    exact ih1 x1 x5 I2
                  · refine q_iload_n 2 1 116 rfl (by decide +kernel) rfl ?_
                    refine q_iload 4 4 118 rfl (by decide +kernel) rfl ?_
                    refine q_ior 119 rfl (by decide +kernel) ?_
                    refine q_leti (fun x6 => ?_)
                    refine q_istore_n 1 1 120 rfl [(1, .int x6), (2, .int x5), (0, q_r (mG D tc x0 y) 0), (3, .int v1), (4, .int x4)] (by decide +kernel) rfl (Nat.le_of_ble_eq_true rfl) rfl ?_
                    refine q_aload_n 2 0 121 rfl (by decide +kernel) rfl ?_
                    refine q_dup 122 rfl (by decide +kernel) rfl ?_
                    refine q_geti (f := 18) 125 rfl (by decide +kernel) (cC_Mo D tc x0 y) (rfl : mKd 0 = (1, 0, 21, 0, 0)) (by decide) rfl tw_5_230 ?_
                    refine q_iconst 1 (c := 1) 126 rfl (by decide +kernel) rfl ?_
                    refine q_iadd 127 rfl (by decide +kernel) ?_
                    refine q_puti (f := 18) 130 rfl (by decide +kernel) (cC_Mo D tc x0 y) (rfl : mKd 0 = (1, 0, 21, 0, 0)) (by decide) rfl rfl rfl tw_5_230 ?_
                    refine q_letI (fun I3 => ?_)
                    refine q_aload_n 2 0 131 rfl (by decide +kernel) rfl ?_
                    refine q_iload_n 3 3 132 rfl (by decide +kernel) rfl ?_
                    refine q_callV_iI 135 rfl (av := [.int v1]) (o := 0) (st := []) (c_Mo_isOption X.1 D tc x0 y I3 J P v1) yv_Mo_isOption tw_6_181 tw_6_183 sw_51 (cC_Mo D tc x0 y) (rfl : mKd 0 = (1, 0, 21, 0, 0)) rfl (Nat.le_of_ble_eq_true rfl) (by decide +kernel) ⟨Nat.le_of_ble_eq_true rfl, Nat.le_of_ble_eq_true rfl⟩ ⟨Nat.le_of_ble_eq_true rfl, Nat.le_of_ble_eq_true rfl⟩ rfl rfl (fun v2 I4 => ?_)
                    refine q_istore_n 2 2 136 rfl [(2, .int v2), (1, .int x6), (0, q_r (mG D tc x0 y) 0), (3, .int v1), (4, .int x4)] (by decide +kernel) rfl (Nat.le_of_ble_eq_true rfl) rfl ?_
                    refine q_goto (off := -132) 4 (by decide +kernel) rfl ?_
                    refine q_sub [2, 1, 0] rfl ?_
                    exact ih1 x6 v2 I4
                · intro jk3 hq3
                  refine q_if_le 98 rfl 109 (off := 14) (by decide +kernel) rfl (fun g3 => ?_) (fun g3 => ?_)
                  · refine q_iconst 0 (c := 0) 110 rfl (by decide +kernel) rfl ?_
                    refine q_sub [1, 2, 3, 0] rfl ?_
                    exact hq3 0
                  · refine q_iload_n 2 1 99 rfl (by decide +kernel) rfl ?_
                    refine q_iload 0 4 101 rfl (by decide +kernel) rfl ?_
                    refine q_iand 102 rfl (by decide +kernel) ?_
                    refine q_if_ne 105 rfl 109 (off := 7) (by decide +kernel) rfl (fun g2 => ?_) (fun g2 => ?_)
                    · refine q_iconst 0 (c := 0) 110 rfl (by decide +kernel) rfl ?_
                      refine q_sub [1, 2, 3, 0] rfl ?_
                      exact hq3 0
                    · refine q_iconst 1 (c := 1) 106 rfl (by decide +kernel) rfl ?_
                      refine q_goto (off := 4) 110 (by decide +kernel) rfl ?_
                      refine q_sub [1, 2, 3, 0] rfl ?_
                      exact hq3 1
              · intro jk2 hq2
                refine q_icmp_ne 55 rfl 59 (off := 7) (by decide +kernel) rfl (fun g7 => ?_) (fun g7 => ?_)
                · refine q_iload_n 0 3 60 rfl (by decide +kernel) rfl ?_
                  refine q_bipush 112 (c := 112) 62 rfl (by decide +kernel) rfl ?_
                  refine q_icmp_ne 65 rfl 69 (off := 7) (by decide +kernel) rfl (fun g6 => ?_) (fun g6 => ?_)
                  · refine q_iload_n 0 3 70 rfl (by decide +kernel) rfl ?_
                    refine q_bipush 119 (c := 119) 72 rfl (by decide +kernel) rfl ?_
                    refine q_icmp_ne 75 rfl 79 (off := 7) (by decide +kernel) rfl (fun g5 => ?_) (fun g5 => ?_)
                    · refine q_iload_n 0 3 80 rfl (by decide +kernel) rfl ?_
                      refine q_bipush 101 (c := 101) 82 rfl (by decide +kernel) rfl ?_
                      refine q_icmp_ne 85 rfl 90 (off := 8) (by decide +kernel) rfl (fun g4 => ?_) (fun g4 => ?_)
                      · refine q_iconst 0 (c := 0) 91 rfl (by decide +kernel) rfl ?_
                        refine q_sub [2, 3, 0] rfl ?_
                        exact hq2 0
                      · refine q_bipush 8 (c := 8) 87 rfl (by decide +kernel) rfl ?_
                        refine q_goto (off := 4) 91 (by decide +kernel) rfl ?_
                        refine q_sub [2, 3, 0] rfl ?_
                        exact hq2 8
                    · refine q_iconst 4 (c := 4) 76 rfl (by decide +kernel) rfl ?_
                      refine q_goto (off := 15) 91 (by decide +kernel) rfl ?_
                      refine q_sub [2, 3, 0] rfl ?_
                      exact hq2 4
                  · refine q_iconst 2 (c := 2) 66 rfl (by decide +kernel) rfl ?_
                    refine q_goto (off := 25) 91 (by decide +kernel) rfl ?_
                    refine q_sub [2, 3, 0] rfl ?_
                    exact hq2 2
                · refine q_iconst 1 (c := 1) 56 rfl (by decide +kernel) rfl ?_
                  refine q_goto (off := 35) 91 (by decide +kernel) rfl ?_
                  refine q_sub [2, 3, 0] rfl ?_
                  exact hq2 1
          · intro jk1 hq1
            refine q_icmp_ge 25 rfl 38 (off := 16) (by decide +kernel) rfl (fun g10 => ?_) (fun g10 => ?_)
            · refine q_iconst 0 (c := 0) 39 rfl (by decide +kernel) rfl ?_
              refine q_sub [0, 1] rfl ?_
              exact hq1 0 I1
            · refine q_aload_n 0 0 26 rfl (by decide +kernel) rfl ?_
              refine q_bipush 32 (c := 32) 28 rfl (by decide +kernel) rfl ?_
              refine q_callV_iI 31 rfl (av := [.int 32]) (o := 0) (st := []) (c_Mo_takes X.1 D tc x0 y I1 J P 32) yv_Mo_takes tw_6_173 tw_6_175 sw_49 (cC_Mo D tc x0 y) (rfl : mKd 0 = (1, 0, 21, 0, 0)) rfl (Nat.le_of_ble_eq_true rfl) (by decide +kernel) ⟨Nat.le_of_ble_eq_true rfl, Nat.le_of_ble_eq_true rfl⟩ ⟨Nat.le_of_ble_eq_true rfl, Nat.le_of_ble_eq_true rfl⟩ rfl rfl (fun v3 I5 => ?_)
              refine q_if_eq 34 rfl 38 (off := 7) (by decide +kernel) rfl (fun g9 => ?_) (fun g9 => ?_)
              · refine q_iconst 0 (c := 0) 39 rfl (by decide +kernel) rfl ?_
                refine q_sub [0, 1] rfl ?_
                exact hq1 0 I5
              · refine q_iconst 1 (c := 1) 35 rfl (by decide +kernel) rfl ?_
                refine q_goto (off := 4) 39 (by decide +kernel) rfl ?_
                refine q_sub [0, 1] rfl ?_
                exact hq1 1 I5
  refine q_sub [2, 1, 0] rfl ?_
  exact hL1 _ _ _ _
def f_Mo_isText (I : q_I) : Option (Int32 × q_I) :=
  q_l (q_ui I 0 18 0) (fun I1 => q_l (q_ui I1 0 13 0) (fun I2 => q_l (q_ui I2 0 14 1) (fun I3 => q_l (q_ui I3 0 15 1) (fun I4 => q_l (q_ui I4 0 16 0) (fun I5 => q_l (q_ui I5 0 17 1) (fun I6 => q_b2 (f_Mo_number I6) (fun v1 I7 => q_l (q_ui I7 0 11 v1) (fun I8 => if (I8 0 11) < 0 then (some (0, I8)) else (q_b2 (f_Mo_takes I8 43) (fun v2 I9 => if v2 = 0 then (some (0, I9)) else (q_b2 (f_Mo_number I9) (fun v3 I10 => q_l (q_ui I10 0 12 v3) (fun I11 => if (I11 0 12) < 0 then (some (0, I11)) else (q_b2 (f_Mo_areOptions I11) (fun v4 I12 => if v4 = 0 then (some (0, I12)) else (some (1, I12)))))))))))))))))
def y_Mo_isText : MethodName := ⟨"CalendarReplicasModel", "isText", "()Z"⟩
def m_Mo_isText : q_M := (prog_11_method_87_code, 1, "CalendarReplicasModel", { frames := 5, cells := 0, slots := 0, locals := 108 }, (some FieldType.boolean))
theorem yv_Mo_isText : q_Y y_Mo_isText m_Mo_isText 0 := ⟨rfl, ⟨by decide, by decide⟩, by decide +kernel, tw_6_161, tw_1_15⟩
set_option maxRecDepth 100000 in
set_option maxHeartbeats 4000000 in
theorem c_Mo_isText (l : Launch) (D : va_G) (tc : Nat → ClassId) (x0 y : Nat) (I : q_I) (J : q_J) (P : q_P) : q_Ct l (mG D tc x0 y) y_Mo_isText m_Mo_isText [q_r (mG D tc x0 y) 0] (I, J, P) (f_Mo_isText I) (fun r : Int32 × q_I => (some (.int r.1), (r.2, J, P))) := by
  refine q_Ct_of (mIn D tc x0 y) (by decide) rfl (Nat.le_of_ble_eq_true rfl) rfl (fun X hX => ?_)
  subst hX
  unfold f_Mo_isText
  refine q_aload_n 0 0 1 rfl (by decide +kernel) rfl ?_
  refine q_iconst 0 (c := 0) 2 rfl (by decide +kernel) rfl ?_
  refine q_puti (f := 18) 5 rfl (by decide +kernel) (cC_Mo D tc x0 y) (rfl : mKd 0 = (1, 0, 21, 0, 0)) (by decide) rfl rfl rfl tw_5_230 ?_
  refine q_letI (fun I1 => ?_)
  refine q_aload_n 0 0 6 rfl (by decide +kernel) rfl ?_
  refine q_iconst 0 (c := 0) 7 rfl (by decide +kernel) rfl ?_
  refine q_puti (f := 13) 10 rfl (by decide +kernel) (cC_Mo D tc x0 y) (rfl : mKd 0 = (1, 0, 21, 0, 0)) (by decide) rfl rfl rfl tw_5_225 ?_
  refine q_letI (fun I2 => ?_)
  refine q_aload_n 0 0 11 rfl (by decide +kernel) rfl ?_
  refine q_iconst 1 (c := 1) 12 rfl (by decide +kernel) rfl ?_
  refine q_puti (f := 14) 15 rfl (by decide +kernel) (cC_Mo D tc x0 y) (rfl : mKd 0 = (1, 0, 21, 0, 0)) (by decide) rfl rfl rfl tw_5_226 ?_
  refine q_letI (fun I3 => ?_)
  refine q_aload_n 0 0 16 rfl (by decide +kernel) rfl ?_
  refine q_iconst 1 (c := 1) 17 rfl (by decide +kernel) rfl ?_
  refine q_puti (f := 15) 20 rfl (by decide +kernel) (cC_Mo D tc x0 y) (rfl : mKd 0 = (1, 0, 21, 0, 0)) (by decide) rfl rfl rfl tw_5_227 ?_
  refine q_letI (fun I4 => ?_)
  refine q_aload_n 0 0 21 rfl (by decide +kernel) rfl ?_
  refine q_iconst 0 (c := 0) 22 rfl (by decide +kernel) rfl ?_
  refine q_puti (f := 16) 25 rfl (by decide +kernel) (cC_Mo D tc x0 y) (rfl : mKd 0 = (1, 0, 21, 0, 0)) (by decide) rfl rfl rfl tw_5_228 ?_
  refine q_letI (fun I5 => ?_)
  refine q_aload_n 0 0 26 rfl (by decide +kernel) rfl ?_
  refine q_iconst 1 (c := 1) 27 rfl (by decide +kernel) rfl ?_
  refine q_puti (f := 17) 30 rfl (by decide +kernel) (cC_Mo D tc x0 y) (rfl : mKd 0 = (1, 0, 21, 0, 0)) (by decide) rfl rfl rfl tw_5_229 ?_
  refine q_letI (fun I6 => ?_)
  refine q_aload_n 0 0 31 rfl (by decide +kernel) rfl ?_
  refine q_aload_n 0 0 32 rfl (by decide +kernel) rfl ?_
  refine q_callV_iI 35 rfl (av := []) (o := 0) (st := [q_r (mG D tc x0 y) 0]) (c_Mo_number X.1 D tc x0 y I6 J P ) yv_Mo_number tw_6_162 tw_6_164 sw_47 (cC_Mo D tc x0 y) (rfl : mKd 0 = (1, 0, 21, 0, 0)) rfl (Nat.le_of_ble_eq_true rfl) (by decide +kernel) ⟨Nat.le_of_ble_eq_true rfl, Nat.le_of_ble_eq_true rfl⟩ ⟨Nat.le_of_ble_eq_true rfl, Nat.le_of_ble_eq_true rfl⟩ rfl rfl (fun v1 I7 => ?_)
  refine q_puti (f := 11) 38 rfl (by decide +kernel) (cC_Mo D tc x0 y) (rfl : mKd 0 = (1, 0, 21, 0, 0)) (by decide) rfl rfl rfl tw_5_223 ?_
  refine q_letI (fun I8 => ?_)
  refine q_aload_n 0 0 39 rfl (by decide +kernel) rfl ?_
  refine q_geti (f := 11) 42 rfl (by decide +kernel) (cC_Mo D tc x0 y) (rfl : mKd 0 = (1, 0, 21, 0, 0)) (by decide) rfl tw_5_223 ?_
  refine q_if_lt 45 rfl 54 (off := 12) (by decide +kernel) rfl (fun g4 => ?_) (fun g4 => ?_)
  · refine q_iconst 0 (c := 0) 55 rfl (by decide +kernel) rfl ?_
    exact q_zret (w := 0) (by decide +kernel) rfl rfl rfl (Nat.le_of_ble_eq_true rfl) (Nat.le_of_ble_eq_true rfl)
  · refine q_aload_n 0 0 46 rfl (by decide +kernel) rfl ?_
    refine q_bipush 43 (c := 43) 48 rfl (by decide +kernel) rfl ?_
    refine q_callV_iI 51 rfl (av := [.int 43]) (o := 0) (st := []) (c_Mo_takes X.1 D tc x0 y I8 J P 43) yv_Mo_takes tw_6_173 tw_6_175 sw_49 (cC_Mo D tc x0 y) (rfl : mKd 0 = (1, 0, 21, 0, 0)) rfl (Nat.le_of_ble_eq_true rfl) (by decide +kernel) ⟨Nat.le_of_ble_eq_true rfl, Nat.le_of_ble_eq_true rfl⟩ ⟨Nat.le_of_ble_eq_true rfl, Nat.le_of_ble_eq_true rfl⟩ rfl rfl (fun v2 I9 => ?_)
    refine q_if_ne 54 rfl 56 (off := 5) (by decide +kernel) rfl (fun g3 => ?_) (fun g3 => ?_)
    · refine q_aload_n 0 0 57 rfl (by decide +kernel) rfl ?_
      refine q_aload_n 0 0 58 rfl (by decide +kernel) rfl ?_
      refine q_callV_iI 61 rfl (av := []) (o := 0) (st := [q_r (mG D tc x0 y) 0]) (c_Mo_number X.1 D tc x0 y I9 J P ) yv_Mo_number tw_6_162 tw_6_164 sw_47 (cC_Mo D tc x0 y) (rfl : mKd 0 = (1, 0, 21, 0, 0)) rfl (Nat.le_of_ble_eq_true rfl) (by decide +kernel) ⟨Nat.le_of_ble_eq_true rfl, Nat.le_of_ble_eq_true rfl⟩ ⟨Nat.le_of_ble_eq_true rfl, Nat.le_of_ble_eq_true rfl⟩ rfl rfl (fun v3 I10 => ?_)
      refine q_puti (f := 12) 64 rfl (by decide +kernel) (cC_Mo D tc x0 y) (rfl : mKd 0 = (1, 0, 21, 0, 0)) (by decide) rfl rfl rfl tw_5_224 ?_
      refine q_letI (fun I11 => ?_)
      refine q_aload_n 0 0 65 rfl (by decide +kernel) rfl ?_
      refine q_geti (f := 12) 68 rfl (by decide +kernel) (cC_Mo D tc x0 y) (rfl : mKd 0 = (1, 0, 21, 0, 0)) (by decide) rfl tw_5_224 ?_
      refine q_if_lt 71 rfl 82 (off := 14) (by decide +kernel) rfl (fun g2 => ?_) (fun g2 => ?_)
      · refine q_iconst 0 (c := 0) 83 rfl (by decide +kernel) rfl ?_
        exact q_zret (w := 0) (by decide +kernel) rfl rfl rfl (Nat.le_of_ble_eq_true rfl) (Nat.le_of_ble_eq_true rfl)
      · refine q_aload_n 0 0 72 rfl (by decide +kernel) rfl ?_
        refine q_callV_iI 75 rfl (av := []) (o := 0) (st := []) (c_Mo_areOptions X.1 D tc x0 y I11 J P ) yv_Mo_areOptions tw_6_177 tw_6_179 sw_50 (cC_Mo D tc x0 y) (rfl : mKd 0 = (1, 0, 21, 0, 0)) rfl (Nat.le_of_ble_eq_true rfl) (by decide +kernel) ⟨Nat.le_of_ble_eq_true rfl, Nat.le_of_ble_eq_true rfl⟩ ⟨Nat.le_of_ble_eq_true rfl, Nat.le_of_ble_eq_true rfl⟩ rfl rfl (fun v4 I12 => ?_)
        refine q_if_eq 78 rfl 82 (off := 7) (by decide +kernel) rfl (fun g1 => ?_) (fun g1 => ?_)
        · refine q_iconst 0 (c := 0) 83 rfl (by decide +kernel) rfl ?_
          exact q_zret (w := 0) (by decide +kernel) rfl rfl rfl (Nat.le_of_ble_eq_true rfl) (Nat.le_of_ble_eq_true rfl)
        · refine q_iconst 1 (c := 1) 79 rfl (by decide +kernel) rfl ?_
          refine q_goto (off := 4) 83 (by decide +kernel) rfl ?_
          exact q_zret (w := 1) (by decide +kernel) rfl rfl rfl (Nat.le_of_ble_eq_true rfl) (Nat.le_of_ble_eq_true rfl)
    · refine q_iconst 0 (c := 0) 55 rfl (by decide +kernel) rfl ?_
      exact q_zret (w := 0) (by decide +kernel) rfl rfl rfl (Nat.le_of_ble_eq_true rfl) (Nat.le_of_ble_eq_true rfl)
def f_Mo_createFromText (I : q_I) (J : q_J) (a1 : Int32) : Option (Int32 × q_I × q_J) :=
  q_b1 (f_Mo_isReplica a1) (fun v1 => if v1 = 0 then (some ((-1), I, J)) else (q_b2 (f_Mo_isText I) (fun v2 I1 => if v2 = 0 then (some ((-1), I1, J)) else (if (95 : Int32) < (I1 0 11) then (some ((-1), I1, J)) else (q_b1 (f_Mo_in (I1 0 12) 1 8) (fun v3 => if v3 = 0 then (some ((-1), I1, J)) else (if (I1 0 16) ≤ 48 then (q_b3 (f_Mo_creates I1 J a1 (I1 0 11) (I1 0 12) (I1 0 13) (I1 0 14) (I1 0 15)) (fun v4 I2 J1 => some (v4, I2, J1))) else (some ((-1), I1, J)))))))))
def y_Mo_createFromText : MethodName := ⟨"CalendarReplicasModel", "createFromText", "(I)I"⟩
def m_Mo_createFromText : q_M := (prog_11_method_35_code, 2, "CalendarReplicasModel", { frames := 9, cells := 0, slots := 0, locals := 226 }, (some FieldType.int))
theorem yv_Mo_createFromText : q_Y y_Mo_createFromText m_Mo_createFromText 1 := ⟨rfl, ⟨by decide, by decide⟩, by decide +kernel, tw_6_157, tw_1_15⟩
set_option maxRecDepth 100000 in
set_option maxHeartbeats 4000000 in
theorem c_Mo_createFromText (l : Launch) (D : va_G) (tc : Nat → ClassId) (x0 y : Nat) (I : q_I) (J : q_J) (P : q_P) (a1 : Int32) : q_Ct l (mG D tc x0 y) y_Mo_createFromText m_Mo_createFromText [q_r (mG D tc x0 y) 0, .int a1] (I, J, P) (f_Mo_createFromText I J a1) (fun r : Int32 × q_I × q_J => (some (.int r.1), (r.2.1, r.2.2, P))) := by
  refine q_Ct_of (mIn D tc x0 y) (by decide) rfl (Nat.le_of_ble_eq_true rfl) rfl (fun X hX => ?_)
  subst hX
  unfold f_Mo_createFromText
  refine q_iload_n 1 1 1 rfl (by decide +kernel) rfl ?_
  refine q_callS_i 4 rfl (av := [.int a1]) (st := []) (c_Mo_isReplica X.1 D tc x0 y I J P a1) yv_Mo_isReplica tw_6_127 tw_6_128 rfl (Nat.le_of_ble_eq_true rfl) (by decide +kernel) ⟨Nat.le_of_ble_eq_true rfl, Nat.le_of_ble_eq_true rfl⟩ ⟨Nat.le_of_ble_eq_true rfl, Nat.le_of_ble_eq_true rfl⟩ rfl rfl (fun v1 => ?_)
  refine q_if_eq 7 rfl 45 (off := 41) (by decide +kernel) rfl (fun g5 => ?_) (fun g5 => ?_)
  · refine q_iconst (-1) (c := -1) 46 rfl (by decide +kernel) rfl ?_
    exact q_iret (by decide +kernel) rfl rfl (Nat.le_of_ble_eq_true rfl) (Nat.le_of_ble_eq_true rfl)
  · refine q_aload_n 0 0 8 rfl (by decide +kernel) rfl ?_
    refine q_callV_iI 11 rfl (av := []) (o := 0) (st := []) (c_Mo_isText X.1 D tc x0 y I J P ) yv_Mo_isText tw_6_158 tw_6_160 sw_46 (cC_Mo D tc x0 y) (rfl : mKd 0 = (1, 0, 21, 0, 0)) rfl (Nat.le_of_ble_eq_true rfl) (by decide +kernel) ⟨Nat.le_of_ble_eq_true rfl, Nat.le_of_ble_eq_true rfl⟩ ⟨Nat.le_of_ble_eq_true rfl, Nat.le_of_ble_eq_true rfl⟩ rfl rfl (fun v2 I1 => ?_)
    refine q_if_eq 14 rfl 45 (off := 34) (by decide +kernel) rfl (fun g4 => ?_) (fun g4 => ?_)
    · refine q_iconst (-1) (c := -1) 46 rfl (by decide +kernel) rfl ?_
      exact q_iret (by decide +kernel) rfl rfl (Nat.le_of_ble_eq_true rfl) (Nat.le_of_ble_eq_true rfl)
    · refine q_aload_n 0 0 15 rfl (by decide +kernel) rfl ?_
      refine q_geti (f := 11) 18 rfl (by decide +kernel) (cC_Mo D tc x0 y) (rfl : mKd 0 = (1, 0, 21, 0, 0)) (by decide) rfl tw_5_223 ?_
      refine q_bipush 95 (c := 95) 20 rfl (by decide +kernel) rfl ?_
      refine q_icmp_gt 23 rfl 45 (off := 25) (by decide +kernel) rfl (fun g3 => ?_) (fun g3 => ?_)
      · refine q_iconst (-1) (c := -1) 46 rfl (by decide +kernel) rfl ?_
        exact q_iret (by decide +kernel) rfl rfl (Nat.le_of_ble_eq_true rfl) (Nat.le_of_ble_eq_true rfl)
      · refine q_aload_n 0 0 24 rfl (by decide +kernel) rfl ?_
        refine q_geti (f := 12) 27 rfl (by decide +kernel) (cC_Mo D tc x0 y) (rfl : mKd 0 = (1, 0, 21, 0, 0)) (by decide) rfl tw_5_224 ?_
        refine q_iconst 1 (c := 1) 28 rfl (by decide +kernel) rfl ?_
        refine q_bipush 8 (c := 8) 30 rfl (by decide +kernel) rfl ?_
        refine q_callS_i 33 rfl (av := [.int (I1 0 12), .int 1, .int 8]) (st := []) (c_Mo_in X.1 D tc x0 y I1 J P (I1 0 12) 1 8) yv_Mo_in tw_6_40 tw_6_41 rfl (Nat.le_of_ble_eq_true rfl) (by decide +kernel) ⟨Nat.le_of_ble_eq_true rfl, Nat.le_of_ble_eq_true rfl⟩ ⟨Nat.le_of_ble_eq_true rfl, Nat.le_of_ble_eq_true rfl⟩ rfl rfl (fun v3 => ?_)
        refine q_if_eq 36 rfl 45 (off := 12) (by decide +kernel) rfl (fun g2 => ?_) (fun g2 => ?_)
        · refine q_iconst (-1) (c := -1) 46 rfl (by decide +kernel) rfl ?_
          exact q_iret (by decide +kernel) rfl rfl (Nat.le_of_ble_eq_true rfl) (Nat.le_of_ble_eq_true rfl)
        · refine q_aload_n 0 0 37 rfl (by decide +kernel) rfl ?_
          refine q_geti (f := 16) 40 rfl (by decide +kernel) (cC_Mo D tc x0 y) (rfl : mKd 0 = (1, 0, 21, 0, 0)) (by decide) rfl tw_5_228 ?_
          refine q_bipush 48 (c := 48) 42 rfl (by decide +kernel) rfl ?_
          refine q_icmp_le 45 rfl 47 (off := 5) (by decide +kernel) rfl (fun g1 => ?_) (fun g1 => ?_)
          · refine q_aload_n 0 0 48 rfl (by decide +kernel) rfl ?_
            refine q_iload_n 1 1 49 rfl (by decide +kernel) rfl ?_
            refine q_aload_n 0 0 50 rfl (by decide +kernel) rfl ?_
            refine q_geti (f := 11) 53 rfl (by decide +kernel) (cC_Mo D tc x0 y) (rfl : mKd 0 = (1, 0, 21, 0, 0)) (by decide) rfl tw_5_223 ?_
            refine q_aload_n 0 0 54 rfl (by decide +kernel) rfl ?_
            refine q_geti (f := 12) 57 rfl (by decide +kernel) (cC_Mo D tc x0 y) (rfl : mKd 0 = (1, 0, 21, 0, 0)) (by decide) rfl tw_5_224 ?_
            refine q_aload_n 0 0 58 rfl (by decide +kernel) rfl ?_
            refine q_geti (f := 13) 61 rfl (by decide +kernel) (cC_Mo D tc x0 y) (rfl : mKd 0 = (1, 0, 21, 0, 0)) (by decide) rfl tw_5_225 ?_
            refine q_aload_n 0 0 62 rfl (by decide +kernel) rfl ?_
            refine q_geti (f := 14) 65 rfl (by decide +kernel) (cC_Mo D tc x0 y) (rfl : mKd 0 = (1, 0, 21, 0, 0)) (by decide) rfl tw_5_226 ?_
            refine q_aload_n 0 0 66 rfl (by decide +kernel) rfl ?_
            refine q_geti (f := 15) 69 rfl (by decide +kernel) (cC_Mo D tc x0 y) (rfl : mKd 0 = (1, 0, 21, 0, 0)) (by decide) rfl tw_5_227 ?_
            refine q_callV_iIJ 72 rfl (av := [.int a1, .int (I1 0 11), .int (I1 0 12), .int (I1 0 13), .int (I1 0 14), .int (I1 0 15)]) (o := 0) (st := []) (c_Mo_creates X.1 D tc x0 y I1 J P a1 (I1 0 11) (I1 0 12) (I1 0 13) (I1 0 14) (I1 0 15)) yv_Mo_creates tw_6_130 tw_6_132 sw_40 (cC_Mo D tc x0 y) (rfl : mKd 0 = (1, 0, 21, 0, 0)) rfl (Nat.le_of_ble_eq_true rfl) (by decide +kernel) ⟨Nat.le_of_ble_eq_true rfl, Nat.le_of_ble_eq_true rfl⟩ ⟨Nat.le_of_ble_eq_true rfl, Nat.le_of_ble_eq_true rfl⟩ rfl rfl (fun v4 I2 J1 => ?_)
            exact q_iret (by decide +kernel) rfl rfl (Nat.le_of_ble_eq_true rfl) (Nat.le_of_ble_eq_true rfl)
          · refine q_iconst (-1) (c := -1) 46 rfl (by decide +kernel) rfl ?_
            exact q_iret (by decide +kernel) rfl rfl (Nat.le_of_ble_eq_true rfl) (Nat.le_of_ble_eq_true rfl)
def f_Mo_isThere (I : q_I) (J : q_J) (a1 : Int32) (a2 : Int32) : Option (Int32 × q_I × q_J) :=
  q_b1 (f_Mo_isReplica a1) (fun v1 => if v1 = 0 then (some (0, I, J)) else (q_b2 (f_Mo_shows I J a1) (fun I1 J1 => q_b1 (f_Mo_find I1 a2) (fun v2 => if v2 < 0 then (some (0, I1, J1)) else (some (1, I1, J1))))))
def y_Mo_isThere : MethodName := ⟨"CalendarReplicasModel", "isThere", "(II)Z"⟩
def m_Mo_isThere : q_M := (prog_11_method_36_code, 3, "CalendarReplicasModel", { frames := 8, cells := 0, slots := 0, locals := 192 }, (some FieldType.boolean))
theorem yv_Mo_isThere : q_Y y_Mo_isThere m_Mo_isThere 2 := ⟨rfl, ⟨by decide, by decide⟩, by decide +kernel, tw_6_200, tw_1_15⟩
set_option maxRecDepth 100000 in
set_option maxHeartbeats 4000000 in
theorem c_Mo_isThere (l : Launch) (D : va_G) (tc : Nat → ClassId) (x0 y : Nat) (I : q_I) (J : q_J) (P : q_P) (a1 : Int32) (a2 : Int32) : q_Ct l (mG D tc x0 y) y_Mo_isThere m_Mo_isThere [q_r (mG D tc x0 y) 0, .int a1, .int a2] (I, J, P) (f_Mo_isThere I J a1 a2) (fun r : Int32 × q_I × q_J => (some (.int r.1), (r.2.1, r.2.2, P))) := by
  refine q_Ct_of (mIn D tc x0 y) (by decide) rfl (Nat.le_of_ble_eq_true rfl) rfl (fun X hX => ?_)
  subst hX
  unfold f_Mo_isThere
  refine q_iload_n 1 1 1 rfl (by decide +kernel) rfl ?_
  refine q_callS_i 4 rfl (av := [.int a1]) (st := []) (c_Mo_isReplica X.1 D tc x0 y I J P a1) yv_Mo_isReplica tw_6_127 tw_6_128 rfl (Nat.le_of_ble_eq_true rfl) (by decide +kernel) ⟨Nat.le_of_ble_eq_true rfl, Nat.le_of_ble_eq_true rfl⟩ ⟨Nat.le_of_ble_eq_true rfl, Nat.le_of_ble_eq_true rfl⟩ rfl rfl (fun v1 => ?_)
  refine q_if_ne 7 rfl 9 (off := 5) (by decide +kernel) rfl (fun g2 => ?_) (fun g2 => ?_)
  · refine q_aload_n 0 0 10 rfl (by decide +kernel) rfl ?_
    refine q_iload_n 1 1 11 rfl (by decide +kernel) rfl ?_
    refine q_callV_vIJ 14 rfl (av := [.int a1]) (o := 0) (st := []) (c_Mo_shows X.1 D tc x0 y I J P a1) yv_Mo_shows tw_6_201 tw_6_203 sw_55 (cC_Mo D tc x0 y) (rfl : mKd 0 = (1, 0, 21, 0, 0)) rfl (Nat.le_of_ble_eq_true rfl) (by decide +kernel) ⟨Nat.le_of_ble_eq_true rfl, Nat.le_of_ble_eq_true rfl⟩ ⟨Nat.le_of_ble_eq_true rfl, Nat.le_of_ble_eq_true rfl⟩ rfl rfl (fun I1 J1 => ?_)
    refine q_aload_n 0 0 15 rfl (by decide +kernel) rfl ?_
    refine q_iload_n 2 2 16 rfl (by decide +kernel) rfl ?_
    refine q_callV_i 19 rfl (av := [.int a2]) (o := 0) (st := []) (c_Mo_find X.1 D tc x0 y I1 J1 P a2) yv_Mo_find tw_6_89 tw_6_91 sw_34 (cC_Mo D tc x0 y) (rfl : mKd 0 = (1, 0, 21, 0, 0)) rfl (Nat.le_of_ble_eq_true rfl) (by decide +kernel) ⟨Nat.le_of_ble_eq_true rfl, Nat.le_of_ble_eq_true rfl⟩ ⟨Nat.le_of_ble_eq_true rfl, Nat.le_of_ble_eq_true rfl⟩ rfl rfl (fun v2 => ?_)
    refine q_if_lt 22 rfl 26 (off := 7) (by decide +kernel) rfl (fun g1 => ?_) (fun g1 => ?_)
    · refine q_iconst 0 (c := 0) 27 rfl (by decide +kernel) rfl ?_
      exact q_zret (w := 0) (by decide +kernel) rfl rfl rfl (Nat.le_of_ble_eq_true rfl) (Nat.le_of_ble_eq_true rfl)
    · refine q_iconst 1 (c := 1) 23 rfl (by decide +kernel) rfl ?_
      refine q_goto (off := 4) 27 (by decide +kernel) rfl ?_
      exact q_zret (w := 1) (by decide +kernel) rfl rfl rfl (Nat.le_of_ble_eq_true rfl) (Nat.le_of_ble_eq_true rfl)
  · refine q_iconst 0 (c := 0) 8 rfl (by decide +kernel) rfl ?_
    exact q_zret (w := 0) (by decide +kernel) rfl rfl rfl (Nat.le_of_ble_eq_true rfl) (Nat.le_of_ble_eq_true rfl)
