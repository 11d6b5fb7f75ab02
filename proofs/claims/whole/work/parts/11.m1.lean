def f_Mo_isOfPerson (I : q_I) (a1 : Int32) : Option (Int32) :=
  q_b1 (f_Mo_edit a1 3) (fun v1 => q_ix v1 280 (fun j1 => if (I 1 j1) = 4 then (some (1)) else (q_b1 (f_Mo_edit a1 3) (fun v2 => q_ix v2 280 (fun j2 => if (I 1 j2) = 5 then (some (1)) else (some (0)))))))
def y_Mo_isOfPerson : MethodName := ⟨"CalendarReplicasModel", "isOfPerson", "(I)Z"⟩
def m_Mo_isOfPerson : q_M := (prog_11_method_17_code, 2, "CalendarReplicasModel", { frames := 1, cells := 0, slots := 0, locals := 21 }, (some FieldType.boolean))
theorem yv_Mo_isOfPerson : q_Y y_Mo_isOfPerson m_Mo_isOfPerson 1 := ⟨rfl, ⟨by decide, by decide⟩, by decide +kernel, tw_6_77, tw_1_15⟩
set_option maxRecDepth 100000 in
set_option maxHeartbeats 4000000 in
theorem c_Mo_isOfPerson (l : Launch) (D : va_G) (tc : Nat → ClassId) (x0 y : Nat) (I : q_I) (J : q_J) (P : q_P) (a1 : Int32) : q_Ct l (mG D tc x0 y) y_Mo_isOfPerson m_Mo_isOfPerson [q_r (mG D tc x0 y) 0, .int a1] (I, J, P) (f_Mo_isOfPerson I a1) (fun r : Int32 => (some (.int r), (I, J, P))) := by
  refine q_Ct_of (mIn D tc x0 y) (by decide) rfl (Nat.le_of_ble_eq_true rfl) rfl (fun X hX => ?_)
  subst hX
  unfold f_Mo_isOfPerson
  refine q_aload_n 0 0 1 rfl (by decide +kernel) rfl ?_
  refine q_getr (f := 0) 1 4 rfl (by decide +kernel) (cC_Mo D tc x0 y) (rfl : mKd 0 = (1, 0, 21, 0, 0)) (by decide) rfl rfl tw_5_212 ?_
  refine q_iload_n 1 1 5 rfl (by decide +kernel) rfl ?_
  refine q_iconst 3 (c := 3) 6 rfl (by decide +kernel) rfl ?_
  refine q_callS_i 9 rfl (av := [.int a1, .int 3]) (st := [q_r (mG D tc x0 y) 1]) (c_Mo_edit X.1 D tc x0 y I J P a1 3) yv_Mo_edit tw_6_63 tw_6_64 rfl (Nat.le_of_ble_eq_true rfl) (by decide +kernel) ⟨Nat.le_of_ble_eq_true rfl, Nat.le_of_ble_eq_true rfl⟩ ⟨Nat.le_of_ble_eq_true rfl, Nat.le_of_ble_eq_true rfl⟩ rfl rfl (fun v1 => ?_)
  refine q_iald (t := 0) 10 rfl (by decide +kernel) (rfl : mKd 1 = (2, 280, 0, 0, 0)) rfl (fun j1 hj1 => ?_)
  refine q_iconst 4 (c := 4) 11 rfl (by decide +kernel) rfl ?_
  refine q_icmp_eq 14 rfl 28 (off := 17) (by decide +kernel) rfl (fun g2 => ?_) (fun g2 => ?_)
  · refine q_iconst 1 (c := 1) 29 rfl (by decide +kernel) rfl ?_
    refine q_goto (off := 4) 33 (by decide +kernel) rfl ?_
    exact q_zret (w := 1) (by decide +kernel) rfl rfl rfl (Nat.le_of_ble_eq_true rfl) (Nat.le_of_ble_eq_true rfl)
  · refine q_aload_n 0 0 15 rfl (by decide +kernel) rfl ?_
    refine q_getr (f := 0) 1 18 rfl (by decide +kernel) (cC_Mo D tc x0 y) (rfl : mKd 0 = (1, 0, 21, 0, 0)) (by decide) rfl rfl tw_5_212 ?_
    refine q_iload_n 1 1 19 rfl (by decide +kernel) rfl ?_
    refine q_iconst 3 (c := 3) 20 rfl (by decide +kernel) rfl ?_
    refine q_callS_i 23 rfl (av := [.int a1, .int 3]) (st := [q_r (mG D tc x0 y) 1]) (c_Mo_edit X.1 D tc x0 y I J P a1 3) yv_Mo_edit tw_6_63 tw_6_64 rfl (Nat.le_of_ble_eq_true rfl) (by decide +kernel) ⟨Nat.le_of_ble_eq_true rfl, Nat.le_of_ble_eq_true rfl⟩ ⟨Nat.le_of_ble_eq_true rfl, Nat.le_of_ble_eq_true rfl⟩ rfl rfl (fun v2 => ?_)
    refine q_iald (t := 0) 24 rfl (by decide +kernel) (rfl : mKd 1 = (2, 280, 0, 0, 0)) rfl (fun j2 hj2 => ?_)
    refine q_iconst 5 (c := 5) 25 rfl (by decide +kernel) rfl ?_
    refine q_icmp_ne 28 rfl 32 (off := 7) (by decide +kernel) rfl (fun g1 => ?_) (fun g1 => ?_)
    · refine q_iconst 0 (c := 0) 33 rfl (by decide +kernel) rfl ?_
      exact q_zret (w := 0) (by decide +kernel) rfl rfl rfl (Nat.le_of_ble_eq_true rfl) (Nat.le_of_ble_eq_true rfl)
    · refine q_iconst 1 (c := 1) 29 rfl (by decide +kernel) rfl ?_
      refine q_goto (off := 4) 33 (by decide +kernel) rfl ?_
      exact q_zret (w := 1) (by decide +kernel) rfl rfl rfl (Nat.le_of_ble_eq_true rfl) (Nat.le_of_ble_eq_true rfl)
def f_Mo_clashes (I : q_I) (a1 : Int32) (a2 : Int32) : Option (Int32) :=
  q_b1 (f_Mo_edit a1 4) (fun v1 => q_ix v1 280 (fun j1 => q_b1 (f_Mo_edit a2 4) (fun v2 => q_ix v2 280 (fun j2 => if (I 1 j1) = (I 1 j2) then (q_b1 (f_Mo_edit a1 3) (fun v3 => q_ix v3 280 (fun j3 => q_l (I 1 j3 : Int32) (fun x1 => q_b1 (f_Mo_edit a2 3) (fun v4 => q_ix v4 280 (fun j4 => q_l (I 1 j4 : Int32) (fun x2 => if x1 = 6 then (some (1)) else (q_b1 (f_Mo_edit a2 6) (fun v5 => q_ix v5 280 (fun j5 => if (((I 1 j5) >>> (a1 &&& 31)) &&& 1) = 1 then (some (0)) else (q_b1 (if x1 = x2 then (if x1 = 1 then ((some (1))) else (if x1 = 2 then ((some (1))) else (if x1 = 3 then ((some (1))) else ((some (0)))))) else ((some (0))) : Option (Int32)) (fun (x3 : Int32) => q_b1 (f_Mo_isOfPerson I a1) (fun v6 => q_b1 (if v6 = 0 then ((some (0))) else (q_b1 (f_Mo_isOfPerson I a2) (fun v7 => if v7 = 0 then ((some (0))) else (q_b1 (f_Mo_edit a1 5) (fun v8 => q_ix v8 280 (fun j6 => q_b1 (f_Mo_edit a2 5) (fun v9 => q_ix v9 280 (fun j7 => if (I 1 j6) = (I 1 j7) then ((some (1))) else ((some (0)))))))))) : Option (Int32)) (fun (x4 : Int32) => if x2 = 6 then (some (1)) else (if x3 = 0 then (if x4 = 0 then (some (0)) else (some (1))) else (some (1))))))))))))))))) else (some (0))))))
def y_Mo_clashes : MethodName := ⟨"CalendarReplicasModel", "clashes", "(II)Z"⟩
def m_Mo_clashes : q_M := (prog_11_method_18_code, 7, "CalendarReplicasModel", { frames := 2, cells := 0, slots := 0, locals := 42 }, (some FieldType.boolean))
theorem yv_Mo_clashes : q_Y y_Mo_clashes m_Mo_clashes 2 := ⟨rfl, ⟨by decide, by decide⟩, by decide +kernel, tw_6_73, tw_1_15⟩
set_option maxRecDepth 100000 in
set_option maxHeartbeats 4000000 in
theorem c_Mo_clashes (l : Launch) (D : va_G) (tc : Nat → ClassId) (x0 y : Nat) (I : q_I) (J : q_J) (P : q_P) (a1 : Int32) (a2 : Int32) : q_Ct l (mG D tc x0 y) y_Mo_clashes m_Mo_clashes [q_r (mG D tc x0 y) 0, .int a1, .int a2] (I, J, P) (f_Mo_clashes I a1 a2) (fun r : Int32 => (some (.int r), (I, J, P))) := by
  refine q_Ct_of (mIn D tc x0 y) (by decide) rfl (Nat.le_of_ble_eq_true rfl) rfl (fun X hX => ?_)
  subst hX
  unfold f_Mo_clashes
  refine q_aload_n 0 0 1 rfl (by decide +kernel) rfl ?_
  refine q_getr (f := 0) 1 4 rfl (by decide +kernel) (cC_Mo D tc x0 y) (rfl : mKd 0 = (1, 0, 21, 0, 0)) (by decide) rfl rfl tw_5_212 ?_
  refine q_iload_n 1 1 5 rfl (by decide +kernel) rfl ?_
  refine q_iconst 4 (c := 4) 6 rfl (by decide +kernel) rfl ?_
  refine q_callS_i 9 rfl (av := [.int a1, .int 4]) (st := [q_r (mG D tc x0 y) 1]) (c_Mo_edit X.1 D tc x0 y I J P a1 4) yv_Mo_edit tw_6_63 tw_6_64 rfl (Nat.le_of_ble_eq_true rfl) (by decide +kernel) ⟨Nat.le_of_ble_eq_true rfl, Nat.le_of_ble_eq_true rfl⟩ ⟨Nat.le_of_ble_eq_true rfl, Nat.le_of_ble_eq_true rfl⟩ rfl rfl (fun v1 => ?_)
  refine q_iald (t := 0) 10 rfl (by decide +kernel) (rfl : mKd 1 = (2, 280, 0, 0, 0)) rfl (fun j1 hj1 => ?_)
  refine q_aload_n 0 0 11 rfl (by decide +kernel) rfl ?_
  refine q_getr (f := 0) 1 14 rfl (by decide +kernel) (cC_Mo D tc x0 y) (rfl : mKd 0 = (1, 0, 21, 0, 0)) (by decide) rfl rfl tw_5_212 ?_
  refine q_iload_n 2 2 15 rfl (by decide +kernel) rfl ?_
  refine q_iconst 4 (c := 4) 16 rfl (by decide +kernel) rfl ?_
  refine q_callS_i 19 rfl (av := [.int a2, .int 4]) (st := [q_r (mG D tc x0 y) 1, .int (I 1 j1)]) (c_Mo_edit X.1 D tc x0 y I J P a2 4) yv_Mo_edit tw_6_63 tw_6_64 rfl (Nat.le_of_ble_eq_true rfl) (by decide +kernel) ⟨Nat.le_of_ble_eq_true rfl, Nat.le_of_ble_eq_true rfl⟩ ⟨Nat.le_of_ble_eq_true rfl, Nat.le_of_ble_eq_true rfl⟩ rfl rfl (fun v2 => ?_)
  refine q_iald (t := 0) 20 rfl (by decide +kernel) (rfl : mKd 1 = (2, 280, 0, 0, 0)) rfl (fun j2 hj2 => ?_)
  refine q_icmp_eq 23 rfl 25 (off := 5) (by decide +kernel) rfl (fun g13 => ?_) (fun g13 => ?_)
  · refine q_aload_n 0 0 26 rfl (by decide +kernel) rfl ?_
    refine q_getr (f := 0) 1 29 rfl (by decide +kernel) (cC_Mo D tc x0 y) (rfl : mKd 0 = (1, 0, 21, 0, 0)) (by decide) rfl rfl tw_5_212 ?_
    refine q_iload_n 1 1 30 rfl (by decide +kernel) rfl ?_
    refine q_iconst 3 (c := 3) 31 rfl (by decide +kernel) rfl ?_
    refine q_callS_i 34 rfl (av := [.int a1, .int 3]) (st := [q_r (mG D tc x0 y) 1]) (c_Mo_edit X.1 D tc x0 y I J P a1 3) yv_Mo_edit tw_6_63 tw_6_64 rfl (Nat.le_of_ble_eq_true rfl) (by decide +kernel) ⟨Nat.le_of_ble_eq_true rfl, Nat.le_of_ble_eq_true rfl⟩ ⟨Nat.le_of_ble_eq_true rfl, Nat.le_of_ble_eq_true rfl⟩ rfl rfl (fun v3 => ?_)
    refine q_iald (t := 0) 35 rfl (by decide +kernel) (rfl : mKd 1 = (2, 280, 0, 0, 0)) rfl (fun j3 hj3 => ?_)
    refine q_leti (fun x1 => ?_)
    refine q_istore_n 3 3 36 rfl [(3, .int x1), (0, q_r (mG D tc x0 y) 0), (1, .int a1), (2, .int a2)] (by decide +kernel) rfl (Nat.le_of_ble_eq_true rfl) rfl ?_
    refine q_aload_n 1 0 37 rfl (by decide +kernel) rfl ?_
    refine q_getr (f := 0) 1 40 rfl (by decide +kernel) (cC_Mo D tc x0 y) (rfl : mKd 0 = (1, 0, 21, 0, 0)) (by decide) rfl rfl tw_5_212 ?_
    refine q_iload_n 3 2 41 rfl (by decide +kernel) rfl ?_
    refine q_iconst 3 (c := 3) 42 rfl (by decide +kernel) rfl ?_
    refine q_callS_i 45 rfl (av := [.int a2, .int 3]) (st := [q_r (mG D tc x0 y) 1]) (c_Mo_edit X.1 D tc x0 y I J P a2 3) yv_Mo_edit tw_6_63 tw_6_64 rfl (Nat.le_of_ble_eq_true rfl) (by decide +kernel) ⟨Nat.le_of_ble_eq_true rfl, Nat.le_of_ble_eq_true rfl⟩ ⟨Nat.le_of_ble_eq_true rfl, Nat.le_of_ble_eq_true rfl⟩ rfl rfl (fun v4 => ?_)
    refine q_iald (t := 0) 46 rfl (by decide +kernel) (rfl : mKd 1 = (2, 280, 0, 0, 0)) rfl (fun j4 hj4 => ?_)
    refine q_leti (fun x2 => ?_)
    refine q_istore 4 48 rfl [(4, .int x2), (3, .int x1), (0, q_r (mG D tc x0 y) 0), (1, .int a1), (2, .int a2)] (by decide +kernel) (Nat.le_of_ble_eq_true rfl) rfl ?_
    refine q_iload_n 1 3 49 rfl (by decide +kernel) rfl ?_
    refine q_bipush 6 (c := 6) 51 rfl (by decide +kernel) rfl ?_
    refine q_icmp_ne 54 rfl 56 (off := 5) (by decide +kernel) rfl (fun g12 => ?_) (fun g12 => ?_)
    · refine q_aload_n 2 0 57 rfl (by decide +kernel) rfl ?_
      refine q_getr (f := 0) 1 60 rfl (by decide +kernel) (cC_Mo D tc x0 y) (rfl : mKd 0 = (1, 0, 21, 0, 0)) (by decide) rfl rfl tw_5_212 ?_
      refine q_iload_n 4 2 61 rfl (by decide +kernel) rfl ?_
      refine q_bipush 6 (c := 6) 63 rfl (by decide +kernel) rfl ?_
      refine q_callS_i 66 rfl (av := [.int a2, .int 6]) (st := [q_r (mG D tc x0 y) 1]) (c_Mo_edit X.1 D tc x0 y I J P a2 6) yv_Mo_edit tw_6_63 tw_6_64 rfl (Nat.le_of_ble_eq_true rfl) (by decide +kernel) ⟨Nat.le_of_ble_eq_true rfl, Nat.le_of_ble_eq_true rfl⟩ ⟨Nat.le_of_ble_eq_true rfl, Nat.le_of_ble_eq_true rfl⟩ rfl rfl (fun v5 => ?_)
      refine q_iald (t := 0) 67 rfl (by decide +kernel) (rfl : mKd 1 = (2, 280, 0, 0, 0)) rfl (fun j5 hj5 => ?_)
      refine q_iload_n 3 1 68 rfl (by decide +kernel) rfl ?_
      refine q_ishr 69 rfl (by decide +kernel) ?_
      refine q_iconst 1 (c := 1) 70 rfl (by decide +kernel) rfl ?_
      refine q_iand 71 rfl (by decide +kernel) ?_
      refine q_iconst 1 (c := 1) 72 rfl (by decide +kernel) rfl ?_
      refine q_icmp_ne 75 rfl 77 (off := 5) (by decide +kernel) rfl (fun g11 => ?_) (fun g11 => ?_)
      · refine q_iload_n 1 3 78 rfl (by decide +kernel) rfl ?_
        refine q_iload 0 4 80 rfl (by decide +kernel) rfl ?_
        refine q_jn1 103 (fun x3 => [(0, q_r (mG D tc x0 y) 0), (1, .int a1), (2, .int a2), (4, .int x2)]) (fun x3 => [.int x3]) (fun x3 => I) (fun x3 => J) (fun x3 => P) (fun jk1 => if x1 = x2 then (if x1 = 1 then ((jk1 (1))) else (if x1 = 2 then ((jk1 (1))) else (if x1 = 3 then ((jk1 (1))) else ((jk1 (0)))))) else ((jk1 (0)))) (by intro jk1; simp only [q_b1_if, q_b1_s, q_b1_n, q_b1_ix, q_b1_b1, q_b1_b2, q_b1_b3, q_b1_l, q_b1_ck, q_b1_el]) ?_ ?_
        · intro x3
          refine q_istore 5 105 rfl [(5, .int x3), (0, q_r (mG D tc x0 y) 0), (1, .int a1), (2, .int a2), (4, .int x2)] (by decide +kernel) (Nat.le_of_ble_eq_true rfl) rfl ?_
          refine q_aload_n 1 0 106 rfl (by decide +kernel) rfl ?_
          refine q_iload_n 2 1 107 rfl (by decide +kernel) rfl ?_
          refine q_callV_i 110 rfl (av := [.int a1]) (o := 0) (st := []) (c_Mo_isOfPerson X.1 D tc x0 y I J P a1) yv_Mo_isOfPerson tw_6_74 tw_6_76 sw_31 (cC_Mo D tc x0 y) (rfl : mKd 0 = (1, 0, 21, 0, 0)) rfl (Nat.le_of_ble_eq_true rfl) (by decide +kernel) ⟨Nat.le_of_ble_eq_true rfl, Nat.le_of_ble_eq_true rfl⟩ ⟨Nat.le_of_ble_eq_true rfl, Nat.le_of_ble_eq_true rfl⟩ rfl rfl (fun v6 => ?_)
          refine q_jn1 149 (fun x4 => [(4, .int x2), (5, .int x3)]) (fun x4 => [.int x4]) (fun x4 => I) (fun x4 => J) (fun x4 => P) (fun jk2 => if v6 = 0 then ((jk2 (0))) else (q_b1 (f_Mo_isOfPerson I a2) (fun v7 => if v7 = 0 then ((jk2 (0))) else (q_b1 (f_Mo_edit a1 5) (fun v8 => q_ix v8 280 (fun j6 => q_b1 (f_Mo_edit a2 5) (fun v9 => q_ix v9 280 (fun j7 => if (I 1 j6) = (I 1 j7) then ((jk2 (1))) else ((jk2 (0))))))))))) (by intro jk2; simp only [q_b1_if, q_b1_s, q_b1_n, q_b1_ix, q_b1_b1, q_b1_b2, q_b1_b3, q_b1_l, q_b1_ck, q_b1_el]) ?_ ?_
          · intro x4
            refine q_istore 6 151 rfl [(6, .int x4), (4, .int x2), (5, .int x3)] (by decide +kernel) (Nat.le_of_ble_eq_true rfl) rfl ?_
            refine q_iload 1 4 153 rfl (by decide +kernel) rfl ?_
            refine q_bipush 6 (c := 6) 155 rfl (by decide +kernel) rfl ?_
            refine q_icmp_eq 158 rfl 168 (off := 13) (by decide +kernel) rfl (fun g3 => ?_) (fun g3 => ?_)
            · refine q_iconst 1 (c := 1) 169 rfl (by decide +kernel) rfl ?_
              refine q_goto (off := 4) 173 (by decide +kernel) rfl ?_
              exact q_zret (w := 1) (by decide +kernel) rfl rfl rfl (Nat.le_of_ble_eq_true rfl) (Nat.le_of_ble_eq_true rfl)
            · refine q_iload 2 5 160 rfl (by decide +kernel) rfl ?_
              refine q_if_ne 163 rfl 168 (off := 8) (by decide +kernel) rfl (fun g2 => ?_) (fun g2 => ?_)
              · refine q_iconst 1 (c := 1) 169 rfl (by decide +kernel) rfl ?_
                refine q_goto (off := 4) 173 (by decide +kernel) rfl ?_
                exact q_zret (w := 1) (by decide +kernel) rfl rfl rfl (Nat.le_of_ble_eq_true rfl) (Nat.le_of_ble_eq_true rfl)
              · refine q_iload 0 6 165 rfl (by decide +kernel) rfl ?_
                refine q_if_eq 168 rfl 172 (off := 7) (by decide +kernel) rfl (fun g1 => ?_) (fun g1 => ?_)
                · refine q_iconst 0 (c := 0) 173 rfl (by decide +kernel) rfl ?_
                  exact q_zret (w := 0) (by decide +kernel) rfl rfl rfl (Nat.le_of_ble_eq_true rfl) (Nat.le_of_ble_eq_true rfl)
                · refine q_iconst 1 (c := 1) 169 rfl (by decide +kernel) rfl ?_
                  refine q_goto (off := 4) 173 (by decide +kernel) rfl ?_
                  exact q_zret (w := 1) (by decide +kernel) rfl rfl rfl (Nat.le_of_ble_eq_true rfl) (Nat.le_of_ble_eq_true rfl)
          · intro jk2 hq2
            refine q_if_eq 113 rfl 148 (off := 38) (by decide +kernel) rfl (fun g6 => ?_) (fun g6 => ?_)
            · refine q_iconst 0 (c := 0) 149 rfl (by decide +kernel) rfl ?_
              refine q_sub [4, 0] rfl ?_
              exact hq2 0
            · refine q_aload_n 1 0 114 rfl (by decide +kernel) rfl ?_
              refine q_iload_n 3 2 115 rfl (by decide +kernel) rfl ?_
              refine q_callV_i 118 rfl (av := [.int a2]) (o := 0) (st := []) (c_Mo_isOfPerson X.1 D tc x0 y I J P a2) yv_Mo_isOfPerson tw_6_74 tw_6_76 sw_31 (cC_Mo D tc x0 y) (rfl : mKd 0 = (1, 0, 21, 0, 0)) rfl (Nat.le_of_ble_eq_true rfl) (by decide +kernel) ⟨Nat.le_of_ble_eq_true rfl, Nat.le_of_ble_eq_true rfl⟩ ⟨Nat.le_of_ble_eq_true rfl, Nat.le_of_ble_eq_true rfl⟩ rfl rfl (fun v7 => ?_)
              refine q_if_eq 121 rfl 148 (off := 30) (by decide +kernel) rfl (fun g5 => ?_) (fun g5 => ?_)
              · refine q_iconst 0 (c := 0) 149 rfl (by decide +kernel) rfl ?_
                refine q_sub [4, 0] rfl ?_
                exact hq2 0
              · refine q_aload_n 1 0 122 rfl (by decide +kernel) rfl ?_
                refine q_getr (f := 0) 1 125 rfl (by decide +kernel) (cC_Mo D tc x0 y) (rfl : mKd 0 = (1, 0, 21, 0, 0)) (by decide) rfl rfl tw_5_212 ?_
                refine q_iload_n 2 1 126 rfl (by decide +kernel) rfl ?_
                refine q_iconst 5 (c := 5) 127 rfl (by decide +kernel) rfl ?_
                refine q_callS_i 130 rfl (av := [.int a1, .int 5]) (st := [q_r (mG D tc x0 y) 1]) (c_Mo_edit X.1 D tc x0 y I J P a1 5) yv_Mo_edit tw_6_63 tw_6_64 rfl (Nat.le_of_ble_eq_true rfl) (by decide +kernel) ⟨Nat.le_of_ble_eq_true rfl, Nat.le_of_ble_eq_true rfl⟩ ⟨Nat.le_of_ble_eq_true rfl, Nat.le_of_ble_eq_true rfl⟩ rfl rfl (fun v8 => ?_)
                refine q_iald (t := 0) 131 rfl (by decide +kernel) (rfl : mKd 1 = (2, 280, 0, 0, 0)) rfl (fun j6 hj6 => ?_)
                refine q_aload_n 1 0 132 rfl (by decide +kernel) rfl ?_
                refine q_getr (f := 0) 1 135 rfl (by decide +kernel) (cC_Mo D tc x0 y) (rfl : mKd 0 = (1, 0, 21, 0, 0)) (by decide) rfl rfl tw_5_212 ?_
                refine q_iload_n 3 2 136 rfl (by decide +kernel) rfl ?_
                refine q_iconst 5 (c := 5) 137 rfl (by decide +kernel) rfl ?_
                refine q_callS_i 140 rfl (av := [.int a2, .int 5]) (st := [q_r (mG D tc x0 y) 1, .int (I 1 j6)]) (c_Mo_edit X.1 D tc x0 y I J P a2 5) yv_Mo_edit tw_6_63 tw_6_64 rfl (Nat.le_of_ble_eq_true rfl) (by decide +kernel) ⟨Nat.le_of_ble_eq_true rfl, Nat.le_of_ble_eq_true rfl⟩ ⟨Nat.le_of_ble_eq_true rfl, Nat.le_of_ble_eq_true rfl⟩ rfl rfl (fun v9 => ?_)
                refine q_iald (t := 0) 141 rfl (by decide +kernel) (rfl : mKd 1 = (2, 280, 0, 0, 0)) rfl (fun j7 hj7 => ?_)
                refine q_icmp_ne 144 rfl 148 (off := 7) (by decide +kernel) rfl (fun g4 => ?_) (fun g4 => ?_)
                · refine q_iconst 0 (c := 0) 149 rfl (by decide +kernel) rfl ?_
                  refine q_sub [4, 0] rfl ?_
                  exact hq2 0
                · refine q_iconst 1 (c := 1) 145 rfl (by decide +kernel) rfl ?_
                  refine q_goto (off := 4) 149 (by decide +kernel) rfl ?_
                  refine q_sub [4, 0] rfl ?_
                  exact hq2 1
        · intro jk1 hq1
          refine q_icmp_ne 83 rfl 102 (off := 22) (by decide +kernel) rfl (fun g10 => ?_) (fun g10 => ?_)
          · refine q_iconst 0 (c := 0) 103 rfl (by decide +kernel) rfl ?_
            refine q_sub [2, 3, 4, 0] rfl ?_
            exact hq1 0
          · refine q_iload_n 1 3 84 rfl (by decide +kernel) rfl ?_
            refine q_iconst 1 (c := 1) 85 rfl (by decide +kernel) rfl ?_
            refine q_icmp_eq 88 rfl 98 (off := 13) (by decide +kernel) rfl (fun g9 => ?_) (fun g9 => ?_)
            · refine q_iconst 1 (c := 1) 99 rfl (by decide +kernel) rfl ?_
              refine q_goto (off := 4) 103 (by decide +kernel) rfl ?_
              refine q_sub [2, 3, 4, 0] rfl ?_
              exact hq1 1
            · refine q_iload_n 1 3 89 rfl (by decide +kernel) rfl ?_
              refine q_iconst 2 (c := 2) 90 rfl (by decide +kernel) rfl ?_
              refine q_icmp_eq 93 rfl 98 (off := 8) (by decide +kernel) rfl (fun g8 => ?_) (fun g8 => ?_)
              · refine q_iconst 1 (c := 1) 99 rfl (by decide +kernel) rfl ?_
                refine q_goto (off := 4) 103 (by decide +kernel) rfl ?_
                refine q_sub [2, 3, 4, 0] rfl ?_
                exact hq1 1
              · refine q_iload_n 1 3 94 rfl (by decide +kernel) rfl ?_
                refine q_iconst 3 (c := 3) 95 rfl (by decide +kernel) rfl ?_
                refine q_icmp_ne 98 rfl 102 (off := 7) (by decide +kernel) rfl (fun g7 => ?_) (fun g7 => ?_)
                · refine q_iconst 0 (c := 0) 103 rfl (by decide +kernel) rfl ?_
                  refine q_sub [2, 3, 4, 0] rfl ?_
                  exact hq1 0
                · refine q_iconst 1 (c := 1) 99 rfl (by decide +kernel) rfl ?_
                  refine q_goto (off := 4) 103 (by decide +kernel) rfl ?_
                  refine q_sub [2, 3, 4, 0] rfl ?_
                  exact hq1 1
      · refine q_iconst 0 (c := 0) 76 rfl (by decide +kernel) rfl ?_
        exact q_zret (w := 0) (by decide +kernel) rfl rfl rfl (Nat.le_of_ble_eq_true rfl) (Nat.le_of_ble_eq_true rfl)
    · refine q_iconst 1 (c := 1) 55 rfl (by decide +kernel) rfl ?_
      exact q_zret (w := 1) (by decide +kernel) rfl rfl rfl (Nat.le_of_ble_eq_true rfl) (Nat.le_of_ble_eq_true rfl)
  · refine q_iconst 0 (c := 0) 24 rfl (by decide +kernel) rfl ?_
    exact q_zret (w := 0) (by decide +kernel) rfl rfl rfl (Nat.le_of_ble_eq_true rfl) (Nat.le_of_ble_eq_true rfl)
def f_Mo_isOfBase_L1 (I : q_I) (a1 : Int32) : Nat → Int32 → Int32 → Option (Int32)
  | 0, _, _ => none
  | n + 1, x1, x2 => q_ix 2 280 (fun j1 => if (I 1 j1) ≤ x2 then (some ((x1 &&& 1))) else (if x1 = 0 then (q_ix (40 + (7 * x2)) 280 (fun j2 => if (I 1 j2) = a1 then ((f_Mo_isOfBase_L1 I a1 n 1 (x2 + 1))) else ((f_Mo_isOfBase_L1 I a1 n 0 (x2 + 1))))) else ((f_Mo_isOfBase_L1 I a1 n 1 (x2 + 1)))))
def f_Mo_isOfBase (I : q_I) (a1 : Int32) : Option (Int32) :=
  f_Mo_isOfBase_L1 I a1 q_fu 0 0
def y_Mo_isOfBase : MethodName := ⟨"CalendarReplicasModel", "isOfBase", "(I)Z"⟩
def m_Mo_isOfBase : q_M := (prog_11_method_19_code, 4, "CalendarReplicasModel", { frames := 0, cells := 0, slots := 0, locals := 0 }, (some FieldType.boolean))
theorem yv_Mo_isOfBase : q_Y y_Mo_isOfBase m_Mo_isOfBase 1 := ⟨rfl, ⟨by decide, by decide⟩, by decide +kernel, tw_6_69, tw_1_15⟩
set_option maxRecDepth 100000 in
set_option maxHeartbeats 4000000 in
theorem c_Mo_isOfBase (l : Launch) (D : va_G) (tc : Nat → ClassId) (x0 y : Nat) (I : q_I) (J : q_J) (P : q_P) (a1 : Int32) : q_Ct l (mG D tc x0 y) y_Mo_isOfBase m_Mo_isOfBase [q_r (mG D tc x0 y) 0, .int a1] (I, J, P) (f_Mo_isOfBase I a1) (fun r : Int32 => (some (.int r), (I, J, P))) := by
  refine q_Ct_of (mIn D tc x0 y) (by decide) rfl (Nat.le_of_ble_eq_true rfl) rfl (fun X hX => ?_)
  subst hX
  unfold f_Mo_isOfBase
  refine q_iconst 0 (c := 0) 1 rfl (by decide +kernel) rfl ?_
  refine q_istore_n 2 2 2 rfl [(2, .int 0), (0, q_r (mG D tc x0 y) 0), (1, .int a1)] (by decide +kernel) rfl (Nat.le_of_ble_eq_true rfl) rfl ?_
  refine q_iconst 0 (c := 0) 3 rfl (by decide +kernel) rfl ?_
  refine q_istore_n 3 3 4 rfl [(3, .int 0), (2, .int 0), (0, q_r (mG D tc x0 y) 0), (1, .int a1)] (by decide +kernel) rfl (Nat.le_of_ble_eq_true rfl) rfl ?_
  have hL1 : ∀ (n1_ : Nat) (x1 : Int32) (x2 : Int32), q_V (mG D tc x0 y) m_Mo_isOfBase X (fun r : Int32 => (some (.int r), (I, J, P))) 0 0 4 [(0, q_r (mG D tc x0 y) 0), (1, .int a1), (2, .int x1), (3, .int x2)] [] I J P (f_Mo_isOfBase_L1 I a1 n1_ x1 x2) := by
    intro n1_
    induction n1_ with
    | zero => intro x1 x2; exact q_none
    | succ n1_ ih1 =>
      intro x1 x2
      rw [f_Mo_isOfBase_L1]
      refine q_iload_n 3 3 5 rfl (by decide +kernel) rfl ?_
      refine q_aload_n 0 0 6 rfl (by decide +kernel) rfl ?_
      refine q_getr (f := 0) 1 9 rfl (by decide +kernel) (cC_Mo D tc x0 y) (rfl : mKd 0 = (1, 0, 21, 0, 0)) (by decide) rfl rfl tw_5_212 ?_
      refine q_iconst 2 (c := 2) 10 rfl (by decide +kernel) rfl ?_
      refine q_iald (t := 0) 11 rfl (by decide +kernel) (rfl : mKd 1 = (2, 280, 0, 0, 0)) rfl (fun j1 hj1 => ?_)
      refine q_icmp_ge 14 rfl 46 (off := 35) (by decide +kernel) rfl (fun g3 => ?_) (fun g3 => ?_)
      · refine q_iload_n 2 2 47 rfl (by decide +kernel) rfl ?_
        exact q_zret (w := (x1 &&& 1)) (by decide +kernel) rfl rfl rfl (Nat.le_of_ble_eq_true rfl) (Nat.le_of_ble_eq_true rfl)
      · refine q_iload_n 2 2 15 rfl (by decide +kernel) rfl ?_
        refine q_if_ne 18 rfl 34 (off := 19) (by decide +kernel) rfl (fun g2 => ?_) (fun g2 => ?_)
        · refine q_iconst 1 (c := 1) 35 rfl (by decide +kernel) rfl ?_
          refine q_goto (off := 4) 39 (by decide +kernel) rfl ?_
          refine q_istore_n 2 2 40 rfl [(2, .int 1), (0, q_r (mG D tc x0 y) 0), (1, .int a1), (3, .int x2)] (by decide +kernel) rfl (Nat.le_of_ble_eq_true rfl) rfl ?_
          refine q_iinc (x2 + 1) (c := 1) 3 3 43 rfl [(3, .int (x2 + 1)), (2, .int 1), (0, q_r (mG D tc x0 y) 0), (1, .int a1)] (by decide +kernel) rfl rfl (Nat.le_of_ble_eq_true rfl) rfl ?_
          refine q_goto (off := -39) 4 (by decide +kernel) rfl ?_
          refine q_sub [2, 3, 1, 0] rfl ?_
          exact ih1 1 (x2 + 1)
        · refine q_aload_n 0 0 19 rfl (by decide +kernel) rfl ?_
          refine q_getr (f := 0) 1 22 rfl (by decide +kernel) (cC_Mo D tc x0 y) (rfl : mKd 0 = (1, 0, 21, 0, 0)) (by decide) rfl rfl tw_5_212 ?_
          refine q_bipush 40 (c := 40) 24 rfl (by decide +kernel) rfl ?_
          refine q_bipush 7 (c := 7) 26 rfl (by decide +kernel) rfl ?_
          refine q_iload_n 3 3 27 rfl (by decide +kernel) rfl ?_
          refine q_imul 28 rfl (by decide +kernel) ?_
          refine q_iadd 29 rfl (by decide +kernel) ?_
          refine q_iald (t := 0) 30 rfl (by decide +kernel) (rfl : mKd 1 = (2, 280, 0, 0, 0)) rfl (fun j2 hj2 => ?_)
          refine q_iload_n 1 1 31 rfl (by decide +kernel) rfl ?_
          refine q_icmp_ne 34 rfl 38 (off := 7) (by decide +kernel) rfl (fun g1 => ?_) (fun g1 => ?_)
          · refine q_iconst 0 (c := 0) 39 rfl (by decide +kernel) rfl ?_
            refine q_istore_n 2 2 40 rfl [(2, .int 0), (0, q_r (mG D tc x0 y) 0), (1, .int a1), (3, .int x2)] (by decide +kernel) rfl (Nat.le_of_ble_eq_true rfl) rfl ?_
            refine q_iinc (x2 + 1) (c := 1) 3 3 43 rfl [(3, .int (x2 + 1)), (2, .int 0), (0, q_r (mG D tc x0 y) 0), (1, .int a1)] (by decide +kernel) rfl rfl (Nat.le_of_ble_eq_true rfl) rfl ?_
            refine q_goto (off := -39) 4 (by decide +kernel) rfl ?_
            refine q_sub [2, 3, 1, 0] rfl ?_
            exact ih1 0 (x2 + 1)
          · refine q_iconst 1 (c := 1) 35 rfl (by decide +kernel) rfl ?_
            refine q_goto (off := 4) 39 (by decide +kernel) rfl ?_
            refine q_istore_n 2 2 40 rfl [(2, .int 1), (0, q_r (mG D tc x0 y) 0), (1, .int a1), (3, .int x2)] (by decide +kernel) rfl (Nat.le_of_ble_eq_true rfl) rfl ?_
            refine q_iinc (x2 + 1) (c := 1) 3 3 43 rfl [(3, .int (x2 + 1)), (2, .int 1), (0, q_r (mG D tc x0 y) 0), (1, .int a1)] (by decide +kernel) rfl rfl (Nat.le_of_ble_eq_true rfl) rfl ?_
            refine q_goto (off := -39) 4 (by decide +kernel) rfl ?_
            refine q_sub [2, 3, 1, 0] rfl ?_
            exact ih1 1 (x2 + 1)
  refine q_sub [2, 3, 1, 0] rfl ?_
  exact hL1 _ _ _
def f_Mo_isFounded_L1 (I : q_I) (a1 : Int32) (a2 : Int32) : Nat → Int32 → Int32 → Option (Int32)
  | 0, _, _ => none
  | n + 1, x1, x2 => if a1 < x2 then (some ((x1 &&& 1))) else (if x1 = 0 then (if ((a2 >>> (x2 &&& 31)) &&& 1) = 1 then (q_b1 (f_Mo_edit x2 3) (fun v3 => q_ix v3 280 (fun j2 => if (I 1 j2) = 0 then (q_b1 (f_Mo_edit x2 0) (fun v4 => q_ix v4 280 (fun j3 => q_b1 (f_Mo_edit a1 4) (fun v5 => q_ix v5 280 (fun j4 => if (I 1 j3) = (I 1 j4) then ((f_Mo_isFounded_L1 I a1 a2 n 1 (x2 + 1))) else ((f_Mo_isFounded_L1 I a1 a2 n 0 (x2 + 1)))))))) else ((f_Mo_isFounded_L1 I a1 a2 n 0 (x2 + 1)))))) else ((f_Mo_isFounded_L1 I a1 a2 n 0 (x2 + 1)))) else ((f_Mo_isFounded_L1 I a1 a2 n 1 (x2 + 1))))
def f_Mo_isFounded (I : q_I) (a1 : Int32) (a2 : Int32) : Option (Int32) :=
  q_b1 (f_Mo_edit a1 4) (fun v1 => q_ix v1 280 (fun j1 => q_b1 (f_Mo_isOfBase I (I 1 j1)) (fun v2 => f_Mo_isFounded_L1 I a1 a2 q_fu v2 0)))
def y_Mo_isFounded : MethodName := ⟨"CalendarReplicasModel", "isFounded", "(II)Z"⟩
def m_Mo_isFounded : q_M := (prog_11_method_20_code, 5, "CalendarReplicasModel", { frames := 1, cells := 0, slots := 0, locals := 23 }, (some FieldType.boolean))
theorem yv_Mo_isFounded : q_Y y_Mo_isFounded m_Mo_isFounded 2 := ⟨rfl, ⟨by decide, by decide⟩, by decide +kernel, tw_6_62, tw_1_15⟩
set_option maxRecDepth 100000 in
set_option maxHeartbeats 4000000 in
theorem c_Mo_isFounded (l : Launch) (D : va_G) (tc : Nat → ClassId) (x0 y : Nat) (I : q_I) (J : q_J) (P : q_P) (a1 : Int32) (a2 : Int32) : q_Ct l (mG D tc x0 y) y_Mo_isFounded m_Mo_isFounded [q_r (mG D tc x0 y) 0, .int a1, .int a2] (I, J, P) (f_Mo_isFounded I a1 a2) (fun r : Int32 => (some (.int r), (I, J, P))) := by
  refine q_Ct_of (mIn D tc x0 y) (by decide) rfl (Nat.le_of_ble_eq_true rfl) rfl (fun X hX => ?_)
  subst hX
  unfold f_Mo_isFounded
  refine q_aload_n 0 0 1 rfl (by decide +kernel) rfl ?_
  refine q_aload_n 0 0 2 rfl (by decide +kernel) rfl ?_
  refine q_getr (f := 0) 1 5 rfl (by decide +kernel) (cC_Mo D tc x0 y) (rfl : mKd 0 = (1, 0, 21, 0, 0)) (by decide) rfl rfl tw_5_212 ?_
  refine q_iload_n 1 1 6 rfl (by decide +kernel) rfl ?_
  refine q_iconst 4 (c := 4) 7 rfl (by decide +kernel) rfl ?_
  refine q_callS_i 10 rfl (av := [.int a1, .int 4]) (st := [q_r (mG D tc x0 y) 1, q_r (mG D tc x0 y) 0]) (c_Mo_edit X.1 D tc x0 y I J P a1 4) yv_Mo_edit tw_6_63 tw_6_64 rfl (Nat.le_of_ble_eq_true rfl) (by decide +kernel) ⟨Nat.le_of_ble_eq_true rfl, Nat.le_of_ble_eq_true rfl⟩ ⟨Nat.le_of_ble_eq_true rfl, Nat.le_of_ble_eq_true rfl⟩ rfl rfl (fun v1 => ?_)
  refine q_iald (t := 0) 11 rfl (by decide +kernel) (rfl : mKd 1 = (2, 280, 0, 0, 0)) rfl (fun j1 hj1 => ?_)
  refine q_callV_i 14 rfl (av := [.int (I 1 j1)]) (o := 0) (st := []) (c_Mo_isOfBase X.1 D tc x0 y I J P (I 1 j1)) yv_Mo_isOfBase tw_6_66 tw_6_68 sw_29 (cC_Mo D tc x0 y) (rfl : mKd 0 = (1, 0, 21, 0, 0)) rfl (Nat.le_of_ble_eq_true rfl) (by decide +kernel) ⟨Nat.le_of_ble_eq_true rfl, Nat.le_of_ble_eq_true rfl⟩ ⟨Nat.le_of_ble_eq_true rfl, Nat.le_of_ble_eq_true rfl⟩ rfl rfl (fun v2 => ?_)
  refine q_istore_n 3 3 15 rfl [(3, .int v2), (0, q_r (mG D tc x0 y) 0), (1, .int a1), (2, .int a2)] (by decide +kernel) rfl (Nat.le_of_ble_eq_true rfl) rfl ?_
  refine q_iconst 0 (c := 0) 16 rfl (by decide +kernel) rfl ?_
  refine q_istore 4 18 rfl [(4, .int 0), (3, .int v2), (0, q_r (mG D tc x0 y) 0), (1, .int a1), (2, .int a2)] (by decide +kernel) (Nat.le_of_ble_eq_true rfl) rfl ?_
  have hL1 : ∀ (n1_ : Nat) (x1 : Int32) (x2 : Int32), q_V (mG D tc x0 y) m_Mo_isFounded X (fun r : Int32 => (some (.int r), (I, J, P))) 0 0 18 [(0, q_r (mG D tc x0 y) 0), (1, .int a1), (2, .int a2), (3, .int x1), (4, .int x2)] [] I J P (f_Mo_isFounded_L1 I a1 a2 n1_ x1 x2) := by
    intro n1_
    induction n1_ with
    | zero => intro x1 x2; exact q_none
    | succ n1_ ih1 =>
      intro x1 x2
      rw [f_Mo_isFounded_L1]
      refine q_iload 4 4 20 rfl (by decide +kernel) rfl ?_
      refine q_iload_n 1 1 21 rfl (by decide +kernel) rfl ?_
      refine q_icmp_gt 24 rfl 88 (off := 67) (by decide +kernel) rfl (fun g5 => ?_) (fun g5 => ?_)
      · refine q_iload_n 3 3 89 rfl (by decide +kernel) rfl ?_
        exact q_zret (w := (x1 &&& 1)) (by decide +kernel) rfl rfl rfl (Nat.le_of_ble_eq_true rfl) (Nat.le_of_ble_eq_true rfl)
      · refine q_iload_n 3 3 25 rfl (by decide +kernel) rfl ?_
        refine q_if_ne 28 rfl 76 (off := 51) (by decide +kernel) rfl (fun g4 => ?_) (fun g4 => ?_)
        · refine q_iconst 1 (c := 1) 77 rfl (by decide +kernel) rfl ?_
          refine q_goto (off := 4) 81 (by decide +kernel) rfl ?_
          refine q_istore_n 3 3 82 rfl [(3, .int 1), (0, q_r (mG D tc x0 y) 0), (1, .int a1), (2, .int a2), (4, .int x2)] (by decide +kernel) rfl (Nat.le_of_ble_eq_true rfl) rfl ?_
          refine q_iinc (x2 + 1) (c := 1) 4 4 85 rfl [(4, .int (x2 + 1)), (3, .int 1), (0, q_r (mG D tc x0 y) 0), (1, .int a1), (2, .int a2)] (by decide +kernel) rfl rfl (Nat.le_of_ble_eq_true rfl) rfl ?_
          refine q_goto (off := -67) 18 (by decide +kernel) rfl ?_
          refine q_sub [2, 3, 4, 1, 0] rfl ?_
          exact ih1 1 (x2 + 1)
        · refine q_iload_n 2 2 29 rfl (by decide +kernel) rfl ?_
          refine q_iload 4 4 31 rfl (by decide +kernel) rfl ?_
          refine q_ishr 32 rfl (by decide +kernel) ?_
          refine q_iconst 1 (c := 1) 33 rfl (by decide +kernel) rfl ?_
          refine q_iand 34 rfl (by decide +kernel) ?_
          refine q_iconst 1 (c := 1) 35 rfl (by decide +kernel) rfl ?_
          refine q_icmp_ne 38 rfl 80 (off := 45) (by decide +kernel) rfl (fun g3 => ?_) (fun g3 => ?_)
          · refine q_iconst 0 (c := 0) 81 rfl (by decide +kernel) rfl ?_
            refine q_istore_n 3 3 82 rfl [(3, .int 0), (0, q_r (mG D tc x0 y) 0), (1, .int a1), (2, .int a2), (4, .int x2)] (by decide +kernel) rfl (Nat.le_of_ble_eq_true rfl) rfl ?_
            refine q_iinc (x2 + 1) (c := 1) 4 4 85 rfl [(4, .int (x2 + 1)), (3, .int 0), (0, q_r (mG D tc x0 y) 0), (1, .int a1), (2, .int a2)] (by decide +kernel) rfl rfl (Nat.le_of_ble_eq_true rfl) rfl ?_
            refine q_goto (off := -67) 18 (by decide +kernel) rfl ?_
            refine q_sub [2, 3, 4, 1, 0] rfl ?_
            exact ih1 0 (x2 + 1)
          · refine q_aload_n 0 0 39 rfl (by decide +kernel) rfl ?_
            refine q_getr (f := 0) 1 42 rfl (by decide +kernel) (cC_Mo D tc x0 y) (rfl : mKd 0 = (1, 0, 21, 0, 0)) (by decide) rfl rfl tw_5_212 ?_
            refine q_iload 4 4 44 rfl (by decide +kernel) rfl ?_
            refine q_iconst 3 (c := 3) 45 rfl (by decide +kernel) rfl ?_
            refine q_callS_i 48 rfl (av := [.int x2, .int 3]) (st := [q_r (mG D tc x0 y) 1]) (c_Mo_edit X.1 D tc x0 y I J P x2 3) yv_Mo_edit tw_6_63 tw_6_64 rfl (Nat.le_of_ble_eq_true rfl) (by decide +kernel) ⟨Nat.le_of_ble_eq_true rfl, Nat.le_of_ble_eq_true rfl⟩ ⟨Nat.le_of_ble_eq_true rfl, Nat.le_of_ble_eq_true rfl⟩ rfl rfl (fun v3 => ?_)
            refine q_iald (t := 0) 49 rfl (by decide +kernel) (rfl : mKd 1 = (2, 280, 0, 0, 0)) rfl (fun j2 hj2 => ?_)
            refine q_if_ne 52 rfl 80 (off := 31) (by decide +kernel) rfl (fun g2 => ?_) (fun g2 => ?_)
            · refine q_iconst 0 (c := 0) 81 rfl (by decide +kernel) rfl ?_
              refine q_istore_n 3 3 82 rfl [(3, .int 0), (0, q_r (mG D tc x0 y) 0), (1, .int a1), (2, .int a2), (4, .int x2)] (by decide +kernel) rfl (Nat.le_of_ble_eq_true rfl) rfl ?_
              refine q_iinc (x2 + 1) (c := 1) 4 4 85 rfl [(4, .int (x2 + 1)), (3, .int 0), (0, q_r (mG D tc x0 y) 0), (1, .int a1), (2, .int a2)] (by decide +kernel) rfl rfl (Nat.le_of_ble_eq_true rfl) rfl ?_
              refine q_goto (off := -67) 18 (by decide +kernel) rfl ?_
              refine q_sub [2, 3, 4, 1, 0] rfl ?_
              exact ih1 0 (x2 + 1)
            · refine q_aload_n 0 0 53 rfl (by decide +kernel) rfl ?_
              refine q_getr (f := 0) 1 56 rfl (by decide +kernel) (cC_Mo D tc x0 y) (rfl : mKd 0 = (1, 0, 21, 0, 0)) (by decide) rfl rfl tw_5_212 ?_
              refine q_iload 4 4 58 rfl (by decide +kernel) rfl ?_
              refine q_iconst 0 (c := 0) 59 rfl (by decide +kernel) rfl ?_
              refine q_callS_i 62 rfl (av := [.int x2, .int 0]) (st := [q_r (mG D tc x0 y) 1]) (c_Mo_edit X.1 D tc x0 y I J P x2 0) yv_Mo_edit tw_6_63 tw_6_64 rfl (Nat.le_of_ble_eq_true rfl) (by decide +kernel) ⟨Nat.le_of_ble_eq_true rfl, Nat.le_of_ble_eq_true rfl⟩ ⟨Nat.le_of_ble_eq_true rfl, Nat.le_of_ble_eq_true rfl⟩ rfl rfl (fun v4 => ?_)
              refine q_iald (t := 0) 63 rfl (by decide +kernel) (rfl : mKd 1 = (2, 280, 0, 0, 0)) rfl (fun j3 hj3 => ?_)
              refine q_aload_n 0 0 64 rfl (by decide +kernel) rfl ?_
              refine q_getr (f := 0) 1 67 rfl (by decide +kernel) (cC_Mo D tc x0 y) (rfl : mKd 0 = (1, 0, 21, 0, 0)) (by decide) rfl rfl tw_5_212 ?_
              refine q_iload_n 1 1 68 rfl (by decide +kernel) rfl ?_
              refine q_iconst 4 (c := 4) 69 rfl (by decide +kernel) rfl ?_
              refine q_callS_i 72 rfl (av := [.int a1, .int 4]) (st := [q_r (mG D tc x0 y) 1, .int (I 1 j3)]) (c_Mo_edit X.1 D tc x0 y I J P a1 4) yv_Mo_edit tw_6_63 tw_6_64 rfl (Nat.le_of_ble_eq_true rfl) (by decide +kernel) ⟨Nat.le_of_ble_eq_true rfl, Nat.le_of_ble_eq_true rfl⟩ ⟨Nat.le_of_ble_eq_true rfl, Nat.le_of_ble_eq_true rfl⟩ rfl rfl (fun v5 => ?_)
              refine q_iald (t := 0) 73 rfl (by decide +kernel) (rfl : mKd 1 = (2, 280, 0, 0, 0)) rfl (fun j4 hj4 => ?_)
              refine q_icmp_ne 76 rfl 80 (off := 7) (by decide +kernel) rfl (fun g1 => ?_) (fun g1 => ?_)
              · refine q_iconst 0 (c := 0) 81 rfl (by decide +kernel) rfl ?_
                refine q_istore_n 3 3 82 rfl [(3, .int 0), (0, q_r (mG D tc x0 y) 0), (1, .int a1), (2, .int a2), (4, .int x2)] (by decide +kernel) rfl (Nat.le_of_ble_eq_true rfl) rfl ?_
                refine q_iinc (x2 + 1) (c := 1) 4 4 85 rfl [(4, .int (x2 + 1)), (3, .int 0), (0, q_r (mG D tc x0 y) 0), (1, .int a1), (2, .int a2)] (by decide +kernel) rfl rfl (Nat.le_of_ble_eq_true rfl) rfl ?_
                refine q_goto (off := -67) 18 (by decide +kernel) rfl ?_
                refine q_sub [2, 3, 4, 1, 0] rfl ?_
                exact ih1 0 (x2 + 1)
              · refine q_iconst 1 (c := 1) 77 rfl (by decide +kernel) rfl ?_
                refine q_goto (off := 4) 81 (by decide +kernel) rfl ?_
                refine q_istore_n 3 3 82 rfl [(3, .int 1), (0, q_r (mG D tc x0 y) 0), (1, .int a1), (2, .int a2), (4, .int x2)] (by decide +kernel) rfl (Nat.le_of_ble_eq_true rfl) rfl ?_
                refine q_iinc (x2 + 1) (c := 1) 4 4 85 rfl [(4, .int (x2 + 1)), (3, .int 1), (0, q_r (mG D tc x0 y) 0), (1, .int a1), (2, .int a2)] (by decide +kernel) rfl rfl (Nat.le_of_ble_eq_true rfl) rfl ?_
                refine q_goto (off := -67) 18 (by decide +kernel) rfl ?_
                refine q_sub [2, 3, 4, 1, 0] rfl ?_
                exact ih1 1 (x2 + 1)
  refine q_sub [2, 3, 4, 1, 0] rfl ?_
  exact hL1 _ _ _
def f_Mo_isAdmissible_L2 (I : q_I) (a1 : Int32) (x2 : Int32) (K : Int32 → Option (Int32 × q_I × q_J)) : Nat → Int32 → Int32 → Option (Int32 × q_I × q_J)
  | 0, _, _ => none
  | n + 1, x3, x4 => if x2 ≤ x4 then ((K x3)) else (if x3 = 0 then ((K x3)) else (if ((a1 >>> (x4 &&& 31)) &&& 1) = 0 then ((f_Mo_isAdmissible_L2 I a1 x2 K n 1 (x4 + 1))) else (q_b1 (f_Mo_clashes I x4 x2) (fun v2 => if v2 = 0 then ((f_Mo_isAdmissible_L2 I a1 x2 K n 1 (x4 + 1))) else ((f_Mo_isAdmissible_L2 I a1 x2 K n 0 (x4 + 1)))))))
def f_Mo_isAdmissible_L1 (I : q_I) (a1 : Int32) (K : Int32 → Option (Int32 × q_I × q_J)) : Nat → Int32 → Int32 → Option (Int32 × q_I × q_J)
  | 0, _, _ => none
  | n + 1, x1, x2 => q_ix 0 280 (fun j1 => if (I 1 j1) ≤ x2 then ((K x1)) else (if x1 = 0 then ((K x1)) else (if ((a1 >>> (x2 &&& 31)) &&& 1) = 1 then (q_b1 (f_Mo_isFounded I x2 a1) (fun v1 => f_Mo_isAdmissible_L2 I a1 x2 (fun (x5 : Int32) => (f_Mo_isAdmissible_L1 I a1 K n x5 (x2 + 1))) q_fu v1 0)) else ((f_Mo_isAdmissible_L1 I a1 K n x1 (x2 + 1))))))
def f_Mo_isAdmissible (I : q_I) (J : q_J) (a1 : Int32) : Option (Int32 × q_I × q_J) :=
  f_Mo_isAdmissible_L1 I a1 (fun (x6 : Int32) => if x6 = 0 then (some ((x6 &&& 1), I, J)) else (q_b1 (f_Mo_forms I a1) (fun I1 => q_b2 (f_Mo_isValid I1 J) (fun v3 J1 => some ((v3 &&& 1), I1, J1))))) q_fu 1 0
def y_Mo_isAdmissible : MethodName := ⟨"CalendarReplicasModel", "isAdmissible", "(I)Z"⟩
def m_Mo_isAdmissible : q_M := (prog_11_method_21_code, 5, "CalendarReplicasModel", { frames := 4, cells := 0, slots := 0, locals := 96 }, (some FieldType.boolean))
theorem yv_Mo_isAdmissible : q_Y y_Mo_isAdmissible m_Mo_isAdmissible 1 := ⟨rfl, ⟨by decide, by decide⟩, by decide +kernel, tw_6_58, tw_1_15⟩
set_option maxRecDepth 100000 in
set_option maxHeartbeats 4000000 in
theorem c_Mo_isAdmissible (l : Launch) (D : va_G) (tc : Nat → ClassId) (x0 y : Nat) (I : q_I) (J : q_J) (P : q_P) (a1 : Int32) : q_Ct l (mG D tc x0 y) y_Mo_isAdmissible m_Mo_isAdmissible [q_r (mG D tc x0 y) 0, .int a1] (I, J, P) (f_Mo_isAdmissible I J a1) (fun r : Int32 × q_I × q_J => (some (.int r.1), (r.2.1, r.2.2, P))) := by
  refine q_Ct_of (mIn D tc x0 y) (by decide) rfl (Nat.le_of_ble_eq_true rfl) rfl (fun X hX => ?_)
  subst hX
  unfold f_Mo_isAdmissible
  refine q_iconst 1 (c := 1) 1 rfl (by decide +kernel) rfl ?_
  refine q_istore_n 2 2 2 rfl [(2, .int 1), (0, q_r (mG D tc x0 y) 0), (1, .int a1)] (by decide +kernel) rfl (Nat.le_of_ble_eq_true rfl) rfl ?_
  refine q_iconst 0 (c := 0) 3 rfl (by decide +kernel) rfl ?_
  refine q_istore_n 3 3 4 rfl [(3, .int 0), (2, .int 1), (0, q_r (mG D tc x0 y) 0), (1, .int a1)] (by decide +kernel) rfl (Nat.le_of_ble_eq_true rfl) rfl ?_
  have hL1 : ∀ (K1 : Int32 → Option (Int32 × q_I × q_J)) (hK1 : ∀ (x6 : Int32), q_V (mG D tc x0 y) m_Mo_isAdmissible X (fun r : Int32 × q_I × q_J => (some (.int r.1), (r.2.1, r.2.2, P))) 0 0 84 [(0, q_r (mG D tc x0 y) 0), (1, .int a1), (2, .int x6)] [] I J P (K1 x6)) (n1_ : Nat) (x1 : Int32) (x2 : Int32), q_V (mG D tc x0 y) m_Mo_isAdmissible X (fun r : Int32 × q_I × q_J => (some (.int r.1), (r.2.1, r.2.2, P))) 0 0 4 [(0, q_r (mG D tc x0 y) 0), (1, .int a1), (2, .int x1), (3, .int x2)] [] I J P (f_Mo_isAdmissible_L1 I a1 K1 n1_ x1 x2) := by
    intro K1 hK1 n1_
    induction n1_ with
    | zero => intro x1 x2; exact q_none
    | succ n1_ ih1 =>
      intro x1 x2
      rw [f_Mo_isAdmissible_L1]
      refine q_iload_n 3 3 5 rfl (by decide +kernel) rfl ?_
      refine q_aload_n 0 0 6 rfl (by decide +kernel) rfl ?_
      refine q_getr (f := 0) 1 9 rfl (by decide +kernel) (cC_Mo D tc x0 y) (rfl : mKd 0 = (1, 0, 21, 0, 0)) (by decide) rfl rfl tw_5_212 ?_
      refine q_iconst 0 (c := 0) 10 rfl (by decide +kernel) rfl ?_
      refine q_iald (t := 0) 11 rfl (by decide +kernel) (rfl : mKd 1 = (2, 280, 0, 0, 0)) rfl (fun j1 hj1 => ?_)
      refine q_icmp_ge 14 rfl 84 (off := 73) (by decide +kernel) rfl (fun g7 => ?_) (fun g7 => ?_)
      · refine q_sub [0, 1, 2] rfl ?_
        exact hK1 x1
      · refine q_iload_n 2 2 15 rfl (by decide +kernel) rfl ?_
        refine q_if_eq 18 rfl 84 (off := 69) (by decide +kernel) rfl (fun g6 => ?_) (fun g6 => ?_)
        · refine q_sub [0, 1, 2] rfl ?_
          exact hK1 x1
        · refine q_iload_n 1 1 19 rfl (by decide +kernel) rfl ?_
          refine q_iload_n 3 3 20 rfl (by decide +kernel) rfl ?_
          refine q_ishr 21 rfl (by decide +kernel) ?_
          refine q_iconst 1 (c := 1) 22 rfl (by decide +kernel) rfl ?_
          refine q_iand 23 rfl (by decide +kernel) ?_
          refine q_iconst 1 (c := 1) 24 rfl (by decide +kernel) rfl ?_
          refine q_icmp_ne 27 rfl 78 (off := 54) (by decide +kernel) rfl (fun g5 => ?_) (fun g5 => ?_)
          · refine q_iinc (x2 + 1) (c := 1) 3 3 81 rfl [(3, .int (x2 + 1)), (0, q_r (mG D tc x0 y) 0), (1, .int a1), (2, .int x1)] (by decide +kernel) rfl rfl (Nat.le_of_ble_eq_true rfl) rfl ?_
            refine q_goto (off := -77) 4 (by decide +kernel) rfl ?_
            refine q_sub [1, 2, 3, 0] rfl ?_
            exact ih1 x1 (x2 + 1)
          · refine q_aload_n 0 0 28 rfl (by decide +kernel) rfl ?_
            refine q_iload_n 3 3 29 rfl (by decide +kernel) rfl ?_
            refine q_iload_n 1 1 30 rfl (by decide +kernel) rfl ?_
            refine q_callV_i 33 rfl (av := [.int x2, .int a1]) (o := 0) (st := []) (c_Mo_isFounded X.1 D tc x0 y I J P x2 a1) yv_Mo_isFounded tw_6_59 tw_6_61 sw_28 (cC_Mo D tc x0 y) (rfl : mKd 0 = (1, 0, 21, 0, 0)) rfl (Nat.le_of_ble_eq_true rfl) (by decide +kernel) ⟨Nat.le_of_ble_eq_true rfl, Nat.le_of_ble_eq_true rfl⟩ ⟨Nat.le_of_ble_eq_true rfl, Nat.le_of_ble_eq_true rfl⟩ rfl rfl (fun v1 => ?_)
            refine q_istore_n 2 2 34 rfl [(2, .int v1), (0, q_r (mG D tc x0 y) 0), (1, .int a1), (3, .int x2)] (by decide +kernel) rfl (Nat.le_of_ble_eq_true rfl) rfl ?_
            refine q_iconst 0 (c := 0) 35 rfl (by decide +kernel) rfl ?_
            refine q_istore 4 37 rfl [(4, .int 0), (2, .int v1), (0, q_r (mG D tc x0 y) 0), (1, .int a1), (3, .int x2)] (by decide +kernel) (Nat.le_of_ble_eq_true rfl) rfl ?_
            have hL2 : ∀ (K2 : Int32 → Option (Int32 × q_I × q_J)) (hK2 : ∀ (x5 : Int32), q_V (mG D tc x0 y) m_Mo_isAdmissible X (fun r : Int32 × q_I × q_J => (some (.int r.1), (r.2.1, r.2.2, P))) 0 0 78 [(0, q_r (mG D tc x0 y) 0), (1, .int a1), (2, .int x5), (3, .int x2)] [] I J P (K2 x5)) (n2_ : Nat) (x3 : Int32) (x4 : Int32), q_V (mG D tc x0 y) m_Mo_isAdmissible X (fun r : Int32 × q_I × q_J => (some (.int r.1), (r.2.1, r.2.2, P))) 0 0 37 [(0, q_r (mG D tc x0 y) 0), (1, .int a1), (2, .int x3), (3, .int x2), (4, .int x4)] [] I J P (f_Mo_isAdmissible_L2 I a1 x2 K2 n2_ x3 x4) := by
              intro K2 hK2 n2_
              induction n2_ with
              | zero => intro x3 x4; exact q_none
              | succ n2_ ih2 =>
                intro x3 x4
                rw [f_Mo_isAdmissible_L2]
                refine q_iload 4 4 39 rfl (by decide +kernel) rfl ?_
                refine q_iload_n 3 3 40 rfl (by decide +kernel) rfl ?_
                refine q_icmp_ge 43 rfl 78 (off := 38) (by decide +kernel) rfl (fun g4 => ?_) (fun g4 => ?_)
                · refine q_sub [0, 1, 2, 3] rfl ?_
                  exact hK2 x3
                · refine q_iload_n 2 2 44 rfl (by decide +kernel) rfl ?_
                  refine q_if_eq 47 rfl 78 (off := 34) (by decide +kernel) rfl (fun g3 => ?_) (fun g3 => ?_)
                  · refine q_sub [0, 1, 2, 3] rfl ?_
                    exact hK2 x3
                  · refine q_iload_n 1 1 48 rfl (by decide +kernel) rfl ?_
                    refine q_iload 4 4 50 rfl (by decide +kernel) rfl ?_
                    refine q_ishr 51 rfl (by decide +kernel) ?_
                    refine q_iconst 1 (c := 1) 52 rfl (by decide +kernel) rfl ?_
                    refine q_iand 53 rfl (by decide +kernel) ?_
                    refine q_if_eq 56 rfl 66 (off := 13) (by decide +kernel) rfl (fun g2 => ?_) (fun g2 => ?_)
                    · refine q_iconst 1 (c := 1) 67 rfl (by decide +kernel) rfl ?_
                      refine q_goto (off := 4) 71 (by decide +kernel) rfl ?_
                      refine q_istore_n 2 2 72 rfl [(2, .int 1), (0, q_r (mG D tc x0 y) 0), (1, .int a1), (3, .int x2), (4, .int x4)] (by decide +kernel) rfl (Nat.le_of_ble_eq_true rfl) rfl ?_
                      refine q_iinc (x4 + 1) (c := 1) 4 4 75 rfl [(4, .int (x4 + 1)), (2, .int 1), (0, q_r (mG D tc x0 y) 0), (1, .int a1), (3, .int x2)] (by decide +kernel) rfl rfl (Nat.le_of_ble_eq_true rfl) rfl ?_
                      refine q_goto (off := -38) 37 (by decide +kernel) rfl ?_
                      refine q_sub [2, 3, 1, 4, 0] rfl ?_
                      exact ih2 1 (x4 + 1)
                    · refine q_aload_n 0 0 57 rfl (by decide +kernel) rfl ?_
                      refine q_iload 4 4 59 rfl (by decide +kernel) rfl ?_
                      refine q_iload_n 3 3 60 rfl (by decide +kernel) rfl ?_
                      refine q_callV_i 63 rfl (av := [.int x4, .int x2]) (o := 0) (st := []) (c_Mo_clashes X.1 D tc x0 y I J P x4 x2) yv_Mo_clashes tw_6_70 tw_6_72 sw_30 (cC_Mo D tc x0 y) (rfl : mKd 0 = (1, 0, 21, 0, 0)) rfl (Nat.le_of_ble_eq_true rfl) (by decide +kernel) ⟨Nat.le_of_ble_eq_true rfl, Nat.le_of_ble_eq_true rfl⟩ ⟨Nat.le_of_ble_eq_true rfl, Nat.le_of_ble_eq_true rfl⟩ rfl rfl (fun v2 => ?_)
                      refine q_if_ne 66 rfl 70 (off := 7) (by decide +kernel) rfl (fun g1 => ?_) (fun g1 => ?_)
                      · refine q_iconst 0 (c := 0) 71 rfl (by decide +kernel) rfl ?_
                        refine q_istore_n 2 2 72 rfl [(2, .int 0), (0, q_r (mG D tc x0 y) 0), (1, .int a1), (3, .int x2), (4, .int x4)] (by decide +kernel) rfl (Nat.le_of_ble_eq_true rfl) rfl ?_
                        refine q_iinc (x4 + 1) (c := 1) 4 4 75 rfl [(4, .int (x4 + 1)), (2, .int 0), (0, q_r (mG D tc x0 y) 0), (1, .int a1), (3, .int x2)] (by decide +kernel) rfl rfl (Nat.le_of_ble_eq_true rfl) rfl ?_
                        refine q_goto (off := -38) 37 (by decide +kernel) rfl ?_
                        refine q_sub [2, 3, 1, 4, 0] rfl ?_
                        exact ih2 0 (x4 + 1)
                      · refine q_iconst 1 (c := 1) 67 rfl (by decide +kernel) rfl ?_
                        refine q_goto (off := 4) 71 (by decide +kernel) rfl ?_
                        refine q_istore_n 2 2 72 rfl [(2, .int 1), (0, q_r (mG D tc x0 y) 0), (1, .int a1), (3, .int x2), (4, .int x4)] (by decide +kernel) rfl (Nat.le_of_ble_eq_true rfl) rfl ?_
                        refine q_iinc (x4 + 1) (c := 1) 4 4 75 rfl [(4, .int (x4 + 1)), (2, .int 1), (0, q_r (mG D tc x0 y) 0), (1, .int a1), (3, .int x2)] (by decide +kernel) rfl rfl (Nat.le_of_ble_eq_true rfl) rfl ?_
                        refine q_goto (off := -38) 37 (by decide +kernel) rfl ?_
                        refine q_sub [2, 3, 1, 4, 0] rfl ?_
                        exact ih2 1 (x4 + 1)
            refine q_sub [2, 3, 1, 4, 0] rfl ?_
            refine hL2 _ (fun x5 => ?_) _ _ _
            refine q_iinc (x2 + 1) (c := 1) 3 3 81 rfl [(3, .int (x2 + 1)), (0, q_r (mG D tc x0 y) 0), (1, .int a1), (2, .int x5)] (by decide +kernel) rfl rfl (Nat.le_of_ble_eq_true rfl) rfl ?_
            refine q_goto (off := -77) 4 (by decide +kernel) rfl ?_
            refine q_sub [1, 2, 3, 0] rfl ?_
            exact ih1 x5 (x2 + 1)
  refine q_sub [2, 3, 1, 0] rfl ?_
  refine hL1 _ (fun x6 => ?_) _ _ _
  refine q_iload_n 2 2 85 rfl (by decide +kernel) rfl ?_
  refine q_if_eq 88 rfl 98 (off := 13) (by decide +kernel) rfl (fun g8 => ?_) (fun g8 => ?_)
  · refine q_iload_n 2 2 99 rfl (by decide +kernel) rfl ?_
    exact q_zret (w := (x6 &&& 1)) (by decide +kernel) rfl rfl rfl (Nat.le_of_ble_eq_true rfl) (Nat.le_of_ble_eq_true rfl)
  · refine q_aload_n 0 0 89 rfl (by decide +kernel) rfl ?_
    refine q_iload_n 1 1 90 rfl (by decide +kernel) rfl ?_
    refine q_callV_vI 93 rfl (av := [.int a1]) (o := 0) (st := []) (c_Mo_forms X.1 D tc x0 y I J P a1) yv_Mo_forms tw_6_78 tw_6_80 sw_32 (cC_Mo D tc x0 y) (rfl : mKd 0 = (1, 0, 21, 0, 0)) rfl (Nat.le_of_ble_eq_true rfl) (by decide +kernel) ⟨Nat.le_of_ble_eq_true rfl, Nat.le_of_ble_eq_true rfl⟩ ⟨Nat.le_of_ble_eq_true rfl, Nat.le_of_ble_eq_true rfl⟩ rfl rfl (fun I1 => ?_)
    refine q_aload_n 0 0 94 rfl (by decide +kernel) rfl ?_
    refine q_callV_iJ 97 rfl (av := []) (o := 0) (st := []) (c_Mo_isValid X.1 D tc x0 y I1 J P ) yv_Mo_isValid tw_6_93 tw_6_95 sw_35 (cC_Mo D tc x0 y) (rfl : mKd 0 = (1, 0, 21, 0, 0)) rfl (Nat.le_of_ble_eq_true rfl) (by decide +kernel) ⟨Nat.le_of_ble_eq_true rfl, Nat.le_of_ble_eq_true rfl⟩ ⟨Nat.le_of_ble_eq_true rfl, Nat.le_of_ble_eq_true rfl⟩ rfl rfl (fun v3 J1 => ?_)
    refine q_istore_n 2 2 98 rfl [(2, .int v3), (0, q_r (mG D tc x0 y) 0), (1, .int a1)] (by decide +kernel) rfl (Nat.le_of_ble_eq_true rfl) rfl ?_
    refine q_iload_n 0 2 99 rfl (by decide +kernel) rfl ?_
    exact q_zret (w := (v3 &&& 1)) (by decide +kernel) rfl rfl rfl (Nat.le_of_ble_eq_true rfl) (Nat.le_of_ble_eq_true rfl)
def f_Mo_weight_L1 (I : q_I) (a1 : Int32) : Nat → Int32 → Int32 → Option (Int32)
  | 0, _, _ => none
  | n + 1, x1, x2 => q_ix 0 280 (fun j1 => if (I 1 j1) ≤ x2 then (some (x1)) else (if ((a1 >>> (x2 &&& 31)) &&& 1) = 1 then (q_b1 (f_Mo_edit x2 2) (fun v1 => q_ix v1 280 (fun j2 => q_l (x1 + (I 1 j2) : Int32) (fun x4 => (f_Mo_weight_L1 I a1 n x4 (x2 + 1)))))) else (q_l (x1 + 0 : Int32) (fun x3 => (f_Mo_weight_L1 I a1 n x3 (x2 + 1))))))
def f_Mo_weight (I : q_I) (a1 : Int32) : Option (Int32) :=
  f_Mo_weight_L1 I a1 q_fu 0 0
def y_Mo_weight : MethodName := ⟨"CalendarReplicasModel", "weight", "(I)I"⟩
def m_Mo_weight : q_M := (prog_11_method_22_code, 4, "CalendarReplicasModel", { frames := 1, cells := 0, slots := 0, locals := 21 }, (some FieldType.int))
theorem yv_Mo_weight : q_Y y_Mo_weight m_Mo_weight 1 := ⟨rfl, ⟨by decide, by decide⟩, by decide +kernel, tw_6_153, tw_1_15⟩
set_option maxRecDepth 100000 in
set_option maxHeartbeats 4000000 in
theorem c_Mo_weight (l : Launch) (D : va_G) (tc : Nat → ClassId) (x0 y : Nat) (I : q_I) (J : q_J) (P : q_P) (a1 : Int32) : q_Ct l (mG D tc x0 y) y_Mo_weight m_Mo_weight [q_r (mG D tc x0 y) 0, .int a1] (I, J, P) (f_Mo_weight I a1) (fun r : Int32 => (some (.int r), (I, J, P))) := by
  refine q_Ct_of (mIn D tc x0 y) (by decide) rfl (Nat.le_of_ble_eq_true rfl) rfl (fun X hX => ?_)
  subst hX
  unfold f_Mo_weight
  refine q_iconst 0 (c := 0) 1 rfl (by decide +kernel) rfl ?_
  refine q_istore_n 2 2 2 rfl [(2, .int 0), (0, q_r (mG D tc x0 y) 0), (1, .int a1)] (by decide +kernel) rfl (Nat.le_of_ble_eq_true rfl) rfl ?_
  refine q_iconst 0 (c := 0) 3 rfl (by decide +kernel) rfl ?_
  refine q_istore_n 3 3 4 rfl [(3, .int 0), (2, .int 0), (0, q_r (mG D tc x0 y) 0), (1, .int a1)] (by decide +kernel) rfl (Nat.le_of_ble_eq_true rfl) rfl ?_
  have hL1 : ∀ (n1_ : Nat) (x1 : Int32) (x2 : Int32), q_V (mG D tc x0 y) m_Mo_weight X (fun r : Int32 => (some (.int r), (I, J, P))) 0 0 4 [(0, q_r (mG D tc x0 y) 0), (1, .int a1), (2, .int x1), (3, .int x2)] [] I J P (f_Mo_weight_L1 I a1 n1_ x1 x2) := by
    intro n1_
    induction n1_ with
    | zero => intro x1 x2; exact q_none
    | succ n1_ ih1 =>
      intro x1 x2
      rw [f_Mo_weight_L1]
      refine q_iload_n 3 3 5 rfl (by decide +kernel) rfl ?_
      refine q_aload_n 0 0 6 rfl (by decide +kernel) rfl ?_
      refine q_getr (f := 0) 1 9 rfl (by decide +kernel) (cC_Mo D tc x0 y) (rfl : mKd 0 = (1, 0, 21, 0, 0)) (by decide) rfl rfl tw_5_212 ?_
      refine q_iconst 0 (c := 0) 10 rfl (by decide +kernel) rfl ?_
      refine q_iald (t := 0) 11 rfl (by decide +kernel) (rfl : mKd 1 = (2, 280, 0, 0, 0)) rfl (fun j1 hj1 => ?_)
      refine q_icmp_ge 14 rfl 46 (off := 35) (by decide +kernel) rfl (fun g2 => ?_) (fun g2 => ?_)
      · refine q_iload_n 2 2 47 rfl (by decide +kernel) rfl ?_
        exact q_iret (by decide +kernel) rfl rfl (Nat.le_of_ble_eq_true rfl) (Nat.le_of_ble_eq_true rfl)
      · refine q_iload_n 2 2 15 rfl (by decide +kernel) rfl ?_
        refine q_iload_n 1 1 16 rfl (by decide +kernel) rfl ?_
        refine q_iload_n 3 3 17 rfl (by decide +kernel) rfl ?_
        refine q_ishr 18 rfl (by decide +kernel) ?_
        refine q_iconst 1 (c := 1) 19 rfl (by decide +kernel) rfl ?_
        refine q_iand 20 rfl (by decide +kernel) ?_
        refine q_iconst 1 (c := 1) 21 rfl (by decide +kernel) rfl ?_
        refine q_icmp_ne 24 rfl 37 (off := 16) (by decide +kernel) rfl (fun g1 => ?_) (fun g1 => ?_)
        · refine q_iconst 0 (c := 0) 38 rfl (by decide +kernel) rfl ?_
          refine q_iadd 39 rfl (by decide +kernel) ?_
          refine q_leti (fun x3 => ?_)
          refine q_istore_n 2 2 40 rfl [(2, .int x3), (0, q_r (mG D tc x0 y) 0), (1, .int a1), (3, .int x2)] (by decide +kernel) rfl (Nat.le_of_ble_eq_true rfl) rfl ?_
          refine q_iinc (x2 + 1) (c := 1) 3 3 43 rfl [(3, .int (x2 + 1)), (2, .int x3), (0, q_r (mG D tc x0 y) 0), (1, .int a1)] (by decide +kernel) rfl rfl (Nat.le_of_ble_eq_true rfl) rfl ?_
          refine q_goto (off := -39) 4 (by decide +kernel) rfl ?_
          refine q_sub [2, 3, 1, 0] rfl ?_
          exact ih1 x3 (x2 + 1)
        · refine q_aload_n 0 0 25 rfl (by decide +kernel) rfl ?_
          refine q_getr (f := 0) 1 28 rfl (by decide +kernel) (cC_Mo D tc x0 y) (rfl : mKd 0 = (1, 0, 21, 0, 0)) (by decide) rfl rfl tw_5_212 ?_
          refine q_iload_n 3 3 29 rfl (by decide +kernel) rfl ?_
          refine q_iconst 2 (c := 2) 30 rfl (by decide +kernel) rfl ?_
          refine q_callS_i 33 rfl (av := [.int x2, .int 2]) (st := [q_r (mG D tc x0 y) 1, .int x1]) (c_Mo_edit X.1 D tc x0 y I J P x2 2) yv_Mo_edit tw_6_63 tw_6_64 rfl (Nat.le_of_ble_eq_true rfl) (by decide +kernel) ⟨Nat.le_of_ble_eq_true rfl, Nat.le_of_ble_eq_true rfl⟩ ⟨Nat.le_of_ble_eq_true rfl, Nat.le_of_ble_eq_true rfl⟩ rfl rfl (fun v1 => ?_)
          refine q_iald (t := 0) 34 rfl (by decide +kernel) (rfl : mKd 1 = (2, 280, 0, 0, 0)) rfl (fun j2 hj2 => ?_)
          refine q_goto (off := 4) 38 (by decide +kernel) rfl ?_
          refine q_iadd 39 rfl (by decide +kernel) ?_
          refine q_leti (fun x4 => ?_)
          refine q_istore_n 2 2 40 rfl [(2, .int x4), (0, q_r (mG D tc x0 y) 0), (1, .int a1), (3, .int x2)] (by decide +kernel) rfl (Nat.le_of_ble_eq_true rfl) rfl ?_
          refine q_iinc (x2 + 1) (c := 1) 3 3 43 rfl [(3, .int (x2 + 1)), (2, .int x4), (0, q_r (mG D tc x0 y) 0), (1, .int a1)] (by decide +kernel) rfl rfl (Nat.le_of_ble_eq_true rfl) rfl ?_
          refine q_goto (off := -39) 4 (by decide +kernel) rfl ?_
          refine q_sub [2, 3, 1, 0] rfl ?_
          exact ih1 x4 (x2 + 1)
  refine q_sub [2, 3, 1, 0] rfl ?_
  exact hL1 _ _ _
def f_Mo_usable_L1 (I : q_I) (x1 : Int32) : Nat → Int32 → Int32 → Option (Int32)
  | 0, _, _ => none
  | n + 1, x2, x3 => q_ix 0 280 (fun j2 => if (I 1 j2) ≤ x3 then (some (x2)) else (if ((x1 >>> (x3 &&& 31)) &&& 1) = 1 then (q_b1 (f_Mo_isFounded I x3 x1) (fun v1 => if v1 = 0 then (q_l (x2 ||| 0 : Int32) (fun x5 => (f_Mo_usable_L1 I x1 n x5 (x3 + 1)))) else (q_l (x2 ||| (1 <<< (x3 &&& 31)) : Int32) (fun x6 => (f_Mo_usable_L1 I x1 n x6 (x3 + 1)))))) else (q_l (x2 ||| 0 : Int32) (fun x4 => (f_Mo_usable_L1 I x1 n x4 (x3 + 1))))))
def f_Mo_usable (I : q_I) (a1 : Int32) : Option (Int32) :=
  q_ix (4 + a1) 280 (fun j1 => q_l (I 1 j1 : Int32) (fun x1 => f_Mo_usable_L1 I x1 q_fu 0 0))
def y_Mo_usable : MethodName := ⟨"CalendarReplicasModel", "usable", "(I)I"⟩
def m_Mo_usable : q_M := (prog_11_method_23_code, 5, "CalendarReplicasModel", { frames := 2, cells := 0, slots := 0, locals := 47 }, (some FieldType.int))
theorem yv_Mo_usable : q_Y y_Mo_usable m_Mo_usable 1 := ⟨rfl, ⟨by decide, by decide⟩, by decide +kernel, tw_6_149, tw_1_15⟩
set_option maxRecDepth 100000 in
set_option maxHeartbeats 4000000 in
theorem c_Mo_usable (l : Launch) (D : va_G) (tc : Nat → ClassId) (x0 y : Nat) (I : q_I) (J : q_J) (P : q_P) (a1 : Int32) : q_Ct l (mG D tc x0 y) y_Mo_usable m_Mo_usable [q_r (mG D tc x0 y) 0, .int a1] (I, J, P) (f_Mo_usable I a1) (fun r : Int32 => (some (.int r), (I, J, P))) := by
  refine q_Ct_of (mIn D tc x0 y) (by decide) rfl (Nat.le_of_ble_eq_true rfl) rfl (fun X hX => ?_)
  subst hX
  unfold f_Mo_usable
  refine q_aload_n 0 0 1 rfl (by decide +kernel) rfl ?_
  refine q_getr (f := 0) 1 4 rfl (by decide +kernel) (cC_Mo D tc x0 y) (rfl : mKd 0 = (1, 0, 21, 0, 0)) (by decide) rfl rfl tw_5_212 ?_
  refine q_iconst 4 (c := 4) 5 rfl (by decide +kernel) rfl ?_
  refine q_iload_n 1 1 6 rfl (by decide +kernel) rfl ?_
  refine q_iadd 7 rfl (by decide +kernel) ?_
  refine q_iald (t := 0) 8 rfl (by decide +kernel) (rfl : mKd 1 = (2, 280, 0, 0, 0)) rfl (fun j1 hj1 => ?_)
  refine q_leti (fun x1 => ?_)
  refine q_istore_n 2 2 9 rfl [(2, .int x1), (0, q_r (mG D tc x0 y) 0), (1, .int a1)] (by decide +kernel) rfl (Nat.le_of_ble_eq_true rfl) rfl ?_
  refine q_iconst 0 (c := 0) 10 rfl (by decide +kernel) rfl ?_
  refine q_istore_n 3 3 11 rfl [(3, .int 0), (2, .int x1), (0, q_r (mG D tc x0 y) 0), (1, .int a1)] (by decide +kernel) rfl (Nat.le_of_ble_eq_true rfl) rfl ?_
  refine q_iconst 0 (c := 0) 12 rfl (by decide +kernel) rfl ?_
  refine q_istore 4 14 rfl [(4, .int 0), (3, .int 0), (2, .int x1), (0, q_r (mG D tc x0 y) 0), (1, .int a1)] (by decide +kernel) (Nat.le_of_ble_eq_true rfl) rfl ?_
  have hL1 : ∀ (n1_ : Nat) (x2 : Int32) (x3 : Int32), q_V (mG D tc x0 y) m_Mo_usable X (fun r : Int32 => (some (.int r), (I, J, P))) 0 0 14 [(0, q_r (mG D tc x0 y) 0), (2, .int x1), (3, .int x2), (4, .int x3)] [] I J P (f_Mo_usable_L1 I x1 n1_ x2 x3) := by
    intro n1_
    induction n1_ with
    | zero => intro x2 x3; exact q_none
    | succ n1_ ih1 =>
      intro x2 x3
      rw [f_Mo_usable_L1]
      refine q_iload 3 4 16 rfl (by decide +kernel) rfl ?_
      refine q_aload_n 0 0 17 rfl (by decide +kernel) rfl ?_
      refine q_getr (f := 0) 1 20 rfl (by decide +kernel) (cC_Mo D tc x0 y) (rfl : mKd 0 = (1, 0, 21, 0, 0)) (by decide) rfl rfl tw_5_212 ?_
      refine q_iconst 0 (c := 0) 21 rfl (by decide +kernel) rfl ?_
      refine q_iald (t := 0) 22 rfl (by decide +kernel) (rfl : mKd 1 = (2, 280, 0, 0, 0)) rfl (fun j2 hj2 => ?_)
      refine q_icmp_ge 25 rfl 62 (off := 40) (by decide +kernel) rfl (fun g3 => ?_) (fun g3 => ?_)
      · refine q_iload_n 2 3 63 rfl (by decide +kernel) rfl ?_
        exact q_iret (by decide +kernel) rfl rfl (Nat.le_of_ble_eq_true rfl) (Nat.le_of_ble_eq_true rfl)
      · refine q_iload_n 2 3 26 rfl (by decide +kernel) rfl ?_
        refine q_iload_n 1 2 27 rfl (by decide +kernel) rfl ?_
        refine q_iload 3 4 29 rfl (by decide +kernel) rfl ?_
        refine q_ishr 30 rfl (by decide +kernel) ?_
        refine q_iconst 1 (c := 1) 31 rfl (by decide +kernel) rfl ?_
        refine q_iand 32 rfl (by decide +kernel) ?_
        refine q_iconst 1 (c := 1) 33 rfl (by decide +kernel) rfl ?_
        refine q_icmp_ne 36 rfl 53 (off := 20) (by decide +kernel) rfl (fun g2 => ?_) (fun g2 => ?_)
        · refine q_iconst 0 (c := 0) 54 rfl (by decide +kernel) rfl ?_
          refine q_ior 55 rfl (by decide +kernel) ?_
          refine q_leti (fun x4 => ?_)
          refine q_istore_n 3 3 56 rfl [(3, .int x4), (0, q_r (mG D tc x0 y) 0), (2, .int x1), (4, .int x3)] (by decide +kernel) rfl (Nat.le_of_ble_eq_true rfl) rfl ?_
          refine q_iinc (x3 + 1) (c := 1) 4 3 59 rfl [(4, .int (x3 + 1)), (3, .int x4), (0, q_r (mG D tc x0 y) 0), (2, .int x1)] (by decide +kernel) rfl rfl (Nat.le_of_ble_eq_true rfl) rfl ?_
          refine q_goto (off := -45) 14 (by decide +kernel) rfl ?_
          refine q_sub [2, 3, 1, 0] rfl ?_
          exact ih1 x4 (x3 + 1)
        · refine q_aload_n 0 0 37 rfl (by decide +kernel) rfl ?_
          refine q_iload 3 4 39 rfl (by decide +kernel) rfl ?_
          refine q_iload_n 1 2 40 rfl (by decide +kernel) rfl ?_
          refine q_callV_i 43 rfl (av := [.int x3, .int x1]) (o := 0) (st := [.int x2]) (c_Mo_isFounded X.1 D tc x0 y I J P x3 x1) yv_Mo_isFounded tw_6_59 tw_6_61 sw_28 (cC_Mo D tc x0 y) (rfl : mKd 0 = (1, 0, 21, 0, 0)) rfl (Nat.le_of_ble_eq_true rfl) (by decide +kernel) ⟨Nat.le_of_ble_eq_true rfl, Nat.le_of_ble_eq_true rfl⟩ ⟨Nat.le_of_ble_eq_true rfl, Nat.le_of_ble_eq_true rfl⟩ rfl rfl (fun v1 => ?_)
          refine q_if_eq 46 rfl 53 (off := 10) (by decide +kernel) rfl (fun g1 => ?_) (fun g1 => ?_)
          · refine q_iconst 0 (c := 0) 54 rfl (by decide +kernel) rfl ?_
            refine q_ior 55 rfl (by decide +kernel) ?_
            refine q_leti (fun x5 => ?_)
            refine q_istore_n 3 3 56 rfl [(3, .int x5), (0, q_r (mG D tc x0 y) 0), (2, .int x1), (4, .int x3)] (by decide +kernel) rfl (Nat.le_of_ble_eq_true rfl) rfl ?_
            refine q_iinc (x3 + 1) (c := 1) 4 3 59 rfl [(4, .int (x3 + 1)), (3, .int x5), (0, q_r (mG D tc x0 y) 0), (2, .int x1)] (by decide +kernel) rfl rfl (Nat.le_of_ble_eq_true rfl) rfl ?_
            refine q_goto (off := -45) 14 (by decide +kernel) rfl ?_
            refine q_sub [2, 3, 1, 0] rfl ?_
            exact ih1 x5 (x3 + 1)
          · refine q_iconst 1 (c := 1) 47 rfl (by decide +kernel) rfl ?_
            refine q_iload 3 4 49 rfl (by decide +kernel) rfl ?_
            refine q_ishl 50 rfl (by decide +kernel) ?_
            refine q_goto (off := 4) 54 (by decide +kernel) rfl ?_
            refine q_ior 55 rfl (by decide +kernel) ?_
            refine q_leti (fun x6 => ?_)
            refine q_istore_n 3 3 56 rfl [(3, .int x6), (0, q_r (mG D tc x0 y) 0), (2, .int x1), (4, .int x3)] (by decide +kernel) rfl (Nat.le_of_ble_eq_true rfl) rfl ?_
            refine q_iinc (x3 + 1) (c := 1) 4 3 59 rfl [(4, .int (x3 + 1)), (3, .int x6), (0, q_r (mG D tc x0 y) 0), (2, .int x1)] (by decide +kernel) rfl rfl (Nat.le_of_ble_eq_true rfl) rfl ?_
            refine q_goto (off := -45) 14 (by decide +kernel) rfl ?_
            refine q_sub [2, 3, 1, 0] rfl ?_
            exact ih1 x6 (x3 + 1)
  refine q_sub [3, 2, 1, 0] rfl ?_
  exact hL1 _ _ _
def f_Mo_bestWith_L1 (a2 : Int32) (v1 : Int32) : Nat → Int32 → Int32 → Int32 → Int32 → q_I → q_J → Option (Int32 × q_I × q_J)
  | 0, _, _, _, _, _, _ => none
  | n + 1, x1, x2, x3, x4, I1, J1 => if x4 = 0 then (some (x1, I1, J1)) else (q_b4 (if (x3 &&& a2) = a2 then (q_b1 (f_Mo_weight I1 x3) (fun v2 => q_l (x3 ^^^ x1 : Int32) (fun x9 => q_b1 (if x1 < 0 then ((some (1))) else (if x2 < v2 then ((some (1))) else (if v2 = x2 then (if ((x3 &&& x9) &&& (-x9)) = 0 then ((some (0))) else ((some (1)))) else ((some (0))))) : Option (Int32)) (fun (x10 : Int32) => if x10 = 0 then ((some (x1, x2, I1, J1))) else (q_b3 (f_Mo_isAdmissible I1 J1 x3) (fun v3 I3 J3 => if v3 = 0 then ((some (x1, x2, I3, J3))) else ((some (x3, v2, I3, J3))))))))) else ((some (x1, x2, I1, J1))) : Option (Int32 × Int32 × q_I × q_J)) (fun (x5 : Int32) (x6 : Int32) (I2 : q_I) (J2 : q_J) => if x3 = 0 then (q_l ((x3 - 1) &&& v1 : Int32) (fun x7 => (f_Mo_bestWith_L1 a2 v1 n x5 x6 x7 0 I2 J2))) else (q_l ((x3 - 1) &&& v1 : Int32) (fun x8 => (f_Mo_bestWith_L1 a2 v1 n x5 x6 x8 1 I2 J2)))))
def f_Mo_bestWith (I : q_I) (J : q_J) (a1 : Int32) (a2 : Int32) : Option (Int32 × q_I × q_J) :=
  q_b1 (f_Mo_usable I a1) (fun v1 => f_Mo_bestWith_L1 a2 v1 q_fu (-1) 0 v1 1 I J)
def y_Mo_bestWith : MethodName := ⟨"CalendarReplicasModel", "bestWith", "(II)I"⟩
def m_Mo_bestWith : q_M := (prog_11_method_24_code, 11, "CalendarReplicasModel", { frames := 5, cells := 0, slots := 0, locals := 120 }, (some FieldType.int))
theorem yv_Mo_bestWith : q_Y y_Mo_bestWith m_Mo_bestWith 2 := ⟨rfl, ⟨by decide, by decide⟩, by decide +kernel, tw_6_145, tw_1_15⟩
set_option maxRecDepth 100000 in
set_option maxHeartbeats 4000000 in
theorem c_Mo_bestWith (l : Launch) (D : va_G) (tc : Nat → ClassId) (x0 y : Nat) (I : q_I) (J : q_J) (P : q_P) (a1 : Int32) (a2 : Int32) : q_Ct l (mG D tc x0 y) y_Mo_bestWith m_Mo_bestWith [q_r (mG D tc x0 y) 0, .int a1, .int a2] (I, J, P) (f_Mo_bestWith I J a1 a2) (fun r : Int32 × q_I × q_J => (some (.int r.1), (r.2.1, r.2.2, P))) := by
  refine q_Ct_of (mIn D tc x0 y) (by decide) rfl (Nat.le_of_ble_eq_true rfl) rfl (fun X hX => ?_)
  subst hX
  unfold f_Mo_bestWith
  refine q_aload_n 0 0 1 rfl (by decide +kernel) rfl ?_
  refine q_iload_n 1 1 2 rfl (by decide +kernel) rfl ?_
  refine q_callV_i 5 rfl (av := [.int a1]) (o := 0) (st := []) (c_Mo_usable X.1 D tc x0 y I J P a1) yv_Mo_usable tw_6_146 tw_6_148 sw_44 (cC_Mo D tc x0 y) (rfl : mKd 0 = (1, 0, 21, 0, 0)) rfl (Nat.le_of_ble_eq_true rfl) (by decide +kernel) ⟨Nat.le_of_ble_eq_true rfl, Nat.le_of_ble_eq_true rfl⟩ ⟨Nat.le_of_ble_eq_true rfl, Nat.le_of_ble_eq_true rfl⟩ rfl rfl (fun v1 => ?_)
  refine q_istore_n 3 3 6 rfl [(3, .int v1), (0, q_r (mG D tc x0 y) 0), (1, .int a1), (2, .int a2)] (by decide +kernel) rfl (Nat.le_of_ble_eq_true rfl) rfl ?_
  refine q_iconst (-1) (c := -1) 7 rfl (by decide +kernel) rfl ?_
  refine q_istore 4 9 rfl [(4, .int (-1)), (3, .int v1), (0, q_r (mG D tc x0 y) 0), (1, .int a1), (2, .int a2)] (by decide +kernel) (Nat.le_of_ble_eq_true rfl) rfl ?_
  refine q_iconst 0 (c := 0) 10 rfl (by decide +kernel) rfl ?_
  refine q_istore 5 12 rfl [(5, .int 0), (4, .int (-1)), (3, .int v1), (0, q_r (mG D tc x0 y) 0), (1, .int a1), (2, .int a2)] (by decide +kernel) (Nat.le_of_ble_eq_true rfl) rfl ?_
  refine q_iload_n 2 3 13 rfl (by decide +kernel) rfl ?_
  refine q_istore 6 15 rfl [(6, .int v1), (5, .int 0), (4, .int (-1)), (3, .int v1), (0, q_r (mG D tc x0 y) 0), (1, .int a1), (2, .int a2)] (by decide +kernel) (Nat.le_of_ble_eq_true rfl) rfl ?_
  refine q_iconst 1 (c := 1) 16 rfl (by decide +kernel) rfl ?_
  refine q_istore 7 18 rfl [(7, .int 1), (6, .int v1), (5, .int 0), (4, .int (-1)), (3, .int v1), (0, q_r (mG D tc x0 y) 0), (1, .int a1), (2, .int a2)] (by decide +kernel) (Nat.le_of_ble_eq_true rfl) rfl ?_
  have hL1 : ∀ (n1_ : Nat) (x1 : Int32) (x2 : Int32) (x3 : Int32) (x4 : Int32) (I1 : q_I) (J1 : q_J), q_V (mG D tc x0 y) m_Mo_bestWith X (fun r : Int32 × q_I × q_J => (some (.int r.1), (r.2.1, r.2.2, P))) 0 0 18 [(0, q_r (mG D tc x0 y) 0), (2, .int a2), (3, .int v1), (4, .int x1), (5, .int x2), (6, .int x3), (7, .int x4)] [] I1 J1 P (f_Mo_bestWith_L1 a2 v1 n1_ x1 x2 x3 x4 I1 J1) := by
    intro n1_
    induction n1_ with
    | zero => intro x1 x2 x3 x4 I1 J1; exact q_none
    | succ n1_ ih1 =>
      intro x1 x2 x3 x4 I1 J1
      rw [f_Mo_bestWith_L1]
      refine q_iload 6 7 20 rfl (by decide +kernel) rfl ?_
      refine q_if_eq 23 rfl 129 (off := 109) (by decide +kernel) rfl (fun g9 => ?_) (fun g9 => ?_)
      · refine q_iload 3 4 131 rfl (by decide +kernel) rfl ?_
        exact q_iret (by decide +kernel) rfl rfl (Nat.le_of_ble_eq_true rfl) (Nat.le_of_ble_eq_true rfl)
      · refine q_iload 5 6 25 rfl (by decide +kernel) rfl ?_
        refine q_iload_n 1 2 26 rfl (by decide +kernel) rfl ?_
        refine q_iand 27 rfl (by decide +kernel) ?_
        refine q_iload_n 1 2 28 rfl (by decide +kernel) rfl ?_
        refine q_jn4 106 (fun x5 x6 I2 J2 => [(0, q_r (mG D tc x0 y) 0), (2, .int a2), (3, .int v1), (4, .int x5), (5, .int x6), (6, .int x3)]) (fun x5 x6 I2 J2 => []) (fun x5 x6 I2 J2 => I2) (fun x5 x6 I2 J2 => J2) (fun x5 x6 I2 J2 => P) (fun jk1 => if (x3 &&& a2) = a2 then (q_b1 (f_Mo_weight I1 x3) (fun v2 => q_l (x3 ^^^ x1 : Int32) (fun x9 => q_b1 (if x1 < 0 then ((some (1))) else (if x2 < v2 then ((some (1))) else (if v2 = x2 then (if ((x3 &&& x9) &&& (-x9)) = 0 then ((some (0))) else ((some (1)))) else ((some (0))))) : Option (Int32)) (fun (x10 : Int32) => if x10 = 0 then ((jk1 (x1, x2, I1, J1))) else (q_b3 (f_Mo_isAdmissible I1 J1 x3) (fun v3 I3 J3 => if v3 = 0 then ((jk1 (x1, x2, I3, J3))) else ((jk1 (x3, v2, I3, J3))))))))) else ((jk1 (x1, x2, I1, J1)))) (by intro jk1; simp only [q_b1_if, q_b1_s, q_b1_n, q_b1_ix, q_b1_b1, q_b1_b2, q_b1_b3, q_b1_l, q_b1_ck, q_b1_el]) ?_ ?_
        · intro x5 x6 I2 J2
          refine q_iload 5 6 108 rfl (by decide +kernel) rfl ?_
          refine q_if_eq 111 rfl 115 (off := 7) (by decide +kernel) rfl (fun g1 => ?_) (fun g1 => ?_)
          · refine q_iconst 0 (c := 0) 116 rfl (by decide +kernel) rfl ?_
            refine q_istore 7 118 rfl [(7, .int 0), (0, q_r (mG D tc x0 y) 0), (2, .int a2), (3, .int v1), (4, .int x5), (5, .int x6), (6, .int x3)] (by decide +kernel) (Nat.le_of_ble_eq_true rfl) rfl ?_
            refine q_iload 6 6 120 rfl (by decide +kernel) rfl ?_
            refine q_iconst 1 (c := 1) 121 rfl (by decide +kernel) rfl ?_
            refine q_isub 122 rfl (by decide +kernel) ?_
            refine q_iload_n 3 3 123 rfl (by decide +kernel) rfl ?_
            refine q_iand 124 rfl (by decide +kernel) ?_
            refine q_leti (fun x7 => ?_)
            refine q_istore 6 126 rfl [(6, .int x7), (7, .int 0), (0, q_r (mG D tc x0 y) 0), (2, .int a2), (3, .int v1), (4, .int x5), (5, .int x6)] (by decide +kernel) (Nat.le_of_ble_eq_true rfl) rfl ?_
            refine q_goto (off := -108) 18 (by decide +kernel) rfl ?_
            refine q_sub [2, 3, 4, 5, 6, 0, 1] rfl ?_
            exact ih1 x5 x6 x7 0 I2 J2
          · refine q_iconst 1 (c := 1) 112 rfl (by decide +kernel) rfl ?_
            refine q_goto (off := 4) 116 (by decide +kernel) rfl ?_
            refine q_istore 7 118 rfl [(7, .int 1), (0, q_r (mG D tc x0 y) 0), (2, .int a2), (3, .int v1), (4, .int x5), (5, .int x6), (6, .int x3)] (by decide +kernel) (Nat.le_of_ble_eq_true rfl) rfl ?_
            refine q_iload 6 6 120 rfl (by decide +kernel) rfl ?_
            refine q_iconst 1 (c := 1) 121 rfl (by decide +kernel) rfl ?_
            refine q_isub 122 rfl (by decide +kernel) ?_
            refine q_iload_n 3 3 123 rfl (by decide +kernel) rfl ?_
            refine q_iand 124 rfl (by decide +kernel) ?_
            refine q_leti (fun x8 => ?_)
            refine q_istore 6 126 rfl [(6, .int x8), (7, .int 1), (0, q_r (mG D tc x0 y) 0), (2, .int a2), (3, .int v1), (4, .int x5), (5, .int x6)] (by decide +kernel) (Nat.le_of_ble_eq_true rfl) rfl ?_
            refine q_goto (off := -108) 18 (by decide +kernel) rfl ?_
            refine q_sub [2, 3, 4, 5, 6, 0, 1] rfl ?_
            exact ih1 x5 x6 x8 1 I2 J2
        · intro jk1 hq1
          refine q_icmp_ne 31 rfl 106 (off := 78) (by decide +kernel) rfl (fun g8 => ?_) (fun g8 => ?_)
          · refine q_sub [0, 1, 2, 3, 4, 5] rfl ?_
            exact hq1 x1 x2 I1 J1
          · refine q_aload_n 0 0 32 rfl (by decide +kernel) rfl ?_
            refine q_iload 5 6 34 rfl (by decide +kernel) rfl ?_
            refine q_callV_i 37 rfl (av := [.int x3]) (o := 0) (st := []) (c_Mo_weight X.1 D tc x0 y I1 J1 P x3) yv_Mo_weight tw_6_150 tw_6_152 sw_45 (cC_Mo D tc x0 y) (rfl : mKd 0 = (1, 0, 21, 0, 0)) rfl (Nat.le_of_ble_eq_true rfl) (by decide +kernel) ⟨Nat.le_of_ble_eq_true rfl, Nat.le_of_ble_eq_true rfl⟩ ⟨Nat.le_of_ble_eq_true rfl, Nat.le_of_ble_eq_true rfl⟩ rfl rfl (fun v2 => ?_)
            refine q_istore 8 39 rfl [(8, .int v2), (0, q_r (mG D tc x0 y) 0), (2, .int a2), (3, .int v1), (4, .int x1), (5, .int x2), (6, .int x3), (7, .int x4)] (by decide +kernel) (Nat.le_of_ble_eq_true rfl) rfl ?_
            refine q_iload 6 6 41 rfl (by decide +kernel) rfl ?_
            refine q_iload 4 4 43 rfl (by decide +kernel) rfl ?_
            refine q_ixor 44 rfl (by decide +kernel) ?_
            refine q_leti (fun x9 => ?_)
            refine q_istore 9 46 rfl [(9, .int x9), (8, .int v2), (0, q_r (mG D tc x0 y) 0), (2, .int a2), (3, .int v1), (4, .int x1), (5, .int x2), (6, .int x3), (7, .int x4)] (by decide +kernel) (Nat.le_of_ble_eq_true rfl) rfl ?_
            refine q_iload 5 4 48 rfl (by decide +kernel) rfl ?_
            refine q_jn1 82 (fun x10 => [(0, q_r (mG D tc x0 y) 0), (2, .int a2), (3, .int v1), (4, .int x1), (5, .int x2), (6, .int x3), (8, .int v2)]) (fun x10 => [.int x10]) (fun x10 => I1) (fun x10 => J1) (fun x10 => P) (fun jk2 => if x1 < 0 then ((jk2 (1))) else (if x2 < v2 then ((jk2 (1))) else (if v2 = x2 then (if ((x3 &&& x9) &&& (-x9)) = 0 then ((jk2 (0))) else ((jk2 (1)))) else ((jk2 (0)))))) (by intro jk2; simp only [q_b1_if, q_b1_s, q_b1_n, q_b1_ix, q_b1_b1, q_b1_b2, q_b1_b3, q_b1_l, q_b1_ck, q_b1_el]) ?_ ?_
            · intro x10
              refine q_istore 10 84 rfl [(10, .int x10), (0, q_r (mG D tc x0 y) 0), (2, .int a2), (3, .int v1), (4, .int x1), (5, .int x2), (6, .int x3), (8, .int v2)] (by decide +kernel) (Nat.le_of_ble_eq_true rfl) rfl ?_
              refine q_iload 0 10 86 rfl (by decide +kernel) rfl ?_
              refine q_if_eq 89 rfl 106 (off := 20) (by decide +kernel) rfl (fun g3 => ?_) (fun g3 => ?_)
              · refine q_sub [1, 2, 3, 4, 5, 6] rfl ?_
                exact hq1 x1 x2 I1 J1
              · refine q_aload_n 1 0 90 rfl (by decide +kernel) rfl ?_
                refine q_iload 6 6 92 rfl (by decide +kernel) rfl ?_
                refine q_callV_iIJ 95 rfl (av := [.int x3]) (o := 0) (st := []) (c_Mo_isAdmissible X.1 D tc x0 y I1 J1 P x3) yv_Mo_isAdmissible tw_6_55 tw_6_57 sw_27 (cC_Mo D tc x0 y) (rfl : mKd 0 = (1, 0, 21, 0, 0)) rfl (Nat.le_of_ble_eq_true rfl) (by decide +kernel) ⟨Nat.le_of_ble_eq_true rfl, Nat.le_of_ble_eq_true rfl⟩ ⟨Nat.le_of_ble_eq_true rfl, Nat.le_of_ble_eq_true rfl⟩ rfl rfl (fun v3 I3 J3 => ?_)
                refine q_if_eq 98 rfl 106 (off := 11) (by decide +kernel) rfl (fun g2 => ?_) (fun g2 => ?_)
                · refine q_sub [1, 2, 3, 4, 5, 6] rfl ?_
                  exact hq1 x1 x2 I3 J3
                · refine q_iload 6 6 100 rfl (by decide +kernel) rfl ?_
                  refine q_istore 4 102 rfl [(4, .int x3), (10, .int x10), (0, q_r (mG D tc x0 y) 0), (2, .int a2), (3, .int v1), (5, .int x2), (6, .int x3), (8, .int v2)] (by decide +kernel) (Nat.le_of_ble_eq_true rfl) rfl ?_
                  refine q_iload 7 8 104 rfl (by decide +kernel) rfl ?_
                  refine q_istore 5 106 rfl [(5, .int v2), (4, .int x3), (10, .int x10), (0, q_r (mG D tc x0 y) 0), (2, .int a2), (3, .int v1), (6, .int x3), (8, .int v2)] (by decide +kernel) (Nat.le_of_ble_eq_true rfl) rfl ?_
                  refine q_sub [3, 4, 5, 1, 0, 6] rfl ?_
                  exact hq1 x3 v2 I3 J3
            · intro jk2 hq2
              refine q_if_lt 51 rfl 77 (off := 29) (by decide +kernel) rfl (fun g7 => ?_) (fun g7 => ?_)
              · refine q_iconst 1 (c := 1) 78 rfl (by decide +kernel) rfl ?_
                refine q_goto (off := 4) 82 (by decide +kernel) rfl ?_
                refine q_sub [2, 3, 4, 5, 6, 7, 1] rfl ?_
                exact hq2 1
              · refine q_iload 1 8 53 rfl (by decide +kernel) rfl ?_
                refine q_iload 6 5 55 rfl (by decide +kernel) rfl ?_
                refine q_icmp_gt 58 rfl 77 (off := 22) (by decide +kernel) rfl (fun g6 => ?_) (fun g6 => ?_)
                · refine q_iconst 1 (c := 1) 78 rfl (by decide +kernel) rfl ?_
                  refine q_goto (off := 4) 82 (by decide +kernel) rfl ?_
                  refine q_sub [2, 3, 4, 5, 6, 7, 1] rfl ?_
                  exact hq2 1
                · refine q_iload 1 8 60 rfl (by decide +kernel) rfl ?_
                  refine q_iload 6 5 62 rfl (by decide +kernel) rfl ?_
                  refine q_icmp_ne 65 rfl 81 (off := 19) (by decide +kernel) rfl (fun g5 => ?_) (fun g5 => ?_)
                  · refine q_iconst 0 (c := 0) 82 rfl (by decide +kernel) rfl ?_
                    refine q_sub [2, 3, 4, 5, 6, 7, 1] rfl ?_
                    exact hq2 0
                  · refine q_iload 7 6 67 rfl (by decide +kernel) rfl ?_
                    refine q_iload 0 9 69 rfl (by decide +kernel) rfl ?_
                    refine q_iand 70 rfl (by decide +kernel) ?_
                    refine q_iload 0 9 72 rfl (by decide +kernel) rfl ?_
                    refine q_ineg 73 rfl (by decide +kernel) ?_
                    refine q_iand 74 rfl (by decide +kernel) ?_
                    refine q_if_eq 77 rfl 81 (off := 7) (by decide +kernel) rfl (fun g4 => ?_) (fun g4 => ?_)
                    · refine q_iconst 0 (c := 0) 82 rfl (by decide +kernel) rfl ?_
                      refine q_sub [2, 3, 4, 5, 6, 7, 1] rfl ?_
                      exact hq2 0
                    · refine q_iconst 1 (c := 1) 78 rfl (by decide +kernel) rfl ?_
                      refine q_goto (off := 4) 82 (by decide +kernel) rfl ?_
                      refine q_sub [2, 3, 4, 5, 6, 7, 1] rfl ?_
                      exact hq2 1
  refine q_sub [5, 7, 4, 3, 2, 1, 0] rfl ?_
  exact hL1 _ _ _ _ _ _ _
def f_Mo_accepted (I : q_I) (J : q_J) (a1 : Int32) : Option (Int32 × q_I × q_J) :=
  q_b3 (f_Mo_bestWith I J a1 0) (fun v1 I1 J1 => some (v1, I1, J1))
def y_Mo_accepted : MethodName := ⟨"CalendarReplicasModel", "accepted", "(I)I"⟩
def m_Mo_accepted : q_M := (prog_11_method_25_code, 2, "CalendarReplicasModel", { frames := 6, cells := 0, slots := 0, locals := 150 }, (some FieldType.int))
theorem yv_Mo_accepted : q_Y y_Mo_accepted m_Mo_accepted 1 := ⟨rfl, ⟨by decide, by decide⟩, by decide +kernel, tw_6_141, tw_1_15⟩
set_option maxRecDepth 100000 in
set_option maxHeartbeats 4000000 in
theorem c_Mo_accepted (l : Launch) (D : va_G) (tc : Nat → ClassId) (x0 y : Nat) (I : q_I) (J : q_J) (P : q_P) (a1 : Int32) : q_Ct l (mG D tc x0 y) y_Mo_accepted m_Mo_accepted [q_r (mG D tc x0 y) 0, .int a1] (I, J, P) (f_Mo_accepted I J a1) (fun r : Int32 × q_I × q_J => (some (.int r.1), (r.2.1, r.2.2, P))) := by
  refine q_Ct_of (mIn D tc x0 y) (by decide) rfl (Nat.le_of_ble_eq_true rfl) rfl (fun X hX => ?_)
  subst hX
  unfold f_Mo_accepted
  refine q_aload_n 0 0 1 rfl (by decide +kernel) rfl ?_
  refine q_iload_n 1 1 2 rfl (by decide +kernel) rfl ?_
  refine q_iconst 0 (c := 0) 3 rfl (by decide +kernel) rfl ?_
  refine q_callV_iIJ 6 rfl (av := [.int a1, .int 0]) (o := 0) (st := []) (c_Mo_bestWith X.1 D tc x0 y I J P a1 0) yv_Mo_bestWith tw_6_142 tw_6_144 sw_43 (cC_Mo D tc x0 y) (rfl : mKd 0 = (1, 0, 21, 0, 0)) rfl (Nat.le_of_ble_eq_true rfl) (by decide +kernel) ⟨Nat.le_of_ble_eq_true rfl, Nat.le_of_ble_eq_true rfl⟩ ⟨Nat.le_of_ble_eq_true rfl, Nat.le_of_ble_eq_true rfl⟩ rfl rfl (fun v1 I1 J1 => ?_)
  exact q_iret (by decide +kernel) rfl rfl (Nat.le_of_ble_eq_true rfl) (Nat.le_of_ble_eq_true rfl)
def f_Mo_shows (I : q_I) (J : q_J) (a1 : Int32) : Option (q_I × q_J) :=
  q_b3 (f_Mo_accepted I J a1) (fun v1 I1 J1 => q_b1 (f_Mo_forms I1 v1) (fun I2 => some (I2, J1)))
def y_Mo_shows : MethodName := ⟨"CalendarReplicasModel", "shows", "(I)V"⟩
def m_Mo_shows : q_M := (prog_11_method_26_code, 2, "CalendarReplicasModel", { frames := 7, cells := 0, slots := 0, locals := 171 }, (none : Option FieldType))
theorem yv_Mo_shows : q_Y y_Mo_shows m_Mo_shows 1 := ⟨rfl, ⟨by decide, by decide⟩, by decide +kernel, tw_6_204, tw_1_15⟩
set_option maxRecDepth 100000 in
set_option maxHeartbeats 4000000 in
theorem c_Mo_shows (l : Launch) (D : va_G) (tc : Nat → ClassId) (x0 y : Nat) (I : q_I) (J : q_J) (P : q_P) (a1 : Int32) : q_Ct l (mG D tc x0 y) y_Mo_shows m_Mo_shows [q_r (mG D tc x0 y) 0, .int a1] (I, J, P) (f_Mo_shows I J a1) (fun r : q_I × q_J => (none, (r.1, r.2, P))) := by
  refine q_Ct_of (mIn D tc x0 y) (by decide) rfl (Nat.le_of_ble_eq_true rfl) rfl (fun X hX => ?_)
  subst hX
  unfold f_Mo_shows
  refine q_aload_n 0 0 1 rfl (by decide +kernel) rfl ?_
  refine q_aload_n 0 0 2 rfl (by decide +kernel) rfl ?_
  refine q_iload_n 1 1 3 rfl (by decide +kernel) rfl ?_
  refine q_callV_iIJ 6 rfl (av := [.int a1]) (o := 0) (st := [q_r (mG D tc x0 y) 0]) (c_Mo_accepted X.1 D tc x0 y I J P a1) yv_Mo_accepted tw_6_138 tw_6_140 sw_42 (cC_Mo D tc x0 y) (rfl : mKd 0 = (1, 0, 21, 0, 0)) rfl (Nat.le_of_ble_eq_true rfl) (by decide +kernel) ⟨Nat.le_of_ble_eq_true rfl, Nat.le_of_ble_eq_true rfl⟩ ⟨Nat.le_of_ble_eq_true rfl, Nat.le_of_ble_eq_true rfl⟩ rfl rfl (fun v1 I1 J1 => ?_)
  refine q_callV_vI 9 rfl (av := [.int v1]) (o := 0) (st := []) (c_Mo_forms X.1 D tc x0 y I1 J1 P v1) yv_Mo_forms tw_6_78 tw_6_80 sw_32 (cC_Mo D tc x0 y) (rfl : mKd 0 = (1, 0, 21, 0, 0)) rfl (Nat.le_of_ble_eq_true rfl) (by decide +kernel) ⟨Nat.le_of_ble_eq_true rfl, Nat.le_of_ble_eq_true rfl⟩ ⟨Nat.le_of_ble_eq_true rfl, Nat.le_of_ble_eq_true rfl⟩ rfl rfl (fun I2 => ?_)
  exact q_vret (by decide +kernel) rfl rfl (Nat.le_of_ble_eq_true rfl) (Nat.le_of_ble_eq_true rfl)
def f_Mo_isBegun (I : q_I) : Option (Int32) :=
  q_ix 2 280 (fun j1 => if (0 : Int32) < (I 1 j1) then (some (1)) else (q_ix 0 280 (fun j2 => if (I 1 j2) ≤ 0 then (some (0)) else (some (1)))))
def y_Mo_isBegun : MethodName := ⟨"CalendarReplicasModel", "isBegun", "()Z"⟩
def m_Mo_isBegun : q_M := (prog_11_method_27_code, 1, "CalendarReplicasModel", { frames := 0, cells := 0, slots := 0, locals := 0 }, (some FieldType.boolean))
theorem yv_Mo_isBegun : q_Y y_Mo_isBegun m_Mo_isBegun 0 := ⟨rfl, ⟨by decide, by decide⟩, by decide +kernel, tw_6_46, tw_1_15⟩
set_option maxRecDepth 100000 in
set_option maxHeartbeats 4000000 in
theorem c_Mo_isBegun (l : Launch) (D : va_G) (tc : Nat → ClassId) (x0 y : Nat) (I : q_I) (J : q_J) (P : q_P) : q_Ct l (mG D tc x0 y) y_Mo_isBegun m_Mo_isBegun [q_r (mG D tc x0 y) 0] (I, J, P) (f_Mo_isBegun I) (fun r : Int32 => (some (.int r), (I, J, P))) := by
  refine q_Ct_of (mIn D tc x0 y) (by decide) rfl (Nat.le_of_ble_eq_true rfl) rfl (fun X hX => ?_)
  subst hX
  unfold f_Mo_isBegun
  refine q_aload_n 0 0 1 rfl (by decide +kernel) rfl ?_
  refine q_getr (f := 0) 1 4 rfl (by decide +kernel) (cC_Mo D tc x0 y) (rfl : mKd 0 = (1, 0, 21, 0, 0)) (by decide) rfl rfl tw_5_212 ?_
  refine q_iconst 2 (c := 2) 5 rfl (by decide +kernel) rfl ?_
  refine q_iald (t := 0) 6 rfl (by decide +kernel) (rfl : mKd 1 = (2, 280, 0, 0, 0)) rfl (fun j1 hj1 => ?_)
  refine q_if_gt 9 rfl 18 (off := 12) (by decide +kernel) rfl (fun g2 => ?_) (fun g2 => ?_)
  · refine q_iconst 1 (c := 1) 19 rfl (by decide +kernel) rfl ?_
    refine q_goto (off := 4) 23 (by decide +kernel) rfl ?_
    exact q_zret (w := 1) (by decide +kernel) rfl rfl rfl (Nat.le_of_ble_eq_true rfl) (Nat.le_of_ble_eq_true rfl)
  · refine q_aload_n 0 0 10 rfl (by decide +kernel) rfl ?_
    refine q_getr (f := 0) 1 13 rfl (by decide +kernel) (cC_Mo D tc x0 y) (rfl : mKd 0 = (1, 0, 21, 0, 0)) (by decide) rfl rfl tw_5_212 ?_
    refine q_iconst 0 (c := 0) 14 rfl (by decide +kernel) rfl ?_
    refine q_iald (t := 0) 15 rfl (by decide +kernel) (rfl : mKd 1 = (2, 280, 0, 0, 0)) rfl (fun j2 hj2 => ?_)
    refine q_if_le 18 rfl 22 (off := 7) (by decide +kernel) rfl (fun g1 => ?_) (fun g1 => ?_)
    · refine q_iconst 0 (c := 0) 23 rfl (by decide +kernel) rfl ?_
      exact q_zret (w := 0) (by decide +kernel) rfl rfl rfl (Nat.le_of_ble_eq_true rfl) (Nat.le_of_ble_eq_true rfl)
    · refine q_iconst 1 (c := 1) 19 rfl (by decide +kernel) rfl ?_
      refine q_goto (off := 4) 23 (by decide +kernel) rfl ?_
      exact q_zret (w := 1) (by decide +kernel) rfl rfl rfl (Nat.le_of_ble_eq_true rfl) (Nat.le_of_ble_eq_true rfl)
def f_Mo_setRoom (I : q_I) (a1 : Int32) (a2 : Int32) (a3 : Int32) (a4 : Int32) : Option (Int32 × q_I) :=
  q_b1 (f_Mo_in a1 0 3) (fun v1 => if v1 = 0 then (some ((-1), I)) else (q_b1 (f_Mo_in a2 1 6) (fun v2 => if v2 = 0 then (some ((-1), I)) else (q_b1 (f_Mo_in a3 0 96) (fun v3 => if v3 = 0 then (some ((-1), I)) else (q_b1 (f_Mo_in a4 a3 96) (fun v4 => if v4 = 0 then (some ((-1), I)) else (q_b1 (f_Mo_isBegun I) (fun v5 => if v5 = 0 then (q_ix (8 + a1) 280 (fun j1 => q_l (I 1 j1 : Int32) (fun x1 => q_ix (8 + a1) 280 (fun j2 => q_l (q_ui I 1 j2 a2) (fun I1 => q_ix (12 + a1) 280 (fun j3 => q_l (q_ui I1 1 j3 a3) (fun I2 => q_ix (16 + a1) 280 (fun j4 => q_l (q_ui I2 1 j4 a4) (fun I3 => some (x1, I3)))))))))) else (some ((-3), I)))))))))))
def y_Mo_setRoom : MethodName := ⟨"CalendarReplicasModel", "setRoom", "(IIII)I"⟩
def m_Mo_setRoom : q_M := (prog_11_method_28_code, 6, "CalendarReplicasModel", { frames := 1, cells := 0, slots := 0, locals := 22 }, (some FieldType.int))
theorem yv_Mo_setRoom : q_Y y_Mo_setRoom m_Mo_setRoom 4 := ⟨rfl, ⟨by decide, by decide⟩, by decide +kernel, tw_6_39, tw_1_15⟩
set_option maxRecDepth 100000 in
set_option maxHeartbeats 4000000 in
theorem c_Mo_setRoom (l : Launch) (D : va_G) (tc : Nat → ClassId) (x0 y : Nat) (I : q_I) (J : q_J) (P : q_P) (a1 : Int32) (a2 : Int32) (a3 : Int32) (a4 : Int32) : q_Ct l (mG D tc x0 y) y_Mo_setRoom m_Mo_setRoom [q_r (mG D tc x0 y) 0, .int a1, .int a2, .int a3, .int a4] (I, J, P) (f_Mo_setRoom I a1 a2 a3 a4) (fun r : Int32 × q_I => (some (.int r.1), (r.2, J, P))) := by
  refine q_Ct_of (mIn D tc x0 y) (by decide) rfl (Nat.le_of_ble_eq_true rfl) rfl (fun X hX => ?_)
  subst hX
  unfold f_Mo_setRoom
  refine q_iload_n 1 1 1 rfl (by decide +kernel) rfl ?_
  refine q_iconst 0 (c := 0) 2 rfl (by decide +kernel) rfl ?_
  refine q_iconst 3 (c := 3) 3 rfl (by decide +kernel) rfl ?_
  refine q_callS_i 6 rfl (av := [.int a1, .int 0, .int 3]) (st := []) (c_Mo_in X.1 D tc x0 y I J P a1 0 3) yv_Mo_in tw_6_40 tw_6_41 rfl (Nat.le_of_ble_eq_true rfl) (by decide +kernel) ⟨Nat.le_of_ble_eq_true rfl, Nat.le_of_ble_eq_true rfl⟩ ⟨Nat.le_of_ble_eq_true rfl, Nat.le_of_ble_eq_true rfl⟩ rfl rfl (fun v1 => ?_)
  refine q_if_eq 9 rfl 40 (off := 34) (by decide +kernel) rfl (fun g5 => ?_) (fun g5 => ?_)
  · refine q_iconst (-1) (c := -1) 41 rfl (by decide +kernel) rfl ?_
    exact q_iret (by decide +kernel) rfl rfl (Nat.le_of_ble_eq_true rfl) (Nat.le_of_ble_eq_true rfl)
  · refine q_iload_n 2 2 10 rfl (by decide +kernel) rfl ?_
    refine q_iconst 1 (c := 1) 11 rfl (by decide +kernel) rfl ?_
    refine q_bipush 6 (c := 6) 13 rfl (by decide +kernel) rfl ?_
    refine q_callS_i 16 rfl (av := [.int a2, .int 1, .int 6]) (st := []) (c_Mo_in X.1 D tc x0 y I J P a2 1 6) yv_Mo_in tw_6_40 tw_6_41 rfl (Nat.le_of_ble_eq_true rfl) (by decide +kernel) ⟨Nat.le_of_ble_eq_true rfl, Nat.le_of_ble_eq_true rfl⟩ ⟨Nat.le_of_ble_eq_true rfl, Nat.le_of_ble_eq_true rfl⟩ rfl rfl (fun v2 => ?_)
    refine q_if_eq 19 rfl 40 (off := 24) (by decide +kernel) rfl (fun g4 => ?_) (fun g4 => ?_)
    · refine q_iconst (-1) (c := -1) 41 rfl (by decide +kernel) rfl ?_
      exact q_iret (by decide +kernel) rfl rfl (Nat.le_of_ble_eq_true rfl) (Nat.le_of_ble_eq_true rfl)
    · refine q_iload_n 3 3 20 rfl (by decide +kernel) rfl ?_
      refine q_iconst 0 (c := 0) 21 rfl (by decide +kernel) rfl ?_
      refine q_bipush 96 (c := 96) 23 rfl (by decide +kernel) rfl ?_
      refine q_callS_i 26 rfl (av := [.int a3, .int 0, .int 96]) (st := []) (c_Mo_in X.1 D tc x0 y I J P a3 0 96) yv_Mo_in tw_6_40 tw_6_41 rfl (Nat.le_of_ble_eq_true rfl) (by decide +kernel) ⟨Nat.le_of_ble_eq_true rfl, Nat.le_of_ble_eq_true rfl⟩ ⟨Nat.le_of_ble_eq_true rfl, Nat.le_of_ble_eq_true rfl⟩ rfl rfl (fun v3 => ?_)
      refine q_if_eq 29 rfl 40 (off := 14) (by decide +kernel) rfl (fun g3 => ?_) (fun g3 => ?_)
      · refine q_iconst (-1) (c := -1) 41 rfl (by decide +kernel) rfl ?_
        exact q_iret (by decide +kernel) rfl rfl (Nat.le_of_ble_eq_true rfl) (Nat.le_of_ble_eq_true rfl)
      · refine q_iload 4 4 31 rfl (by decide +kernel) rfl ?_
        refine q_iload_n 3 3 32 rfl (by decide +kernel) rfl ?_
        refine q_bipush 96 (c := 96) 34 rfl (by decide +kernel) rfl ?_
        refine q_callS_i 37 rfl (av := [.int a4, .int a3, .int 96]) (st := []) (c_Mo_in X.1 D tc x0 y I J P a4 a3 96) yv_Mo_in tw_6_40 tw_6_41 rfl (Nat.le_of_ble_eq_true rfl) (by decide +kernel) ⟨Nat.le_of_ble_eq_true rfl, Nat.le_of_ble_eq_true rfl⟩ ⟨Nat.le_of_ble_eq_true rfl, Nat.le_of_ble_eq_true rfl⟩ rfl rfl (fun v4 => ?_)
        refine q_if_ne 40 rfl 42 (off := 5) (by decide +kernel) rfl (fun g2 => ?_) (fun g2 => ?_)
        · refine q_aload_n 0 0 43 rfl (by decide +kernel) rfl ?_
          refine q_callV_i 46 rfl (av := []) (o := 0) (st := []) (c_Mo_isBegun X.1 D tc x0 y I J P ) yv_Mo_isBegun tw_6_43 tw_6_45 sw_26 (cC_Mo D tc x0 y) (rfl : mKd 0 = (1, 0, 21, 0, 0)) rfl (Nat.le_of_ble_eq_true rfl) (by decide +kernel) ⟨Nat.le_of_ble_eq_true rfl, Nat.le_of_ble_eq_true rfl⟩ ⟨Nat.le_of_ble_eq_true rfl, Nat.le_of_ble_eq_true rfl⟩ rfl rfl (fun v5 => ?_)
          refine q_if_eq 49 rfl 52 (off := 6) (by decide +kernel) rfl (fun g1 => ?_) (fun g1 => ?_)
          · refine q_aload_n 0 0 53 rfl (by decide +kernel) rfl ?_
            refine q_getr (f := 0) 1 56 rfl (by decide +kernel) (cC_Mo D tc x0 y) (rfl : mKd 0 = (1, 0, 21, 0, 0)) (by decide) rfl rfl tw_5_212 ?_
            refine q_bipush 8 (c := 8) 58 rfl (by decide +kernel) rfl ?_
            refine q_iload_n 1 1 59 rfl (by decide +kernel) rfl ?_
            refine q_iadd 60 rfl (by decide +kernel) ?_
            refine q_iald (t := 0) 61 rfl (by decide +kernel) (rfl : mKd 1 = (2, 280, 0, 0, 0)) rfl (fun j1 hj1 => ?_)
            refine q_leti (fun x1 => ?_)
            refine q_istore 5 63 rfl [(5, .int x1), (0, q_r (mG D tc x0 y) 0), (1, .int a1), (2, .int a2), (3, .int a3), (4, .int a4)] (by decide +kernel) (Nat.le_of_ble_eq_true rfl) rfl ?_
            refine q_aload_n 1 0 64 rfl (by decide +kernel) rfl ?_
            refine q_getr (f := 0) 1 67 rfl (by decide +kernel) (cC_Mo D tc x0 y) (rfl : mKd 0 = (1, 0, 21, 0, 0)) (by decide) rfl rfl tw_5_212 ?_
            refine q_bipush 8 (c := 8) 69 rfl (by decide +kernel) rfl ?_
            refine q_iload_n 2 1 70 rfl (by decide +kernel) rfl ?_
            refine q_iadd 71 rfl (by decide +kernel) ?_
            refine q_iload_n 3 2 72 rfl (by decide +kernel) rfl ?_
            refine q_iast (t := 0) 73 rfl (by decide +kernel) (rfl : mKd 1 = (2, 280, 0, 0, 0)) rfl (fun j2 hj2 => ?_)
            refine q_letI (fun I1 => ?_)
            refine q_aload_n 1 0 74 rfl (by decide +kernel) rfl ?_
            refine q_getr (f := 0) 1 77 rfl (by decide +kernel) (cC_Mo D tc x0 y) (rfl : mKd 0 = (1, 0, 21, 0, 0)) (by decide) rfl rfl tw_5_212 ?_
            refine q_bipush 12 (c := 12) 79 rfl (by decide +kernel) rfl ?_
            refine q_iload_n 2 1 80 rfl (by decide +kernel) rfl ?_
            refine q_iadd 81 rfl (by decide +kernel) ?_
            refine q_iload_n 4 3 82 rfl (by decide +kernel) rfl ?_
            refine q_iast (t := 0) 83 rfl (by decide +kernel) (rfl : mKd 1 = (2, 280, 0, 0, 0)) rfl (fun j3 hj3 => ?_)
            refine q_letI (fun I2 => ?_)
            refine q_aload_n 1 0 84 rfl (by decide +kernel) rfl ?_
            refine q_getr (f := 0) 1 87 rfl (by decide +kernel) (cC_Mo D tc x0 y) (rfl : mKd 0 = (1, 0, 21, 0, 0)) (by decide) rfl rfl tw_5_212 ?_
            refine q_bipush 16 (c := 16) 89 rfl (by decide +kernel) rfl ?_
            refine q_iload_n 2 1 90 rfl (by decide +kernel) rfl ?_
            refine q_iadd 91 rfl (by decide +kernel) ?_
            refine q_iload 5 4 93 rfl (by decide +kernel) rfl ?_
            refine q_iast (t := 0) 94 rfl (by decide +kernel) (rfl : mKd 1 = (2, 280, 0, 0, 0)) rfl (fun j4 hj4 => ?_)
            refine q_letI (fun I3 => ?_)
            refine q_iload 0 5 96 rfl (by decide +kernel) rfl ?_
            exact q_iret (by decide +kernel) rfl rfl (Nat.le_of_ble_eq_true rfl) (Nat.le_of_ble_eq_true rfl)
          · refine q_bipush (-3) (c := -3) 51 rfl (by decide +kernel) rfl ?_
            exact q_iret (by decide +kernel) rfl rfl (Nat.le_of_ble_eq_true rfl) (Nat.le_of_ble_eq_true rfl)
        · refine q_iconst (-1) (c := -1) 41 rfl (by decide +kernel) rfl ?_
          exact q_iret (by decide +kernel) rfl rfl (Nat.le_of_ble_eq_true rfl) (Nat.le_of_ble_eq_true rfl)
def f_Mo_setAbsence (I : q_I) (a1 : Int32) (a2 : Int32) (a3 : Int32) : Option (Int32 × q_I) :=
  q_b1 (f_Mo_in a1 0 5) (fun v1 => if v1 = 0 then (some ((-1), I)) else (q_b1 (f_Mo_in a2 0 96) (fun v2 => if v2 = 0 then (some ((-1), I)) else (q_b1 (f_Mo_in a3 a2 96) (fun v3 => if v3 = 0 then (some ((-1), I)) else (q_b1 (f_Mo_isBegun I) (fun v4 => if v4 = 0 then (q_ix (26 + a1) 280 (fun j1 => q_ix (20 + a1) 280 (fun j2 => q_l ((I 1 j1) - (I 1 j2) : Int32) (fun x1 => q_ix (20 + a1) 280 (fun j3 => q_l (q_ui I 1 j3 a2) (fun I1 => q_ix (26 + a1) 280 (fun j4 => q_l (q_ui I1 1 j4 a3) (fun I2 => some (x1, I2))))))))) else (some ((-3), I)))))))))
def y_Mo_setAbsence : MethodName := ⟨"CalendarReplicasModel", "setAbsence", "(III)I"⟩
def m_Mo_setAbsence : q_M := (prog_11_method_29_code, 5, "CalendarReplicasModel", { frames := 1, cells := 0, slots := 0, locals := 22 }, (some FieldType.int))
theorem yv_Mo_setAbsence : q_Y y_Mo_setAbsence m_Mo_setAbsence 3 := ⟨rfl, ⟨by decide, by decide⟩, by decide +kernel, tw_6_50, tw_1_15⟩
set_option maxRecDepth 100000 in
set_option maxHeartbeats 4000000 in
theorem c_Mo_setAbsence (l : Launch) (D : va_G) (tc : Nat → ClassId) (x0 y : Nat) (I : q_I) (J : q_J) (P : q_P) (a1 : Int32) (a2 : Int32) (a3 : Int32) : q_Ct l (mG D tc x0 y) y_Mo_setAbsence m_Mo_setAbsence [q_r (mG D tc x0 y) 0, .int a1, .int a2, .int a3] (I, J, P) (f_Mo_setAbsence I a1 a2 a3) (fun r : Int32 × q_I => (some (.int r.1), (r.2, J, P))) := by
  refine q_Ct_of (mIn D tc x0 y) (by decide) rfl (Nat.le_of_ble_eq_true rfl) rfl (fun X hX => ?_)
  subst hX
  unfold f_Mo_setAbsence
  refine q_iload_n 1 1 1 rfl (by decide +kernel) rfl ?_
  refine q_iconst 0 (c := 0) 2 rfl (by decide +kernel) rfl ?_
  refine q_iconst 5 (c := 5) 3 rfl (by decide +kernel) rfl ?_
  refine q_callS_i 6 rfl (av := [.int a1, .int 0, .int 5]) (st := []) (c_Mo_in X.1 D tc x0 y I J P a1 0 5) yv_Mo_in tw_6_40 tw_6_41 rfl (Nat.le_of_ble_eq_true rfl) (by decide +kernel) ⟨Nat.le_of_ble_eq_true rfl, Nat.le_of_ble_eq_true rfl⟩ ⟨Nat.le_of_ble_eq_true rfl, Nat.le_of_ble_eq_true rfl⟩ rfl rfl (fun v1 => ?_)
  refine q_if_eq 9 rfl 29 (off := 23) (by decide +kernel) rfl (fun g4 => ?_) (fun g4 => ?_)
  · refine q_iconst (-1) (c := -1) 30 rfl (by decide +kernel) rfl ?_
    exact q_iret (by decide +kernel) rfl rfl (Nat.le_of_ble_eq_true rfl) (Nat.le_of_ble_eq_true rfl)
  · refine q_iload_n 2 2 10 rfl (by decide +kernel) rfl ?_
    refine q_iconst 0 (c := 0) 11 rfl (by decide +kernel) rfl ?_
    refine q_bipush 96 (c := 96) 13 rfl (by decide +kernel) rfl ?_
    refine q_callS_i 16 rfl (av := [.int a2, .int 0, .int 96]) (st := []) (c_Mo_in X.1 D tc x0 y I J P a2 0 96) yv_Mo_in tw_6_40 tw_6_41 rfl (Nat.le_of_ble_eq_true rfl) (by decide +kernel) ⟨Nat.le_of_ble_eq_true rfl, Nat.le_of_ble_eq_true rfl⟩ ⟨Nat.le_of_ble_eq_true rfl, Nat.le_of_ble_eq_true rfl⟩ rfl rfl (fun v2 => ?_)
    refine q_if_eq 19 rfl 29 (off := 13) (by decide +kernel) rfl (fun g3 => ?_) (fun g3 => ?_)
    · refine q_iconst (-1) (c := -1) 30 rfl (by decide +kernel) rfl ?_
      exact q_iret (by decide +kernel) rfl rfl (Nat.le_of_ble_eq_true rfl) (Nat.le_of_ble_eq_true rfl)
    · refine q_iload_n 3 3 20 rfl (by decide +kernel) rfl ?_
      refine q_iload_n 2 2 21 rfl (by decide +kernel) rfl ?_
      refine q_bipush 96 (c := 96) 23 rfl (by decide +kernel) rfl ?_
      refine q_callS_i 26 rfl (av := [.int a3, .int a2, .int 96]) (st := []) (c_Mo_in X.1 D tc x0 y I J P a3 a2 96) yv_Mo_in tw_6_40 tw_6_41 rfl (Nat.le_of_ble_eq_true rfl) (by decide +kernel) ⟨Nat.le_of_ble_eq_true rfl, Nat.le_of_ble_eq_true rfl⟩ ⟨Nat.le_of_ble_eq_true rfl, Nat.le_of_ble_eq_true rfl⟩ rfl rfl (fun v3 => ?_)
      refine q_if_ne 29 rfl 31 (off := 5) (by decide +kernel) rfl (fun g2 => ?_) (fun g2 => ?_)
      · refine q_aload_n 0 0 32 rfl (by decide +kernel) rfl ?_
        refine q_callV_i 35 rfl (av := []) (o := 0) (st := []) (c_Mo_isBegun X.1 D tc x0 y I J P ) yv_Mo_isBegun tw_6_43 tw_6_45 sw_26 (cC_Mo D tc x0 y) (rfl : mKd 0 = (1, 0, 21, 0, 0)) rfl (Nat.le_of_ble_eq_true rfl) (by decide +kernel) ⟨Nat.le_of_ble_eq_true rfl, Nat.le_of_ble_eq_true rfl⟩ ⟨Nat.le_of_ble_eq_true rfl, Nat.le_of_ble_eq_true rfl⟩ rfl rfl (fun v4 => ?_)
        refine q_if_eq 38 rfl 41 (off := 6) (by decide +kernel) rfl (fun g1 => ?_) (fun g1 => ?_)
        · refine q_aload_n 0 0 42 rfl (by decide +kernel) rfl ?_
          refine q_getr (f := 0) 1 45 rfl (by decide +kernel) (cC_Mo D tc x0 y) (rfl : mKd 0 = (1, 0, 21, 0, 0)) (by decide) rfl rfl tw_5_212 ?_
          refine q_bipush 26 (c := 26) 47 rfl (by decide +kernel) rfl ?_
          refine q_iload_n 1 1 48 rfl (by decide +kernel) rfl ?_
          refine q_iadd 49 rfl (by decide +kernel) ?_
          refine q_iald (t := 0) 50 rfl (by decide +kernel) (rfl : mKd 1 = (2, 280, 0, 0, 0)) rfl (fun j1 hj1 => ?_)
          refine q_aload_n 0 0 51 rfl (by decide +kernel) rfl ?_
          refine q_getr (f := 0) 1 54 rfl (by decide +kernel) (cC_Mo D tc x0 y) (rfl : mKd 0 = (1, 0, 21, 0, 0)) (by decide) rfl rfl tw_5_212 ?_
          refine q_bipush 20 (c := 20) 56 rfl (by decide +kernel) rfl ?_
          refine q_iload_n 1 1 57 rfl (by decide +kernel) rfl ?_
          refine q_iadd 58 rfl (by decide +kernel) ?_
          refine q_iald (t := 0) 59 rfl (by decide +kernel) (rfl : mKd 1 = (2, 280, 0, 0, 0)) rfl (fun j2 hj2 => ?_)
          refine q_isub 60 rfl (by decide +kernel) ?_
          refine q_leti (fun x1 => ?_)
          refine q_istore 4 62 rfl [(4, .int x1), (0, q_r (mG D tc x0 y) 0), (1, .int a1), (2, .int a2), (3, .int a3)] (by decide +kernel) (Nat.le_of_ble_eq_true rfl) rfl ?_
          refine q_aload_n 1 0 63 rfl (by decide +kernel) rfl ?_
          refine q_getr (f := 0) 1 66 rfl (by decide +kernel) (cC_Mo D tc x0 y) (rfl : mKd 0 = (1, 0, 21, 0, 0)) (by decide) rfl rfl tw_5_212 ?_
          refine q_bipush 20 (c := 20) 68 rfl (by decide +kernel) rfl ?_
          refine q_iload_n 2 1 69 rfl (by decide +kernel) rfl ?_
          refine q_iadd 70 rfl (by decide +kernel) ?_
          refine q_iload_n 3 2 71 rfl (by decide +kernel) rfl ?_
          refine q_iast (t := 0) 72 rfl (by decide +kernel) (rfl : mKd 1 = (2, 280, 0, 0, 0)) rfl (fun j3 hj3 => ?_)
          refine q_letI (fun I1 => ?_)
          refine q_aload_n 1 0 73 rfl (by decide +kernel) rfl ?_
          refine q_getr (f := 0) 1 76 rfl (by decide +kernel) (cC_Mo D tc x0 y) (rfl : mKd 0 = (1, 0, 21, 0, 0)) (by decide) rfl rfl tw_5_212 ?_
          refine q_bipush 26 (c := 26) 78 rfl (by decide +kernel) rfl ?_
          refine q_iload_n 2 1 79 rfl (by decide +kernel) rfl ?_
          refine q_iadd 80 rfl (by decide +kernel) ?_
          refine q_iload_n 4 3 81 rfl (by decide +kernel) rfl ?_
          refine q_iast (t := 0) 82 rfl (by decide +kernel) (rfl : mKd 1 = (2, 280, 0, 0, 0)) rfl (fun j4 hj4 => ?_)
          refine q_letI (fun I2 => ?_)
          refine q_iload 0 4 84 rfl (by decide +kernel) rfl ?_
          exact q_iret (by decide +kernel) rfl rfl (Nat.le_of_ble_eq_true rfl) (Nat.le_of_ble_eq_true rfl)
        · refine q_bipush (-3) (c := -3) 40 rfl (by decide +kernel) rfl ?_
          exact q_iret (by decide +kernel) rfl rfl (Nat.le_of_ble_eq_true rfl) (Nat.le_of_ble_eq_true rfl)
      · refine q_iconst (-1) (c := -1) 30 rfl (by decide +kernel) rfl ?_
        exact q_iret (by decide +kernel) rfl rfl (Nat.le_of_ble_eq_true rfl) (Nat.le_of_ble_eq_true rfl)
def f_Mo_addOrder (I : q_I) (J : q_J) (a1 : Int32) (a2 : Int32) : Option (Int32 × q_I × q_J) :=
  if a1 < 0 then (some ((-1), I, J)) else (if a2 < 0 then (some ((-1), I, J)) else (if a1 = a2 then (some ((-1), I, J)) else (q_ix 3 280 (fun j1 => if (I 1 j1) = 4 then (some ((-2), I, J)) else (q_ix 3 280 (fun j2 => q_ix (32 + (2 * (I 1 j2))) 280 (fun j3 => q_l (q_ui I 1 j3 a1) (fun I1 => q_ix 3 280 (fun j4 => q_ix ((32 + (2 * (I1 1 j4))) + 1) 280 (fun j5 => q_l (q_ui I1 1 j5 a2) (fun I2 => q_ix 3 280 (fun j6 => q_ix 3 280 (fun j7 => q_l (q_ui I2 1 j7 ((I2 1 j6) + 1)) (fun I3 => q_b3 (f_Mo_isAdmissible I3 J 0) (fun v1 I4 J1 => if v1 = 0 then (q_ix 3 280 (fun j9 => q_ix 3 280 (fun j10 => q_l (q_ui I4 1 j10 ((I4 1 j9) - 1)) (fun I5 => some ((-3), I5, J1))))) else (q_ix 3 280 (fun j8 => some ((I4 1 j8), I4, J1))))))))))))))))))
def y_Mo_addOrder : MethodName := ⟨"CalendarReplicasModel", "addOrde\x72", "(II)I"⟩
def m_Mo_addOrder : q_M := (prog_11_method_30_code, 3, "CalendarReplicasModel", { frames := 5, cells := 0, slots := 0, locals := 120 }, (some FieldType.int))
theorem yv_Mo_addOrder : q_Y y_Mo_addOrder m_Mo_addOrder 2 := ⟨rfl, ⟨by decide, by decide⟩, by decide +kernel, tw_6_54, tw_1_15⟩
set_option maxRecDepth 100000 in
set_option maxHeartbeats 4000000 in
theorem c_Mo_addOrder (l : Launch) (D : va_G) (tc : Nat → ClassId) (x0 y : Nat) (I : q_I) (J : q_J) (P : q_P) (a1 : Int32) (a2 : Int32) : q_Ct l (mG D tc x0 y) y_Mo_addOrder m_Mo_addOrder [q_r (mG D tc x0 y) 0, .int a1, .int a2] (I, J, P) (f_Mo_addOrder I J a1 a2) (fun r : Int32 × q_I × q_J => (some (.int r.1), (r.2.1, r.2.2, P))) := by
  refine q_Ct_of (mIn D tc x0 y) (by decide) rfl (Nat.le_of_ble_eq_true rfl) rfl (fun X hX => ?_)
  subst hX
  unfold f_Mo_addOrder
  refine q_iload_n 1 1 1 rfl (by decide +kernel) rfl ?_
  refine q_if_lt 4 rfl 13 (off := 12) (by decide +kernel) rfl (fun g5 => ?_) (fun g5 => ?_)
  · refine q_iconst (-1) (c := -1) 14 rfl (by decide +kernel) rfl ?_
    exact q_iret (by decide +kernel) rfl rfl (Nat.le_of_ble_eq_true rfl) (Nat.le_of_ble_eq_true rfl)
  · refine q_iload_n 2 2 5 rfl (by decide +kernel) rfl ?_
    refine q_if_lt 8 rfl 13 (off := 8) (by decide +kernel) rfl (fun g4 => ?_) (fun g4 => ?_)
    · refine q_iconst (-1) (c := -1) 14 rfl (by decide +kernel) rfl ?_
      exact q_iret (by decide +kernel) rfl rfl (Nat.le_of_ble_eq_true rfl) (Nat.le_of_ble_eq_true rfl)
    · refine q_iload_n 1 1 9 rfl (by decide +kernel) rfl ?_
      refine q_iload_n 2 2 10 rfl (by decide +kernel) rfl ?_
      refine q_icmp_ne 13 rfl 15 (off := 5) (by decide +kernel) rfl (fun g3 => ?_) (fun g3 => ?_)
      · refine q_aload_n 0 0 16 rfl (by decide +kernel) rfl ?_
        refine q_getr (f := 0) 1 19 rfl (by decide +kernel) (cC_Mo D tc x0 y) (rfl : mKd 0 = (1, 0, 21, 0, 0)) (by decide) rfl rfl tw_5_212 ?_
        refine q_iconst 3 (c := 3) 20 rfl (by decide +kernel) rfl ?_
        refine q_iald (t := 0) 21 rfl (by decide +kernel) (rfl : mKd 1 = (2, 280, 0, 0, 0)) rfl (fun j1 hj1 => ?_)
        refine q_iconst 4 (c := 4) 22 rfl (by decide +kernel) rfl ?_
        refine q_icmp_ne 25 rfl 28 (off := 6) (by decide +kernel) rfl (fun g2 => ?_) (fun g2 => ?_)
        · refine q_aload_n 0 0 29 rfl (by decide +kernel) rfl ?_
          refine q_getr (f := 0) 1 32 rfl (by decide +kernel) (cC_Mo D tc x0 y) (rfl : mKd 0 = (1, 0, 21, 0, 0)) (by decide) rfl rfl tw_5_212 ?_
          refine q_bipush 32 (c := 32) 34 rfl (by decide +kernel) rfl ?_
          refine q_iconst 2 (c := 2) 35 rfl (by decide +kernel) rfl ?_
          refine q_aload_n 0 0 36 rfl (by decide +kernel) rfl ?_
          refine q_getr (f := 0) 1 39 rfl (by decide +kernel) (cC_Mo D tc x0 y) (rfl : mKd 0 = (1, 0, 21, 0, 0)) (by decide) rfl rfl tw_5_212 ?_
          refine q_iconst 3 (c := 3) 40 rfl (by decide +kernel) rfl ?_
          refine q_iald (t := 0) 41 rfl (by decide +kernel) (rfl : mKd 1 = (2, 280, 0, 0, 0)) rfl (fun j2 hj2 => ?_)
          refine q_imul 42 rfl (by decide +kernel) ?_
          refine q_iadd 43 rfl (by decide +kernel) ?_
          refine q_iload_n 1 1 44 rfl (by decide +kernel) rfl ?_
          refine q_iast (t := 0) 45 rfl (by decide +kernel) (rfl : mKd 1 = (2, 280, 0, 0, 0)) rfl (fun j3 hj3 => ?_)
          refine q_letI (fun I1 => ?_)
          refine q_aload_n 0 0 46 rfl (by decide +kernel) rfl ?_
          refine q_getr (f := 0) 1 49 rfl (by decide +kernel) (cC_Mo D tc x0 y) (rfl : mKd 0 = (1, 0, 21, 0, 0)) (by decide) rfl rfl tw_5_212 ?_
          refine q_bipush 32 (c := 32) 51 rfl (by decide +kernel) rfl ?_
          refine q_iconst 2 (c := 2) 52 rfl (by decide +kernel) rfl ?_
          refine q_aload_n 0 0 53 rfl (by decide +kernel) rfl ?_
          refine q_getr (f := 0) 1 56 rfl (by decide +kernel) (cC_Mo D tc x0 y) (rfl : mKd 0 = (1, 0, 21, 0, 0)) (by decide) rfl rfl tw_5_212 ?_
          refine q_iconst 3 (c := 3) 57 rfl (by decide +kernel) rfl ?_
          refine q_iald (t := 0) 58 rfl (by decide +kernel) (rfl : mKd 1 = (2, 280, 0, 0, 0)) rfl (fun j4 hj4 => ?_)
          refine q_imul 59 rfl (by decide +kernel) ?_
          refine q_iadd 60 rfl (by decide +kernel) ?_
          refine q_iconst 1 (c := 1) 61 rfl (by decide +kernel) rfl ?_
          refine q_iadd 62 rfl (by decide +kernel) ?_
          refine q_iload_n 2 2 63 rfl (by decide +kernel) rfl ?_
          refine q_iast (t := 0) 64 rfl (by decide +kernel) (rfl : mKd 1 = (2, 280, 0, 0, 0)) rfl (fun j5 hj5 => ?_)
          refine q_letI (fun I2 => ?_)
          refine q_aload_n 0 0 65 rfl (by decide +kernel) rfl ?_
          refine q_getr (f := 0) 1 68 rfl (by decide +kernel) (cC_Mo D tc x0 y) (rfl : mKd 0 = (1, 0, 21, 0, 0)) (by decide) rfl rfl tw_5_212 ?_
          refine q_iconst 3 (c := 3) 69 rfl (by decide +kernel) rfl ?_
          refine q_dup2 70 rfl (by decide +kernel) rfl rfl ?_
          refine q_iald (t := 0) 71 rfl (by decide +kernel) (rfl : mKd 1 = (2, 280, 0, 0, 0)) rfl (fun j6 hj6 => ?_)
          refine q_iconst 1 (c := 1) 72 rfl (by decide +kernel) rfl ?_
          refine q_iadd 73 rfl (by decide +kernel) ?_
          refine q_iast (t := 0) 74 rfl (by decide +kernel) (rfl : mKd 1 = (2, 280, 0, 0, 0)) rfl (fun j7 hj7 => ?_)
          refine q_letI (fun I3 => ?_)
          refine q_aload_n 0 0 75 rfl (by decide +kernel) rfl ?_
          refine q_iconst 0 (c := 0) 76 rfl (by decide +kernel) rfl ?_
          refine q_callV_iIJ 79 rfl (av := [.int 0]) (o := 0) (st := []) (c_Mo_isAdmissible X.1 D tc x0 y I3 J P 0) yv_Mo_isAdmissible tw_6_55 tw_6_57 sw_27 (cC_Mo D tc x0 y) (rfl : mKd 0 = (1, 0, 21, 0, 0)) rfl (Nat.le_of_ble_eq_true rfl) (by decide +kernel) ⟨Nat.le_of_ble_eq_true rfl, Nat.le_of_ble_eq_true rfl⟩ ⟨Nat.le_of_ble_eq_true rfl, Nat.le_of_ble_eq_true rfl⟩ rfl rfl (fun v1 I4 J1 => ?_)
          refine q_if_ne 82 rfl 95 (off := 16) (by decide +kernel) rfl (fun g1 => ?_) (fun g1 => ?_)
          · refine q_aload_n 0 0 96 rfl (by decide +kernel) rfl ?_
            refine q_getr (f := 0) 1 99 rfl (by decide +kernel) (cC_Mo D tc x0 y) (rfl : mKd 0 = (1, 0, 21, 0, 0)) (by decide) rfl rfl tw_5_212 ?_
            refine q_iconst 3 (c := 3) 100 rfl (by decide +kernel) rfl ?_
            refine q_iald (t := 0) 101 rfl (by decide +kernel) (rfl : mKd 1 = (2, 280, 0, 0, 0)) rfl (fun j8 hj8 => ?_)
            exact q_iret (by decide +kernel) rfl rfl (Nat.le_of_ble_eq_true rfl) (Nat.le_of_ble_eq_true rfl)
          · refine q_aload_n 0 0 83 rfl (by decide +kernel) rfl ?_
            refine q_getr (f := 0) 1 86 rfl (by decide +kernel) (cC_Mo D tc x0 y) (rfl : mKd 0 = (1, 0, 21, 0, 0)) (by decide) rfl rfl tw_5_212 ?_
            refine q_iconst 3 (c := 3) 87 rfl (by decide +kernel) rfl ?_
            refine q_dup2 88 rfl (by decide +kernel) rfl rfl ?_
            refine q_iald (t := 0) 89 rfl (by decide +kernel) (rfl : mKd 1 = (2, 280, 0, 0, 0)) rfl (fun j9 hj9 => ?_)
            refine q_iconst 1 (c := 1) 90 rfl (by decide +kernel) rfl ?_
            refine q_isub 91 rfl (by decide +kernel) ?_
            refine q_iast (t := 0) 92 rfl (by decide +kernel) (rfl : mKd 1 = (2, 280, 0, 0, 0)) rfl (fun j10 hj10 => ?_)
            refine q_letI (fun I5 => ?_)
            refine q_bipush (-3) (c := -3) 94 rfl (by decide +kernel) rfl ?_
            exact q_iret (by decide +kernel) rfl rfl (Nat.le_of_ble_eq_true rfl) (Nat.le_of_ble_eq_true rfl)
        · refine q_bipush (-2) (c := -2) 27 rfl (by decide +kernel) rfl ?_
          exact q_iret (by decide +kernel) rfl rfl (Nat.le_of_ble_eq_true rfl) (Nat.le_of_ble_eq_true rfl)
      · refine q_iconst (-1) (c := -1) 14 rfl (by decide +kernel) rfl ?_
        exact q_iret (by decide +kernel) rfl rfl (Nat.le_of_ble_eq_true rfl) (Nat.le_of_ble_eq_true rfl)
