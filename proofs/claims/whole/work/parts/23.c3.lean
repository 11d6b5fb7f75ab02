def f_Wo_editAtIndex (I : q_I) (a0 : Nat) (a1 : Int32) : Option (Option Nat) :=
  if a1 < 0 then (some ((none : Option Nat))) else (if (I a0 3) < a1 then (some ((none : Option Nat))) else (if (12 : Int32) ≤ a1 then (some ((none : Option Nat))) else (q_ix a1 12 (fun j1 => some ((some ((a0 + 26) + 2 * j1) : Option Nat))))))
def y_Wo_editAtIndex : MethodName := ⟨"CalendarReplicas$World", "editAtIndex", "(I)LCalendarReplicas$Edit;"⟩
def m_Wo_editAtIndex : q_M := (prog_9_method_5_code, 2, "CalendarReplicas$World", { frames := 0, cells := 0, slots := 0, locals := 0 }, (Option.some (FieldType.object "CalendarReplicas$Edit")))
theorem yv_Wo_editAtIndex : q_Y y_Wo_editAtIndex m_Wo_editAtIndex 1 := ⟨rfl, ⟨by decide, by decide⟩, by decide +kernel, tw_3_78, tw_1_2⟩
set_option maxRecDepth 100000 in
set_option maxHeartbeats 4000000 in
theorem c_Wo_editAtIndex (l : Launch) (D : va_G) (tc : Nat → ClassId) (x0 y : Nat) (ad : Nat → Nat) (I : q_I) (J : q_J) (P : q_P) {a0 : Nat} (h0 : isWo a0) (a1 : Int32) : q_Ct l (cG D tc x0 y ad) y_Wo_editAtIndex m_Wo_editAtIndex [q_r (cG D tc x0 y ad) a0, .int a1] (I, J, P) (f_Wo_editAtIndex I a0 a1) (fun r : Option Nat => (some (q_rn (cG D tc x0 y ad) r), (I, J, P))) := by
  refine q_Ct_of (cIn D tc x0 y ad) (by decide) rfl (Nat.le_of_ble_eq_true rfl) rfl (fun X hX => ?_)
  subst hX
  unfold f_Wo_editAtIndex
  refine q_iload_n 1 1 1 rfl (by decide +kernel) rfl ?_
  refine q_if_lt 4 rfl 27 (off := 26) (by decide +kernel) rfl (fun g3 => ?_) (fun g3 => ?_)
  · refine q_null 28 rfl (by decide +kernel) ?_
    exact q_aret (x := none) (by decide +kernel) rfl rfl (Nat.le_of_ble_eq_true rfl) (Nat.le_of_ble_eq_true rfl)
  · refine q_iload_n 1 1 5 rfl (by decide +kernel) rfl ?_
    refine q_aload_n 0 0 6 rfl (by decide +kernel) rfl ?_
    refine q_geti (f := 3) 9 rfl (by decide +kernel) (cC_Wo D tc x0 y ad) h0.1 (by decide) rfl tw_1_212 ?_
    refine q_icmp_gt 12 rfl 27 (off := 18) (by decide +kernel) rfl (fun g2 => ?_) (fun g2 => ?_)
    · refine q_null 28 rfl (by decide +kernel) ?_
      exact q_aret (x := none) (by decide +kernel) rfl rfl (Nat.le_of_ble_eq_true rfl) (Nat.le_of_ble_eq_true rfl)
    · refine q_iload_n 1 1 13 rfl (by decide +kernel) rfl ?_
      refine q_bipush 12 (c := 12) 15 rfl (by decide +kernel) rfl ?_
      refine q_icmp_ge 18 rfl 27 (off := 12) (by decide +kernel) rfl (fun g1 => ?_) (fun g1 => ?_)
      · refine q_null 28 rfl (by decide +kernel) ?_
        exact q_aret (x := none) (by decide +kernel) rfl rfl (Nat.le_of_ble_eq_true rfl) (Nat.le_of_ble_eq_true rfl)
      · refine q_aload_n 0 0 19 rfl (by decide +kernel) rfl ?_
        refine q_getr (f := 2) (a0 + 23) 22 rfl (by decide +kernel) (cC_Wo D tc x0 y ad) h0.1 (by decide) rfl rfl tw_1_211 ?_
        refine q_iload_n 1 1 23 rfl (by decide +kernel) rfl ?_
        refine q_aldc 24 rfl (by decide +kernel) h0.2.2.2.1 rfl (fun j1 hj1 => ?_)
        refine q_goto (off := 4) 28 (by decide +kernel) rfl ?_
        exact q_aret (x := some ((a0 + 26) + 2 * j1)) (by decide +kernel) rfl rfl (Nat.le_of_ble_eq_true rfl) (Nat.le_of_ble_eq_true rfl)
def f_Wo_indexOf_L1 (I : q_I) (a0 : Nat) (a1 : Int32) : Nat → Int32 → Option (Int32)
  | 0, _ => none
  | n + 1, x1 => if (I a0 3) ≤ x1 then (some ((-4))) else (if (12 : Int32) ≤ x1 then (some ((-4))) else (q_ix x1 12 (fun j1 => if (I ((a0 + 26) + 2 * j1) 0) = a1 then (some (x1)) else ((f_Wo_indexOf_L1 I a0 a1 n (x1 + 1))))))
def f_Wo_indexOf (I : q_I) (a0 : Nat) (a1 : Int32) : Option (Int32) :=
  f_Wo_indexOf_L1 I a0 a1 q_fu 0
def y_Wo_indexOf : MethodName := ⟨"CalendarReplicas$World", "indexOf", "(I)I"⟩
def m_Wo_indexOf : q_M := (prog_9_method_6_code, 3, "CalendarReplicas$World", { frames := 0, cells := 0, slots := 0, locals := 0 }, (some FieldType.int))
theorem yv_Wo_indexOf : q_Y y_Wo_indexOf m_Wo_indexOf 1 := ⟨rfl, ⟨by decide, by decide⟩, by decide +kernel, tw_4_72, tw_1_2⟩
set_option maxRecDepth 100000 in
set_option maxHeartbeats 4000000 in
theorem c_Wo_indexOf (l : Launch) (D : va_G) (tc : Nat → ClassId) (x0 y : Nat) (ad : Nat → Nat) (I : q_I) (J : q_J) (P : q_P) {a0 : Nat} (h0 : isWo a0) (a1 : Int32) : q_Ct l (cG D tc x0 y ad) y_Wo_indexOf m_Wo_indexOf [q_r (cG D tc x0 y ad) a0, .int a1] (I, J, P) (f_Wo_indexOf I a0 a1) (fun r : Int32 => (some (.int r), (I, J, P))) := by
  refine q_Ct_of (cIn D tc x0 y ad) (by decide) rfl (Nat.le_of_ble_eq_true rfl) rfl (fun X hX => ?_)
  subst hX
  unfold f_Wo_indexOf
  refine q_iconst 0 (c := 0) 1 rfl (by decide +kernel) rfl ?_
  refine q_istore_n 2 2 2 rfl [(2, .int 0), (0, q_r (cG D tc x0 y ad) a0), (1, .int a1)] (by decide +kernel) rfl (Nat.le_of_ble_eq_true rfl) rfl ?_
  have hL1 : ∀ (n1_ : Nat) (x1 : Int32), q_V (cG D tc x0 y ad) m_Wo_indexOf X (fun r : Int32 => (some (.int r), (I, J, P))) 0 0 2 [(0, q_r (cG D tc x0 y ad) a0), (1, .int a1), (2, .int x1)] [] I J P (f_Wo_indexOf_L1 I a0 a1 n1_ x1) := by
    intro n1_
    induction n1_ with
    | zero => intro x1; exact q_none
    | succ n1_ ih1 =>
      intro x1
      rw [f_Wo_indexOf_L1]
      refine q_iload_n 2 2 3 rfl (by decide +kernel) rfl ?_
      refine q_aload_n 0 0 4 rfl (by decide +kernel) rfl ?_
      refine q_geti (f := 3) 7 rfl (by decide +kernel) (cC_Wo D tc x0 y ad) h0.1 (by decide) rfl tw_1_212 ?_
      refine q_icmp_ge 10 rfl 37 (off := 30) (by decide +kernel) rfl (fun g3 => ?_) (fun g3 => ?_)
      · refine q_bipush (-4) (c := -4) 39 rfl (by decide +kernel) rfl ?_
        exact q_iret (by decide +kernel) rfl rfl (Nat.le_of_ble_eq_true rfl) (Nat.le_of_ble_eq_true rfl)
      · refine q_iload_n 2 2 11 rfl (by decide +kernel) rfl ?_
        refine q_bipush 12 (c := 12) 13 rfl (by decide +kernel) rfl ?_
        refine q_icmp_ge 16 rfl 37 (off := 24) (by decide +kernel) rfl (fun g2 => ?_) (fun g2 => ?_)
        · refine q_bipush (-4) (c := -4) 39 rfl (by decide +kernel) rfl ?_
          exact q_iret (by decide +kernel) rfl rfl (Nat.le_of_ble_eq_true rfl) (Nat.le_of_ble_eq_true rfl)
        · refine q_aload_n 0 0 17 rfl (by decide +kernel) rfl ?_
          refine q_getr (f := 2) (a0 + 23) 20 rfl (by decide +kernel) (cC_Wo D tc x0 y ad) h0.1 (by decide) rfl rfl tw_1_211 ?_
          refine q_iload_n 2 2 21 rfl (by decide +kernel) rfl ?_
          refine q_aldc 22 rfl (by decide +kernel) h0.2.2.2.1 rfl (fun j1 hj1 => ?_)
          refine q_geti (f := 0) 25 rfl (by decide +kernel) (cC_Ed D tc x0 y ad) (h0.2.2.2.2.2.2 _ hj1).1 (by decide) rfl tw_1_166 ?_
          refine q_iload_n 1 1 26 rfl (by decide +kernel) rfl ?_
          refine q_icmp_ne 29 rfl 31 (off := 5) (by decide +kernel) rfl (fun g1 => ?_) (fun g1 => ?_)
          · refine q_iinc (x1 + 1) (c := 1) 2 2 34 rfl [(2, .int (x1 + 1)), (0, q_r (cG D tc x0 y ad) a0), (1, .int a1)] (by decide +kernel) rfl rfl (Nat.le_of_ble_eq_true rfl) rfl ?_
            refine q_goto (off := -32) 2 (by decide +kernel) rfl ?_
            refine q_sub [1, 2, 0] rfl ?_
            exact ih1 (x1 + 1)
          · refine q_iload_n 2 2 30 rfl (by decide +kernel) rfl ?_
            exact q_iret (by decide +kernel) rfl rfl (Nat.le_of_ble_eq_true rfl) (Nat.le_of_ble_eq_true rfl)
  refine q_sub [1, 2, 0] rfl ?_
  exact hL1 _ _
def f_Wo_relate_L1 (a0 : Nat) (a1 : Nat) (a2 : Int32) : Nat → Int32 → q_I → Option (q_I)
  | 0, _, _ => none
  | n + 1, x1, I3 => if (I3 a0 3) ≤ x1 then (some (I3)) else (if (12 : Int32) ≤ x1 then (some (I3)) else (q_ix x1 12 (fun j1 => if (I3 ((a0 + 26) + 2 * j1) 4) = (I3 a1 4) then (q_b1 (f_CR_contains a2 x1) (fun v1 => q_b1 (f_Ed_clashesWith I3 a1 ((a0 + 26) + 2 * j1) v1) (fun v2 => q_b1 (if v2 = 0 then ((some (I3))) else (q_l (q_ui I3 a1 6 ((I3 a1 6) ||| (1 <<< (x1 &&& 31)))) (fun I6 => (some (I6)))) : Option (q_I)) (fun (I4 : q_I) => if (I4 ((a0 + 26) + 2 * j1) 3) = 0 then (q_l (q_ui I4 a1 7 (1 <<< (x1 &&& 31))) (fun I5 => (f_Wo_relate_L1 a0 a1 a2 n (x1 + 1) I5))) else ((f_Wo_relate_L1 a0 a1 a2 n (x1 + 1) I4)))))) else ((f_Wo_relate_L1 a0 a1 a2 n (x1 + 1) I3)))))
def f_Wo_relate (I : q_I) (a0 : Nat) (a1 : Nat) (a2 : Int32) : Option (q_I) :=
  q_l (q_ui I a1 6 0) (fun I1 => q_l (q_ui I1 a1 7 0) (fun I2 => f_Wo_relate_L1 a0 a1 a2 q_fu 0 I2))
def y_Wo_relate : MethodName := ⟨"CalendarReplicas$World", "relate", "(LCalendarReplicas$Edit;I)V"⟩
def m_Wo_relate : q_M := (prog_9_method_7_code, 5, "CalendarReplicas$World", { frames := 2, cells := 0, slots := 0, locals := 43 }, (none : Option FieldType))
theorem yv_Wo_relate : q_Y y_Wo_relate m_Wo_relate 2 := ⟨rfl, ⟨by decide, by decide⟩, by decide +kernel, tw_3_87, tw_1_2⟩
set_option maxRecDepth 100000 in
set_option maxHeartbeats 4000000 in
theorem c_Wo_relate (l : Launch) (D : va_G) (tc : Nat → ClassId) (x0 y : Nat) (ad : Nat → Nat) (I : q_I) (J : q_J) (P : q_P) {a0 : Nat} {a1 : Nat} (h0 : isWo a0) (h1 : isEd a1) (a2 : Int32) : q_Ct l (cG D tc x0 y ad) y_Wo_relate m_Wo_relate [q_r (cG D tc x0 y ad) a0, q_r (cG D tc x0 y ad) a1, .int a2] (I, J, P) (f_Wo_relate I a0 a1 a2) (fun r : q_I => (none, (r, J, P))) := by
  refine q_Ct_of (cIn D tc x0 y ad) (by decide) rfl (Nat.le_of_ble_eq_true rfl) rfl (fun X hX => ?_)
  subst hX
  unfold f_Wo_relate
  refine q_aload_n 1 1 1 rfl (by decide +kernel) rfl ?_
  refine q_iconst 0 (c := 0) 2 rfl (by decide +kernel) rfl ?_
  refine q_puti (f := 6) 5 rfl (by decide +kernel) (cC_Ed D tc x0 y ad) h1.1 (by decide) rfl rfl rfl tw_1_181 ?_
  refine q_letI (fun I1 => ?_)
  refine q_aload_n 1 1 6 rfl (by decide +kernel) rfl ?_
  refine q_iconst 0 (c := 0) 7 rfl (by decide +kernel) rfl ?_
  refine q_puti (f := 7) 10 rfl (by decide +kernel) (cC_Ed D tc x0 y ad) h1.1 (by decide) rfl rfl rfl tw_1_183 ?_
  refine q_letI (fun I2 => ?_)
  refine q_iconst 0 (c := 0) 11 rfl (by decide +kernel) rfl ?_
  refine q_istore_n 3 3 12 rfl [(3, .int 0), (0, q_r (cG D tc x0 y ad) a0), (1, q_r (cG D tc x0 y ad) a1), (2, .int a2)] (by decide +kernel) rfl (Nat.le_of_ble_eq_true rfl) rfl ?_
  have hL1 : ∀ (n1_ : Nat) (x1 : Int32) (I3 : q_I), q_V (cG D tc x0 y ad) m_Wo_relate X (fun r : q_I => (none, (r, J, P))) 0 0 12 [(0, q_r (cG D tc x0 y ad) a0), (1, q_r (cG D tc x0 y ad) a1), (2, .int a2), (3, .int x1)] [] I3 J P (f_Wo_relate_L1 a0 a1 a2 n1_ x1 I3) := by
    intro n1_
    induction n1_ with
    | zero => intro x1 I3; exact q_none
    | succ n1_ ih1 =>
      intro x1 I3
      rw [f_Wo_relate_L1]
      refine q_iload_n 3 3 13 rfl (by decide +kernel) rfl ?_
      refine q_aload_n 0 0 14 rfl (by decide +kernel) rfl ?_
      refine q_geti (f := 3) 17 rfl (by decide +kernel) (cC_Wo D tc x0 y ad) h0.1 (by decide) rfl tw_1_212 ?_
      refine q_icmp_ge 20 rfl 96 (off := 79) (by decide +kernel) rfl (fun g5 => ?_) (fun g5 => ?_)
      · exact q_vret (by decide +kernel) rfl rfl (Nat.le_of_ble_eq_true rfl) (Nat.le_of_ble_eq_true rfl)
      · refine q_iload_n 3 3 21 rfl (by decide +kernel) rfl ?_
        refine q_bipush 12 (c := 12) 23 rfl (by decide +kernel) rfl ?_
        refine q_icmp_ge 26 rfl 96 (off := 73) (by decide +kernel) rfl (fun g4 => ?_) (fun g4 => ?_)
        · exact q_vret (by decide +kernel) rfl rfl (Nat.le_of_ble_eq_true rfl) (Nat.le_of_ble_eq_true rfl)
        · refine q_aload_n 0 0 27 rfl (by decide +kernel) rfl ?_
          refine q_getr (f := 2) (a0 + 23) 30 rfl (by decide +kernel) (cC_Wo D tc x0 y ad) h0.1 (by decide) rfl rfl tw_1_211 ?_
          refine q_iload_n 3 3 31 rfl (by decide +kernel) rfl ?_
          refine q_aldc 32 rfl (by decide +kernel) h0.2.2.2.1 rfl (fun j1 hj1 => ?_)
          refine q_astore 4 34 rfl [(4, q_r (cG D tc x0 y ad) ((a0 + 26) + 2 * j1)), (0, q_r (cG D tc x0 y ad) a0), (1, q_r (cG D tc x0 y ad) a1), (2, .int a2), (3, .int x1)] (by decide +kernel) (Nat.le_of_ble_eq_true rfl) rfl ?_
          refine q_aload 0 4 36 rfl (by decide +kernel) rfl ?_
          refine q_geti (f := 4) 39 rfl (by decide +kernel) (cC_Ed D tc x0 y ad) (h0.2.2.2.2.2.2 _ hj1).1 (by decide) rfl tw_1_177 ?_
          refine q_aload_n 2 1 40 rfl (by decide +kernel) rfl ?_
          refine q_geti (f := 4) 43 rfl (by decide +kernel) (cC_Ed D tc x0 y ad) h1.1 (by decide) rfl tw_1_177 ?_
          refine q_icmp_eq 46 rfl 49 (off := 6) (by decide +kernel) rfl (fun g3 => ?_) (fun g3 => ?_)
          · refine q_aload_n 2 1 50 rfl (by decide +kernel) rfl ?_
            refine q_aload 0 4 52 rfl (by decide +kernel) rfl ?_
            refine q_iload_n 3 2 53 rfl (by decide +kernel) rfl ?_
            refine q_iload_n 4 3 54 rfl (by decide +kernel) rfl ?_
            refine q_callN_i 57 rfl (av := [.int a2, .int x1]) (st := [q_r (cG D tc x0 y ad) ((a0 + 26) + 2 * j1), q_r (cG D tc x0 y ad) a1]) (c_CR_contains X.1 D tc x0 y ad I3 J P a2 x1) yv_CR_contains tw_2_180 tw_2_181 rfl (Nat.le_of_ble_eq_true rfl) (by decide +kernel) ⟨Nat.le_of_ble_eq_true rfl, Nat.le_of_ble_eq_true rfl⟩ ⟨Nat.le_of_ble_eq_true rfl, Nat.le_of_ble_eq_true rfl⟩ rfl rfl (fun v1 => ?_)
            refine q_callV_i 60 rfl (av := [q_r (cG D tc x0 y ad) ((a0 + 26) + 2 * j1), .int v1]) (o := a1) (st := []) (c_Ed_clashesWith X.1 D tc x0 y ad I3 J P h1 (h0.2.2.2.2.2.2 _ hj1) v1) yv_Ed_clashesWith tw_3_88 tw_3_89 tw_3_90 (cC_Ed D tc x0 y ad) h1.1 rfl (Nat.le_of_ble_eq_true rfl) (by decide +kernel) ⟨Nat.le_of_ble_eq_true rfl, Nat.le_of_ble_eq_true rfl⟩ ⟨Nat.le_of_ble_eq_true rfl, Nat.le_of_ble_eq_true rfl⟩ rfl rfl (fun v2 => ?_)
            refine q_jn1 75 (fun I4 => [(0, q_r (cG D tc x0 y ad) a0), (1, q_r (cG D tc x0 y ad) a1), (2, .int a2), (3, .int x1), (4, q_r (cG D tc x0 y ad) ((a0 + 26) + 2 * j1))]) (fun I4 => []) (fun I4 => I4) (fun I4 => J) (fun I4 => P) (fun jk1 => if v2 = 0 then ((jk1 (I3))) else (q_l (q_ui I3 a1 6 ((I3 a1 6) ||| (1 <<< (x1 &&& 31)))) (fun I6 => (jk1 (I6))))) (by intro jk1; simp only [q_b1_if, q_b1_s, q_b1_n, q_b1_ix, q_b1_b1, q_b1_b2, q_b1_b3, q_b1_l, q_b1_ck, q_b1_el, q_b1_b4]) ?_ ?_
            · intro I4
              refine q_aload 4 4 77 rfl (by decide +kernel) rfl ?_
              refine q_geti (f := 3) 80 rfl (by decide +kernel) (cC_Ed D tc x0 y ad) (h0.2.2.2.2.2.2 _ hj1).1 (by decide) rfl tw_1_174 ?_
              refine q_if_ne 83 rfl 90 (off := 10) (by decide +kernel) rfl (fun g1 => ?_) (fun g1 => ?_)
              · refine q_iinc (x1 + 1) (c := 1) 3 3 93 rfl [(3, .int (x1 + 1)), (0, q_r (cG D tc x0 y ad) a0), (1, q_r (cG D tc x0 y ad) a1), (2, .int a2), (4, q_r (cG D tc x0 y ad) ((a0 + 26) + 2 * j1))] (by decide +kernel) rfl rfl (Nat.le_of_ble_eq_true rfl) rfl ?_
                refine q_goto (off := -81) 12 (by decide +kernel) rfl ?_
                refine q_sub [1, 2, 3, 0] rfl ?_
                exact ih1 (x1 + 1) I4
              · refine q_aload_n 1 1 84 rfl (by decide +kernel) rfl ?_
                refine q_iconst 1 (c := 1) 85 rfl (by decide +kernel) rfl ?_
                refine q_iload_n 3 3 86 rfl (by decide +kernel) rfl ?_
                refine q_ishl 87 rfl (by decide +kernel) ?_
                refine q_puti (f := 7) 90 rfl (by decide +kernel) (cC_Ed D tc x0 y ad) h1.1 (by decide) rfl rfl rfl tw_1_183 ?_
                refine q_letI (fun I5 => ?_)
                refine q_iinc (x1 + 1) (c := 1) 3 3 93 rfl [(3, .int (x1 + 1)), (0, q_r (cG D tc x0 y ad) a0), (1, q_r (cG D tc x0 y ad) a1), (2, .int a2), (4, q_r (cG D tc x0 y ad) ((a0 + 26) + 2 * j1))] (by decide +kernel) rfl rfl (Nat.le_of_ble_eq_true rfl) rfl ?_
                refine q_goto (off := -81) 12 (by decide +kernel) rfl ?_
                refine q_sub [1, 2, 3, 0] rfl ?_
                exact ih1 (x1 + 1) I5
            · intro jk1 hq1
              refine q_if_eq 63 rfl 75 (off := 15) (by decide +kernel) rfl (fun g2 => ?_) (fun g2 => ?_)
              · refine q_sub [1, 2, 3, 4, 0] rfl ?_
                exact hq1 I3
              · refine q_aload_n 2 1 64 rfl (by decide +kernel) rfl ?_
                refine q_dup 65 rfl (by decide +kernel) rfl ?_
                refine q_geti (f := 6) 68 rfl (by decide +kernel) (cC_Ed D tc x0 y ad) h1.1 (by decide) rfl tw_1_181 ?_
                refine q_iconst 1 (c := 1) 69 rfl (by decide +kernel) rfl ?_
                refine q_iload_n 4 3 70 rfl (by decide +kernel) rfl ?_
                refine q_ishl 71 rfl (by decide +kernel) ?_
                refine q_ior 72 rfl (by decide +kernel) ?_
                refine q_puti (f := 6) 75 rfl (by decide +kernel) (cC_Ed D tc x0 y ad) h1.1 (by decide) rfl rfl rfl tw_1_181 ?_
                refine q_letI (fun I6 => ?_)
                refine q_sub [1, 2, 3, 4, 0] rfl ?_
                exact hq1 I6
          · refine q_goto (off := 44) 90 (by decide +kernel) rfl ?_
            refine q_iinc (x1 + 1) (c := 1) 3 4 93 rfl [(3, .int (x1 + 1)), (4, q_r (cG D tc x0 y ad) ((a0 + 26) + 2 * j1)), (0, q_r (cG D tc x0 y ad) a0), (1, q_r (cG D tc x0 y ad) a1), (2, .int a2)] (by decide +kernel) rfl rfl (Nat.le_of_ble_eq_true rfl) rfl ?_
            refine q_goto (off := -81) 12 (by decide +kernel) rfl ?_
            refine q_sub [2, 3, 4, 0] rfl ?_
            exact ih1 (x1 + 1) I3
  refine q_sub [1, 2, 3, 0] rfl ?_
  exact hL1 _ _ _
def f_Wo_clashing_L1 (I : q_I) (a0 : Nat) (a1 : Int32) (K : Int32 → Option (Int32)) : Nat → Int32 → Int32 → Option (Int32)
  | 0, _, _ => none
  | n + 1, x1, x2 => if (12 : Int32) ≤ x2 then ((K x1)) else (q_ix x2 12 (fun j1 => q_b1 (f_CR_contains (I ((a0 + 26) + 2 * j1) 6) a1) (fun v1 => if v1 = 0 then ((f_Wo_clashing_L1 I a0 a1 K n x1 (x2 + 1))) else (q_l (x1 ||| (1 <<< (x2 &&& 31)) : Int32) (fun x3 => (f_Wo_clashing_L1 I a0 a1 K n x3 (x2 + 1)))))))
def f_Wo_clashing (I : q_I) (a0 : Nat) (a1 : Int32) : Option (Int32) :=
  f_Wo_clashing_L1 I a0 a1 (fun (x4 : Int32) => if a1 < 0 then (some (x4)) else (if (12 : Int32) ≤ a1 then (some (x4)) else (q_ix a1 12 (fun j2 => some ((x4 ||| (I ((a0 + 26) + 2 * j2) 6))))))) q_fu 0 0
def y_Wo_clashing : MethodName := ⟨"CalendarReplicas$World", "clashing", "(I)I"⟩
def m_Wo_clashing : q_M := (prog_9_method_8_code, 4, "CalendarReplicas$World", { frames := 1, cells := 0, slots := 0, locals := 21 }, (some FieldType.int))
theorem yv_Wo_clashing : q_Y y_Wo_clashing m_Wo_clashing 1 := ⟨rfl, ⟨by decide, by decide⟩, by decide +kernel, tw_3_42, tw_1_2⟩
set_option maxRecDepth 100000 in
set_option maxHeartbeats 4000000 in
theorem c_Wo_clashing (l : Launch) (D : va_G) (tc : Nat → ClassId) (x0 y : Nat) (ad : Nat → Nat) (I : q_I) (J : q_J) (P : q_P) {a0 : Nat} (h0 : isWo a0) (a1 : Int32) : q_Ct l (cG D tc x0 y ad) y_Wo_clashing m_Wo_clashing [q_r (cG D tc x0 y ad) a0, .int a1] (I, J, P) (f_Wo_clashing I a0 a1) (fun r : Int32 => (some (.int r), (I, J, P))) := by
  refine q_Ct_of (cIn D tc x0 y ad) (by decide) rfl (Nat.le_of_ble_eq_true rfl) rfl (fun X hX => ?_)
  subst hX
  unfold f_Wo_clashing
  refine q_iconst 0 (c := 0) 1 rfl (by decide +kernel) rfl ?_
  refine q_istore_n 2 2 2 rfl [(2, .int 0), (0, q_r (cG D tc x0 y ad) a0), (1, .int a1)] (by decide +kernel) rfl (Nat.le_of_ble_eq_true rfl) rfl ?_
  refine q_iconst 0 (c := 0) 3 rfl (by decide +kernel) rfl ?_
  refine q_istore_n 3 3 4 rfl [(3, .int 0), (2, .int 0), (0, q_r (cG D tc x0 y ad) a0), (1, .int a1)] (by decide +kernel) rfl (Nat.le_of_ble_eq_true rfl) rfl ?_
  have hL1 : ∀ (K1 : Int32 → Option (Int32)) (hK1 : ∀ (x4 : Int32), q_V (cG D tc x0 y ad) m_Wo_clashing X (fun r : Int32 => (some (.int r), (I, J, P))) 0 0 38 [(0, q_r (cG D tc x0 y ad) a0), (1, .int a1), (2, .int x4)] [] I J P (K1 x4)) (n1_ : Nat) (x1 : Int32) (x2 : Int32), q_V (cG D tc x0 y ad) m_Wo_clashing X (fun r : Int32 => (some (.int r), (I, J, P))) 0 0 4 [(0, q_r (cG D tc x0 y ad) a0), (1, .int a1), (2, .int x1), (3, .int x2)] [] I J P (f_Wo_clashing_L1 I a0 a1 K1 n1_ x1 x2) := by
    intro K1 hK1 n1_
    induction n1_ with
    | zero => intro x1 x2; exact q_none
    | succ n1_ ih1 =>
      intro x1 x2
      rw [f_Wo_clashing_L1]
      refine q_iload_n 3 3 5 rfl (by decide +kernel) rfl ?_
      refine q_bipush 12 (c := 12) 7 rfl (by decide +kernel) rfl ?_
      refine q_icmp_ge 10 rfl 38 (off := 31) (by decide +kernel) rfl (fun g2 => ?_) (fun g2 => ?_)
      · refine q_sub [0, 1, 2] rfl ?_
        exact hK1 x1
      · refine q_aload_n 0 0 11 rfl (by decide +kernel) rfl ?_
        refine q_getr (f := 2) (a0 + 23) 14 rfl (by decide +kernel) (cC_Wo D tc x0 y ad) h0.1 (by decide) rfl rfl tw_1_211 ?_
        refine q_iload_n 3 3 15 rfl (by decide +kernel) rfl ?_
        refine q_aldc 16 rfl (by decide +kernel) h0.2.2.2.1 rfl (fun j1 hj1 => ?_)
        refine q_geti (f := 6) 19 rfl (by decide +kernel) (cC_Ed D tc x0 y ad) (h0.2.2.2.2.2.2 _ hj1).1 (by decide) rfl tw_1_181 ?_
        refine q_iload_n 1 1 20 rfl (by decide +kernel) rfl ?_
        refine q_callN_i 23 rfl (av := [.int (I ((a0 + 26) + 2 * j1) 6), .int a1]) (st := []) (c_CR_contains X.1 D tc x0 y ad I J P (I ((a0 + 26) + 2 * j1) 6) a1) yv_CR_contains tw_2_180 tw_2_181 rfl (Nat.le_of_ble_eq_true rfl) (by decide +kernel) ⟨Nat.le_of_ble_eq_true rfl, Nat.le_of_ble_eq_true rfl⟩ ⟨Nat.le_of_ble_eq_true rfl, Nat.le_of_ble_eq_true rfl⟩ rfl rfl (fun v1 => ?_)
        refine q_if_eq 26 rfl 32 (off := 9) (by decide +kernel) rfl (fun g1 => ?_) (fun g1 => ?_)
        · refine q_iinc (x2 + 1) (c := 1) 3 3 35 rfl [(3, .int (x2 + 1)), (0, q_r (cG D tc x0 y ad) a0), (1, .int a1), (2, .int x1)] (by decide +kernel) rfl rfl (Nat.le_of_ble_eq_true rfl) rfl ?_
          refine q_goto (off := -31) 4 (by decide +kernel) rfl ?_
          refine q_sub [1, 2, 3, 0] rfl ?_
          exact ih1 x1 (x2 + 1)
        · refine q_iload_n 2 2 27 rfl (by decide +kernel) rfl ?_
          refine q_iconst 1 (c := 1) 28 rfl (by decide +kernel) rfl ?_
          refine q_iload_n 3 3 29 rfl (by decide +kernel) rfl ?_
          refine q_ishl 30 rfl (by decide +kernel) ?_
          refine q_ior 31 rfl (by decide +kernel) ?_
          refine q_leti (fun x3 => ?_)
          refine q_istore_n 2 2 32 rfl [(2, .int x3), (0, q_r (cG D tc x0 y ad) a0), (1, .int a1), (3, .int x2)] (by decide +kernel) rfl (Nat.le_of_ble_eq_true rfl) rfl ?_
          refine q_iinc (x2 + 1) (c := 1) 3 3 35 rfl [(3, .int (x2 + 1)), (2, .int x3), (0, q_r (cG D tc x0 y ad) a0), (1, .int a1)] (by decide +kernel) rfl rfl (Nat.le_of_ble_eq_true rfl) rfl ?_
          refine q_goto (off := -31) 4 (by decide +kernel) rfl ?_
          refine q_sub [2, 3, 1, 0] rfl ?_
          exact ih1 x3 (x2 + 1)
  refine q_sub [2, 3, 1, 0] rfl ?_
  refine hL1 _ (fun x4 => ?_) _ _ _
  refine q_iload_n 1 1 39 rfl (by decide +kernel) rfl ?_
  refine q_if_lt 42 rfl 62 (off := 23) (by decide +kernel) rfl (fun g4 => ?_) (fun g4 => ?_)
  · refine q_iload_n 2 2 63 rfl (by decide +kernel) rfl ?_
    exact q_iret (by decide +kernel) rfl rfl (Nat.le_of_ble_eq_true rfl) (Nat.le_of_ble_eq_true rfl)
  · refine q_iload_n 1 1 43 rfl (by decide +kernel) rfl ?_
    refine q_bipush 12 (c := 12) 45 rfl (by decide +kernel) rfl ?_
    refine q_icmp_ge 48 rfl 62 (off := 17) (by decide +kernel) rfl (fun g3 => ?_) (fun g3 => ?_)
    · refine q_iload_n 2 2 63 rfl (by decide +kernel) rfl ?_
      exact q_iret (by decide +kernel) rfl rfl (Nat.le_of_ble_eq_true rfl) (Nat.le_of_ble_eq_true rfl)
    · refine q_iload_n 2 2 49 rfl (by decide +kernel) rfl ?_
      refine q_aload_n 0 0 50 rfl (by decide +kernel) rfl ?_
      refine q_getr (f := 2) (a0 + 23) 53 rfl (by decide +kernel) (cC_Wo D tc x0 y ad) h0.1 (by decide) rfl rfl tw_1_211 ?_
      refine q_iload_n 1 1 54 rfl (by decide +kernel) rfl ?_
      refine q_aldc 55 rfl (by decide +kernel) h0.2.2.2.1 rfl (fun j2 hj2 => ?_)
      refine q_geti (f := 6) 58 rfl (by decide +kernel) (cC_Ed D tc x0 y ad) (h0.2.2.2.2.2.2 _ hj2).1 (by decide) rfl tw_1_181 ?_
      refine q_ior 59 rfl (by decide +kernel) ?_
      refine q_goto (off := 4) 63 (by decide +kernel) rfl ?_
      exact q_iret (by decide +kernel) rfl rfl (Nat.le_of_ble_eq_true rfl) (Nat.le_of_ble_eq_true rfl)
def f_Wo_needing_L1 (I : q_I) (a0 : Nat) (a1 : Int32) : Nat → Int32 → Int32 → Option (Int32)
  | 0, _, _ => none
  | n + 1, x1, x2 => if (12 : Int32) ≤ x2 then (some (x1)) else (q_ix x2 12 (fun j1 => q_b1 (f_CR_contains (I ((a0 + 26) + 2 * j1) 7) a1) (fun v1 => if v1 = 0 then ((f_Wo_needing_L1 I a0 a1 n x1 (x2 + 1))) else (q_l (x1 ||| (1 <<< (x2 &&& 31)) : Int32) (fun x3 => (f_Wo_needing_L1 I a0 a1 n x3 (x2 + 1)))))))
def f_Wo_needing (I : q_I) (a0 : Nat) (a1 : Int32) : Option (Int32) :=
  f_Wo_needing_L1 I a0 a1 q_fu 0 0
def y_Wo_needing : MethodName := ⟨"CalendarReplicas$World", "needing", "(I)I"⟩
def m_Wo_needing : q_M := (prog_9_method_9_code, 4, "CalendarReplicas$World", { frames := 1, cells := 0, slots := 0, locals := 21 }, (some FieldType.int))
theorem yv_Wo_needing : q_Y y_Wo_needing m_Wo_needing 1 := ⟨rfl, ⟨by decide, by decide⟩, by decide +kernel, tw_3_46, tw_1_2⟩
set_option maxRecDepth 100000 in
set_option maxHeartbeats 4000000 in
theorem c_Wo_needing (l : Launch) (D : va_G) (tc : Nat → ClassId) (x0 y : Nat) (ad : Nat → Nat) (I : q_I) (J : q_J) (P : q_P) {a0 : Nat} (h0 : isWo a0) (a1 : Int32) : q_Ct l (cG D tc x0 y ad) y_Wo_needing m_Wo_needing [q_r (cG D tc x0 y ad) a0, .int a1] (I, J, P) (f_Wo_needing I a0 a1) (fun r : Int32 => (some (.int r), (I, J, P))) := by
  refine q_Ct_of (cIn D tc x0 y ad) (by decide) rfl (Nat.le_of_ble_eq_true rfl) rfl (fun X hX => ?_)
  subst hX
  unfold f_Wo_needing
  refine q_iconst 0 (c := 0) 1 rfl (by decide +kernel) rfl ?_
  refine q_istore_n 2 2 2 rfl [(2, .int 0), (0, q_r (cG D tc x0 y ad) a0), (1, .int a1)] (by decide +kernel) rfl (Nat.le_of_ble_eq_true rfl) rfl ?_
  refine q_iconst 0 (c := 0) 3 rfl (by decide +kernel) rfl ?_
  refine q_istore_n 3 3 4 rfl [(3, .int 0), (2, .int 0), (0, q_r (cG D tc x0 y ad) a0), (1, .int a1)] (by decide +kernel) rfl (Nat.le_of_ble_eq_true rfl) rfl ?_
  have hL1 : ∀ (n1_ : Nat) (x1 : Int32) (x2 : Int32), q_V (cG D tc x0 y ad) m_Wo_needing X (fun r : Int32 => (some (.int r), (I, J, P))) 0 0 4 [(0, q_r (cG D tc x0 y ad) a0), (1, .int a1), (2, .int x1), (3, .int x2)] [] I J P (f_Wo_needing_L1 I a0 a1 n1_ x1 x2) := by
    intro n1_
    induction n1_ with
    | zero => intro x1 x2; exact q_none
    | succ n1_ ih1 =>
      intro x1 x2
      rw [f_Wo_needing_L1]
      refine q_iload_n 3 3 5 rfl (by decide +kernel) rfl ?_
      refine q_bipush 12 (c := 12) 7 rfl (by decide +kernel) rfl ?_
      refine q_icmp_ge 10 rfl 38 (off := 31) (by decide +kernel) rfl (fun g2 => ?_) (fun g2 => ?_)
      · refine q_iload_n 2 2 39 rfl (by decide +kernel) rfl ?_
        exact q_iret (by decide +kernel) rfl rfl (Nat.le_of_ble_eq_true rfl) (Nat.le_of_ble_eq_true rfl)
      · refine q_aload_n 0 0 11 rfl (by decide +kernel) rfl ?_
        refine q_getr (f := 2) (a0 + 23) 14 rfl (by decide +kernel) (cC_Wo D tc x0 y ad) h0.1 (by decide) rfl rfl tw_1_211 ?_
        refine q_iload_n 3 3 15 rfl (by decide +kernel) rfl ?_
        refine q_aldc 16 rfl (by decide +kernel) h0.2.2.2.1 rfl (fun j1 hj1 => ?_)
        refine q_geti (f := 7) 19 rfl (by decide +kernel) (cC_Ed D tc x0 y ad) (h0.2.2.2.2.2.2 _ hj1).1 (by decide) rfl tw_1_183 ?_
        refine q_iload_n 1 1 20 rfl (by decide +kernel) rfl ?_
        refine q_callN_i 23 rfl (av := [.int (I ((a0 + 26) + 2 * j1) 7), .int a1]) (st := []) (c_CR_contains X.1 D tc x0 y ad I J P (I ((a0 + 26) + 2 * j1) 7) a1) yv_CR_contains tw_2_180 tw_2_181 rfl (Nat.le_of_ble_eq_true rfl) (by decide +kernel) ⟨Nat.le_of_ble_eq_true rfl, Nat.le_of_ble_eq_true rfl⟩ ⟨Nat.le_of_ble_eq_true rfl, Nat.le_of_ble_eq_true rfl⟩ rfl rfl (fun v1 => ?_)
        refine q_if_eq 26 rfl 32 (off := 9) (by decide +kernel) rfl (fun g1 => ?_) (fun g1 => ?_)
        · refine q_iinc (x2 + 1) (c := 1) 3 3 35 rfl [(3, .int (x2 + 1)), (0, q_r (cG D tc x0 y ad) a0), (1, .int a1), (2, .int x1)] (by decide +kernel) rfl rfl (Nat.le_of_ble_eq_true rfl) rfl ?_
          refine q_goto (off := -31) 4 (by decide +kernel) rfl ?_
          refine q_sub [1, 2, 3, 0] rfl ?_
          exact ih1 x1 (x2 + 1)
        · refine q_iload_n 2 2 27 rfl (by decide +kernel) rfl ?_
          refine q_iconst 1 (c := 1) 28 rfl (by decide +kernel) rfl ?_
          refine q_iload_n 3 3 29 rfl (by decide +kernel) rfl ?_
          refine q_ishl 30 rfl (by decide +kernel) ?_
          refine q_ior 31 rfl (by decide +kernel) ?_
          refine q_leti (fun x3 => ?_)
          refine q_istore_n 2 2 32 rfl [(2, .int x3), (0, q_r (cG D tc x0 y ad) a0), (1, .int a1), (3, .int x2)] (by decide +kernel) rfl (Nat.le_of_ble_eq_true rfl) rfl ?_
          refine q_iinc (x2 + 1) (c := 1) 3 3 35 rfl [(3, .int (x2 + 1)), (2, .int x3), (0, q_r (cG D tc x0 y ad) a0), (1, .int a1)] (by decide +kernel) rfl rfl (Nat.le_of_ble_eq_true rfl) rfl ?_
          refine q_goto (off := -31) 4 (by decide +kernel) rfl ?_
          refine q_sub [2, 3, 1, 0] rfl ?_
          exact ih1 x3 (x2 + 1)
  refine q_sub [2, 3, 1, 0] rfl ?_
  exact hL1 _ _ _
def f_Wo_usable_L1 (I : q_I) (a0 : Nat) (a1 : Int32) : Nat → Int32 → Int32 → Option (Int32)
  | 0, _, _ => none
  | n + 1, x1, x2 => if (12 : Int32) ≤ x2 then (some (x1)) else (q_b1 (f_CR_contains a1 x2) (fun v1 => if v1 = 0 then ((f_Wo_usable_L1 I a0 a1 n x1 (x2 + 1))) else (q_ix x2 12 (fun j1 => if ((I ((a0 + 26) + 2 * j1) 7) &&& (a1 ^^^ (-1))) = 0 then (q_l (x1 ||| (1 <<< (x2 &&& 31)) : Int32) (fun x3 => (f_Wo_usable_L1 I a0 a1 n x3 (x2 + 1)))) else ((f_Wo_usable_L1 I a0 a1 n x1 (x2 + 1)))))))
def f_Wo_usable (I : q_I) (a0 : Nat) (a1 : Int32) : Option (Int32) :=
  f_Wo_usable_L1 I a0 a1 q_fu 0 0
def y_Wo_usable : MethodName := ⟨"CalendarReplicas$World", "usable", "(I)I"⟩
def m_Wo_usable : q_M := (prog_9_method_10_code, 4, "CalendarReplicas$World", { frames := 1, cells := 0, slots := 0, locals := 21 }, (some FieldType.int))
theorem yv_Wo_usable : q_Y y_Wo_usable m_Wo_usable 1 := ⟨rfl, ⟨by decide, by decide⟩, by decide +kernel, tw_2_179, tw_1_2⟩
set_option maxRecDepth 100000 in
set_option maxHeartbeats 4000000 in
theorem c_Wo_usable (l : Launch) (D : va_G) (tc : Nat → ClassId) (x0 y : Nat) (ad : Nat → Nat) (I : q_I) (J : q_J) (P : q_P) {a0 : Nat} (h0 : isWo a0) (a1 : Int32) : q_Ct l (cG D tc x0 y ad) y_Wo_usable m_Wo_usable [q_r (cG D tc x0 y ad) a0, .int a1] (I, J, P) (f_Wo_usable I a0 a1) (fun r : Int32 => (some (.int r), (I, J, P))) := by
  refine q_Ct_of (cIn D tc x0 y ad) (by decide) rfl (Nat.le_of_ble_eq_true rfl) rfl (fun X hX => ?_)
  subst hX
  unfold f_Wo_usable
  refine q_iconst 0 (c := 0) 1 rfl (by decide +kernel) rfl ?_
  refine q_istore_n 2 2 2 rfl [(2, .int 0), (0, q_r (cG D tc x0 y ad) a0), (1, .int a1)] (by decide +kernel) rfl (Nat.le_of_ble_eq_true rfl) rfl ?_
  refine q_iconst 0 (c := 0) 3 rfl (by decide +kernel) rfl ?_
  refine q_istore_n 3 3 4 rfl [(3, .int 0), (2, .int 0), (0, q_r (cG D tc x0 y ad) a0), (1, .int a1)] (by decide +kernel) rfl (Nat.le_of_ble_eq_true rfl) rfl ?_
  have hL1 : ∀ (n1_ : Nat) (x1 : Int32) (x2 : Int32), q_V (cG D tc x0 y ad) m_Wo_usable X (fun r : Int32 => (some (.int r), (I, J, P))) 0 0 4 [(0, q_r (cG D tc x0 y ad) a0), (1, .int a1), (2, .int x1), (3, .int x2)] [] I J P (f_Wo_usable_L1 I a0 a1 n1_ x1 x2) := by
    intro n1_
    induction n1_ with
    | zero => intro x1 x2; exact q_none
    | succ n1_ ih1 =>
      intro x1 x2
      rw [f_Wo_usable_L1]
      refine q_iload_n 3 3 5 rfl (by decide +kernel) rfl ?_
      refine q_bipush 12 (c := 12) 7 rfl (by decide +kernel) rfl ?_
      refine q_icmp_ge 10 rfl 46 (off := 39) (by decide +kernel) rfl (fun g3 => ?_) (fun g3 => ?_)
      · refine q_iload_n 2 2 47 rfl (by decide +kernel) rfl ?_
        exact q_iret (by decide +kernel) rfl rfl (Nat.le_of_ble_eq_true rfl) (Nat.le_of_ble_eq_true rfl)
      · refine q_iload_n 1 1 11 rfl (by decide +kernel) rfl ?_
        refine q_iload_n 3 3 12 rfl (by decide +kernel) rfl ?_
        refine q_callN_i 15 rfl (av := [.int a1, .int x2]) (st := []) (c_CR_contains X.1 D tc x0 y ad I J P a1 x2) yv_CR_contains tw_2_180 tw_2_181 rfl (Nat.le_of_ble_eq_true rfl) (by decide +kernel) ⟨Nat.le_of_ble_eq_true rfl, Nat.le_of_ble_eq_true rfl⟩ ⟨Nat.le_of_ble_eq_true rfl, Nat.le_of_ble_eq_true rfl⟩ rfl rfl (fun v1 => ?_)
        refine q_if_eq 18 rfl 40 (off := 25) (by decide +kernel) rfl (fun g2 => ?_) (fun g2 => ?_)
        · refine q_iinc (x2 + 1) (c := 1) 3 3 43 rfl [(3, .int (x2 + 1)), (0, q_r (cG D tc x0 y ad) a0), (1, .int a1), (2, .int x1)] (by decide +kernel) rfl rfl (Nat.le_of_ble_eq_true rfl) rfl ?_
          refine q_goto (off := -39) 4 (by decide +kernel) rfl ?_
          refine q_sub [1, 2, 3, 0] rfl ?_
          exact ih1 x1 (x2 + 1)
        · refine q_aload_n 0 0 19 rfl (by decide +kernel) rfl ?_
          refine q_getr (f := 2) (a0 + 23) 22 rfl (by decide +kernel) (cC_Wo D tc x0 y ad) h0.1 (by decide) rfl rfl tw_1_211 ?_
          refine q_iload_n 3 3 23 rfl (by decide +kernel) rfl ?_
          refine q_aldc 24 rfl (by decide +kernel) h0.2.2.2.1 rfl (fun j1 hj1 => ?_)
          refine q_geti (f := 7) 27 rfl (by decide +kernel) (cC_Ed D tc x0 y ad) (h0.2.2.2.2.2.2 _ hj1).1 (by decide) rfl tw_1_183 ?_
          refine q_iload_n 1 1 28 rfl (by decide +kernel) rfl ?_
          refine q_iconst (-1) (c := -1) 29 rfl (by decide +kernel) rfl ?_
          refine q_ixor 30 rfl (by decide +kernel) ?_
          refine q_iand 31 rfl (by decide +kernel) ?_
          refine q_if_ne 34 rfl 40 (off := 9) (by decide +kernel) rfl (fun g1 => ?_) (fun g1 => ?_)
          · refine q_iinc (x2 + 1) (c := 1) 3 3 43 rfl [(3, .int (x2 + 1)), (0, q_r (cG D tc x0 y ad) a0), (1, .int a1), (2, .int x1)] (by decide +kernel) rfl rfl (Nat.le_of_ble_eq_true rfl) rfl ?_
            refine q_goto (off := -39) 4 (by decide +kernel) rfl ?_
            refine q_sub [1, 2, 3, 0] rfl ?_
            exact ih1 x1 (x2 + 1)
          · refine q_iload_n 2 2 35 rfl (by decide +kernel) rfl ?_
            refine q_iconst 1 (c := 1) 36 rfl (by decide +kernel) rfl ?_
            refine q_iload_n 3 3 37 rfl (by decide +kernel) rfl ?_
            refine q_ishl 38 rfl (by decide +kernel) ?_
            refine q_ior 39 rfl (by decide +kernel) ?_
            refine q_leti (fun x3 => ?_)
            refine q_istore_n 2 2 40 rfl [(2, .int x3), (0, q_r (cG D tc x0 y ad) a0), (1, .int a1), (3, .int x2)] (by decide +kernel) rfl (Nat.le_of_ble_eq_true rfl) rfl ?_
            refine q_iinc (x2 + 1) (c := 1) 3 3 43 rfl [(3, .int (x2 + 1)), (2, .int x3), (0, q_r (cG D tc x0 y ad) a0), (1, .int a1)] (by decide +kernel) rfl rfl (Nat.le_of_ble_eq_true rfl) rfl ?_
            refine q_goto (off := -39) 4 (by decide +kernel) rfl ?_
            refine q_sub [2, 3, 1, 0] rfl ?_
            exact ih1 x3 (x2 + 1)
  refine q_sub [2, 3, 1, 0] rfl ?_
  exact hL1 _ _ _
def f_Wo_hasClash_L1 (I : q_I) (a0 : Nat) (a1 : Int32) : Nat → Int32 → Option (Int32)
  | 0, _ => none
  | n + 1, x1 => if (12 : Int32) ≤ x1 then (some (0)) else (q_b1 (f_CR_contains a1 x1) (fun v1 => if v1 = 0 then ((f_Wo_hasClash_L1 I a0 a1 n (x1 + 1))) else (q_ix x1 12 (fun j1 => if ((I ((a0 + 26) + 2 * j1) 6) &&& a1) = 0 then ((f_Wo_hasClash_L1 I a0 a1 n (x1 + 1))) else (some (1))))))
def f_Wo_hasClash (I : q_I) (a0 : Nat) (a1 : Int32) : Option (Int32) :=
  f_Wo_hasClash_L1 I a0 a1 q_fu 0
def y_Wo_hasClash : MethodName := ⟨"CalendarReplicas$World", "hasClash", "(I)Z"⟩
def m_Wo_hasClash : q_M := (prog_9_method_11_code, 3, "CalendarReplicas$World", { frames := 1, cells := 0, slots := 0, locals := 21 }, (some FieldType.boolean))
theorem yv_Wo_hasClash : q_Y y_Wo_hasClash m_Wo_hasClash 1 := ⟨rfl, ⟨by decide, by decide⟩, by decide +kernel, tw_4_177, tw_1_2⟩
set_option maxRecDepth 100000 in
set_option maxHeartbeats 4000000 in
theorem c_Wo_hasClash (l : Launch) (D : va_G) (tc : Nat → ClassId) (x0 y : Nat) (ad : Nat → Nat) (I : q_I) (J : q_J) (P : q_P) {a0 : Nat} (h0 : isWo a0) (a1 : Int32) : q_Ct l (cG D tc x0 y ad) y_Wo_hasClash m_Wo_hasClash [q_r (cG D tc x0 y ad) a0, .int a1] (I, J, P) (f_Wo_hasClash I a0 a1) (fun r : Int32 => (some (.int r), (I, J, P))) := by
  refine q_Ct_of (cIn D tc x0 y ad) (by decide) rfl (Nat.le_of_ble_eq_true rfl) rfl (fun X hX => ?_)
  subst hX
  unfold f_Wo_hasClash
  refine q_iconst 0 (c := 0) 1 rfl (by decide +kernel) rfl ?_
  refine q_istore_n 2 2 2 rfl [(2, .int 0), (0, q_r (cG D tc x0 y ad) a0), (1, .int a1)] (by decide +kernel) rfl (Nat.le_of_ble_eq_true rfl) rfl ?_
  have hL1 : ∀ (n1_ : Nat) (x1 : Int32), q_V (cG D tc x0 y ad) m_Wo_hasClash X (fun r : Int32 => (some (.int r), (I, J, P))) 0 0 2 [(0, q_r (cG D tc x0 y ad) a0), (1, .int a1), (2, .int x1)] [] I J P (f_Wo_hasClash_L1 I a0 a1 n1_ x1) := by
    intro n1_
    induction n1_ with
    | zero => intro x1; exact q_none
    | succ n1_ ih1 =>
      intro x1
      rw [f_Wo_hasClash_L1]
      refine q_iload_n 2 2 3 rfl (by decide +kernel) rfl ?_
      refine q_bipush 12 (c := 12) 5 rfl (by decide +kernel) rfl ?_
      refine q_icmp_ge 8 rfl 38 (off := 33) (by decide +kernel) rfl (fun g3 => ?_) (fun g3 => ?_)
      · refine q_iconst 0 (c := 0) 39 rfl (by decide +kernel) rfl ?_
        exact q_zret (w := 0) (by decide +kernel) rfl rfl rfl (Nat.le_of_ble_eq_true rfl) (Nat.le_of_ble_eq_true rfl)
      · refine q_iload_n 1 1 9 rfl (by decide +kernel) rfl ?_
        refine q_iload_n 2 2 10 rfl (by decide +kernel) rfl ?_
        refine q_callN_i 13 rfl (av := [.int a1, .int x1]) (st := []) (c_CR_contains X.1 D tc x0 y ad I J P a1 x1) yv_CR_contains tw_2_180 tw_2_181 rfl (Nat.le_of_ble_eq_true rfl) (by decide +kernel) ⟨Nat.le_of_ble_eq_true rfl, Nat.le_of_ble_eq_true rfl⟩ ⟨Nat.le_of_ble_eq_true rfl, Nat.le_of_ble_eq_true rfl⟩ rfl rfl (fun v1 => ?_)
        refine q_if_eq 16 rfl 32 (off := 19) (by decide +kernel) rfl (fun g2 => ?_) (fun g2 => ?_)
        · refine q_iinc (x1 + 1) (c := 1) 2 2 35 rfl [(2, .int (x1 + 1)), (0, q_r (cG D tc x0 y ad) a0), (1, .int a1)] (by decide +kernel) rfl rfl (Nat.le_of_ble_eq_true rfl) rfl ?_
          refine q_goto (off := -33) 2 (by decide +kernel) rfl ?_
          refine q_sub [1, 2, 0] rfl ?_
          exact ih1 (x1 + 1)
        · refine q_aload_n 0 0 17 rfl (by decide +kernel) rfl ?_
          refine q_getr (f := 2) (a0 + 23) 20 rfl (by decide +kernel) (cC_Wo D tc x0 y ad) h0.1 (by decide) rfl rfl tw_1_211 ?_
          refine q_iload_n 2 2 21 rfl (by decide +kernel) rfl ?_
          refine q_aldc 22 rfl (by decide +kernel) h0.2.2.2.1 rfl (fun j1 hj1 => ?_)
          refine q_geti (f := 6) 25 rfl (by decide +kernel) (cC_Ed D tc x0 y ad) (h0.2.2.2.2.2.2 _ hj1).1 (by decide) rfl tw_1_181 ?_
          refine q_iload_n 1 1 26 rfl (by decide +kernel) rfl ?_
          refine q_iand 27 rfl (by decide +kernel) ?_
          refine q_if_eq 30 rfl 32 (off := 5) (by decide +kernel) rfl (fun g1 => ?_) (fun g1 => ?_)
          · refine q_iinc (x1 + 1) (c := 1) 2 2 35 rfl [(2, .int (x1 + 1)), (0, q_r (cG D tc x0 y ad) a0), (1, .int a1)] (by decide +kernel) rfl rfl (Nat.le_of_ble_eq_true rfl) rfl ?_
            refine q_goto (off := -33) 2 (by decide +kernel) rfl ?_
            refine q_sub [1, 2, 0] rfl ?_
            exact ih1 (x1 + 1)
          · refine q_iconst 1 (c := 1) 31 rfl (by decide +kernel) rfl ?_
            exact q_zret (w := 1) (by decide +kernel) rfl rfl rfl (Nat.le_of_ble_eq_true rfl) (Nat.le_of_ble_eq_true rfl)
  refine q_sub [1, 2, 0] rfl ?_
  exact hL1 _ _
def f_Wo_weigh_L1 (I : q_I) (a0 : Nat) (a1 : Int32) : Nat → Int32 → Int32 → Option (Int32)
  | 0, _, _ => none
  | n + 1, x1, x2 => if (12 : Int32) ≤ x2 then (some (x1)) else (q_b1 (f_CR_contains a1 x2) (fun v1 => if v1 = 0 then ((f_Wo_weigh_L1 I a0 a1 n x1 (x2 + 1))) else (q_ix x2 12 (fun j1 => q_l (x1 + (I ((a0 + 26) + 2 * j1) 2) : Int32) (fun x3 => (f_Wo_weigh_L1 I a0 a1 n x3 (x2 + 1)))))))
def f_Wo_weigh (I : q_I) (a0 : Nat) (a1 : Int32) : Option (Int32) :=
  f_Wo_weigh_L1 I a0 a1 q_fu 0 0
def y_Wo_weigh : MethodName := ⟨"CalendarReplicas$World", "weigh", "(I)I"⟩
def m_Wo_weigh : q_M := (prog_9_method_12_code, 4, "CalendarReplicas$World", { frames := 1, cells := 0, slots := 0, locals := 21 }, (some FieldType.int))
theorem yv_Wo_weigh : q_Y y_Wo_weigh m_Wo_weigh 1 := ⟨rfl, ⟨by decide, by decide⟩, by decide +kernel, tw_2_193, tw_1_2⟩
set_option maxRecDepth 100000 in
set_option maxHeartbeats 4000000 in
theorem c_Wo_weigh (l : Launch) (D : va_G) (tc : Nat → ClassId) (x0 y : Nat) (ad : Nat → Nat) (I : q_I) (J : q_J) (P : q_P) {a0 : Nat} (h0 : isWo a0) (a1 : Int32) : q_Ct l (cG D tc x0 y ad) y_Wo_weigh m_Wo_weigh [q_r (cG D tc x0 y ad) a0, .int a1] (I, J, P) (f_Wo_weigh I a0 a1) (fun r : Int32 => (some (.int r), (I, J, P))) := by
  refine q_Ct_of (cIn D tc x0 y ad) (by decide) rfl (Nat.le_of_ble_eq_true rfl) rfl (fun X hX => ?_)
  subst hX
  unfold f_Wo_weigh
  refine q_iconst 0 (c := 0) 1 rfl (by decide +kernel) rfl ?_
  refine q_istore_n 2 2 2 rfl [(2, .int 0), (0, q_r (cG D tc x0 y ad) a0), (1, .int a1)] (by decide +kernel) rfl (Nat.le_of_ble_eq_true rfl) rfl ?_
  refine q_iconst 0 (c := 0) 3 rfl (by decide +kernel) rfl ?_
  refine q_istore_n 3 3 4 rfl [(3, .int 0), (2, .int 0), (0, q_r (cG D tc x0 y ad) a0), (1, .int a1)] (by decide +kernel) rfl (Nat.le_of_ble_eq_true rfl) rfl ?_
  have hL1 : ∀ (n1_ : Nat) (x1 : Int32) (x2 : Int32), q_V (cG D tc x0 y ad) m_Wo_weigh X (fun r : Int32 => (some (.int r), (I, J, P))) 0 0 4 [(0, q_r (cG D tc x0 y ad) a0), (1, .int a1), (2, .int x1), (3, .int x2)] [] I J P (f_Wo_weigh_L1 I a0 a1 n1_ x1 x2) := by
    intro n1_
    induction n1_ with
    | zero => intro x1 x2; exact q_none
    | succ n1_ ih1 =>
      intro x1 x2
      rw [f_Wo_weigh_L1]
      refine q_iload_n 3 3 5 rfl (by decide +kernel) rfl ?_
      refine q_bipush 12 (c := 12) 7 rfl (by decide +kernel) rfl ?_
      refine q_icmp_ge 10 rfl 36 (off := 29) (by decide +kernel) rfl (fun g2 => ?_) (fun g2 => ?_)
      · refine q_iload_n 2 2 37 rfl (by decide +kernel) rfl ?_
        exact q_iret (by decide +kernel) rfl rfl (Nat.le_of_ble_eq_true rfl) (Nat.le_of_ble_eq_true rfl)
      · refine q_iload_n 1 1 11 rfl (by decide +kernel) rfl ?_
        refine q_iload_n 3 3 12 rfl (by decide +kernel) rfl ?_
        refine q_callN_i 15 rfl (av := [.int a1, .int x2]) (st := []) (c_CR_contains X.1 D tc x0 y ad I J P a1 x2) yv_CR_contains tw_2_180 tw_2_181 rfl (Nat.le_of_ble_eq_true rfl) (by decide +kernel) ⟨Nat.le_of_ble_eq_true rfl, Nat.le_of_ble_eq_true rfl⟩ ⟨Nat.le_of_ble_eq_true rfl, Nat.le_of_ble_eq_true rfl⟩ rfl rfl (fun v1 => ?_)
        refine q_if_eq 18 rfl 30 (off := 15) (by decide +kernel) rfl (fun g1 => ?_) (fun g1 => ?_)
        · refine q_iinc (x2 + 1) (c := 1) 3 3 33 rfl [(3, .int (x2 + 1)), (0, q_r (cG D tc x0 y ad) a0), (1, .int a1), (2, .int x1)] (by decide +kernel) rfl rfl (Nat.le_of_ble_eq_true rfl) rfl ?_
          refine q_goto (off := -29) 4 (by decide +kernel) rfl ?_
          refine q_sub [1, 2, 3, 0] rfl ?_
          exact ih1 x1 (x2 + 1)
        · refine q_iload_n 2 2 19 rfl (by decide +kernel) rfl ?_
          refine q_aload_n 0 0 20 rfl (by decide +kernel) rfl ?_
          refine q_getr (f := 2) (a0 + 23) 23 rfl (by decide +kernel) (cC_Wo D tc x0 y ad) h0.1 (by decide) rfl rfl tw_1_211 ?_
          refine q_iload_n 3 3 24 rfl (by decide +kernel) rfl ?_
          refine q_aldc 25 rfl (by decide +kernel) h0.2.2.2.1 rfl (fun j1 hj1 => ?_)
          refine q_geti (f := 2) 28 rfl (by decide +kernel) (cC_Ed D tc x0 y ad) (h0.2.2.2.2.2.2 _ hj1).1 (by decide) rfl tw_1_171 ?_
          refine q_iadd 29 rfl (by decide +kernel) ?_
          refine q_leti (fun x3 => ?_)
          refine q_istore_n 2 2 30 rfl [(2, .int x3), (0, q_r (cG D tc x0 y ad) a0), (1, .int a1), (3, .int x2)] (by decide +kernel) rfl (Nat.le_of_ble_eq_true rfl) rfl ?_
          refine q_iinc (x2 + 1) (c := 1) 3 3 33 rfl [(3, .int (x2 + 1)), (2, .int x3), (0, q_r (cG D tc x0 y ad) a0), (1, .int a1)] (by decide +kernel) rfl rfl (Nat.le_of_ble_eq_true rfl) rfl ?_
          refine q_goto (off := -29) 4 (by decide +kernel) rfl ?_
          refine q_sub [2, 3, 1, 0] rfl ?_
          exact ih1 x3 (x2 + 1)
  refine q_sub [2, 3, 1, 0] rfl ?_
  exact hL1 _ _ _
def f_Wo_form_L1 (a0 : Nat) (a1 : Int32) (a2 : Nat) (n2 : Nat) : Nat → Int32 → q_I → q_P → Option (q_I × q_P)
  | 0, _, _, _ => none
  | n + 1, x1, I2, P1 => if (12 : Int32) ≤ x1 then (some (I2, P1)) else (q_ix x1 12 (fun j1 => q_b1 (f_CR_contains a1 x1) (fun v1 => if v1 = 0 then ((f_Wo_form_L1 a0 a1 a2 n2 n (x1 + 1) I2 P1)) else (if (I2 ((a0 + 26) + 2 * j1) 3) = 0 then (q_b1 (f_Cal_put I2 P1 a2 n2 (((a0 + 26) + 2 * j1) + 1)) (fun I5 => (f_Wo_form_L1 a0 a1 a2 n2 n (x1 + 1) I5 P1))) else (if (I2 ((a0 + 26) + 2 * j1) 3) = 6 then (q_b2 (f_Cal_drop I2 P1 a2 n2 (I2 ((a0 + 26) + 2 * j1) 4)) (fun I4 P2 => (f_Wo_form_L1 a0 a1 a2 n2 n (x1 + 1) I4 P2))) else (q_b1 (f_Cal_find I2 P1 a2 n2 (I2 ((a0 + 26) + 2 * j1) 4)) (fun r1 => (r1).elim ((f_Wo_form_L1 a0 a1 a2 n2 n (x1 + 1) I2 P1)) (fun b1 => q_ck (cM b1) (q_b1 (f_Ed_applyTo I2 ((a0 + 26) + 2 * j1) b1) (fun I3 => (f_Wo_form_L1 a0 a1 a2 n2 n (x1 + 1) I3 P1)))))))))))
def f_Wo_form (I : q_I) (P : q_P) (a0 : Nat) (a1 : Int32) (a2 : Nat) (n2 : Nat) : Option (q_I × q_P) :=
  q_b1 (f_Cal_copyFrom I P a2 n2 (a0 + 9) 12) (fun I1 => f_Wo_form_L1 a0 a1 a2 n2 q_fu 0 I1 P)
def y_Wo_form : MethodName := ⟨"CalendarReplicas$World", "form", "(ILCalendarReplicas$Calendar;)V"⟩
def m_Wo_form : q_M := (prog_9_method_13_code, 6, "CalendarReplicas$World", { frames := 2, cells := 0, slots := 0, locals := 62 }, (none : Option FieldType))
theorem yv_Wo_form : q_Y y_Wo_form m_Wo_form 2 := ⟨rfl, ⟨by decide, by decide⟩, by decide +kernel, tw_2_201, tw_1_2⟩
set_option maxRecDepth 100000 in
set_option maxHeartbeats 4000000 in
theorem c_Wo_form (l : Launch) (D : va_G) (tc : Nat → ClassId) (x0 y : Nat) (ad : Nat → Nat) (I : q_I) (J : q_J) (P : q_P) {a0 : Nat} {a2 : Nat} {n2 : Nat} (h0 : isWo a0) (a1 : Int32) (h2 : isCal a2 n2) : q_Ct l (cG D tc x0 y ad) y_Wo_form m_Wo_form [q_r (cG D tc x0 y ad) a0, .int a1, q_r (cG D tc x0 y ad) a2] (I, J, P) (f_Wo_form I P a0 a1 a2 n2) (fun r : q_I × q_P => (none, (r.1, J, r.2))) := by
  refine q_Ct_of (cIn D tc x0 y ad) (by decide) rfl (Nat.le_of_ble_eq_true rfl) rfl (fun X hX => ?_)
  subst hX
  unfold f_Wo_form
  refine q_aload_n 2 2 1 rfl (by decide +kernel) rfl ?_
  refine q_aload_n 0 0 2 rfl (by decide +kernel) rfl ?_
  refine q_getr (f := 1) (a0 + 9) 5 rfl (by decide +kernel) (cC_Wo D tc x0 y ad) h0.1 (by decide) rfl rfl tw_1_209 ?_
  refine q_callV_vI 8 rfl (av := [q_r (cG D tc x0 y ad) (a0 + 9)]) (o := a2) (st := []) (c_Cal_copyFrom X.1 D tc x0 y ad I J P h2 h0.2.2.1) yv_Cal_copyFrom tw_2_202 tw_2_203 tw_2_204 (cC_Cal D tc x0 y ad) h2.1 rfl (Nat.le_of_ble_eq_true rfl) (by decide +kernel) ⟨Nat.le_of_ble_eq_true rfl, Nat.le_of_ble_eq_true rfl⟩ ⟨Nat.le_of_ble_eq_true rfl, Nat.le_of_ble_eq_true rfl⟩ rfl rfl (fun I1 => ?_)
  refine q_iconst 0 (c := 0) 9 rfl (by decide +kernel) rfl ?_
  refine q_istore_n 3 3 10 rfl [(3, .int 0), (0, q_r (cG D tc x0 y ad) a0), (1, .int a1), (2, q_r (cG D tc x0 y ad) a2)] (by decide +kernel) rfl (Nat.le_of_ble_eq_true rfl) rfl ?_
  have hL1 : ∀ (n1_ : Nat) (x1 : Int32) (I2 : q_I) (P1 : q_P), q_V (cG D tc x0 y ad) m_Wo_form X (fun r : q_I × q_P => (none, (r.1, J, r.2))) 0 0 10 [(0, q_r (cG D tc x0 y ad) a0), (1, .int a1), (2, q_r (cG D tc x0 y ad) a2), (3, .int x1)] [] I2 J P1 (f_Wo_form_L1 a0 a1 a2 n2 n1_ x1 I2 P1) := by
    intro n1_
    induction n1_ with
    | zero => intro x1 I2 P1; exact q_none
    | succ n1_ ih1 =>
      intro x1 I2 P1
      rw [f_Wo_form_L1]
      refine q_iload_n 3 3 11 rfl (by decide +kernel) rfl ?_
      refine q_bipush 12 (c := 12) 13 rfl (by decide +kernel) rfl ?_
      refine q_icmp_ge 16 rfl 106 (off := 93) (by decide +kernel) rfl (fun g4 => ?_) (fun g4 => ?_)
      · exact q_vret (by decide +kernel) rfl rfl (Nat.le_of_ble_eq_true rfl) (Nat.le_of_ble_eq_true rfl)
      · refine q_aload_n 0 0 17 rfl (by decide +kernel) rfl ?_
        refine q_getr (f := 2) (a0 + 23) 20 rfl (by decide +kernel) (cC_Wo D tc x0 y ad) h0.1 (by decide) rfl rfl tw_1_211 ?_
        refine q_iload_n 3 3 21 rfl (by decide +kernel) rfl ?_
        refine q_aldc 22 rfl (by decide +kernel) h0.2.2.2.1 rfl (fun j1 hj1 => ?_)
        refine q_astore 4 24 rfl [(4, q_r (cG D tc x0 y ad) ((a0 + 26) + 2 * j1)), (0, q_r (cG D tc x0 y ad) a0), (1, .int a1), (2, q_r (cG D tc x0 y ad) a2), (3, .int x1)] (by decide +kernel) (Nat.le_of_ble_eq_true rfl) rfl ?_
        refine q_iload_n 2 1 25 rfl (by decide +kernel) rfl ?_
        refine q_iload_n 4 3 26 rfl (by decide +kernel) rfl ?_
        refine q_callN_i 29 rfl (av := [.int a1, .int x1]) (st := []) (c_CR_contains X.1 D tc x0 y ad I2 J P1 a1 x1) yv_CR_contains tw_2_180 tw_2_181 rfl (Nat.le_of_ble_eq_true rfl) (by decide +kernel) ⟨Nat.le_of_ble_eq_true rfl, Nat.le_of_ble_eq_true rfl⟩ ⟨Nat.le_of_ble_eq_true rfl, Nat.le_of_ble_eq_true rfl⟩ rfl rfl (fun v1 => ?_)
        refine q_if_ne 32 rfl 35 (off := 6) (by decide +kernel) rfl (fun g3 => ?_) (fun g3 => ?_)
        · refine q_aload 0 4 37 rfl (by decide +kernel) rfl ?_
          refine q_geti (f := 3) 40 rfl (by decide +kernel) (cC_Ed D tc x0 y ad) (h0.2.2.2.2.2.2 _ hj1).1 (by decide) rfl tw_1_174 ?_
          refine q_if_ne 43 rfl 55 (off := 15) (by decide +kernel) rfl (fun g2 => ?_) (fun g2 => ?_)
          · refine q_aload 0 4 57 rfl (by decide +kernel) rfl ?_
            refine q_geti (f := 3) 60 rfl (by decide +kernel) (cC_Ed D tc x0 y ad) (h0.2.2.2.2.2.2 _ hj1).1 (by decide) rfl tw_1_174 ?_
            refine q_bipush 6 (c := 6) 62 rfl (by decide +kernel) rfl ?_
            refine q_icmp_ne 65 rfl 77 (off := 15) (by decide +kernel) rfl (fun g1 => ?_) (fun g1 => ?_)
            · refine q_aload_n 3 2 78 rfl (by decide +kernel) rfl ?_
              refine q_aload 0 4 80 rfl (by decide +kernel) rfl ?_
              refine q_geti (f := 4) 83 rfl (by decide +kernel) (cC_Ed D tc x0 y ad) (h0.2.2.2.2.2.2 _ hj1).1 (by decide) rfl tw_1_177 ?_
              refine q_callV_q 86 rfl (av := [.int (I2 ((a0 + 26) + 2 * j1) 4)]) (o := a2) (st := []) (c_Cal_find X.1 D tc x0 y ad I2 J P1 h2 (I2 ((a0 + 26) + 2 * j1) 4)) yv_Cal_find tw_2_221 tw_2_157 tw_2_158 (cC_Cal D tc x0 y ad) h2.1 rfl (Nat.le_of_ble_eq_true rfl) (by decide +kernel) ⟨Nat.le_of_ble_eq_true rfl, Nat.le_of_ble_eq_true rfl⟩ ⟨Nat.le_of_ble_eq_true rfl, Nat.le_of_ble_eq_true rfl⟩ rfl rfl (fun r1 => ?_)
              refine q_astoreq 5 88 rfl [(5, q_rn (cG D tc x0 y ad) r1), (4, q_r (cG D tc x0 y ad) ((a0 + 26) + 2 * j1)), (0, q_r (cG D tc x0 y ad) a0), (1, .int a1), (2, q_r (cG D tc x0 y ad) a2), (3, .int x1)] (by decide +kernel) (Nat.le_of_ble_eq_true rfl) rfl ?_
              refine q_aloadq 0 5 90 rfl (by decide +kernel) rfl ?_
              refine q_ifnull 93 rfl 100 (off := 10) (by decide +kernel) rfl (fun he_b1 => ?_) (fun b1 he_b1 => ?_)
              · subst he_b1
                refine q_iinc (x1 + 1) (c := 1) 3 5 103 rfl [(3, .int (x1 + 1)), (5, .null), (4, q_r (cG D tc x0 y ad) ((a0 + 26) + 2 * j1)), (0, q_r (cG D tc x0 y ad) a0), (1, .int a1), (2, q_r (cG D tc x0 y ad) a2)] (by decide +kernel) rfl rfl (Nat.le_of_ble_eq_true rfl) rfl ?_
                refine q_goto (off := -93) 10 (by decide +kernel) rfl ?_
                refine q_sub [3, 4, 5, 0] rfl ?_
                exact ih1 (x1 + 1) I2 P1
              · subst he_b1
                refine q_ckV (fun hc_b1 => ?_)
                refine q_aload 1 4 95 rfl (by decide +kernel) rfl ?_
                refine q_aload 0 5 97 rfl (by decide +kernel) rfl ?_
                refine q_callV_vI 100 rfl (av := [q_r (cG D tc x0 y ad) b1]) (o := ((a0 + 26) + 2 * j1)) (st := []) (c_Ed_applyTo X.1 D tc x0 y ad I2 J P1 (h0.2.2.2.2.2.2 _ hj1) (cM_of hc_b1)) yv_Ed_applyTo tw_2_222 tw_2_223 tw_2_224 (cC_Ed D tc x0 y ad) (h0.2.2.2.2.2.2 _ hj1).1 rfl (Nat.le_of_ble_eq_true rfl) (by decide +kernel) ⟨Nat.le_of_ble_eq_true rfl, Nat.le_of_ble_eq_true rfl⟩ ⟨Nat.le_of_ble_eq_true rfl, Nat.le_of_ble_eq_true rfl⟩ rfl rfl (fun I3 => ?_)
                refine q_iinc (x1 + 1) (c := 1) 3 5 103 rfl [(3, .int (x1 + 1)), (5, q_r (cG D tc x0 y ad) b1), (4, q_r (cG D tc x0 y ad) ((a0 + 26) + 2 * j1)), (0, q_r (cG D tc x0 y ad) a0), (1, .int a1), (2, q_r (cG D tc x0 y ad) a2)] (by decide +kernel) rfl rfl (Nat.le_of_ble_eq_true rfl) rfl ?_
                refine q_goto (off := -93) 10 (by decide +kernel) rfl ?_
                refine q_sub [3, 4, 5, 0] rfl ?_
                exact ih1 (x1 + 1) I3 P1
            · refine q_aload_n 3 2 66 rfl (by decide +kernel) rfl ?_
              refine q_aload 0 4 68 rfl (by decide +kernel) rfl ?_
              refine q_geti (f := 4) 71 rfl (by decide +kernel) (cC_Ed D tc x0 y ad) (h0.2.2.2.2.2.2 _ hj1).1 (by decide) rfl tw_1_177 ?_
              refine q_callV_vIP 74 rfl (av := [.int (I2 ((a0 + 26) + 2 * j1) 4)]) (o := a2) (st := []) (c_Cal_drop X.1 D tc x0 y ad I2 J P1 h2 (I2 ((a0 + 26) + 2 * j1) 4)) yv_Cal_drop tw_2_217 tw_2_218 tw_2_219 (cC_Cal D tc x0 y ad) h2.1 rfl (Nat.le_of_ble_eq_true rfl) (by decide +kernel) ⟨Nat.le_of_ble_eq_true rfl, Nat.le_of_ble_eq_true rfl⟩ ⟨Nat.le_of_ble_eq_true rfl, Nat.le_of_ble_eq_true rfl⟩ rfl rfl (fun I4 P2 => ?_)
              refine q_goto (off := 26) 100 (by decide +kernel) rfl ?_
              refine q_iinc (x1 + 1) (c := 1) 3 4 103 rfl [(3, .int (x1 + 1)), (4, q_r (cG D tc x0 y ad) ((a0 + 26) + 2 * j1)), (0, q_r (cG D tc x0 y ad) a0), (1, .int a1), (2, q_r (cG D tc x0 y ad) a2)] (by decide +kernel) rfl rfl (Nat.le_of_ble_eq_true rfl) rfl ?_
              refine q_goto (off := -93) 10 (by decide +kernel) rfl ?_
              refine q_sub [2, 3, 4, 0] rfl ?_
              exact ih1 (x1 + 1) I4 P2
          · refine q_aload_n 3 2 44 rfl (by decide +kernel) rfl ?_
            refine q_aload 0 4 46 rfl (by decide +kernel) rfl ?_
            refine q_getr (f := 8) (((a0 + 26) + 2 * j1) + 1) 49 rfl (by decide +kernel) (cC_Ed D tc x0 y ad) (h0.2.2.2.2.2.2 _ hj1).1 (by decide) rfl rfl tw_1_185 ?_
            refine q_callV_vI 52 rfl (av := [q_r (cG D tc x0 y ad) (((a0 + 26) + 2 * j1) + 1)]) (o := a2) (st := []) (c_Cal_put X.1 D tc x0 y ad I2 J P1 h2 (h0.2.2.2.2.2.2 _ hj1).2) yv_Cal_put tw_2_213 tw_2_214 tw_2_215 (cC_Cal D tc x0 y ad) h2.1 rfl (Nat.le_of_ble_eq_true rfl) (by decide +kernel) ⟨Nat.le_of_ble_eq_true rfl, Nat.le_of_ble_eq_true rfl⟩ ⟨Nat.le_of_ble_eq_true rfl, Nat.le_of_ble_eq_true rfl⟩ rfl rfl (fun I5 => ?_)
            refine q_goto (off := 48) 100 (by decide +kernel) rfl ?_
            refine q_iinc (x1 + 1) (c := 1) 3 4 103 rfl [(3, .int (x1 + 1)), (4, q_r (cG D tc x0 y ad) ((a0 + 26) + 2 * j1)), (0, q_r (cG D tc x0 y ad) a0), (1, .int a1), (2, q_r (cG D tc x0 y ad) a2)] (by decide +kernel) rfl rfl (Nat.le_of_ble_eq_true rfl) rfl ?_
            refine q_goto (off := -93) 10 (by decide +kernel) rfl ?_
            refine q_sub [2, 3, 4, 0] rfl ?_
            exact ih1 (x1 + 1) I5 P1
        · refine q_goto (off := 68) 100 (by decide +kernel) rfl ?_
          refine q_iinc (x1 + 1) (c := 1) 3 4 103 rfl [(3, .int (x1 + 1)), (4, q_r (cG D tc x0 y ad) ((a0 + 26) + 2 * j1)), (0, q_r (cG D tc x0 y ad) a0), (1, .int a1), (2, q_r (cG D tc x0 y ad) a2)] (by decide +kernel) rfl rfl (Nat.le_of_ble_eq_true rfl) rfl ?_
          refine q_goto (off := -93) 10 (by decide +kernel) rfl ?_
          refine q_sub [2, 3, 4, 0] rfl ?_
          exact ih1 (x1 + 1) I2 P1
  refine q_sub [1, 2, 3, 0] rfl ?_
  exact hL1 _ _ _ _
def f_Wo_dropChanged_L1 (a0 : Nat) (a1 : Int32) (a2 : Nat) (n2 : Nat) : Nat → Int32 → q_I → q_P → Option (q_I × q_P)
  | 0, _, _, _ => none
  | n + 1, x1, I1, P1 => if (12 : Int32) ≤ x1 then (some (I1, P1)) else (q_b1 (f_CR_contains a1 x1) (fun v1 => if v1 = 0 then ((f_Wo_dropChanged_L1 a0 a1 a2 n2 n (x1 + 1) I1 P1)) else (q_ix x1 12 (fun j1 => q_b2 (f_Cal_drop I1 P1 a2 n2 (I1 ((a0 + 26) + 2 * j1) 4)) (fun I2 P2 => (f_Wo_dropChanged_L1 a0 a1 a2 n2 n (x1 + 1) I2 P2))))))
def f_Wo_dropChanged (I : q_I) (P : q_P) (a0 : Nat) (a1 : Int32) (a2 : Nat) (n2 : Nat) : Option (q_I × q_P) :=
  f_Wo_dropChanged_L1 a0 a1 a2 n2 q_fu 0 I P
def y_Wo_dropChanged : MethodName := ⟨"CalendarReplicas$World", "dropChanged", "(ILCalendarReplicas$Calendar;)V"⟩
def m_Wo_dropChanged : q_M := (prog_9_method_14_code, 4, "CalendarReplicas$World", { frames := 1, cells := 0, slots := 0, locals := 24 }, (none : Option FieldType))
theorem yv_Wo_dropChanged : q_Y y_Wo_dropChanged m_Wo_dropChanged 2 := ⟨rfl, ⟨by decide, by decide⟩, by decide +kernel, tw_2_229, tw_1_2⟩
set_option maxRecDepth 100000 in
set_option maxHeartbeats 4000000 in
theorem c_Wo_dropChanged (l : Launch) (D : va_G) (tc : Nat → ClassId) (x0 y : Nat) (ad : Nat → Nat) (I : q_I) (J : q_J) (P : q_P) {a0 : Nat} {a2 : Nat} {n2 : Nat} (h0 : isWo a0) (a1 : Int32) (h2 : isCal a2 n2) : q_Ct l (cG D tc x0 y ad) y_Wo_dropChanged m_Wo_dropChanged [q_r (cG D tc x0 y ad) a0, .int a1, q_r (cG D tc x0 y ad) a2] (I, J, P) (f_Wo_dropChanged I P a0 a1 a2 n2) (fun r : q_I × q_P => (none, (r.1, J, r.2))) := by
  refine q_Ct_of (cIn D tc x0 y ad) (by decide) rfl (Nat.le_of_ble_eq_true rfl) rfl (fun X hX => ?_)
  subst hX
  unfold f_Wo_dropChanged
  refine q_iconst 0 (c := 0) 1 rfl (by decide +kernel) rfl ?_
  refine q_istore_n 3 3 2 rfl [(3, .int 0), (0, q_r (cG D tc x0 y ad) a0), (1, .int a1), (2, q_r (cG D tc x0 y ad) a2)] (by decide +kernel) rfl (Nat.le_of_ble_eq_true rfl) rfl ?_
  have hL1 : ∀ (n1_ : Nat) (x1 : Int32) (I1 : q_I) (P1 : q_P), q_V (cG D tc x0 y ad) m_Wo_dropChanged X (fun r : q_I × q_P => (none, (r.1, J, r.2))) 0 0 2 [(0, q_r (cG D tc x0 y ad) a0), (1, .int a1), (2, q_r (cG D tc x0 y ad) a2), (3, .int x1)] [] I1 J P1 (f_Wo_dropChanged_L1 a0 a1 a2 n2 n1_ x1 I1 P1) := by
    intro n1_
    induction n1_ with
    | zero => intro x1 I1 P1; exact q_none
    | succ n1_ ih1 =>
      intro x1 I1 P1
      rw [f_Wo_dropChanged_L1]
      refine q_iload_n 3 3 3 rfl (by decide +kernel) rfl ?_
      refine q_bipush 12 (c := 12) 5 rfl (by decide +kernel) rfl ?_
      refine q_icmp_ge 8 rfl 35 (off := 30) (by decide +kernel) rfl (fun g2 => ?_) (fun g2 => ?_)
      · exact q_vret (by decide +kernel) rfl rfl (Nat.le_of_ble_eq_true rfl) (Nat.le_of_ble_eq_true rfl)
      · refine q_iload_n 1 1 9 rfl (by decide +kernel) rfl ?_
        refine q_iload_n 3 3 10 rfl (by decide +kernel) rfl ?_
        refine q_callN_i 13 rfl (av := [.int a1, .int x1]) (st := []) (c_CR_contains X.1 D tc x0 y ad I1 J P1 a1 x1) yv_CR_contains tw_2_180 tw_2_181 rfl (Nat.le_of_ble_eq_true rfl) (by decide +kernel) ⟨Nat.le_of_ble_eq_true rfl, Nat.le_of_ble_eq_true rfl⟩ ⟨Nat.le_of_ble_eq_true rfl, Nat.le_of_ble_eq_true rfl⟩ rfl rfl (fun v1 => ?_)
        refine q_if_eq 16 rfl 29 (off := 16) (by decide +kernel) rfl (fun g1 => ?_) (fun g1 => ?_)
        · refine q_iinc (x1 + 1) (c := 1) 3 3 32 rfl [(3, .int (x1 + 1)), (0, q_r (cG D tc x0 y ad) a0), (1, .int a1), (2, q_r (cG D tc x0 y ad) a2)] (by decide +kernel) rfl rfl (Nat.le_of_ble_eq_true rfl) rfl ?_
          refine q_goto (off := -30) 2 (by decide +kernel) rfl ?_
          refine q_sub [1, 2, 3, 0] rfl ?_
          exact ih1 (x1 + 1) I1 P1
        · refine q_aload_n 2 2 17 rfl (by decide +kernel) rfl ?_
          refine q_aload_n 0 0 18 rfl (by decide +kernel) rfl ?_
          refine q_getr (f := 2) (a0 + 23) 21 rfl (by decide +kernel) (cC_Wo D tc x0 y ad) h0.1 (by decide) rfl rfl tw_1_211 ?_
          refine q_iload_n 3 3 22 rfl (by decide +kernel) rfl ?_
          refine q_aldc 23 rfl (by decide +kernel) h0.2.2.2.1 rfl (fun j1 hj1 => ?_)
          refine q_geti (f := 4) 26 rfl (by decide +kernel) (cC_Ed D tc x0 y ad) (h0.2.2.2.2.2.2 _ hj1).1 (by decide) rfl tw_1_177 ?_
          refine q_callV_vIP 29 rfl (av := [.int (I1 ((a0 + 26) + 2 * j1) 4)]) (o := a2) (st := []) (c_Cal_drop X.1 D tc x0 y ad I1 J P1 h2 (I1 ((a0 + 26) + 2 * j1) 4)) yv_Cal_drop tw_2_217 tw_2_218 tw_2_219 (cC_Cal D tc x0 y ad) h2.1 rfl (Nat.le_of_ble_eq_true rfl) (by decide +kernel) ⟨Nat.le_of_ble_eq_true rfl, Nat.le_of_ble_eq_true rfl⟩ ⟨Nat.le_of_ble_eq_true rfl, Nat.le_of_ble_eq_true rfl⟩ rfl rfl (fun I2 P2 => ?_)
          refine q_iinc (x1 + 1) (c := 1) 3 3 32 rfl [(3, .int (x1 + 1)), (0, q_r (cG D tc x0 y ad) a0), (1, .int a1), (2, q_r (cG D tc x0 y ad) a2)] (by decide +kernel) rfl rfl (Nat.le_of_ble_eq_true rfl) rfl ?_
          refine q_goto (off := -30) 2 (by decide +kernel) rfl ?_
          refine q_sub [1, 2, 3, 0] rfl ?_
          exact ih1 (x1 + 1) I2 P2
  refine q_sub [1, 2, 3, 0] rfl ?_
  exact hL1 _ _ _ _
def f_Mg_fits_L1 (a0 : Nat) (a1 : Nat) (I2 : q_I) (P2 : q_P) (K : q_J → Option (Int32 × q_I × q_J × q_P)) : Nat → Int32 → q_J → Option (Int32 × q_I × q_J × q_P)
  | 0, _, _ => none
  | n + 1, x1, J2 => if (I2 (a0 + 1) 1) ≤ x1 then ((K J2)) else (q_b1 (f_Cal_row I2 P2 (a0 + 1) 24 x1) (fun r1 => (r1).elim ((f_Mg_fits_L1 a0 a1 I2 P2 K n (x1 + 1) J2)) (fun b1 => q_ck (cM b1) (q_b1 (f_Ru_allows I2 (a1 + 1) b1) (fun v1 => if v1 = 0 then (some (0, I2, J2, P2)) else (q_b2 (f_TT_book I2 J2 (a0 + 27) b1) (fun v2 J3 => if v2 = 0 then (some (0, I2, J3, P2)) else ((f_Mg_fits_L1 a0 a1 I2 P2 K n (x1 + 1) J3)))))))))
def f_Mg_fits (I : q_I) (J : q_J) (P : q_P) (a0 : Nat) (a1 : Nat) (a2 : Int32) (a3 : Int32) : Option (Int32 × q_I × q_J × q_P) :=
  q_b2 (f_Wo_form I P a1 a2 (a0 + 1) 24) (fun I1 P1 => q_b2 (f_Wo_dropChanged I1 P1 a1 a3 (a0 + 1) 24) (fun I2 P2 => q_b1 (f_TT_begin I2 J (a0 + 27) (a1 + 1)) (fun J1 => f_Mg_fits_L1 a0 a1 I2 P2 (fun (J4 : q_J) => q_b1 (f_Ru_hasOrders I2 P2 (a1 + 1) (a0 + 1) 24) (fun v3 => some ((v3 &&& 1), I2, J4, P2))) q_fu 0 J1)))
def y_Mg_fits : MethodName := ⟨"CalendarReplicas$Merge", "fits", "(LCalendarReplicas$World;II)Z"⟩
def m_Mg_fits : q_M := (prog_6_method_6_code, 6, "CalendarReplicas$Merge", { frames := 3, cells := 0, slots := 0, locals := 87 }, (some FieldType.boolean))
theorem yv_Mg_fits : q_Y y_Mg_fits m_Mg_fits 3 := ⟨rfl, ⟨by decide, by decide⟩, by decide +kernel, tw_2_197, tw_1_8⟩
set_option maxRecDepth 100000 in
set_option maxHeartbeats 4000000 in
theorem c_Mg_fits (l : Launch) (D : va_G) (tc : Nat → ClassId) (x0 y : Nat) (ad : Nat → Nat) (I : q_I) (J : q_J) (P : q_P) {a0 : Nat} {a1 : Nat} (h0 : isMg a0) (h1 : isWo a1) (a2 : Int32) (a3 : Int32) : q_Ct l (cG D tc x0 y ad) y_Mg_fits m_Mg_fits [q_r (cG D tc x0 y ad) a0, q_r (cG D tc x0 y ad) a1, .int a2, .int a3] (I, J, P) (f_Mg_fits I J P a0 a1 a2 a3) (fun r : Int32 × q_I × q_J × q_P => (some (.int r.1), (r.2.1, r.2.2.1, r.2.2.2))) := by
  refine q_Ct_of (cIn D tc x0 y ad) (by decide) rfl (Nat.le_of_ble_eq_true rfl) rfl (fun X hX => ?_)
  subst hX
  unfold f_Mg_fits
  refine q_aload_n 1 1 1 rfl (by decide +kernel) rfl ?_
  refine q_iload_n 2 2 2 rfl (by decide +kernel) rfl ?_
  refine q_aload_n 0 0 3 rfl (by decide +kernel) rfl ?_
  refine q_getr (f := 0) (a0 + 1) 6 rfl (by decide +kernel) (cC_Mg D tc x0 y ad) h0.1 (by decide) rfl rfl tw_2_19 ?_
  refine q_callV_vIP 9 rfl (av := [.int a2, q_r (cG D tc x0 y ad) (a0 + 1)]) (o := a1) (st := []) (c_Wo_form X.1 D tc x0 y ad I J P h1 a2 h0.2.1) yv_Wo_form tw_2_198 tw_2_199 tw_2_200 (cC_Wo D tc x0 y ad) h1.1 rfl (Nat.le_of_ble_eq_true rfl) (by decide +kernel) ⟨Nat.le_of_ble_eq_true rfl, Nat.le_of_ble_eq_true rfl⟩ ⟨Nat.le_of_ble_eq_true rfl, Nat.le_of_ble_eq_true rfl⟩ rfl rfl (fun I1 P1 => ?_)
  refine q_aload_n 1 1 10 rfl (by decide +kernel) rfl ?_
  refine q_iload_n 3 3 11 rfl (by decide +kernel) rfl ?_
  refine q_aload_n 0 0 12 rfl (by decide +kernel) rfl ?_
  refine q_getr (f := 0) (a0 + 1) 15 rfl (by decide +kernel) (cC_Mg D tc x0 y ad) h0.1 (by decide) rfl rfl tw_2_19 ?_
  refine q_callV_vIP 18 rfl (av := [.int a3, q_r (cG D tc x0 y ad) (a0 + 1)]) (o := a1) (st := []) (c_Wo_dropChanged X.1 D tc x0 y ad I1 J P1 h1 a3 h0.2.1) yv_Wo_dropChanged tw_2_226 tw_2_227 tw_2_228 (cC_Wo D tc x0 y ad) h1.1 rfl (Nat.le_of_ble_eq_true rfl) (by decide +kernel) ⟨Nat.le_of_ble_eq_true rfl, Nat.le_of_ble_eq_true rfl⟩ ⟨Nat.le_of_ble_eq_true rfl, Nat.le_of_ble_eq_true rfl⟩ rfl rfl (fun I2 P2 => ?_)
  refine q_aload_n 0 0 19 rfl (by decide +kernel) rfl ?_
  refine q_getr (f := 1) (a0 + 27) 22 rfl (by decide +kernel) (cC_Mg D tc x0 y ad) h0.1 (by decide) rfl rfl tw_2_20 ?_
  refine q_aload_n 1 1 23 rfl (by decide +kernel) rfl ?_
  refine q_getr (f := 0) (a1 + 1) 26 rfl (by decide +kernel) (cC_Wo D tc x0 y ad) h1.1 (by decide) rfl rfl tw_1_208 ?_
  refine q_callV_vJ 29 rfl (av := [q_r (cG D tc x0 y ad) (a1 + 1)]) (o := (a0 + 27)) (st := []) (c_TT_begin X.1 D tc x0 y ad I2 J P2 h0.2.2 h1.2.1) yv_TT_begin tw_2_230 tw_2_231 tw_2_232 (cC_TT D tc x0 y ad) h0.2.2.1 rfl (Nat.le_of_ble_eq_true rfl) (by decide +kernel) ⟨Nat.le_of_ble_eq_true rfl, Nat.le_of_ble_eq_true rfl⟩ ⟨Nat.le_of_ble_eq_true rfl, Nat.le_of_ble_eq_true rfl⟩ rfl rfl (fun J1 => ?_)
  refine q_iconst 0 (c := 0) 30 rfl (by decide +kernel) rfl ?_
  refine q_istore 4 32 rfl [(4, .int 0), (0, q_r (cG D tc x0 y ad) a0), (1, q_r (cG D tc x0 y ad) a1), (2, .int a2), (3, .int a3)] (by decide +kernel) (Nat.le_of_ble_eq_true rfl) rfl ?_
  have hL1 : ∀ (K1 : q_J → Option (Int32 × q_I × q_J × q_P)) (hK1 : ∀ (J4 : q_J), q_V (cG D tc x0 y ad) m_Mg_fits X (fun r : Int32 × q_I × q_J × q_P => (some (.int r.1), (r.2.1, r.2.2.1, r.2.2.2))) 0 0 92 [(0, q_r (cG D tc x0 y ad) a0), (1, q_r (cG D tc x0 y ad) a1)] [] I2 J4 P2 (K1 J4)) (n1_ : Nat) (x1 : Int32) (J2 : q_J), q_V (cG D tc x0 y ad) m_Mg_fits X (fun r : Int32 × q_I × q_J × q_P => (some (.int r.1), (r.2.1, r.2.2.1, r.2.2.2))) 0 0 32 [(0, q_r (cG D tc x0 y ad) a0), (1, q_r (cG D tc x0 y ad) a1), (4, .int x1)] [] I2 J2 P2 (f_Mg_fits_L1 a0 a1 I2 P2 K1 n1_ x1 J2) := by
    intro K1 hK1 n1_
    induction n1_ with
    | zero => intro x1 J2; exact q_none
    | succ n1_ ih1 =>
      intro x1 J2
      rw [f_Mg_fits_L1]
      refine q_iload 2 4 34 rfl (by decide +kernel) rfl ?_
      refine q_aload_n 0 0 35 rfl (by decide +kernel) rfl ?_
      refine q_getr (f := 0) (a0 + 1) 38 rfl (by decide +kernel) (cC_Mg D tc x0 y ad) h0.1 (by decide) rfl rfl tw_2_19 ?_
      refine q_geti (f := 1) 41 rfl (by decide +kernel) (cC_Cal D tc x0 y ad) h0.2.1.1 (by decide) rfl tw_1_149 ?_
      refine q_icmp_ge 44 rfl 92 (off := 51) (by decide +kernel) rfl (fun g3 => ?_) (fun g3 => ?_)
      · refine q_sub [0, 1] rfl ?_
        exact hK1 J2
      · refine q_aload_n 0 0 45 rfl (by decide +kernel) rfl ?_
        refine q_getr (f := 0) (a0 + 1) 48 rfl (by decide +kernel) (cC_Mg D tc x0 y ad) h0.1 (by decide) rfl rfl tw_2_19 ?_
        refine q_iload 2 4 50 rfl (by decide +kernel) rfl ?_
        refine q_callV_q 53 rfl (av := [.int x1]) (o := (a0 + 1)) (st := []) (c_Cal_row X.1 D tc x0 y ad I2 J2 P2 h0.2.1 x1) yv_Cal_row tw_3_2 tw_3_3 tw_3_4 (cC_Cal D tc x0 y ad) h0.2.1.1 rfl (Nat.le_of_ble_eq_true rfl) (by decide +kernel) ⟨Nat.le_of_ble_eq_true rfl, Nat.le_of_ble_eq_true rfl⟩ ⟨Nat.le_of_ble_eq_true rfl, Nat.le_of_ble_eq_true rfl⟩ rfl rfl (fun r1 => ?_)
        refine q_astoreq 5 55 rfl [(5, q_rn (cG D tc x0 y ad) r1), (0, q_r (cG D tc x0 y ad) a0), (1, q_r (cG D tc x0 y ad) a1), (4, .int x1)] (by decide +kernel) (Nat.le_of_ble_eq_true rfl) rfl ?_
        refine q_aloadq 0 5 57 rfl (by decide +kernel) rfl ?_
        refine q_ifnull 60 rfl 86 (off := 29) (by decide +kernel) rfl (fun he_b1 => ?_) (fun b1 he_b1 => ?_)
        · subst he_b1
          refine q_iinc (x1 + 1) (c := 1) 4 3 89 rfl [(4, .int (x1 + 1)), (5, .null), (0, q_r (cG D tc x0 y ad) a0), (1, q_r (cG D tc x0 y ad) a1)] (by decide +kernel) rfl rfl (Nat.le_of_ble_eq_true rfl) rfl ?_
          refine q_goto (off := -57) 32 (by decide +kernel) rfl ?_
          refine q_sub [2, 3, 0] rfl ?_
          exact ih1 (x1 + 1) J2
        · subst he_b1
          refine q_ckV (fun hc_b1 => ?_)
          refine q_aload_n 2 1 61 rfl (by decide +kernel) rfl ?_
          refine q_getr (f := 0) (a1 + 1) 64 rfl (by decide +kernel) (cC_Wo D tc x0 y ad) h1.1 (by decide) rfl rfl tw_1_208 ?_
          refine q_aload 0 5 66 rfl (by decide +kernel) rfl ?_
          refine q_callV_i 69 rfl (av := [q_r (cG D tc x0 y ad) b1]) (o := (a1 + 1)) (st := []) (c_Ru_allows X.1 D tc x0 y ad I2 J2 P2 h1.2.1 (cM_of hc_b1)) yv_Ru_allows tw_3_6 tw_3_7 tw_3_8 (cC_Ru D tc x0 y ad) h1.2.1.1 rfl (Nat.le_of_ble_eq_true rfl) (by decide +kernel) ⟨Nat.le_of_ble_eq_true rfl, Nat.le_of_ble_eq_true rfl⟩ ⟨Nat.le_of_ble_eq_true rfl, Nat.le_of_ble_eq_true rfl⟩ rfl rfl (fun v1 => ?_)
          refine q_if_eq 72 rfl 84 (off := 15) (by decide +kernel) rfl (fun g2 => ?_) (fun g2 => ?_)
          · refine q_iconst 0 (c := 0) 85 rfl (by decide +kernel) rfl ?_
            exact q_zret (w := 0) (by decide +kernel) rfl rfl rfl (Nat.le_of_ble_eq_true rfl) (Nat.le_of_ble_eq_true rfl)
          · refine q_aload_n 1 0 73 rfl (by decide +kernel) rfl ?_
            refine q_getr (f := 1) (a0 + 27) 76 rfl (by decide +kernel) (cC_Mg D tc x0 y ad) h0.1 (by decide) rfl rfl tw_2_20 ?_
            refine q_aload 0 5 78 rfl (by decide +kernel) rfl ?_
            refine q_callV_iJ 81 rfl (av := [q_r (cG D tc x0 y ad) b1]) (o := (a0 + 27)) (st := []) (c_TT_book X.1 D tc x0 y ad I2 J2 P2 h0.2.2 (cM_of hc_b1)) yv_TT_book tw_3_18 tw_3_19 tw_3_20 (cC_TT D tc x0 y ad) h0.2.2.1 rfl (Nat.le_of_ble_eq_true rfl) (by decide +kernel) ⟨Nat.le_of_ble_eq_true rfl, Nat.le_of_ble_eq_true rfl⟩ ⟨Nat.le_of_ble_eq_true rfl, Nat.le_of_ble_eq_true rfl⟩ rfl rfl (fun v2 J3 => ?_)
            refine q_if_ne 84 rfl 86 (off := 5) (by decide +kernel) rfl (fun g1 => ?_) (fun g1 => ?_)
            · refine q_iinc (x1 + 1) (c := 1) 4 3 89 rfl [(4, .int (x1 + 1)), (5, q_r (cG D tc x0 y ad) b1), (0, q_r (cG D tc x0 y ad) a0), (1, q_r (cG D tc x0 y ad) a1)] (by decide +kernel) rfl rfl (Nat.le_of_ble_eq_true rfl) rfl ?_
              refine q_goto (off := -57) 32 (by decide +kernel) rfl ?_
              refine q_sub [2, 3, 0] rfl ?_
              exact ih1 (x1 + 1) J3
            · refine q_iconst 0 (c := 0) 85 rfl (by decide +kernel) rfl ?_
              exact q_zret (w := 0) (by decide +kernel) rfl rfl rfl (Nat.le_of_ble_eq_true rfl) (Nat.le_of_ble_eq_true rfl)
  refine q_sub [1, 2, 0] rfl ?_
  refine hL1 _ (fun J4 => ?_) _ _ _
  refine q_aload_n 1 1 93 rfl (by decide +kernel) rfl ?_
  refine q_getr (f := 0) (a1 + 1) 96 rfl (by decide +kernel) (cC_Wo D tc x0 y ad) h1.1 (by decide) rfl rfl tw_1_208 ?_
  refine q_aload_n 0 0 97 rfl (by decide +kernel) rfl ?_
  refine q_getr (f := 0) (a0 + 1) 100 rfl (by decide +kernel) (cC_Mg D tc x0 y ad) h0.1 (by decide) rfl rfl tw_2_19 ?_
  refine q_callV_i 103 rfl (av := [q_r (cG D tc x0 y ad) (a0 + 1)]) (o := (a1 + 1)) (st := []) (c_Ru_hasOrders X.1 D tc x0 y ad I2 J4 P2 h1.2.1 h0.2.1) yv_Ru_hasOrders tw_3_30 tw_3_31 tw_3_32 (cC_Ru D tc x0 y ad) h1.2.1.1 rfl (Nat.le_of_ble_eq_true rfl) (by decide +kernel) ⟨Nat.le_of_ble_eq_true rfl, Nat.le_of_ble_eq_true rfl⟩ ⟨Nat.le_of_ble_eq_true rfl, Nat.le_of_ble_eq_true rfl⟩ rfl rfl (fun v3 => ?_)
  exact q_zret (w := (v3 &&& 1)) (by decide +kernel) rfl rfl rfl (Nat.le_of_ble_eq_true rfl) (Nat.le_of_ble_eq_true rfl)
def f_Mg_admits (I : q_I) (J : q_J) (P : q_P) (a0 : Nat) (a1 : Nat) (a2 : Int32) : Option (Int32 × q_I × q_J × q_P) :=
  q_b1 (f_Wo_hasClash I a1 a2) (fun v1 => if v1 = 0 then (q_b1 (f_Wo_usable I a1 a2) (fun v2 => if v2 = a2 then (q_b4 (f_Mg_fits I J P a0 a1 a2 0) (fun v3 I1 J1 P1 => if v3 = 0 then (some (0, I1, J1, P1)) else (some (1, I1, J1, P1)))) else (some (0, I, J, P)))) else (some (0, I, J, P)))
def y_Mg_admits : MethodName := ⟨"CalendarReplicas$Merge", "admits", "(LCalendarReplicas$World;I)Z"⟩
def m_Mg_admits : q_M := (prog_6_method_2_code, 3, "CalendarReplicas$Merge", { frames := 4, cells := 0, slots := 0, locals := 112 }, (some FieldType.boolean))
theorem yv_Mg_admits : q_Y y_Mg_admits m_Mg_admits 2 := ⟨rfl, ⟨by decide, by decide⟩, by decide +kernel, tw_4_173, tw_1_8⟩
set_option maxRecDepth 100000 in
set_option maxHeartbeats 4000000 in
theorem c_Mg_admits (l : Launch) (D : va_G) (tc : Nat → ClassId) (x0 y : Nat) (ad : Nat → Nat) (I : q_I) (J : q_J) (P : q_P) {a0 : Nat} {a1 : Nat} (h0 : isMg a0) (h1 : isWo a1) (a2 : Int32) : q_Ct l (cG D tc x0 y ad) y_Mg_admits m_Mg_admits [q_r (cG D tc x0 y ad) a0, q_r (cG D tc x0 y ad) a1, .int a2] (I, J, P) (f_Mg_admits I J P a0 a1 a2) (fun r : Int32 × q_I × q_J × q_P => (some (.int r.1), (r.2.1, r.2.2.1, r.2.2.2))) := by
  refine q_Ct_of (cIn D tc x0 y ad) (by decide) rfl (Nat.le_of_ble_eq_true rfl) rfl (fun X hX => ?_)
  subst hX
  unfold f_Mg_admits
  refine q_aload_n 1 1 1 rfl (by decide +kernel) rfl ?_
  refine q_iload_n 2 2 2 rfl (by decide +kernel) rfl ?_
  refine q_callV_i 5 rfl (av := [.int a2]) (o := a1) (st := []) (c_Wo_hasClash X.1 D tc x0 y ad I J P h1 a2) yv_Wo_hasClash tw_4_174 tw_4_175 tw_4_176 (cC_Wo D tc x0 y ad) h1.1 rfl (Nat.le_of_ble_eq_true rfl) (by decide +kernel) ⟨Nat.le_of_ble_eq_true rfl, Nat.le_of_ble_eq_true rfl⟩ ⟨Nat.le_of_ble_eq_true rfl, Nat.le_of_ble_eq_true rfl⟩ rfl rfl (fun v1 => ?_)
  refine q_if_ne 8 rfl 31 (off := 26) (by decide +kernel) rfl (fun g3 => ?_) (fun g3 => ?_)
  · refine q_iconst 0 (c := 0) 32 rfl (by decide +kernel) rfl ?_
    exact q_zret (w := 0) (by decide +kernel) rfl rfl rfl (Nat.le_of_ble_eq_true rfl) (Nat.le_of_ble_eq_true rfl)
  · refine q_aload_n 1 1 9 rfl (by decide +kernel) rfl ?_
    refine q_iload_n 2 2 10 rfl (by decide +kernel) rfl ?_
    refine q_callV_i 13 rfl (av := [.int a2]) (o := a1) (st := []) (c_Wo_usable X.1 D tc x0 y ad I J P h1 a2) yv_Wo_usable tw_2_176 tw_2_177 tw_2_178 (cC_Wo D tc x0 y ad) h1.1 rfl (Nat.le_of_ble_eq_true rfl) (by decide +kernel) ⟨Nat.le_of_ble_eq_true rfl, Nat.le_of_ble_eq_true rfl⟩ ⟨Nat.le_of_ble_eq_true rfl, Nat.le_of_ble_eq_true rfl⟩ rfl rfl (fun v2 => ?_)
    refine q_iload_n 2 2 14 rfl (by decide +kernel) rfl ?_
    refine q_icmp_ne 17 rfl 31 (off := 17) (by decide +kernel) rfl (fun g2 => ?_) (fun g2 => ?_)
    · refine q_iconst 0 (c := 0) 32 rfl (by decide +kernel) rfl ?_
      exact q_zret (w := 0) (by decide +kernel) rfl rfl rfl (Nat.le_of_ble_eq_true rfl) (Nat.le_of_ble_eq_true rfl)
    · refine q_aload_n 0 0 18 rfl (by decide +kernel) rfl ?_
      refine q_aload_n 1 1 19 rfl (by decide +kernel) rfl ?_
      refine q_iload_n 2 2 20 rfl (by decide +kernel) rfl ?_
      refine q_iconst 0 (c := 0) 21 rfl (by decide +kernel) rfl ?_
      refine q_callV_iIJP 24 rfl (av := [q_r (cG D tc x0 y ad) a1, .int a2, .int 0]) (o := a0) (st := []) (c_Mg_fits X.1 D tc x0 y ad I J P h0 h1 a2 0) yv_Mg_fits tw_2_194 tw_2_196 sw_2 (cC_Mg D tc x0 y ad) h0.1 rfl (Nat.le_of_ble_eq_true rfl) (by decide +kernel) ⟨Nat.le_of_ble_eq_true rfl, Nat.le_of_ble_eq_true rfl⟩ ⟨Nat.le_of_ble_eq_true rfl, Nat.le_of_ble_eq_true rfl⟩ rfl rfl (fun v3 I1 J1 P1 => ?_)
      refine q_if_eq 27 rfl 31 (off := 7) (by decide +kernel) rfl (fun g1 => ?_) (fun g1 => ?_)
      · refine q_iconst 0 (c := 0) 32 rfl (by decide +kernel) rfl ?_
        exact q_zret (w := 0) (by decide +kernel) rfl rfl rfl (Nat.le_of_ble_eq_true rfl) (Nat.le_of_ble_eq_true rfl)
      · refine q_iconst 1 (c := 1) 28 rfl (by decide +kernel) rfl ?_
        refine q_goto (off := 4) 32 (by decide +kernel) rfl ?_
        exact q_zret (w := 1) (by decide +kernel) rfl rfl rfl (Nat.le_of_ble_eq_true rfl) (Nat.le_of_ble_eq_true rfl)
def f_Mg_mayBeBetter (I : q_I) (a0 : Nat) (a1 : Nat) (a2 : Int32) (a3 : Int32) : Option (Int32) :=
  q_l (a2 ||| a3 : Int32) (fun x1 => if ((I a0 2) &&& (x1 ^^^ (-1))) = 0 then (q_b1 (f_Wo_weigh I a1 x1) (fun v1 => if v1 ≤ (I a0 4) then (some (0)) else (some (1)))) else (some (0)))
def y_Mg_mayBeBetter : MethodName := ⟨"CalendarReplicas$Merge", "mayBeBette\x72", "(LCalendarReplicas$World;II)Z"⟩
def m_Mg_mayBeBetter : q_M := (prog_6_method_5_code, 5, "CalendarReplicas$Merge", { frames := 2, cells := 0, slots := 0, locals := 44 }, (some FieldType.boolean))
theorem yv_Mg_mayBeBetter : q_Y y_Mg_mayBeBetter m_Mg_mayBeBetter 3 := ⟨rfl, ⟨by decide, by decide⟩, by decide +kernel, tw_2_189, tw_1_8⟩
set_option maxRecDepth 100000 in
set_option maxHeartbeats 4000000 in
theorem c_Mg_mayBeBetter (l : Launch) (D : va_G) (tc : Nat → ClassId) (x0 y : Nat) (ad : Nat → Nat) (I : q_I) (J : q_J) (P : q_P) {a0 : Nat} {a1 : Nat} (h0 : isMg a0) (h1 : isWo a1) (a2 : Int32) (a3 : Int32) : q_Ct l (cG D tc x0 y ad) y_Mg_mayBeBetter m_Mg_mayBeBetter [q_r (cG D tc x0 y ad) a0, q_r (cG D tc x0 y ad) a1, .int a2, .int a3] (I, J, P) (f_Mg_mayBeBetter I a0 a1 a2 a3) (fun r : Int32 => (some (.int r), (I, J, P))) := by
  refine q_Ct_of (cIn D tc x0 y ad) (by decide) rfl (Nat.le_of_ble_eq_true rfl) rfl (fun X hX => ?_)
  subst hX
  unfold f_Mg_mayBeBetter
  refine q_iload_n 2 2 1 rfl (by decide +kernel) rfl ?_
  refine q_iload_n 3 3 2 rfl (by decide +kernel) rfl ?_
  refine q_ior 3 rfl (by decide +kernel) ?_
  refine q_leti (fun x1 => ?_)
  refine q_istore 4 5 rfl [(4, .int x1), (0, q_r (cG D tc x0 y ad) a0), (1, q_r (cG D tc x0 y ad) a1), (2, .int a2), (3, .int a3)] (by decide +kernel) (Nat.le_of_ble_eq_true rfl) rfl ?_
  refine q_aload_n 1 0 6 rfl (by decide +kernel) rfl ?_
  refine q_geti (f := 2) 9 rfl (by decide +kernel) (cC_Mg D tc x0 y ad) h0.1 (by decide) rfl tw_2_21 ?_
  refine q_iload 0 4 11 rfl (by decide +kernel) rfl ?_
  refine q_iconst (-1) (c := -1) 12 rfl (by decide +kernel) rfl ?_
  refine q_ixor 13 rfl (by decide +kernel) ?_
  refine q_iand 14 rfl (by decide +kernel) ?_
  refine q_if_ne 17 rfl 34 (off := 20) (by decide +kernel) rfl (fun g2 => ?_) (fun g2 => ?_)
  · refine q_iconst 0 (c := 0) 35 rfl (by decide +kernel) rfl ?_
    exact q_zret (w := 0) (by decide +kernel) rfl rfl rfl (Nat.le_of_ble_eq_true rfl) (Nat.le_of_ble_eq_true rfl)
  · refine q_aload_n 2 1 18 rfl (by decide +kernel) rfl ?_
    refine q_iload 0 4 20 rfl (by decide +kernel) rfl ?_
    refine q_callV_i 23 rfl (av := [.int x1]) (o := a1) (st := []) (c_Wo_weigh X.1 D tc x0 y ad I J P h1 x1) yv_Wo_weigh tw_2_190 tw_2_191 tw_2_192 (cC_Wo D tc x0 y ad) h1.1 rfl (Nat.le_of_ble_eq_true rfl) (by decide +kernel) ⟨Nat.le_of_ble_eq_true rfl, Nat.le_of_ble_eq_true rfl⟩ ⟨Nat.le_of_ble_eq_true rfl, Nat.le_of_ble_eq_true rfl⟩ rfl rfl (fun v1 => ?_)
    refine q_aload_n 1 0 24 rfl (by decide +kernel) rfl ?_
    refine q_geti (f := 4) 27 rfl (by decide +kernel) (cC_Mg D tc x0 y ad) h0.1 (by decide) rfl tw_2_23 ?_
    refine q_icmp_le 30 rfl 34 (off := 7) (by decide +kernel) rfl (fun g1 => ?_) (fun g1 => ?_)
    · refine q_iconst 0 (c := 0) 35 rfl (by decide +kernel) rfl ?_
      exact q_zret (w := 0) (by decide +kernel) rfl rfl rfl (Nat.le_of_ble_eq_true rfl) (Nat.le_of_ble_eq_true rfl)
    · refine q_iconst 1 (c := 1) 31 rfl (by decide +kernel) rfl ?_
      refine q_goto (off := 4) 35 (by decide +kernel) rfl ?_
      exact q_zret (w := 1) (by decide +kernel) rfl rfl rfl (Nat.le_of_ble_eq_true rfl) (Nat.le_of_ble_eq_true rfl)
def f_JI_numberOfTrailingZeros (a0 : Int32) : Option (Int32) :=
  q_l ((a0 ^^^ (-1)) &&& (a0 - 1) : Int32) (fun x1 => if (0 : Int32) < x1 then (q_b2 (if x1 ≤ 65536 then ((some (x1, 1))) else (q_l ((x1.toUInt32 >>> ((16 : Int32).toUInt32 &&& Int32.toUInt32 31)).toInt32 : Int32) (fun x11 => (some (x11, (1 + 16))))) : Option (Int32 × Int32)) (fun (x2 : Int32) (x3 : Int32) => q_b2 (if x2 ≤ 256 then ((some (x2, x3))) else (q_l ((x2.toUInt32 >>> ((8 : Int32).toUInt32 &&& Int32.toUInt32 31)).toInt32 : Int32) (fun x10 => (some (x10, (x3 + 8))))) : Option (Int32 × Int32)) (fun (x4 : Int32) (x5 : Int32) => q_b2 (if x4 ≤ 16 then ((some (x4, x5))) else (q_l ((x4.toUInt32 >>> ((4 : Int32).toUInt32 &&& Int32.toUInt32 31)).toInt32 : Int32) (fun x9 => (some (x9, (x5 + 4))))) : Option (Int32 × Int32)) (fun (x6 : Int32) (x7 : Int32) => if x6 ≤ 4 then (some ((x7 + ((x6.toUInt32 >>> ((1 : Int32).toUInt32 &&& Int32.toUInt32 31)).toInt32)))) else (q_l ((x6.toUInt32 >>> ((2 : Int32).toUInt32 &&& Int32.toUInt32 31)).toInt32 : Int32) (fun x8 => some (((x7 + 2) + ((x8.toUInt32 >>> ((1 : Int32).toUInt32 &&& Int32.toUInt32 31)).toInt32))))))))) else (some ((x1 &&& 32))))
def y_JI_numberOfTrailingZeros : MethodName := ⟨"java/lang/Intege\x72", "numberOfTrailingZeros", "(I)I"⟩
def m_JI_numberOfTrailingZeros : q_M := (prog_15_method_48_code, 2, "java/lang/Intege\x72", { frames := 0, cells := 0, slots := 0, locals := 0 }, (some FieldType.int))
theorem yv_JI_numberOfTrailingZeros : q_Y y_JI_numberOfTrailingZeros m_JI_numberOfTrailingZeros 1 := ⟨rfl, ⟨by decide, by decide⟩, by decide +kernel, tw_3_37, tw_1_16⟩
set_option maxRecDepth 100000 in
set_option maxHeartbeats 4000000 in
theorem c_JI_numberOfTrailingZeros (l : Launch) (D : va_G) (tc : Nat → ClassId) (x0 y : Nat) (ad : Nat → Nat) (I : q_I) (J : q_J) (P : q_P) (a0 : Int32) : q_Ct l (cG D tc x0 y ad) y_JI_numberOfTrailingZeros m_JI_numberOfTrailingZeros [.int a0] (I, J, P) (f_JI_numberOfTrailingZeros a0) (fun r : Int32 => (some (.int r), (I, J, P))) := by
  refine q_Ct_of (cIn D tc x0 y ad) (by decide) rfl (Nat.le_of_ble_eq_true rfl) rfl (fun X hX => ?_)
  subst hX
  unfold f_JI_numberOfTrailingZeros
  refine q_iload_n 0 0 1 rfl (by decide +kernel) rfl ?_
  refine q_iconst (-1) (c := -1) 2 rfl (by decide +kernel) rfl ?_
  refine q_ixor 3 rfl (by decide +kernel) ?_
  refine q_iload_n 0 0 4 rfl (by decide +kernel) rfl ?_
  refine q_iconst 1 (c := 1) 5 rfl (by decide +kernel) rfl ?_
  refine q_isub 6 rfl (by decide +kernel) ?_
  refine q_iand 7 rfl (by decide +kernel) ?_
  refine q_leti (fun x1 => ?_)
  refine q_istore_n 0 0 8 rfl [(0, .int x1)] (by decide +kernel) rfl (Nat.le_of_ble_eq_true rfl) rfl ?_
  refine q_iload_n 0 0 9 rfl (by decide +kernel) rfl ?_
  refine q_if_gt 12 rfl 17 (off := 8) (by decide +kernel) rfl (fun g5 => ?_) (fun g5 => ?_)
  · refine q_iconst 1 (c := 1) 18 rfl (by decide +kernel) rfl ?_
    refine q_istore_n 1 1 19 rfl [(1, .int 1), (0, .int x1)] (by decide +kernel) rfl (Nat.le_of_ble_eq_true rfl) rfl ?_
    refine q_iload_n 1 0 20 rfl (by decide +kernel) rfl ?_
    refine q_ldcw (v := 65536) (i := 264) 23 rfl (by decide +kernel) tw_3_38 ?_
    refine q_jn2 34 (fun x2 x3 => [(0, .int x2), (1, .int x3)]) (fun x2 x3 => []) (fun x2 x3 => I) (fun x2 x3 => J) (fun x2 x3 => P) (fun jk1 => if x1 ≤ 65536 then ((jk1 (x1, 1))) else (q_l ((x1.toUInt32 >>> ((16 : Int32).toUInt32 &&& Int32.toUInt32 31)).toInt32 : Int32) (fun x11 => (jk1 (x11, (1 + 16)))))) (by intro jk1; simp only [q_b1_if, q_b1_s, q_b1_n, q_b1_ix, q_b1_b1, q_b1_b2, q_b1_b3, q_b1_l, q_b1_ck, q_b1_el, q_b1_b4]) ?_ ?_
    · intro x2 x3
      refine q_iload_n 0 0 35 rfl (by decide +kernel) rfl ?_
      refine q_sipush 256 (c := 256) 38 rfl (by decide +kernel) rfl ?_
      refine q_jn2 49 (fun x4 x5 => [(0, .int x4), (1, .int x5)]) (fun x4 x5 => []) (fun x4 x5 => I) (fun x4 x5 => J) (fun x4 x5 => P) (fun jk2 => if x2 ≤ 256 then ((jk2 (x2, x3))) else (q_l ((x2.toUInt32 >>> ((8 : Int32).toUInt32 &&& Int32.toUInt32 31)).toInt32 : Int32) (fun x10 => (jk2 (x10, (x3 + 8)))))) (by intro jk2; simp only [q_b1_if, q_b1_s, q_b1_n, q_b1_ix, q_b1_b1, q_b1_b2, q_b1_b3, q_b1_l, q_b1_ck, q_b1_el, q_b1_b4]) ?_ ?_
      · intro x4 x5
        refine q_iload_n 0 0 50 rfl (by decide +kernel) rfl ?_
        refine q_bipush 16 (c := 16) 52 rfl (by decide +kernel) rfl ?_
        refine q_jn2 62 (fun x6 x7 => [(0, .int x6), (1, .int x7)]) (fun x6 x7 => []) (fun x6 x7 => I) (fun x6 x7 => J) (fun x6 x7 => P) (fun jk3 => if x4 ≤ 16 then ((jk3 (x4, x5))) else (q_l ((x4.toUInt32 >>> ((4 : Int32).toUInt32 &&& Int32.toUInt32 31)).toInt32 : Int32) (fun x9 => (jk3 (x9, (x5 + 4)))))) (by intro jk3; simp only [q_b1_if, q_b1_s, q_b1_n, q_b1_ix, q_b1_b1, q_b1_b2, q_b1_b3, q_b1_l, q_b1_ck, q_b1_el, q_b1_b4]) ?_ ?_
        · intro x6 x7
          refine q_iload_n 0 0 63 rfl (by decide +kernel) rfl ?_
          refine q_iconst 4 (c := 4) 64 rfl (by decide +kernel) rfl ?_
          refine q_icmp_le 67 rfl 74 (off := 10) (by decide +kernel) rfl (fun g1 => ?_) (fun g1 => ?_)
          · refine q_iload_n 1 1 75 rfl (by decide +kernel) rfl ?_
            refine q_iload_n 0 0 76 rfl (by decide +kernel) rfl ?_
            refine q_iconst 1 (c := 1) 77 rfl (by decide +kernel) rfl ?_
            refine q_iushr 78 rfl (by decide +kernel) ?_
            refine q_iadd 79 rfl (by decide +kernel) ?_
            exact q_iret (by decide +kernel) rfl rfl (Nat.le_of_ble_eq_true rfl) (Nat.le_of_ble_eq_true rfl)
          · refine q_iinc (x7 + 2) (c := 2) 1 1 70 rfl [(1, .int (x7 + 2)), (0, .int x6)] (by decide +kernel) rfl rfl (Nat.le_of_ble_eq_true rfl) rfl ?_
            refine q_iload_n 1 0 71 rfl (by decide +kernel) rfl ?_
            refine q_iconst 2 (c := 2) 72 rfl (by decide +kernel) rfl ?_
            refine q_iushr 73 rfl (by decide +kernel) ?_
            refine q_leti (fun x8 => ?_)
            refine q_istore_n 0 0 74 rfl [(0, .int x8), (1, .int (x7 + 2))] (by decide +kernel) rfl (Nat.le_of_ble_eq_true rfl) rfl ?_
            refine q_iload_n 1 1 75 rfl (by decide +kernel) rfl ?_
            refine q_iload_n 0 0 76 rfl (by decide +kernel) rfl ?_
            refine q_iconst 1 (c := 1) 77 rfl (by decide +kernel) rfl ?_
            refine q_iushr 78 rfl (by decide +kernel) ?_
            refine q_iadd 79 rfl (by decide +kernel) ?_
            exact q_iret (by decide +kernel) rfl rfl (Nat.le_of_ble_eq_true rfl) (Nat.le_of_ble_eq_true rfl)
        · intro jk3 hq3
          refine q_icmp_le 55 rfl 62 (off := 10) (by decide +kernel) rfl (fun g2 => ?_) (fun g2 => ?_)
          · exact hq3 x4 x5
          · refine q_iinc (x5 + 4) (c := 4) 1 1 58 rfl [(1, .int (x5 + 4)), (0, .int x4)] (by decide +kernel) rfl rfl (Nat.le_of_ble_eq_true rfl) rfl ?_
            refine q_iload_n 1 0 59 rfl (by decide +kernel) rfl ?_
            refine q_iconst 4 (c := 4) 60 rfl (by decide +kernel) rfl ?_
            refine q_iushr 61 rfl (by decide +kernel) ?_
            refine q_leti (fun x9 => ?_)
            refine q_istore_n 0 0 62 rfl [(0, .int x9), (1, .int (x5 + 4))] (by decide +kernel) rfl (Nat.le_of_ble_eq_true rfl) rfl ?_
            exact hq3 x9 (x5 + 4)
      · intro jk2 hq2
        refine q_icmp_le 41 rfl 49 (off := 11) (by decide +kernel) rfl (fun g3 => ?_) (fun g3 => ?_)
        · exact hq2 x2 x3
        · refine q_iinc (x3 + 8) (c := 8) 1 1 44 rfl [(1, .int (x3 + 8)), (0, .int x2)] (by decide +kernel) rfl rfl (Nat.le_of_ble_eq_true rfl) rfl ?_
          refine q_iload_n 1 0 45 rfl (by decide +kernel) rfl ?_
          refine q_bipush 8 (c := 8) 47 rfl (by decide +kernel) rfl ?_
          refine q_iushr 48 rfl (by decide +kernel) ?_
          refine q_leti (fun x10 => ?_)
          refine q_istore_n 0 0 49 rfl [(0, .int x10), (1, .int (x3 + 8))] (by decide +kernel) rfl (Nat.le_of_ble_eq_true rfl) rfl ?_
          exact hq2 x10 (x3 + 8)
    · intro jk1 hq1
      refine q_icmp_le 26 rfl 34 (off := 11) (by decide +kernel) rfl (fun g4 => ?_) (fun g4 => ?_)
      · refine q_sub [1, 0] rfl ?_
        exact hq1 x1 1
      · refine q_iinc (1 + 16) (c := 16) 1 0 29 rfl [(1, .int (1 + 16)), (0, .int x1)] (by decide +kernel) rfl rfl (Nat.le_of_ble_eq_true rfl) rfl ?_
        refine q_iload_n 1 0 30 rfl (by decide +kernel) rfl ?_
        refine q_bipush 16 (c := 16) 32 rfl (by decide +kernel) rfl ?_
        refine q_iushr 33 rfl (by decide +kernel) ?_
        refine q_leti (fun x11 => ?_)
        refine q_istore_n 0 0 34 rfl [(0, .int x11), (1, .int (1 + 16))] (by decide +kernel) rfl (Nat.le_of_ble_eq_true rfl) rfl ?_
        exact hq1 x11 (1 + 16)
  · refine q_iload_n 0 0 13 rfl (by decide +kernel) rfl ?_
    refine q_bipush 32 (c := 32) 15 rfl (by decide +kernel) rfl ?_
    refine q_iand 16 rfl (by decide +kernel) ?_
    exact q_iret (by decide +kernel) rfl rfl (Nat.le_of_ble_eq_true rfl) (Nat.le_of_ble_eq_true rfl)
def f_Mg_search : Nat → q_I → q_J → q_P → Nat → Nat → Int32 → Int32 → Int32 → Option (q_I × q_J × q_P)
  | 0, _, _, _, _, _, _, _, _ => none
  | n + 1, I, J, P, a0, a1, a2, a3, a4 => if (12 : Int32) < a2 then (some (I, J, P)) else (q_b1 (f_Mg_mayBeBetter I a0 a1 a3 a4) (fun v1 => if v1 = 0 then (some (I, J, P)) else (q_b4 (f_Mg_fits I J P a0 a1 a3 a4) (fun v2 I1 J1 P1 => if v2 = 0 then (some (I1, J1, P1)) else (if a4 = 0 then (q_l (q_ui I1 a0 3 a3) (fun I4 => q_b1 (f_Wo_weigh I4 a1 a3) (fun v6 => q_l (q_ui I4 a0 4 v6) (fun I5 => some (I5, J1, P1))))) else (q_b1 (f_JI_numberOfTrailingZeros a4) (fun v3 => q_l (1 <<< (v3 &&& 31) : Int32) (fun x1 => q_b1 (f_Wo_clashing I1 a1 v3) (fun v4 => q_b3 (f_Mg_search n I1 J1 P1 a0 a1 (a2 + 1) (a3 ||| x1) ((a4 &&& (x1 ^^^ (-1))) &&& (v4 ^^^ (-1)))) (fun I2 J2 P2 => q_b1 (f_Wo_needing I2 a1 v3) (fun v5 => q_b3 (f_Mg_search n I2 J2 P2 a0 a1 (a2 + 1) a3 ((a4 &&& (x1 ^^^ (-1))) &&& (v5 ^^^ (-1)))) (fun I3 J3 P3 => some (I3, J3, P3)))))))))))))
def y_Mg_search : MethodName := ⟨"CalendarReplicas$Merge", "search", "(LCalendarReplicas$Merge;LCalendarReplicas$World;III)V"⟩
def m_Mg_search (n : Nat) : q_M := (prog_6_method_4_code, 7, "CalendarReplicas$Merge", { frames := 4 + n, cells := 0, slots := 0, locals := 112 + n * 26 }, (none : Option FieldType))
theorem yv_Mg_search (n : Nat) : q_Y y_Mg_search (m_Mg_search n) 5 := ⟨rfl, ⟨by decide, by decide⟩, by decide +kernel, tw_2_185, tw_1_8⟩
set_option maxRecDepth 100000 in
set_option maxHeartbeats 4000000 in
theorem c_Mg_search (l : Launch) (D : va_G) (tc : Nat → ClassId) (x0 y : Nat) (ad : Nat → Nat) : ∀ (n_ : Nat) (I : q_I) (J : q_J) (P : q_P) {a0 : Nat} {a1 : Nat} (h0 : isMg a0) (h1 : isWo a1) (a2 : Int32) (a3 : Int32) (a4 : Int32), q_Ct l (cG D tc x0 y ad) y_Mg_search (m_Mg_search n_) [q_r (cG D tc x0 y ad) a0, q_r (cG D tc x0 y ad) a1, .int a2, .int a3, .int a4] (I, J, P) (f_Mg_search n_ I J P a0 a1 a2 a3 a4) (fun r : q_I × q_J × q_P => (none, (r.1, r.2.1, r.2.2))) := by
  intro n_
  induction n_ with
  | zero =>
    intros
    exact fun _ h => by cases h
  | succ n ih =>
    intro I J P a0 a1 h0 h1 a2 a3 a4
    refine q_Ct_of (cIn D tc x0 y ad) (by decide) rfl (Nat.le_of_ble_eq_true rfl) rfl (fun X hX => ?_)
    subst hX
    rw [f_Mg_search]
    refine q_iload_n 2 2 1 rfl (by show decode prog_6_method_4_code 0 = _; decide +kernel) rfl ?_
    refine q_bipush 12 (c := 12) 3 rfl (by show decode prog_6_method_4_code 1 = _; decide +kernel) rfl ?_
    refine q_icmp_gt 6 rfl 28 (off := 25) (by show decode prog_6_method_4_code 3 = _; decide +kernel) rfl (fun g4 => ?_) (fun g4 => ?_)
    · exact q_vret (by show decode prog_6_method_4_code 28 = _; decide +kernel) rfl rfl (Nat.le_of_ble_eq_true rfl) (Nat.le_of_ble_eq_true rfl)
    · refine q_aload_n 0 0 7 rfl (by show decode prog_6_method_4_code 6 = _; decide +kernel) rfl ?_
      refine q_aload_n 1 1 8 rfl (by show decode prog_6_method_4_code 7 = _; decide +kernel) rfl ?_
      refine q_iload_n 3 3 9 rfl (by show decode prog_6_method_4_code 8 = _; decide +kernel) rfl ?_
      refine q_iload 4 4 11 rfl (by show decode prog_6_method_4_code 9 = _; decide +kernel) rfl ?_
      refine q_callV_i 14 rfl (av := [q_r (cG D tc x0 y ad) a1, .int a3, .int a4]) (o := a0) (st := []) (c_Mg_mayBeBetter X.1 D tc x0 y ad I J P h0 h1 a3 a4) yv_Mg_mayBeBetter tw_2_186 tw_2_188 sw_1 (cC_Mg D tc x0 y ad) h0.1 rfl (Nat.le_of_ble_eq_true rfl) (by show decode prog_6_method_4_code 11 = _; decide +kernel) ⟨by show 2 + 1 ≤ 4 + (n + 1); omega, by show 8 + (5 + 11) + 44 ≤ 112 + (n + 1) * 26; omega⟩ ⟨Nat.le_of_ble_eq_true rfl, Nat.le_of_ble_eq_true rfl⟩ rfl rfl (fun v1 => ?_)
      refine q_if_eq 17 rfl 28 (off := 14) (by show decode prog_6_method_4_code 14 = _; decide +kernel) rfl (fun g3 => ?_) (fun g3 => ?_)
      · exact q_vret (by show decode prog_6_method_4_code 28 = _; decide +kernel) rfl rfl (Nat.le_of_ble_eq_true rfl) (Nat.le_of_ble_eq_true rfl)
      · refine q_aload_n 0 0 18 rfl (by show decode prog_6_method_4_code 17 = _; decide +kernel) rfl ?_
        refine q_aload_n 1 1 19 rfl (by show decode prog_6_method_4_code 18 = _; decide +kernel) rfl ?_
        refine q_iload_n 3 3 20 rfl (by show decode prog_6_method_4_code 19 = _; decide +kernel) rfl ?_
        refine q_iload 4 4 22 rfl (by show decode prog_6_method_4_code 20 = _; decide +kernel) rfl ?_
        refine q_callV_iIJP 25 rfl (av := [q_r (cG D tc x0 y ad) a1, .int a3, .int a4]) (o := a0) (st := []) (c_Mg_fits X.1 D tc x0 y ad I J P h0 h1 a3 a4) yv_Mg_fits tw_2_194 tw_2_196 sw_2 (cC_Mg D tc x0 y ad) h0.1 rfl (Nat.le_of_ble_eq_true rfl) (by show decode prog_6_method_4_code 22 = _; decide +kernel) ⟨by show 3 + 1 ≤ 4 + (n + 1); omega, by show 8 + (6 + 11) + 87 ≤ 112 + (n + 1) * 26; omega⟩ ⟨Nat.le_of_ble_eq_true rfl, Nat.le_of_ble_eq_true rfl⟩ rfl rfl (fun v2 I1 J1 P1 => ?_)
        refine q_if_ne 28 rfl 29 (off := 4) (by show decode prog_6_method_4_code 25 = _; decide +kernel) rfl (fun g2 => ?_) (fun g2 => ?_)
        · refine q_iload 4 4 31 rfl (by show decode prog_6_method_4_code 29 = _; decide +kernel) rfl ?_
          refine q_if_ne 34 rfl 49 (off := 18) (by show decode prog_6_method_4_code 31 = _; decide +kernel) rfl (fun g1 => ?_) (fun g1 => ?_)
          · refine q_iload 4 4 51 rfl (by show decode prog_6_method_4_code 49 = _; decide +kernel) rfl ?_
            refine q_callS_i 54 rfl (av := [.int a4]) (st := []) (c_JI_numberOfTrailingZeros X.1 D tc x0 y ad I1 J1 P1 a4) yv_JI_numberOfTrailingZeros tw_3_35 tw_3_36 rfl (Nat.le_of_ble_eq_true rfl) (by show decode prog_6_method_4_code 51 = _; decide +kernel) ⟨by show 0 + 1 ≤ 4 + (n + 1); omega, by show 8 + (2 + 11) + 0 ≤ 112 + (n + 1) * 26; omega⟩ ⟨Nat.le_of_ble_eq_true rfl, Nat.le_of_ble_eq_true rfl⟩ rfl rfl (fun v3 => ?_)
            refine q_istore 5 56 rfl [(5, .int v3), (0, q_r (cG D tc x0 y ad) a0), (1, q_r (cG D tc x0 y ad) a1), (2, .int a2), (3, .int a3), (4, .int a4)] (by show decode prog_6_method_4_code 54 = _; decide +kernel) (Nat.le_of_ble_eq_true rfl) rfl ?_
            refine q_iconst 1 (c := 1) 57 rfl (by show decode prog_6_method_4_code 56 = _; decide +kernel) rfl ?_
            refine q_iload 0 5 59 rfl (by show decode prog_6_method_4_code 57 = _; decide +kernel) rfl ?_
            refine q_ishl 60 rfl (by show decode prog_6_method_4_code 59 = _; decide +kernel) ?_
            refine q_leti (fun x1 => ?_)
            refine q_istore 6 62 rfl [(6, .int x1), (5, .int v3), (0, q_r (cG D tc x0 y ad) a0), (1, q_r (cG D tc x0 y ad) a1), (2, .int a2), (3, .int a3), (4, .int a4)] (by show decode prog_6_method_4_code 60 = _; decide +kernel) (Nat.le_of_ble_eq_true rfl) rfl ?_
            refine q_aload_n 2 0 63 rfl (by show decode prog_6_method_4_code 62 = _; decide +kernel) rfl ?_
            refine q_aload_n 3 1 64 rfl (by show decode prog_6_method_4_code 63 = _; decide +kernel) rfl ?_
            refine q_iload_n 4 2 65 rfl (by show decode prog_6_method_4_code 64 = _; decide +kernel) rfl ?_
            refine q_iconst 1 (c := 1) 66 rfl (by show decode prog_6_method_4_code 65 = _; decide +kernel) rfl ?_
            refine q_iadd 67 rfl (by show decode prog_6_method_4_code 66 = _; decide +kernel) ?_
            refine q_iload_n 5 3 68 rfl (by show decode prog_6_method_4_code 67 = _; decide +kernel) rfl ?_
            refine q_iload 0 6 70 rfl (by show decode prog_6_method_4_code 68 = _; decide +kernel) rfl ?_
            refine q_ior 71 rfl (by show decode prog_6_method_4_code 70 = _; decide +kernel) ?_
            refine q_iload 6 4 73 rfl (by show decode prog_6_method_4_code 71 = _; decide +kernel) rfl ?_
            refine q_iload 0 6 75 rfl (by show decode prog_6_method_4_code 73 = _; decide +kernel) rfl ?_
            refine q_iconst (-1) (c := -1) 76 rfl (by show decode prog_6_method_4_code 75 = _; decide +kernel) rfl ?_
            refine q_ixor 77 rfl (by show decode prog_6_method_4_code 76 = _; decide +kernel) ?_
            refine q_iand 78 rfl (by show decode prog_6_method_4_code 77 = _; decide +kernel) ?_
            refine q_aload_n 3 1 79 rfl (by show decode prog_6_method_4_code 78 = _; decide +kernel) rfl ?_
            refine q_iload 1 5 81 rfl (by show decode prog_6_method_4_code 79 = _; decide +kernel) rfl ?_
            refine q_callV_i 84 rfl (av := [.int v3]) (o := a1) (st := [.int (a4 &&& (x1 ^^^ (-1))), .int (a3 ||| x1), .int (a2 + 1), q_r (cG D tc x0 y ad) a1, q_r (cG D tc x0 y ad) a0]) (c_Wo_clashing X.1 D tc x0 y ad I1 J1 P1 h1 v3) yv_Wo_clashing tw_3_39 tw_3_40 tw_3_41 (cC_Wo D tc x0 y ad) h1.1 rfl (Nat.le_of_ble_eq_true rfl) (by show decode prog_6_method_4_code 81 = _; decide +kernel) ⟨by show 1 + 1 ≤ 4 + (n + 1); omega, by show 8 + (4 + 11) + 21 ≤ 112 + (n + 1) * 26; omega⟩ ⟨Nat.le_of_ble_eq_true rfl, Nat.le_of_ble_eq_true rfl⟩ rfl rfl (fun v4 => ?_)
            refine q_iconst (-1) (c := -1) 85 rfl (by show decode prog_6_method_4_code 84 = _; decide +kernel) rfl ?_
            refine q_ixor 86 rfl (by show decode prog_6_method_4_code 85 = _; decide +kernel) ?_
            refine q_iand 87 rfl (by show decode prog_6_method_4_code 86 = _; decide +kernel) ?_
            refine q_callS_vIJP 90 rfl (av := [q_r (cG D tc x0 y ad) a0, q_r (cG D tc x0 y ad) a1, .int (a2 + 1), .int (a3 ||| x1), .int ((a4 &&& (x1 ^^^ (-1))) &&& (v4 ^^^ (-1)))]) (st := []) (ih I1 J1 P1 h0 h1 (a2 + 1) (a3 ||| x1) ((a4 &&& (x1 ^^^ (-1))) &&& (v4 ^^^ (-1)))) (yv_Mg_search n) tw_2_183 tw_2_184 rfl (Nat.le_of_ble_eq_true rfl) (by show decode prog_6_method_4_code 87 = _; decide +kernel) ⟨Nat.le_refl _, by show 8 + (7 + 11) + (112 + n * 26) ≤ 112 + (n + 1) * 26; omega⟩ ⟨Nat.le_of_ble_eq_true rfl, Nat.le_of_ble_eq_true rfl⟩ rfl rfl (fun I2 J2 P2 => ?_)
            refine q_aload_n 2 0 91 rfl (by show decode prog_6_method_4_code 90 = _; decide +kernel) rfl ?_
            refine q_aload_n 3 1 92 rfl (by show decode prog_6_method_4_code 91 = _; decide +kernel) rfl ?_
            refine q_iload_n 4 2 93 rfl (by show decode prog_6_method_4_code 92 = _; decide +kernel) rfl ?_
            refine q_iconst 1 (c := 1) 94 rfl (by show decode prog_6_method_4_code 93 = _; decide +kernel) rfl ?_
            refine q_iadd 95 rfl (by show decode prog_6_method_4_code 94 = _; decide +kernel) ?_
            refine q_iload_n 5 3 96 rfl (by show decode prog_6_method_4_code 95 = _; decide +kernel) rfl ?_
            refine q_iload 6 4 98 rfl (by show decode prog_6_method_4_code 96 = _; decide +kernel) rfl ?_
            refine q_iload 0 6 100 rfl (by show decode prog_6_method_4_code 98 = _; decide +kernel) rfl ?_
            refine q_iconst (-1) (c := -1) 101 rfl (by show decode prog_6_method_4_code 100 = _; decide +kernel) rfl ?_
            refine q_ixor 102 rfl (by show decode prog_6_method_4_code 101 = _; decide +kernel) ?_
            refine q_iand 103 rfl (by show decode prog_6_method_4_code 102 = _; decide +kernel) ?_
            refine q_aload_n 3 1 104 rfl (by show decode prog_6_method_4_code 103 = _; decide +kernel) rfl ?_
            refine q_iload 1 5 106 rfl (by show decode prog_6_method_4_code 104 = _; decide +kernel) rfl ?_
            refine q_callV_i 109 rfl (av := [.int v3]) (o := a1) (st := [.int (a4 &&& (x1 ^^^ (-1))), .int a3, .int (a2 + 1), q_r (cG D tc x0 y ad) a1, q_r (cG D tc x0 y ad) a0]) (c_Wo_needing X.1 D tc x0 y ad I2 J2 P2 h1 v3) yv_Wo_needing tw_3_43 tw_3_44 tw_3_45 (cC_Wo D tc x0 y ad) h1.1 rfl (Nat.le_of_ble_eq_true rfl) (by show decode prog_6_method_4_code 106 = _; decide +kernel) ⟨by show 1 + 1 ≤ 4 + (n + 1); omega, by show 8 + (4 + 11) + 21 ≤ 112 + (n + 1) * 26; omega⟩ ⟨Nat.le_of_ble_eq_true rfl, Nat.le_of_ble_eq_true rfl⟩ rfl rfl (fun v5 => ?_)
            refine q_iconst (-1) (c := -1) 110 rfl (by show decode prog_6_method_4_code 109 = _; decide +kernel) rfl ?_
            refine q_ixor 111 rfl (by show decode prog_6_method_4_code 110 = _; decide +kernel) ?_
            refine q_iand 112 rfl (by show decode prog_6_method_4_code 111 = _; decide +kernel) ?_
            refine q_callS_vIJP 115 rfl (av := [q_r (cG D tc x0 y ad) a0, q_r (cG D tc x0 y ad) a1, .int (a2 + 1), .int a3, .int ((a4 &&& (x1 ^^^ (-1))) &&& (v5 ^^^ (-1)))]) (st := []) (ih I2 J2 P2 h0 h1 (a2 + 1) a3 ((a4 &&& (x1 ^^^ (-1))) &&& (v5 ^^^ (-1)))) (yv_Mg_search n) tw_2_183 tw_2_184 rfl (Nat.le_of_ble_eq_true rfl) (by show decode prog_6_method_4_code 112 = _; decide +kernel) ⟨Nat.le_refl _, by show 8 + (7 + 11) + (112 + n * 26) ≤ 112 + (n + 1) * 26; omega⟩ ⟨Nat.le_of_ble_eq_true rfl, Nat.le_of_ble_eq_true rfl⟩ rfl rfl (fun I3 J3 P3 => ?_)
            exact q_vret (by show decode prog_6_method_4_code 115 = _; decide +kernel) rfl rfl (Nat.le_of_ble_eq_true rfl) (Nat.le_of_ble_eq_true rfl)
          · refine q_aload_n 0 0 35 rfl (by show decode prog_6_method_4_code 34 = _; decide +kernel) rfl ?_
            refine q_iload_n 3 3 36 rfl (by show decode prog_6_method_4_code 35 = _; decide +kernel) rfl ?_
            refine q_puti (f := 3) 39 rfl (by show decode prog_6_method_4_code 36 = _; decide +kernel) (cC_Mg D tc x0 y ad) h0.1 (by decide) rfl rfl rfl tw_2_22 ?_
            refine q_letI (fun I4 => ?_)
            refine q_aload_n 0 0 40 rfl (by show decode prog_6_method_4_code 39 = _; decide +kernel) rfl ?_
            refine q_aload_n 1 1 41 rfl (by show decode prog_6_method_4_code 40 = _; decide +kernel) rfl ?_
            refine q_iload_n 3 3 42 rfl (by show decode prog_6_method_4_code 41 = _; decide +kernel) rfl ?_
            refine q_callV_i 45 rfl (av := [.int a3]) (o := a1) (st := [q_r (cG D tc x0 y ad) a0]) (c_Wo_weigh X.1 D tc x0 y ad I4 J1 P1 h1 a3) yv_Wo_weigh tw_2_190 tw_2_191 tw_2_192 (cC_Wo D tc x0 y ad) h1.1 rfl (Nat.le_of_ble_eq_true rfl) (by show decode prog_6_method_4_code 42 = _; decide +kernel) ⟨by show 1 + 1 ≤ 4 + (n + 1); omega, by show 8 + (4 + 11) + 21 ≤ 112 + (n + 1) * 26; omega⟩ ⟨Nat.le_of_ble_eq_true rfl, Nat.le_of_ble_eq_true rfl⟩ rfl rfl (fun v6 => ?_)
            refine q_puti (f := 4) 48 rfl (by show decode prog_6_method_4_code 45 = _; decide +kernel) (cC_Mg D tc x0 y ad) h0.1 (by decide) rfl rfl rfl tw_2_23 ?_
            refine q_letI (fun I5 => ?_)
            exact q_vret (by show decode prog_6_method_4_code 48 = _; decide +kernel) rfl rfl (Nat.le_of_ble_eq_true rfl) (Nat.le_of_ble_eq_true rfl)
        · exact q_vret (by show decode prog_6_method_4_code 28 = _; decide +kernel) rfl rfl (Nat.le_of_ble_eq_true rfl) (Nat.le_of_ble_eq_true rfl)
def f_Mg_heaviest (I : q_I) (J : q_J) (P : q_P) (a0 : Nat) (a1 : Nat) (a2 : Int32) (a3 : Int32) : Option (Int32 × q_I × q_J × q_P) :=
  q_l (q_ui I a0 2 a3) (fun I1 => q_b1 (if (I1 a0 2) = 0 then ((some (0))) else ((some ((-4)))) : Option (Int32)) (fun (x1 : Int32) => q_l (q_ui I1 a0 3 x1) (fun I2 => q_b1 (if (I2 a0 2) = 0 then ((some (0))) else ((some ((-1)))) : Option (Int32)) (fun (x2 : Int32) => q_l (q_ui I2 a0 4 x2) (fun I3 => q_b1 (f_Wo_usable I3 a1 a2) (fun v1 => q_b3 (f_Mg_search 14 I3 J P a0 a1 0 0 v1) (fun I4 J1 P1 => some ((I4 a0 3), I4, J1, P1))))))))
def y_Mg_heaviest : MethodName := ⟨"CalendarReplicas$Merge", "heaviest", "(LCalendarReplicas$World;II)I"⟩
def m_Mg_heaviest : q_M := (prog_6_method_3_code, 4, "CalendarReplicas$Merge", { frames := 19, cells := 0, slots := 0, locals := 502 }, (some FieldType.int))
theorem yv_Mg_heaviest : q_Y y_Mg_heaviest m_Mg_heaviest 3 := ⟨rfl, ⟨by decide, by decide⟩, by decide +kernel, tw_2_175, tw_1_8⟩
set_option maxRecDepth 100000 in
set_option maxHeartbeats 4000000 in
theorem c_Mg_heaviest (l : Launch) (D : va_G) (tc : Nat → ClassId) (x0 y : Nat) (ad : Nat → Nat) (I : q_I) (J : q_J) (P : q_P) {a0 : Nat} {a1 : Nat} (h0 : isMg a0) (h1 : isWo a1) (a2 : Int32) (a3 : Int32) : q_Ct l (cG D tc x0 y ad) y_Mg_heaviest m_Mg_heaviest [q_r (cG D tc x0 y ad) a0, q_r (cG D tc x0 y ad) a1, .int a2, .int a3] (I, J, P) (f_Mg_heaviest I J P a0 a1 a2 a3) (fun r : Int32 × q_I × q_J × q_P => (some (.int r.1), (r.2.1, r.2.2.1, r.2.2.2))) := by
  refine q_Ct_of (cIn D tc x0 y ad) (by decide) rfl (Nat.le_of_ble_eq_true rfl) rfl (fun X hX => ?_)
  subst hX
  unfold f_Mg_heaviest
  refine q_aload_n 0 0 1 rfl (by decide +kernel) rfl ?_
  refine q_iload_n 3 3 2 rfl (by decide +kernel) rfl ?_
  refine q_puti (f := 2) 5 rfl (by decide +kernel) (cC_Mg D tc x0 y ad) h0.1 (by decide) rfl rfl rfl tw_2_21 ?_
  refine q_letI (fun I1 => ?_)
  refine q_aload_n 0 0 6 rfl (by decide +kernel) rfl ?_
  refine q_aload_n 0 0 7 rfl (by decide +kernel) rfl ?_
  refine q_geti (f := 2) 10 rfl (by decide +kernel) (cC_Mg D tc x0 y ad) h0.1 (by decide) rfl tw_2_21 ?_
  refine q_jn1 19 (fun x1 => [(0, q_r (cG D tc x0 y ad) a0), (1, q_r (cG D tc x0 y ad) a1), (2, .int a2)]) (fun x1 => [.int x1, q_r (cG D tc x0 y ad) a0]) (fun x1 => I1) (fun x1 => J) (fun x1 => P) (fun jk1 => if (I1 a0 2) = 0 then ((jk1 (0))) else ((jk1 ((-4))))) (by intro jk1; simp only [q_b1_if, q_b1_s, q_b1_n, q_b1_ix, q_b1_b1, q_b1_b2, q_b1_b3, q_b1_l, q_b1_ck, q_b1_el, q_b1_b4]) ?_ ?_
  · intro x1
    refine q_puti (f := 3) 22 rfl (by decide +kernel) (cC_Mg D tc x0 y ad) h0.1 (by decide) rfl rfl rfl tw_2_22 ?_
    refine q_letI (fun I2 => ?_)
    refine q_aload_n 0 0 23 rfl (by decide +kernel) rfl ?_
    refine q_aload_n 0 0 24 rfl (by decide +kernel) rfl ?_
    refine q_geti (f := 2) 27 rfl (by decide +kernel) (cC_Mg D tc x0 y ad) h0.1 (by decide) rfl tw_2_21 ?_
    refine q_jn1 35 (fun x2 => [(0, q_r (cG D tc x0 y ad) a0), (1, q_r (cG D tc x0 y ad) a1), (2, .int a2)]) (fun x2 => [.int x2, q_r (cG D tc x0 y ad) a0]) (fun x2 => I2) (fun x2 => J) (fun x2 => P) (fun jk2 => if (I2 a0 2) = 0 then ((jk2 (0))) else ((jk2 ((-1))))) (by intro jk2; simp only [q_b1_if, q_b1_s, q_b1_n, q_b1_ix, q_b1_b1, q_b1_b2, q_b1_b3, q_b1_l, q_b1_ck, q_b1_el, q_b1_b4]) ?_ ?_
    · intro x2
      refine q_puti (f := 4) 38 rfl (by decide +kernel) (cC_Mg D tc x0 y ad) h0.1 (by decide) rfl rfl rfl tw_2_23 ?_
      refine q_letI (fun I3 => ?_)
      refine q_aload_n 0 0 39 rfl (by decide +kernel) rfl ?_
      refine q_aload_n 1 1 40 rfl (by decide +kernel) rfl ?_
      refine q_iconst 0 (c := 0) 41 rfl (by decide +kernel) rfl ?_
      refine q_iconst 0 (c := 0) 42 rfl (by decide +kernel) rfl ?_
      refine q_aload_n 1 1 43 rfl (by decide +kernel) rfl ?_
      refine q_iload_n 2 2 44 rfl (by decide +kernel) rfl ?_
      refine q_callV_i 47 rfl (av := [.int a2]) (o := a1) (st := [.int 0, .int 0, q_r (cG D tc x0 y ad) a1, q_r (cG D tc x0 y ad) a0]) (c_Wo_usable X.1 D tc x0 y ad I3 J P h1 a2) yv_Wo_usable tw_2_176 tw_2_177 tw_2_178 (cC_Wo D tc x0 y ad) h1.1 rfl (Nat.le_of_ble_eq_true rfl) (by decide +kernel) ⟨Nat.le_of_ble_eq_true rfl, Nat.le_of_ble_eq_true rfl⟩ ⟨Nat.le_of_ble_eq_true rfl, Nat.le_of_ble_eq_true rfl⟩ rfl rfl (fun v1 => ?_)
      refine q_callS_vIJP 50 rfl (av := [q_r (cG D tc x0 y ad) a0, q_r (cG D tc x0 y ad) a1, .int 0, .int 0, .int v1]) (st := []) (c_Mg_search X.1 D tc x0 y ad 14 I3 J P h0 h1 0 0 v1) (yv_Mg_search 14) tw_2_183 tw_2_184 rfl (Nat.le_of_ble_eq_true rfl) (by decide +kernel) ⟨Nat.le_of_ble_eq_true rfl, Nat.le_of_ble_eq_true rfl⟩ ⟨Nat.le_of_ble_eq_true rfl, Nat.le_of_ble_eq_true rfl⟩ rfl rfl (fun I4 J1 P1 => ?_)
      refine q_aload_n 0 0 51 rfl (by decide +kernel) rfl ?_
      refine q_geti (f := 3) 54 rfl (by decide +kernel) (cC_Mg D tc x0 y ad) h0.1 (by decide) rfl tw_2_22 ?_
      exact q_iret (by decide +kernel) rfl rfl (Nat.le_of_ble_eq_true rfl) (Nat.le_of_ble_eq_true rfl)
    · intro jk2 hq2
      refine q_if_ne 30 rfl 34 (off := 7) (by decide +kernel) rfl (fun g1 => ?_) (fun g1 => ?_)
      · refine q_iconst (-1) (c := -1) 35 rfl (by decide +kernel) rfl ?_
        exact hq2 (-1)
      · refine q_iconst 0 (c := 0) 31 rfl (by decide +kernel) rfl ?_
        refine q_goto (off := 4) 35 (by decide +kernel) rfl ?_
        exact hq2 0
  · intro jk1 hq1
    refine q_if_ne 13 rfl 17 (off := 7) (by decide +kernel) rfl (fun g2 => ?_) (fun g2 => ?_)
    · refine q_bipush (-4) (c := -4) 19 rfl (by decide +kernel) rfl ?_
      refine q_sub [0, 1, 2] rfl ?_
      exact hq1 (-4)
    · refine q_iconst 0 (c := 0) 14 rfl (by decide +kernel) rfl ?_
      refine q_goto (off := 5) 19 (by decide +kernel) rfl ?_
      refine q_sub [0, 1, 2] rfl ?_
      exact hq1 0
