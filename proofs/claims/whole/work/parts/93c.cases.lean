/-! the law's cases, printed by lawcases.py -/
section LK
variable {D D2 : va_G} {tc tc2 : Nat → ClassId} {ad : Nat → Nat} {p : Program} {l : Launch} {e : Env} {s : State} {m : MethodId} {below : List Frame} {meth : Method} {c : Code} {b Lx : Nat} {xs : Nat → Int32} {Q : State → Prop} {k n : Nat}
-- send
theorem L_k12 (K : L_C D D2 tc tc2 ad p s m meth c b) {i t : Nat} {I : q_I} {J : q_J} {P : q_P} {M : q_I} {J2 : q_J} {P2 : q_P} (hz : d_Z t I P M) (hi : i + 6 < Lx) (hLx : Lx ≤ 3584) (ht : t ≤ 100000) (hk : k + 20 ≤ 600000) (hn : n + 4000 ≤ 7302250) (kk : L_kk D D2 tc tc2 ad p l e s m below meth c b Lx xs Q k n i t) : L_V D D2 tc tc2 ad p l e s m below meth c b Lx xs Q k n 788 (L_l s b i) [] (I, J, P) (M, J2, P2) := by
  obtain ⟨v, I', J', P', M', eC, eM, hz'⟩ := y2_send (J := J) hz (xs (i + 1)) (xs (i + 2))
  refine L_aload_n K 2 1 789 rfl (by decide +kernel) rfl ?_
  refine L_arg K 1 794 rfl (by omega) hLx (by decide +kernel) (by decide +kernel) (by decide +kernel) (by decide +kernel) (by decide +kernel) (by decide) ?_
  refine L_arg K 2 799 rfl (by omega) hLx (by decide +kernel) (by decide +kernel) (by decide +kernel) (by decide +kernel) (by decide +kernel) (by decide) ?_
  refine L_callC (idx := 67) (st := []) (av := [.int (xs (i + 1)), .int (xs (i + 2))]) K (c_CR_send l D tc s.heap.size (s.heap.size + 230) ad I J P (xs (i + 1)) (xs (i + 2))) eC yv_CR_send (K.2.2.2.2.1 _ tw_4_53) (K.2.2.2.2.1 _ tw_4_54) (K.2.2.2.2.1 _ tw_4_55) rfl (show 0 ≤ 8 by decide) (by decide +kernel) ⟨Nat.le_of_ble_eq_true rfl, Nat.le_of_ble_eq_true rfl⟩ ⟨?_, ?_⟩ ?_
  · exact Nat.le_trans (Nat.add_le_add_left (show m_CR_send.2.2.2.1.cells ≤ 20 from Nat.le_of_ble_eq_true rfl) k) hk
  · exact Nat.le_trans (Nat.add_le_add_left (show m_CR_send.2.2.2.1.slots ≤ 4000 from Nat.le_of_ble_eq_true rfl) n) hn
  refine L_aload_n K 1 2 803 rfl (by decide +kernel) rfl ?_
  refine L_arg K 1 808 rfl (by omega) hLx (by decide +kernel) (by decide +kernel) (by decide +kernel) (by decide +kernel) (by decide +kernel) (by decide) ?_
  refine L_arg K 2 813 rfl (by omega) hLx (by decide +kernel) (by decide +kernel) (by decide +kernel) (by decide +kernel) (by decide +kernel) (by decide) ?_
  refine L_callR (idx := 70) (st := [.int v]) (av := [.int (xs (i + 1)), .int (xs (i + 2))]) K (c_Mo_send l D2 tc2 (s.heap.size + 219) (s.heap.size + 230) M J2 P2 (xs (i + 1)) (xs (i + 2))) eM yv_Mo_send (K.2.2.2.2.1 _ tw_6_225) (K.2.2.2.2.1 _ tw_6_226) (K.2.2.2.2.1 _ tw_6_227) rfl (show 1 ≤ 8 by decide) (by decide +kernel) ⟨Nat.le_of_ble_eq_true rfl, Nat.le_of_ble_eq_true rfl⟩ ⟨?_, ?_⟩ ?_
  · exact Nat.le_trans (Nat.add_le_add_left (show m_CR_send.2.2.2.1.cells + 0 ≤ 20 from Nat.le_of_ble_eq_true rfl) k) hk
  · exact Nat.le_trans (Nat.add_le_add_left (show m_CR_send.2.2.2.1.slots + 0 ≤ 4000 from Nat.le_of_ble_eq_true rfl) n) hn
  refine L_icmp_eq (off := 991) K 819 rfl 1807 (by decide +kernel) rfl (fun _ => ?_) (fun h => absurd rfl h)
  exact kk _ _ _ _ _ _ _ _ hz' (Nat.add_le_add_left (show m_CR_send.2.2.2.1.cells + 0 ≤ 20 from Nat.le_of_ble_eq_true rfl) k) (Nat.add_le_add_left (show m_CR_send.2.2.2.1.slots + 0 ≤ 4000 from Nat.le_of_ble_eq_true rfl) n)
-- sendOne
theorem L_k13 (K : L_C D D2 tc tc2 ad p s m meth c b) {i t : Nat} {I : q_I} {J : q_J} {P : q_P} {M : q_I} {J2 : q_J} {P2 : q_P} (hz : d_Z t I P M) (hi : i + 6 < Lx) (hLx : Lx ≤ 3584) (ht : t ≤ 100000) (hk : k + 20 ≤ 600000) (hn : n + 4000 ≤ 7302250) (kk : L_kk D D2 tc tc2 ad p l e s m below meth c b Lx xs Q k n i t) : L_V D D2 tc tc2 ad p l e s m below meth c b Lx xs Q k n 821 (L_l s b i) [] (I, J, P) (M, J2, P2) := by
  obtain ⟨v, I', J', P', M', eC, eM, hz'⟩ := y2_sendOne (J := J) hz (xs (i + 1)) (xs (i + 2)) (xs (i + 3))
  refine L_aload_n K 2 1 822 rfl (by decide +kernel) rfl ?_
  refine L_arg K 1 827 rfl (by omega) hLx (by decide +kernel) (by decide +kernel) (by decide +kernel) (by decide +kernel) (by decide +kernel) (by decide) ?_
  refine L_arg K 2 832 rfl (by omega) hLx (by decide +kernel) (by decide +kernel) (by decide +kernel) (by decide +kernel) (by decide +kernel) (by decide) ?_
  refine L_arg K 3 837 rfl (by omega) hLx (by decide +kernel) (by decide +kernel) (by decide +kernel) (by decide +kernel) (by decide +kernel) (by decide) ?_
  refine L_callC (idx := 71) (st := []) (av := [.int (xs (i + 1)), .int (xs (i + 2)), .int (xs (i + 3))]) K (c_CR_sendOne l D tc s.heap.size (s.heap.size + 230) ad I J P (xs (i + 1)) (xs (i + 2)) (xs (i + 3))) eC yv_CR_sendOne (K.2.2.2.2.1 _ tw_4_65) (K.2.2.2.2.1 _ tw_4_66) (K.2.2.2.2.1 _ tw_4_67) rfl (show 0 ≤ 8 by decide) (by decide +kernel) ⟨Nat.le_of_ble_eq_true rfl, Nat.le_of_ble_eq_true rfl⟩ ⟨?_, ?_⟩ ?_
  · exact Nat.le_trans (Nat.add_le_add_left (show m_CR_sendOne.2.2.2.1.cells ≤ 20 from Nat.le_of_ble_eq_true rfl) k) hk
  · exact Nat.le_trans (Nat.add_le_add_left (show m_CR_sendOne.2.2.2.1.slots ≤ 4000 from Nat.le_of_ble_eq_true rfl) n) hn
  refine L_aload_n K 1 2 841 rfl (by decide +kernel) rfl ?_
  refine L_arg K 1 846 rfl (by omega) hLx (by decide +kernel) (by decide +kernel) (by decide +kernel) (by decide +kernel) (by decide +kernel) (by decide) ?_
  refine L_arg K 2 851 rfl (by omega) hLx (by decide +kernel) (by decide +kernel) (by decide +kernel) (by decide +kernel) (by decide +kernel) (by decide) ?_
  refine L_arg K 3 856 rfl (by omega) hLx (by decide +kernel) (by decide +kernel) (by decide +kernel) (by decide +kernel) (by decide +kernel) (by decide) ?_
  refine L_callR (idx := 74) (st := [.int v]) (av := [.int (xs (i + 1)), .int (xs (i + 2)), .int (xs (i + 3))]) K (c_Mo_sendOne l D2 tc2 (s.heap.size + 219) (s.heap.size + 230) M J2 P2 (xs (i + 1)) (xs (i + 2)) (xs (i + 3))) eM yv_Mo_sendOne (K.2.2.2.2.1 _ tw_6_229) (K.2.2.2.2.1 _ tw_6_230) (K.2.2.2.2.1 _ tw_6_231) rfl (show 1 ≤ 8 by decide) (by decide +kernel) ⟨Nat.le_of_ble_eq_true rfl, Nat.le_of_ble_eq_true rfl⟩ ⟨?_, ?_⟩ ?_
  · exact Nat.le_trans (Nat.add_le_add_left (show m_CR_sendOne.2.2.2.1.cells + 0 ≤ 20 from Nat.le_of_ble_eq_true rfl) k) hk
  · exact Nat.le_trans (Nat.add_le_add_left (show m_CR_sendOne.2.2.2.1.slots + 0 ≤ 4000 from Nat.le_of_ble_eq_true rfl) n) hn
  refine L_icmp_eq (off := 948) K 862 rfl 1807 (by decide +kernel) rfl (fun _ => ?_) (fun h => absurd rfl h)
  exact kk _ _ _ _ _ _ _ _ hz' (Nat.add_le_add_left (show m_CR_sendOne.2.2.2.1.cells + 0 ≤ 20 from Nat.le_of_ble_eq_true rfl) k) (Nat.add_le_add_left (show m_CR_sendOne.2.2.2.1.slots + 0 ≤ 4000 from Nat.le_of_ble_eq_true rfl) n)
-- compact
theorem L_k14 (K : L_C D D2 tc tc2 ad p s m meth c b) {i t : Nat} {I : q_I} {J : q_J} {P : q_P} {M : q_I} {J2 : q_J} {P2 : q_P} (hz : d_Z t I P M) (hi : i + 6 < Lx) (hLx : Lx ≤ 3584) (ht : t ≤ 100000) (hk : k + 20 ≤ 600000) (hn : n + 4000 ≤ 7302250) (kk : L_kk D D2 tc tc2 ad p l e s m below meth c b Lx xs Q k n i t) : L_V D D2 tc tc2 ad p l e s m below meth c b Lx xs Q k n 864 (L_l s b i) [] (I, J, P) (M, J2, P2) := by
  obtain ⟨v, I', P', M', J', eC, eM, hz'⟩ := y2_compact (J := J2) hz
  refine L_aload_n K 2 1 865 rfl (by decide +kernel) rfl ?_
  refine L_callC (idx := 75) (st := []) (av := []) K (c_CR_compact l D tc s.heap.size (s.heap.size + 230) ad I J P) eC yv_CR_compact (K.2.2.2.2.1 _ tw_4_74) (K.2.2.2.2.1 _ tw_4_75) (K.2.2.2.2.1 _ tw_4_76) rfl (show 0 ≤ 8 by decide) (by decide +kernel) ⟨Nat.le_of_ble_eq_true rfl, Nat.le_of_ble_eq_true rfl⟩ ⟨?_, ?_⟩ ?_
  · exact Nat.le_trans (Nat.add_le_add_left (show m_CR_compact.2.2.2.1.cells ≤ 20 from Nat.le_of_ble_eq_true rfl) k) hk
  · exact Nat.le_trans (Nat.add_le_add_left (show m_CR_compact.2.2.2.1.slots ≤ 4000 from Nat.le_of_ble_eq_true rfl) n) hn
  refine L_aload_n K 1 2 869 rfl (by decide +kernel) rfl ?_
  refine L_callR (idx := 78) (st := [.int v]) (av := []) K (c_Mo_compact l D2 tc2 (s.heap.size + 219) (s.heap.size + 230) M J2 P2) eM yv_Mo_compact (K.2.2.2.2.1 _ tw_6_237) (K.2.2.2.2.1 _ tw_6_238) (K.2.2.2.2.1 _ tw_6_239) rfl (show 1 ≤ 8 by decide) (by decide +kernel) ⟨Nat.le_of_ble_eq_true rfl, Nat.le_of_ble_eq_true rfl⟩ ⟨?_, ?_⟩ ?_
  · exact Nat.le_trans (Nat.add_le_add_left (show m_CR_compact.2.2.2.1.cells + 0 ≤ 20 from Nat.le_of_ble_eq_true rfl) k) hk
  · exact Nat.le_trans (Nat.add_le_add_left (show m_CR_compact.2.2.2.1.slots + 0 ≤ 4000 from Nat.le_of_ble_eq_true rfl) n) hn
  refine L_icmp_eq (off := 935) K 875 rfl 1807 (by decide +kernel) rfl (fun _ => ?_) (fun h => absurd rfl h)
  exact kk _ _ _ _ _ _ _ _ hz' (Nat.add_le_add_left (show m_CR_compact.2.2.2.1.cells + 0 ≤ 20 from Nat.le_of_ble_eq_true rfl) k) (Nat.add_le_add_left (show m_CR_compact.2.2.2.1.slots + 0 ≤ 4000 from Nat.le_of_ble_eq_true rfl) n)
-- meetings
theorem L_k15 (K : L_C D D2 tc tc2 ad p s m meth c b) {i t : Nat} {I : q_I} {J : q_J} {P : q_P} {M : q_I} {J2 : q_J} {P2 : q_P} (hz : d_Z t I P M) (hi : i + 6 < Lx) (hLx : Lx ≤ 3584) (ht : t ≤ 100000) (hk : k + 20 ≤ 600000) (hn : n + 4000 ≤ 7302250) (kk : L_kk D D2 tc tc2 ad p l e s m below meth c b Lx xs Q k n i t) : L_V D D2 tc tc2 ad p l e s m below meth c b Lx xs Q k n 877 (L_l s b i) [] (I, J, P) (M, J2, P2) := by
  obtain ⟨v, I', P', M', J', eC, eM, hz'⟩ := y2_meetings (J := J2) hz (xs (i + 1))
  refine L_aload_n K 2 1 878 rfl (by decide +kernel) rfl ?_
  refine L_arg K 1 883 rfl (by omega) hLx (by decide +kernel) (by decide +kernel) (by decide +kernel) (by decide +kernel) (by decide +kernel) (by decide) ?_
  refine L_callC (idx := 79) (st := []) (av := [.int (xs (i + 1))]) K (c_CR_meetings l D tc s.heap.size (s.heap.size + 230) ad I J P (xs (i + 1))) eC yv_CR_meetings (K.2.2.2.2.1 _ tw_4_82) (K.2.2.2.2.1 _ tw_4_83) (K.2.2.2.2.1 _ tw_4_84) rfl (show 0 ≤ 8 by decide) (by decide +kernel) ⟨Nat.le_of_ble_eq_true rfl, Nat.le_of_ble_eq_true rfl⟩ ⟨?_, ?_⟩ ?_
  · exact Nat.le_trans (Nat.add_le_add_left (show m_CR_meetings.2.2.2.1.cells ≤ 20 from Nat.le_of_ble_eq_true rfl) k) hk
  · exact Nat.le_trans (Nat.add_le_add_left (show m_CR_meetings.2.2.2.1.slots ≤ 4000 from Nat.le_of_ble_eq_true rfl) n) hn
  refine L_aload_n K 1 2 887 rfl (by decide +kernel) rfl ?_
  refine L_arg K 1 892 rfl (by omega) hLx (by decide +kernel) (by decide +kernel) (by decide +kernel) (by decide +kernel) (by decide +kernel) (by decide) ?_
  refine L_callR (idx := 82) (st := [.int v]) (av := [.int (xs (i + 1))]) K (c_Mo_meetings l D2 tc2 (s.heap.size + 219) (s.heap.size + 230) M J2 P2 (xs (i + 1))) eM yv_Mo_meetings (K.2.2.2.2.1 _ tw_7_1) (K.2.2.2.2.1 _ tw_7_2) (K.2.2.2.2.1 _ tw_7_3) rfl (show 1 ≤ 8 by decide) (by decide +kernel) ⟨Nat.le_of_ble_eq_true rfl, Nat.le_of_ble_eq_true rfl⟩ ⟨?_, ?_⟩ ?_
  · exact Nat.le_trans (Nat.add_le_add_left (show m_CR_meetings.2.2.2.1.cells + 0 ≤ 20 from Nat.le_of_ble_eq_true rfl) k) hk
  · exact Nat.le_trans (Nat.add_le_add_left (show m_CR_meetings.2.2.2.1.slots + 0 ≤ 4000 from Nat.le_of_ble_eq_true rfl) n) hn
  refine L_icmp_eq (off := 912) K 898 rfl 1807 (by decide +kernel) rfl (fun _ => ?_) (fun h => absurd rfl h)
  exact kk _ _ _ _ _ _ _ _ hz' (Nat.add_le_add_left (show m_CR_meetings.2.2.2.1.cells + 0 ≤ 20 from Nat.le_of_ble_eq_true rfl) k) (Nat.add_le_add_left (show m_CR_meetings.2.2.2.1.slots + 0 ≤ 4000 from Nat.le_of_ble_eq_true rfl) n)
-- meetingAt
theorem L_k16 (K : L_C D D2 tc tc2 ad p s m meth c b) {i t : Nat} {I : q_I} {J : q_J} {P : q_P} {M : q_I} {J2 : q_J} {P2 : q_P} (hz : d_Z t I P M) (hi : i + 6 < Lx) (hLx : Lx ≤ 3584) (ht : t ≤ 100000) (hk : k + 20 ≤ 600000) (hn : n + 4000 ≤ 7302250) (kk : L_kk D D2 tc tc2 ad p l e s m below meth c b Lx xs Q k n i t) : L_V D D2 tc tc2 ad p l e s m below meth c b Lx xs Q k n 900 (L_l s b i) [] (I, J, P) (M, J2, P2) := by
  obtain ⟨v, I', P', M', J', eC, eM, hz'⟩ := y2_meetingAt (J := J2) hz (xs (i + 1)) (xs (i + 2))
  refine L_aload_n K 2 1 901 rfl (by decide +kernel) rfl ?_
  refine L_arg K 1 906 rfl (by omega) hLx (by decide +kernel) (by decide +kernel) (by decide +kernel) (by decide +kernel) (by decide +kernel) (by decide) ?_
  refine L_arg K 2 911 rfl (by omega) hLx (by decide +kernel) (by decide +kernel) (by decide +kernel) (by decide +kernel) (by decide +kernel) (by decide) ?_
  refine L_callC (idx := 83) (st := []) (av := [.int (xs (i + 1)), .int (xs (i + 2))]) K (c_CR_meetingAt l D tc s.heap.size (s.heap.size + 230) ad I J P (xs (i + 1)) (xs (i + 2))) eC yv_CR_meetingAt (K.2.2.2.2.1 _ tw_4_86) (K.2.2.2.2.1 _ tw_4_87) (K.2.2.2.2.1 _ tw_4_88) rfl (show 0 ≤ 8 by decide) (by decide +kernel) ⟨Nat.le_of_ble_eq_true rfl, Nat.le_of_ble_eq_true rfl⟩ ⟨?_, ?_⟩ ?_
  · exact Nat.le_trans (Nat.add_le_add_left (show m_CR_meetingAt.2.2.2.1.cells ≤ 20 from Nat.le_of_ble_eq_true rfl) k) hk
  · exact Nat.le_trans (Nat.add_le_add_left (show m_CR_meetingAt.2.2.2.1.slots ≤ 4000 from Nat.le_of_ble_eq_true rfl) n) hn
  refine L_aload_n K 1 2 915 rfl (by decide +kernel) rfl ?_
  refine L_arg K 1 920 rfl (by omega) hLx (by decide +kernel) (by decide +kernel) (by decide +kernel) (by decide +kernel) (by decide +kernel) (by decide) ?_
  refine L_arg K 2 925 rfl (by omega) hLx (by decide +kernel) (by decide +kernel) (by decide +kernel) (by decide +kernel) (by decide +kernel) (by decide) ?_
  refine L_callR (idx := 86) (st := [.int v]) (av := [.int (xs (i + 1)), .int (xs (i + 2))]) K (c_Mo_meetingAt l D2 tc2 (s.heap.size + 219) (s.heap.size + 230) M J2 P2 (xs (i + 1)) (xs (i + 2))) eM yv_Mo_meetingAt (K.2.2.2.2.1 _ tw_7_5) (K.2.2.2.2.1 _ tw_7_6) (K.2.2.2.2.1 _ tw_7_7) rfl (show 1 ≤ 8 by decide) (by decide +kernel) ⟨Nat.le_of_ble_eq_true rfl, Nat.le_of_ble_eq_true rfl⟩ ⟨?_, ?_⟩ ?_
  · exact Nat.le_trans (Nat.add_le_add_left (show m_CR_meetingAt.2.2.2.1.cells + 0 ≤ 20 from Nat.le_of_ble_eq_true rfl) k) hk
  · exact Nat.le_trans (Nat.add_le_add_left (show m_CR_meetingAt.2.2.2.1.slots + 0 ≤ 4000 from Nat.le_of_ble_eq_true rfl) n) hn
  refine L_icmp_eq (off := 879) K 931 rfl 1807 (by decide +kernel) rfl (fun _ => ?_) (fun h => absurd rfl h)
  exact kk _ _ _ _ _ _ _ _ hz' (Nat.add_le_add_left (show m_CR_meetingAt.2.2.2.1.cells + 0 ≤ 20 from Nat.le_of_ble_eq_true rfl) k) (Nat.add_le_add_left (show m_CR_meetingAt.2.2.2.1.slots + 0 ≤ 4000 from Nat.le_of_ble_eq_true rfl) n)
-- startOf
theorem L_k17 (K : L_C D D2 tc tc2 ad p s m meth c b) {i t : Nat} {I : q_I} {J : q_J} {P : q_P} {M : q_I} {J2 : q_J} {P2 : q_P} (hz : d_Z t I P M) (hi : i + 6 < Lx) (hLx : Lx ≤ 3584) (ht : t ≤ 100000) (hk : k + 20 ≤ 600000) (hn : n + 4000 ≤ 7302250) (kk : L_kk D D2 tc tc2 ad p l e s m below meth c b Lx xs Q k n i t) : L_V D D2 tc tc2 ad p l e s m below meth c b Lx xs Q k n 933 (L_l s b i) [] (I, J, P) (M, J2, P2) := by
  obtain ⟨v, I', P', M', J', eC, eM, hz'⟩ := y2_startOf (J := J2) hz (xs (i + 1)) (xs (i + 2))
  refine L_aload_n K 2 1 934 rfl (by decide +kernel) rfl ?_
  refine L_arg K 1 939 rfl (by omega) hLx (by decide +kernel) (by decide +kernel) (by decide +kernel) (by decide +kernel) (by decide +kernel) (by decide) ?_
  refine L_arg K 2 944 rfl (by omega) hLx (by decide +kernel) (by decide +kernel) (by decide +kernel) (by decide +kernel) (by decide +kernel) (by decide) ?_
  refine L_callC (idx := 87) (st := []) (av := [.int (xs (i + 1)), .int (xs (i + 2))]) K (c_CR_startOf l D tc s.heap.size (s.heap.size + 230) ad I J P (xs (i + 1)) (xs (i + 2))) eC yv_CR_startOf (K.2.2.2.2.1 _ tw_4_91) (K.2.2.2.2.1 _ tw_4_92) (K.2.2.2.2.1 _ tw_4_93) rfl (show 0 ≤ 8 by decide) (by decide +kernel) ⟨Nat.le_of_ble_eq_true rfl, Nat.le_of_ble_eq_true rfl⟩ ⟨?_, ?_⟩ ?_
  · exact Nat.le_trans (Nat.add_le_add_left (show m_CR_startOf.2.2.2.1.cells ≤ 20 from Nat.le_of_ble_eq_true rfl) k) hk
  · exact Nat.le_trans (Nat.add_le_add_left (show m_CR_startOf.2.2.2.1.slots ≤ 4000 from Nat.le_of_ble_eq_true rfl) n) hn
  refine L_aload_n K 1 2 948 rfl (by decide +kernel) rfl ?_
  refine L_arg K 1 953 rfl (by omega) hLx (by decide +kernel) (by decide +kernel) (by decide +kernel) (by decide +kernel) (by decide +kernel) (by decide) ?_
  refine L_arg K 2 958 rfl (by omega) hLx (by decide +kernel) (by decide +kernel) (by decide +kernel) (by decide +kernel) (by decide +kernel) (by decide) ?_
  refine L_callR (idx := 90) (st := [.int v]) (av := [.int (xs (i + 1)), .int (xs (i + 2))]) K (c_Mo_startOf l D2 tc2 (s.heap.size + 219) (s.heap.size + 230) M J2 P2 (xs (i + 1)) (xs (i + 2))) eM yv_Mo_startOf (K.2.2.2.2.1 _ tw_7_13) (K.2.2.2.2.1 _ tw_7_14) (K.2.2.2.2.1 _ tw_7_15) rfl (show 1 ≤ 8 by decide) (by decide +kernel) ⟨Nat.le_of_ble_eq_true rfl, Nat.le_of_ble_eq_true rfl⟩ ⟨?_, ?_⟩ ?_
  · exact Nat.le_trans (Nat.add_le_add_left (show m_CR_startOf.2.2.2.1.cells + 0 ≤ 20 from Nat.le_of_ble_eq_true rfl) k) hk
  · exact Nat.le_trans (Nat.add_le_add_left (show m_CR_startOf.2.2.2.1.slots + 0 ≤ 4000 from Nat.le_of_ble_eq_true rfl) n) hn
  refine L_icmp_eq (off := 846) K 964 rfl 1807 (by decide +kernel) rfl (fun _ => ?_) (fun h => absurd rfl h)
  exact kk _ _ _ _ _ _ _ _ hz' (Nat.add_le_add_left (show m_CR_startOf.2.2.2.1.cells + 0 ≤ 20 from Nat.le_of_ble_eq_true rfl) k) (Nat.add_le_add_left (show m_CR_startOf.2.2.2.1.slots + 0 ≤ 4000 from Nat.le_of_ble_eq_true rfl) n)
end LK
