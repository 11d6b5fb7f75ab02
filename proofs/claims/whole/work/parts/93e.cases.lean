/-! the law's cases, printed by lawcases.py -/
section LK
variable {D D2 : va_G} {tc tc2 : Nat → ClassId} {ad : Nat → Nat} {p : Program} {l : Launch} {e : Env} {s : State} {m : MethodId} {below : List Frame} {meth : Method} {c : Code} {b Lx : Nat} {xs : Nat → Int32} {Q : State → Prop} {k n : Nat}
-- editAt
theorem L_k24 (K : L_C D D2 tc tc2 ad p s m meth c b) {i t : Nat} {I : q_I} {J : q_J} {P : q_P} {M : q_I} {J2 : q_J} {P2 : q_P} (hz : d_Z t I P M) (hi : i + 6 < Lx) (hLx : Lx ≤ 3584) (ht : t ≤ 100000) (hk : k + 20 ≤ 600000) (hn : n + 4000 ≤ 7302250) (kk : L_kk D D2 tc tc2 ad p l e s m below meth c b Lx xs Q k n i t) : L_V D D2 tc tc2 ad p l e s m below meth c b Lx xs Q k n 1144 (L_l s b i) [] (I, J, P) (M, J2, P2) := by
  obtain ⟨v, eC, eM, hz'⟩ := y2_editAt hz (xs (i + 1))
  refine L_aload_n K 2 1 1145 rfl (by decide +kernel) rfl ?_
  refine L_arg K 1 1150 rfl (by omega) hLx (by decide +kernel) (by decide +kernel) (by decide +kernel) (by decide +kernel) (by decide +kernel) (by decide) ?_
  refine L_callC (idx := 115) (st := []) (av := [.int (xs (i + 1))]) K (c_CR_editAt l D tc s.heap.size (s.heap.size + 230) ad I J P (xs (i + 1))) eC yv_CR_editAt (K.2.2.2.2.1 _ tw_4_119) (K.2.2.2.2.1 _ tw_4_120) (K.2.2.2.2.1 _ tw_4_121) rfl (show 0 ≤ 8 by decide) (by decide +kernel) ⟨Nat.le_of_ble_eq_true rfl, Nat.le_of_ble_eq_true rfl⟩ ⟨?_, ?_⟩ ?_
  · exact Nat.le_trans (Nat.add_le_add_left (show m_CR_editAt.2.2.2.1.cells ≤ 20 from Nat.le_of_ble_eq_true rfl) k) hk
  · exact Nat.le_trans (Nat.add_le_add_left (show m_CR_editAt.2.2.2.1.slots ≤ 4000 from Nat.le_of_ble_eq_true rfl) n) hn
  refine L_aload_n K 1 2 1154 rfl (by decide +kernel) rfl ?_
  refine L_arg K 1 1159 rfl (by omega) hLx (by decide +kernel) (by decide +kernel) (by decide +kernel) (by decide +kernel) (by decide +kernel) (by decide) ?_
  refine L_callR (idx := 118) (st := [.int v]) (av := [.int (xs (i + 1))]) K (c_Mo_editAt l D2 tc2 (s.heap.size + 219) (s.heap.size + 230) M J2 P2 (xs (i + 1))) eM yv_Mo_editAt (K.2.2.2.2.1 _ tw_7_45) (K.2.2.2.2.1 _ tw_7_46) (K.2.2.2.2.1 _ tw_7_47) rfl (show 1 ≤ 8 by decide) (by decide +kernel) ⟨Nat.le_of_ble_eq_true rfl, Nat.le_of_ble_eq_true rfl⟩ ⟨?_, ?_⟩ ?_
  · exact Nat.le_trans (Nat.add_le_add_left (show m_CR_editAt.2.2.2.1.cells + 0 ≤ 20 from Nat.le_of_ble_eq_true rfl) k) hk
  · exact Nat.le_trans (Nat.add_le_add_left (show m_CR_editAt.2.2.2.1.slots + 0 ≤ 4000 from Nat.le_of_ble_eq_true rfl) n) hn
  refine L_icmp_eq (off := 645) K 1165 rfl 1807 (by decide +kernel) rfl (fun _ => ?_) (fun h => absurd rfl h)
  exact kk _ _ _ _ _ _ _ _ hz' (Nat.add_le_add_left (show m_CR_editAt.2.2.2.1.cells + 0 ≤ 20 from Nat.le_of_ble_eq_true rfl) k) (Nat.add_le_add_left (show m_CR_editAt.2.2.2.1.slots + 0 ≤ 4000 from Nat.le_of_ble_eq_true rfl) n)
-- kindOf
theorem L_k25 (K : L_C D D2 tc tc2 ad p s m meth c b) {i t : Nat} {I : q_I} {J : q_J} {P : q_P} {M : q_I} {J2 : q_J} {P2 : q_P} (hz : d_Z t I P M) (hi : i + 6 < Lx) (hLx : Lx ≤ 3584) (ht : t ≤ 100000) (hk : k + 20 ≤ 600000) (hn : n + 4000 ≤ 7302250) (kk : L_kk D D2 tc tc2 ad p l e s m below meth c b Lx xs Q k n i t) : L_V D D2 tc tc2 ad p l e s m below meth c b Lx xs Q k n 1167 (L_l s b i) [] (I, J, P) (M, J2, P2) := by
  obtain ⟨v, eC, eM, hz'⟩ := y2_kindOf hz (xs (i + 1))
  refine L_aload_n K 2 1 1168 rfl (by decide +kernel) rfl ?_
  refine L_arg K 1 1173 rfl (by omega) hLx (by decide +kernel) (by decide +kernel) (by decide +kernel) (by decide +kernel) (by decide +kernel) (by decide) ?_
  refine L_callC (idx := 119) (st := []) (av := [.int (xs (i + 1))]) K (c_CR_kindOf l D tc s.heap.size (s.heap.size + 230) ad I J P (xs (i + 1))) eC yv_CR_kindOf (K.2.2.2.2.1 _ tw_4_123) (K.2.2.2.2.1 _ tw_4_124) (K.2.2.2.2.1 _ tw_4_125) rfl (show 0 ≤ 8 by decide) (by decide +kernel) ⟨Nat.le_of_ble_eq_true rfl, Nat.le_of_ble_eq_true rfl⟩ ⟨?_, ?_⟩ ?_
  · exact Nat.le_trans (Nat.add_le_add_left (show m_CR_kindOf.2.2.2.1.cells ≤ 20 from Nat.le_of_ble_eq_true rfl) k) hk
  · exact Nat.le_trans (Nat.add_le_add_left (show m_CR_kindOf.2.2.2.1.slots ≤ 4000 from Nat.le_of_ble_eq_true rfl) n) hn
  refine L_aload_n K 1 2 1177 rfl (by decide +kernel) rfl ?_
  refine L_arg K 1 1182 rfl (by omega) hLx (by decide +kernel) (by decide +kernel) (by decide +kernel) (by decide +kernel) (by decide +kernel) (by decide) ?_
  refine L_callR (idx := 122) (st := [.int v]) (av := [.int (xs (i + 1))]) K (c_Mo_kindOf l D2 tc2 (s.heap.size + 219) (s.heap.size + 230) M J2 P2 (xs (i + 1))) eM yv_Mo_kindOf (K.2.2.2.2.1 _ tw_7_49) (K.2.2.2.2.1 _ tw_7_50) (K.2.2.2.2.1 _ tw_7_51) rfl (show 1 ≤ 8 by decide) (by decide +kernel) ⟨Nat.le_of_ble_eq_true rfl, Nat.le_of_ble_eq_true rfl⟩ ⟨?_, ?_⟩ ?_
  · exact Nat.le_trans (Nat.add_le_add_left (show m_CR_kindOf.2.2.2.1.cells + 0 ≤ 20 from Nat.le_of_ble_eq_true rfl) k) hk
  · exact Nat.le_trans (Nat.add_le_add_left (show m_CR_kindOf.2.2.2.1.slots + 0 ≤ 4000 from Nat.le_of_ble_eq_true rfl) n) hn
  refine L_icmp_eq (off := 622) K 1188 rfl 1807 (by decide +kernel) rfl (fun _ => ?_) (fun h => absurd rfl h)
  exact kk _ _ _ _ _ _ _ _ hz' (Nat.add_le_add_left (show m_CR_kindOf.2.2.2.1.cells + 0 ≤ 20 from Nat.le_of_ble_eq_true rfl) k) (Nat.add_le_add_left (show m_CR_kindOf.2.2.2.1.slots + 0 ≤ 4000 from Nat.le_of_ble_eq_true rfl) n)
-- meetingOf
theorem L_k26 (K : L_C D D2 tc tc2 ad p s m meth c b) {i t : Nat} {I : q_I} {J : q_J} {P : q_P} {M : q_I} {J2 : q_J} {P2 : q_P} (hz : d_Z t I P M) (hi : i + 6 < Lx) (hLx : Lx ≤ 3584) (ht : t ≤ 100000) (hk : k + 20 ≤ 600000) (hn : n + 4000 ≤ 7302250) (kk : L_kk D D2 tc tc2 ad p l e s m below meth c b Lx xs Q k n i t) : L_V D D2 tc tc2 ad p l e s m below meth c b Lx xs Q k n 1190 (L_l s b i) [] (I, J, P) (M, J2, P2) := by
  obtain ⟨v, eC, eM, hz'⟩ := y2_meetingOf hz (xs (i + 1))
  refine L_aload_n K 2 1 1191 rfl (by decide +kernel) rfl ?_
  refine L_arg K 1 1196 rfl (by omega) hLx (by decide +kernel) (by decide +kernel) (by decide +kernel) (by decide +kernel) (by decide +kernel) (by decide) ?_
  refine L_callC (idx := 123) (st := []) (av := [.int (xs (i + 1))]) K (c_CR_meetingOf l D tc s.heap.size (s.heap.size + 230) ad I J P (xs (i + 1))) eC yv_CR_meetingOf (K.2.2.2.2.1 _ tw_4_127) (K.2.2.2.2.1 _ tw_4_128) (K.2.2.2.2.1 _ tw_4_129) rfl (show 0 ≤ 8 by decide) (by decide +kernel) ⟨Nat.le_of_ble_eq_true rfl, Nat.le_of_ble_eq_true rfl⟩ ⟨?_, ?_⟩ ?_
  · exact Nat.le_trans (Nat.add_le_add_left (show m_CR_meetingOf.2.2.2.1.cells ≤ 20 from Nat.le_of_ble_eq_true rfl) k) hk
  · exact Nat.le_trans (Nat.add_le_add_left (show m_CR_meetingOf.2.2.2.1.slots ≤ 4000 from Nat.le_of_ble_eq_true rfl) n) hn
  refine L_aload_n K 1 2 1200 rfl (by decide +kernel) rfl ?_
  refine L_arg K 1 1205 rfl (by omega) hLx (by decide +kernel) (by decide +kernel) (by decide +kernel) (by decide +kernel) (by decide +kernel) (by decide) ?_
  refine L_callR (idx := 126) (st := [.int v]) (av := [.int (xs (i + 1))]) K (c_Mo_meetingOf l D2 tc2 (s.heap.size + 219) (s.heap.size + 230) M J2 P2 (xs (i + 1))) eM yv_Mo_meetingOf (K.2.2.2.2.1 _ tw_7_57) (K.2.2.2.2.1 _ tw_7_58) (K.2.2.2.2.1 _ tw_7_59) rfl (show 1 ≤ 8 by decide) (by decide +kernel) ⟨Nat.le_of_ble_eq_true rfl, Nat.le_of_ble_eq_true rfl⟩ ⟨?_, ?_⟩ ?_
  · exact Nat.le_trans (Nat.add_le_add_left (show m_CR_meetingOf.2.2.2.1.cells + 0 ≤ 20 from Nat.le_of_ble_eq_true rfl) k) hk
  · exact Nat.le_trans (Nat.add_le_add_left (show m_CR_meetingOf.2.2.2.1.slots + 0 ≤ 4000 from Nat.le_of_ble_eq_true rfl) n) hn
  refine L_icmp_eq (off := 599) K 1211 rfl 1807 (by decide +kernel) rfl (fun _ => ?_) (fun h => absurd rfl h)
  exact kk _ _ _ _ _ _ _ _ hz' (Nat.add_le_add_left (show m_CR_meetingOf.2.2.2.1.cells + 0 ≤ 20 from Nat.le_of_ble_eq_true rfl) k) (Nat.add_le_add_left (show m_CR_meetingOf.2.2.2.1.slots + 0 ≤ 4000 from Nat.le_of_ble_eq_true rfl) n)
-- authorOf
theorem L_k27 (K : L_C D D2 tc tc2 ad p s m meth c b) {i t : Nat} {I : q_I} {J : q_J} {P : q_P} {M : q_I} {J2 : q_J} {P2 : q_P} (hz : d_Z t I P M) (hi : i + 6 < Lx) (hLx : Lx ≤ 3584) (ht : t ≤ 100000) (hk : k + 20 ≤ 600000) (hn : n + 4000 ≤ 7302250) (kk : L_kk D D2 tc tc2 ad p l e s m below meth c b Lx xs Q k n i t) : L_V D D2 tc tc2 ad p l e s m below meth c b Lx xs Q k n 1213 (L_l s b i) [] (I, J, P) (M, J2, P2) := by
  obtain ⟨v, eC, eM, hz'⟩ := y2_authorOf hz (xs (i + 1))
  refine L_aload_n K 2 1 1214 rfl (by decide +kernel) rfl ?_
  refine L_arg K 1 1219 rfl (by omega) hLx (by decide +kernel) (by decide +kernel) (by decide +kernel) (by decide +kernel) (by decide +kernel) (by decide) ?_
  refine L_callC (idx := 127) (st := []) (av := [.int (xs (i + 1))]) K (c_CR_authorOf l D tc s.heap.size (s.heap.size + 230) ad I J P (xs (i + 1))) eC yv_CR_authorOf (K.2.2.2.2.1 _ tw_4_131) (K.2.2.2.2.1 _ tw_4_132) (K.2.2.2.2.1 _ tw_4_133) rfl (show 0 ≤ 8 by decide) (by decide +kernel) ⟨Nat.le_of_ble_eq_true rfl, Nat.le_of_ble_eq_true rfl⟩ ⟨?_, ?_⟩ ?_
  · exact Nat.le_trans (Nat.add_le_add_left (show m_CR_authorOf.2.2.2.1.cells ≤ 20 from Nat.le_of_ble_eq_true rfl) k) hk
  · exact Nat.le_trans (Nat.add_le_add_left (show m_CR_authorOf.2.2.2.1.slots ≤ 4000 from Nat.le_of_ble_eq_true rfl) n) hn
  refine L_aload_n K 1 2 1223 rfl (by decide +kernel) rfl ?_
  refine L_arg K 1 1228 rfl (by omega) hLx (by decide +kernel) (by decide +kernel) (by decide +kernel) (by decide +kernel) (by decide +kernel) (by decide) ?_
  refine L_callR (idx := 130) (st := [.int v]) (av := [.int (xs (i + 1))]) K (c_Mo_authorOf l D2 tc2 (s.heap.size + 219) (s.heap.size + 230) M J2 P2 (xs (i + 1))) eM yv_Mo_authorOf (K.2.2.2.2.1 _ tw_7_61) (K.2.2.2.2.1 _ tw_7_62) (K.2.2.2.2.1 _ tw_7_63) rfl (show 1 ≤ 8 by decide) (by decide +kernel) ⟨Nat.le_of_ble_eq_true rfl, Nat.le_of_ble_eq_true rfl⟩ ⟨?_, ?_⟩ ?_
  · exact Nat.le_trans (Nat.add_le_add_left (show m_CR_authorOf.2.2.2.1.cells + 0 ≤ 20 from Nat.le_of_ble_eq_true rfl) k) hk
  · exact Nat.le_trans (Nat.add_le_add_left (show m_CR_authorOf.2.2.2.1.slots + 0 ≤ 4000 from Nat.le_of_ble_eq_true rfl) n) hn
  refine L_icmp_eq (off := 576) K 1234 rfl 1807 (by decide +kernel) rfl (fun _ => ?_) (fun h => absurd rfl h)
  exact kk _ _ _ _ _ _ _ _ hz' (Nat.add_le_add_left (show m_CR_authorOf.2.2.2.1.cells + 0 ≤ 20 from Nat.le_of_ble_eq_true rfl) k) (Nat.add_le_add_left (show m_CR_authorOf.2.2.2.1.slots + 0 ≤ 4000 from Nat.le_of_ble_eq_true rfl) n)
-- weightOf
theorem L_k28 (K : L_C D D2 tc tc2 ad p s m meth c b) {i t : Nat} {I : q_I} {J : q_J} {P : q_P} {M : q_I} {J2 : q_J} {P2 : q_P} (hz : d_Z t I P M) (hi : i + 6 < Lx) (hLx : Lx ≤ 3584) (ht : t ≤ 100000) (hk : k + 20 ≤ 600000) (hn : n + 4000 ≤ 7302250) (kk : L_kk D D2 tc tc2 ad p l e s m below meth c b Lx xs Q k n i t) : L_V D D2 tc tc2 ad p l e s m below meth c b Lx xs Q k n 1236 (L_l s b i) [] (I, J, P) (M, J2, P2) := by
  obtain ⟨v, eC, eM, hz'⟩ := y2_weightOf hz (xs (i + 1))
  refine L_aload_n K 2 1 1237 rfl (by decide +kernel) rfl ?_
  refine L_arg K 1 1242 rfl (by omega) hLx (by decide +kernel) (by decide +kernel) (by decide +kernel) (by decide +kernel) (by decide +kernel) (by decide) ?_
  refine L_callC (idx := 131) (st := []) (av := [.int (xs (i + 1))]) K (c_CR_weightOf l D tc s.heap.size (s.heap.size + 230) ad I J P (xs (i + 1))) eC yv_CR_weightOf (K.2.2.2.2.1 _ tw_4_135) (K.2.2.2.2.1 _ tw_4_136) (K.2.2.2.2.1 _ tw_4_137) rfl (show 0 ≤ 8 by decide) (by decide +kernel) ⟨Nat.le_of_ble_eq_true rfl, Nat.le_of_ble_eq_true rfl⟩ ⟨?_, ?_⟩ ?_
  · exact Nat.le_trans (Nat.add_le_add_left (show m_CR_weightOf.2.2.2.1.cells ≤ 20 from Nat.le_of_ble_eq_true rfl) k) hk
  · exact Nat.le_trans (Nat.add_le_add_left (show m_CR_weightOf.2.2.2.1.slots ≤ 4000 from Nat.le_of_ble_eq_true rfl) n) hn
  refine L_aload_n K 1 2 1246 rfl (by decide +kernel) rfl ?_
  refine L_arg K 1 1251 rfl (by omega) hLx (by decide +kernel) (by decide +kernel) (by decide +kernel) (by decide +kernel) (by decide +kernel) (by decide) ?_
  refine L_callR (idx := 134) (st := [.int v]) (av := [.int (xs (i + 1))]) K (c_Mo_weightOf l D2 tc2 (s.heap.size + 219) (s.heap.size + 230) M J2 P2 (xs (i + 1))) eM yv_Mo_weightOf (K.2.2.2.2.1 _ tw_7_65) (K.2.2.2.2.1 _ tw_7_66) (K.2.2.2.2.1 _ tw_7_67) rfl (show 1 ≤ 8 by decide) (by decide +kernel) ⟨Nat.le_of_ble_eq_true rfl, Nat.le_of_ble_eq_true rfl⟩ ⟨?_, ?_⟩ ?_
  · exact Nat.le_trans (Nat.add_le_add_left (show m_CR_weightOf.2.2.2.1.cells + 0 ≤ 20 from Nat.le_of_ble_eq_true rfl) k) hk
  · exact Nat.le_trans (Nat.add_le_add_left (show m_CR_weightOf.2.2.2.1.slots + 0 ≤ 4000 from Nat.le_of_ble_eq_true rfl) n) hn
  refine L_icmp_eq (off := 553) K 1257 rfl 1807 (by decide +kernel) rfl (fun _ => ?_) (fun h => absurd rfl h)
  exact kk _ _ _ _ _ _ _ _ hz' (Nat.add_le_add_left (show m_CR_weightOf.2.2.2.1.cells + 0 ≤ 20 from Nat.le_of_ble_eq_true rfl) k) (Nat.add_le_add_left (show m_CR_weightOf.2.2.2.1.slots + 0 ≤ 4000 from Nat.le_of_ble_eq_true rfl) n)
-- clash
theorem L_k29 (K : L_C D D2 tc tc2 ad p s m meth c b) {i t : Nat} {I : q_I} {J : q_J} {P : q_P} {M : q_I} {J2 : q_J} {P2 : q_P} (hz : d_Z t I P M) (hi : i + 6 < Lx) (hLx : Lx ≤ 3584) (ht : t ≤ 100000) (hk : k + 20 ≤ 600000) (hn : n + 4000 ≤ 7302250) (kk : L_kk D D2 tc tc2 ad p l e s m below meth c b Lx xs Q k n i t) : L_V D D2 tc tc2 ad p l e s m below meth c b Lx xs Q k n 1259 (L_l s b i) [] (I, J, P) (M, J2, P2) := by
  obtain ⟨v, eC, eM, hz'⟩ := y2_clash hz (xs (i + 1)) (xs (i + 2))
  refine L_aload_n K 2 1 1260 rfl (by decide +kernel) rfl ?_
  refine L_arg K 1 1265 rfl (by omega) hLx (by decide +kernel) (by decide +kernel) (by decide +kernel) (by decide +kernel) (by decide +kernel) (by decide) ?_
  refine L_arg K 2 1270 rfl (by omega) hLx (by decide +kernel) (by decide +kernel) (by decide +kernel) (by decide +kernel) (by decide +kernel) (by decide) ?_
  refine L_callC (idx := 135) (st := []) (av := [.int (xs (i + 1)), .int (xs (i + 2))]) K (c_CR_clash l D tc s.heap.size (s.heap.size + 230) ad I J P (xs (i + 1)) (xs (i + 2))) eC yv_CR_clash (K.2.2.2.2.1 _ tw_4_139) (K.2.2.2.2.1 _ tw_4_140) (K.2.2.2.2.1 _ tw_4_141) rfl (show 0 ≤ 8 by decide) (by decide +kernel) ⟨Nat.le_of_ble_eq_true rfl, Nat.le_of_ble_eq_true rfl⟩ ⟨?_, ?_⟩ ?_
  · exact Nat.le_trans (Nat.add_le_add_left (show m_CR_clash.2.2.2.1.cells ≤ 20 from Nat.le_of_ble_eq_true rfl) k) hk
  · exact Nat.le_trans (Nat.add_le_add_left (show m_CR_clash.2.2.2.1.slots ≤ 4000 from Nat.le_of_ble_eq_true rfl) n) hn
  refine L_aload_n K 1 2 1274 rfl (by decide +kernel) rfl ?_
  refine L_arg K 1 1279 rfl (by omega) hLx (by decide +kernel) (by decide +kernel) (by decide +kernel) (by decide +kernel) (by decide +kernel) (by decide) ?_
  refine L_arg K 2 1284 rfl (by omega) hLx (by decide +kernel) (by decide +kernel) (by decide +kernel) (by decide +kernel) (by decide +kernel) (by decide) ?_
  refine L_callR (idx := 138) (st := [.int v]) (av := [.int (xs (i + 1)), .int (xs (i + 2))]) K (c_Mo_clash l D2 tc2 (s.heap.size + 219) (s.heap.size + 230) M J2 P2 (xs (i + 1)) (xs (i + 2))) eM yv_Mo_clash (K.2.2.2.2.1 _ tw_7_69) (K.2.2.2.2.1 _ tw_7_70) (K.2.2.2.2.1 _ tw_7_71) rfl (show 1 ≤ 8 by decide) (by decide +kernel) ⟨Nat.le_of_ble_eq_true rfl, Nat.le_of_ble_eq_true rfl⟩ ⟨?_, ?_⟩ ?_
  · exact Nat.le_trans (Nat.add_le_add_left (show m_CR_clash.2.2.2.1.cells + 0 ≤ 20 from Nat.le_of_ble_eq_true rfl) k) hk
  · exact Nat.le_trans (Nat.add_le_add_left (show m_CR_clash.2.2.2.1.slots + 0 ≤ 4000 from Nat.le_of_ble_eq_true rfl) n) hn
  refine L_icmp_eq (off := 520) K 1290 rfl 1807 (by decide +kernel) rfl (fun _ => ?_) (fun h => absurd rfl h)
  exact kk _ _ _ _ _ _ _ _ hz' (Nat.add_le_add_left (show m_CR_clash.2.2.2.1.cells + 0 ≤ 20 from Nat.le_of_ble_eq_true rfl) k) (Nat.add_le_add_left (show m_CR_clash.2.2.2.1.slots + 0 ≤ 4000 from Nat.le_of_ble_eq_true rfl) n)
end LK
