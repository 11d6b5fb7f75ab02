/-! the law's cases, printed by lawcases.py -/
section LK
variable {D D2 : va_G} {tc tc2 : Nat → ClassId} {ad : Nat → Nat} {p : Program} {l : Launch} {e : Env} {s : State} {m : MethodId} {below : List Frame} {meth : Method} {c : Code} {b Lx : Nat} {xs : Nat → Int32} {Q : State → Prop} {k n : Nat}
-- alternative
theorem L_k36 (K : L_C D D2 tc tc2 ad p s m meth c b) {i t : Nat} {I : q_I} {J : q_J} {P : q_P} {M : q_I} {J2 : q_J} {P2 : q_P} (hz : d_Z t I P M) (hi : i + 6 < Lx) (hLx : Lx ≤ 3584) (ht : t ≤ 100000) (hk : k + 20 ≤ 600000) (hn : n + 4000 ≤ 7302250) (kk : L_kk D D2 tc tc2 ad p l e s m below meth c b Lx xs Q k n i t) : L_V D D2 tc tc2 ad p l e s m below meth c b Lx xs Q k n 1470 (L_l s b i) [] (I, J, P) (M, J2, P2) := by
  obtain ⟨v, I', J', P', M', J2', eC, eM, hz'⟩ := y2_alternative (J := J) (J2 := J2) hz (xs (i + 1)) (xs (i + 2))
  refine L_aload_n K 2 1 1471 rfl (by decide +kernel) rfl ?_
  refine L_arg K 1 1476 rfl (by omega) hLx (by decide +kernel) (by decide +kernel) (by decide +kernel) (by decide +kernel) (by decide +kernel) (by decide) ?_
  refine L_arg K 2 1481 rfl (by omega) hLx (by decide +kernel) (by decide +kernel) (by decide +kernel) (by decide +kernel) (by decide +kernel) (by decide) ?_
  refine L_callC (idx := 163) (st := []) (av := [.int (xs (i + 1)), .int (xs (i + 2))]) K (c_CR_alternative l D tc s.heap.size (s.heap.size + 230) ad I J P (xs (i + 1)) (xs (i + 2))) eC yv_CR_alternative (K.2.2.2.2.1 _ tw_4_183) (K.2.2.2.2.1 _ tw_4_184) (K.2.2.2.2.1 _ tw_4_185) rfl (show 0 ≤ 8 by decide) (by decide +kernel) ⟨Nat.le_of_ble_eq_true rfl, Nat.le_of_ble_eq_true rfl⟩ ⟨?_, ?_⟩ ?_
  · exact Nat.le_trans (Nat.add_le_add_left (show m_CR_alternative.2.2.2.1.cells ≤ 20 from Nat.le_of_ble_eq_true rfl) k) hk
  · exact Nat.le_trans (Nat.add_le_add_left (show m_CR_alternative.2.2.2.1.slots ≤ 4000 from Nat.le_of_ble_eq_true rfl) n) hn
  refine L_aload_n K 1 2 1485 rfl (by decide +kernel) rfl ?_
  refine L_arg K 1 1490 rfl (by omega) hLx (by decide +kernel) (by decide +kernel) (by decide +kernel) (by decide +kernel) (by decide +kernel) (by decide) ?_
  refine L_arg K 2 1495 rfl (by omega) hLx (by decide +kernel) (by decide +kernel) (by decide +kernel) (by decide +kernel) (by decide +kernel) (by decide) ?_
  refine L_callR (idx := 166) (st := [.int v]) (av := [.int (xs (i + 1)), .int (xs (i + 2))]) K (c_Mo_alternative l D2 tc2 (s.heap.size + 219) (s.heap.size + 230) M J2 P2 (xs (i + 1)) (xs (i + 2))) eM yv_Mo_alternative (K.2.2.2.2.1 _ tw_7_105) (K.2.2.2.2.1 _ tw_7_106) (K.2.2.2.2.1 _ tw_7_107) rfl (show 1 ≤ 8 by decide) (by decide +kernel) ⟨Nat.le_of_ble_eq_true rfl, Nat.le_of_ble_eq_true rfl⟩ ⟨?_, ?_⟩ ?_
  · exact Nat.le_trans (Nat.add_le_add_left (show m_CR_alternative.2.2.2.1.cells + 0 ≤ 20 from Nat.le_of_ble_eq_true rfl) k) hk
  · exact Nat.le_trans (Nat.add_le_add_left (show m_CR_alternative.2.2.2.1.slots + 0 ≤ 4000 from Nat.le_of_ble_eq_true rfl) n) hn
  refine L_icmp_eq (off := 309) K 1501 rfl 1807 (by decide +kernel) rfl (fun _ => ?_) (fun h => absurd rfl h)
  exact kk _ _ _ _ _ _ _ _ hz' (Nat.add_le_add_left (show m_CR_alternative.2.2.2.1.cells + 0 ≤ 20 from Nat.le_of_ble_eq_true rfl) k) (Nat.add_le_add_left (show m_CR_alternative.2.2.2.1.slots + 0 ≤ 4000 from Nat.le_of_ble_eq_true rfl) n)
-- freeStart
theorem L_k37 (K : L_C D D2 tc tc2 ad p s m meth c b) {i t : Nat} {I : q_I} {J : q_J} {P : q_P} {M : q_I} {J2 : q_J} {P2 : q_P} (hz : d_Z t I P M) (hi : i + 6 < Lx) (hLx : Lx ≤ 3584) (ht : t ≤ 100000) (hk : k + 20 ≤ 600000) (hn : n + 4000 ≤ 7302250) (kk : L_kk D D2 tc tc2 ad p l e s m below meth c b Lx xs Q k n i t) : L_V D D2 tc tc2 ad p l e s m below meth c b Lx xs Q k n 1503 (L_l s b i) [] (I, J, P) (M, J2, P2) := by
  obtain ⟨v, I', J', P', M', J2', eC, eM, hz'⟩ := y2_freeStart (J := J) (J2 := J2) hz (xs (i + 1)) (xs (i + 2)) (xs (i + 3)) (xs (i + 4))
  refine L_aload_n K 2 1 1504 rfl (by decide +kernel) rfl ?_
  refine L_arg K 1 1509 rfl (by omega) hLx (by decide +kernel) (by decide +kernel) (by decide +kernel) (by decide +kernel) (by decide +kernel) (by decide) ?_
  refine L_arg K 2 1514 rfl (by omega) hLx (by decide +kernel) (by decide +kernel) (by decide +kernel) (by decide +kernel) (by decide +kernel) (by decide) ?_
  refine L_arg K 3 1519 rfl (by omega) hLx (by decide +kernel) (by decide +kernel) (by decide +kernel) (by decide +kernel) (by decide +kernel) (by decide) ?_
  refine L_arg K 4 1524 rfl (by omega) hLx (by decide +kernel) (by decide +kernel) (by decide +kernel) (by decide +kernel) (by decide +kernel) (by decide) ?_
  refine L_callC (idx := 167) (st := []) (av := [.int (xs (i + 1)), .int (xs (i + 2)), .int (xs (i + 3)), .int (xs (i + 4))]) K (c_CR_freeStart l D tc s.heap.size (s.heap.size + 230) ad I J P (xs (i + 1)) (xs (i + 2)) (xs (i + 3)) (xs (i + 4))) eC yv_CR_freeStart (K.2.2.2.2.1 _ tw_4_203) (K.2.2.2.2.1 _ tw_4_204) (K.2.2.2.2.1 _ tw_4_205) rfl (show 0 ≤ 8 by decide) (by decide +kernel) ⟨Nat.le_of_ble_eq_true rfl, Nat.le_of_ble_eq_true rfl⟩ ⟨?_, ?_⟩ ?_
  · exact Nat.le_trans (Nat.add_le_add_left (show m_CR_freeStart.2.2.2.1.cells ≤ 20 from Nat.le_of_ble_eq_true rfl) k) hk
  · exact Nat.le_trans (Nat.add_le_add_left (show m_CR_freeStart.2.2.2.1.slots ≤ 4000 from Nat.le_of_ble_eq_true rfl) n) hn
  refine L_aload_n K 1 2 1528 rfl (by decide +kernel) rfl ?_
  refine L_arg K 1 1533 rfl (by omega) hLx (by decide +kernel) (by decide +kernel) (by decide +kernel) (by decide +kernel) (by decide +kernel) (by decide) ?_
  refine L_arg K 2 1538 rfl (by omega) hLx (by decide +kernel) (by decide +kernel) (by decide +kernel) (by decide +kernel) (by decide +kernel) (by decide) ?_
  refine L_arg K 3 1543 rfl (by omega) hLx (by decide +kernel) (by decide +kernel) (by decide +kernel) (by decide +kernel) (by decide +kernel) (by decide) ?_
  refine L_arg K 4 1548 rfl (by omega) hLx (by decide +kernel) (by decide +kernel) (by decide +kernel) (by decide +kernel) (by decide +kernel) (by decide) ?_
  refine L_callR (idx := 170) (st := [.int v]) (av := [.int (xs (i + 1)), .int (xs (i + 2)), .int (xs (i + 3)), .int (xs (i + 4))]) K (c_Mo_freeStart l D2 tc2 (s.heap.size + 219) (s.heap.size + 230) M J2 P2 (xs (i + 1)) (xs (i + 2)) (xs (i + 3)) (xs (i + 4))) eM yv_Mo_freeStart (K.2.2.2.2.1 _ tw_7_109) (K.2.2.2.2.1 _ tw_7_110) (K.2.2.2.2.1 _ tw_7_111) rfl (show 1 ≤ 8 by decide) (by decide +kernel) ⟨Nat.le_of_ble_eq_true rfl, Nat.le_of_ble_eq_true rfl⟩ ⟨?_, ?_⟩ ?_
  · exact Nat.le_trans (Nat.add_le_add_left (show m_CR_freeStart.2.2.2.1.cells + 0 ≤ 20 from Nat.le_of_ble_eq_true rfl) k) hk
  · exact Nat.le_trans (Nat.add_le_add_left (show m_CR_freeStart.2.2.2.1.slots + 0 ≤ 4000 from Nat.le_of_ble_eq_true rfl) n) hn
  refine L_icmp_eq (off := 256) K 1554 rfl 1807 (by decide +kernel) rfl (fun _ => ?_) (fun h => absurd rfl h)
  exact kk _ _ _ _ _ _ _ _ hz' (Nat.add_le_add_left (show m_CR_freeStart.2.2.2.1.cells + 0 ≤ 20 from Nat.le_of_ble_eq_true rfl) k) (Nat.add_le_add_left (show m_CR_freeStart.2.2.2.1.slots + 0 ≤ 4000 from Nat.le_of_ble_eq_true rfl) n)
-- commonStart
theorem L_k38 (K : L_C D D2 tc tc2 ad p s m meth c b) {i t : Nat} {I : q_I} {J : q_J} {P : q_P} {M : q_I} {J2 : q_J} {P2 : q_P} (hz : d_Z t I P M) (hi : i + 6 < Lx) (hLx : Lx ≤ 3584) (ht : t ≤ 100000) (hk : k + 20 ≤ 600000) (hn : n + 4000 ≤ 7302250) (kk : L_kk D D2 tc tc2 ad p l e s m below meth c b Lx xs Q k n i t) : L_V D D2 tc tc2 ad p l e s m below meth c b Lx xs Q k n 1556 (L_l s b i) [] (I, J, P) (M, J2, P2) := by
  obtain ⟨v, I', J', P', M', J2', eC, eM, hz'⟩ := y2_commonStart (J := J) (J2 := J2) hz (xs (i + 1)) (xs (i + 2)) (xs (i + 3)) (xs (i + 4))
  refine L_aload_n K 2 1 1557 rfl (by decide +kernel) rfl ?_
  refine L_arg K 1 1562 rfl (by omega) hLx (by decide +kernel) (by decide +kernel) (by decide +kernel) (by decide +kernel) (by decide +kernel) (by decide) ?_
  refine L_arg K 2 1567 rfl (by omega) hLx (by decide +kernel) (by decide +kernel) (by decide +kernel) (by decide +kernel) (by decide +kernel) (by decide) ?_
  refine L_arg K 3 1572 rfl (by omega) hLx (by decide +kernel) (by decide +kernel) (by decide +kernel) (by decide +kernel) (by decide +kernel) (by decide) ?_
  refine L_arg K 4 1577 rfl (by omega) hLx (by decide +kernel) (by decide +kernel) (by decide +kernel) (by decide +kernel) (by decide +kernel) (by decide) ?_
  refine L_callC (idx := 171) (st := []) (av := [.int (xs (i + 1)), .int (xs (i + 2)), .int (xs (i + 3)), .int (xs (i + 4))]) K (c_CR_commonStart l D tc s.heap.size (s.heap.size + 230) ad I J P (xs (i + 1)) (xs (i + 2)) (xs (i + 3)) (xs (i + 4))) eC yv_CR_commonStart (K.2.2.2.2.1 _ tw_4_214) (K.2.2.2.2.1 _ tw_4_215) (K.2.2.2.2.1 _ tw_4_216) rfl (show 0 ≤ 8 by decide) (by decide +kernel) ⟨Nat.le_of_ble_eq_true rfl, Nat.le_of_ble_eq_true rfl⟩ ⟨?_, ?_⟩ ?_
  · exact Nat.le_trans (Nat.add_le_add_left (show m_CR_commonStart.2.2.2.1.cells ≤ 20 from Nat.le_of_ble_eq_true rfl) k) hk
  · exact Nat.le_trans (Nat.add_le_add_left (show m_CR_commonStart.2.2.2.1.slots ≤ 4000 from Nat.le_of_ble_eq_true rfl) n) hn
  refine L_aload_n K 1 2 1581 rfl (by decide +kernel) rfl ?_
  refine L_arg K 1 1586 rfl (by omega) hLx (by decide +kernel) (by decide +kernel) (by decide +kernel) (by decide +kernel) (by decide +kernel) (by decide) ?_
  refine L_arg K 2 1591 rfl (by omega) hLx (by decide +kernel) (by decide +kernel) (by decide +kernel) (by decide +kernel) (by decide +kernel) (by decide) ?_
  refine L_arg K 3 1596 rfl (by omega) hLx (by decide +kernel) (by decide +kernel) (by decide +kernel) (by decide +kernel) (by decide +kernel) (by decide) ?_
  refine L_arg K 4 1601 rfl (by omega) hLx (by decide +kernel) (by decide +kernel) (by decide +kernel) (by decide +kernel) (by decide +kernel) (by decide) ?_
  refine L_callR (idx := 174) (st := [.int v]) (av := [.int (xs (i + 1)), .int (xs (i + 2)), .int (xs (i + 3)), .int (xs (i + 4))]) K (c_Mo_commonStart l D2 tc2 (s.heap.size + 219) (s.heap.size + 230) M J2 P2 (xs (i + 1)) (xs (i + 2)) (xs (i + 3)) (xs (i + 4))) eM yv_Mo_commonStart (K.2.2.2.2.1 _ tw_7_113) (K.2.2.2.2.1 _ tw_7_114) (K.2.2.2.2.1 _ tw_7_115) rfl (show 1 ≤ 8 by decide) (by decide +kernel) ⟨Nat.le_of_ble_eq_true rfl, Nat.le_of_ble_eq_true rfl⟩ ⟨?_, ?_⟩ ?_
  · exact Nat.le_trans (Nat.add_le_add_left (show m_CR_commonStart.2.2.2.1.cells + 0 ≤ 20 from Nat.le_of_ble_eq_true rfl) k) hk
  · exact Nat.le_trans (Nat.add_le_add_left (show m_CR_commonStart.2.2.2.1.slots + 0 ≤ 4000 from Nat.le_of_ble_eq_true rfl) n) hn
  refine L_icmp_eq (off := 203) K 1607 rfl 1807 (by decide +kernel) rfl (fun _ => ?_) (fun h => absurd rfl h)
  exact kk _ _ _ _ _ _ _ _ hz' (Nat.add_le_add_left (show m_CR_commonStart.2.2.2.1.cells + 0 ≤ 20 from Nat.le_of_ble_eq_true rfl) k) (Nat.add_le_add_left (show m_CR_commonStart.2.2.2.1.slots + 0 ≤ 4000 from Nat.le_of_ble_eq_true rfl) n)
-- busySlots
theorem L_k39 (K : L_C D D2 tc tc2 ad p s m meth c b) {i t : Nat} {I : q_I} {J : q_J} {P : q_P} {M : q_I} {J2 : q_J} {P2 : q_P} (hz : d_Z t I P M) (hi : i + 6 < Lx) (hLx : Lx ≤ 3584) (ht : t ≤ 100000) (hk : k + 20 ≤ 600000) (hn : n + 4000 ≤ 7302250) (kk : L_kk D D2 tc tc2 ad p l e s m below meth c b Lx xs Q k n i t) : L_V D D2 tc tc2 ad p l e s m below meth c b Lx xs Q k n 1609 (L_l s b i) [] (I, J, P) (M, J2, P2) := by
  obtain ⟨v, I', P', M', J', eC, eM, hz'⟩ := y2_busySlots (J := J2) hz (xs (i + 1)) (xs (i + 2))
  refine L_aload_n K 2 1 1610 rfl (by decide +kernel) rfl ?_
  refine L_arg K 1 1615 rfl (by omega) hLx (by decide +kernel) (by decide +kernel) (by decide +kernel) (by decide +kernel) (by decide +kernel) (by decide) ?_
  refine L_arg K 2 1620 rfl (by omega) hLx (by decide +kernel) (by decide +kernel) (by decide +kernel) (by decide +kernel) (by decide +kernel) (by decide) ?_
  refine L_callC (idx := 175) (st := []) (av := [.int (xs (i + 1)), .int (xs (i + 2))]) K (c_CR_busySlots l D tc s.heap.size (s.heap.size + 230) ad I J P (xs (i + 1)) (xs (i + 2))) eC yv_CR_busySlots (K.2.2.2.2.1 _ tw_4_220) (K.2.2.2.2.1 _ tw_4_221) (K.2.2.2.2.1 _ tw_4_222) rfl (show 0 ≤ 8 by decide) (by decide +kernel) ⟨Nat.le_of_ble_eq_true rfl, Nat.le_of_ble_eq_true rfl⟩ ⟨?_, ?_⟩ ?_
  · exact Nat.le_trans (Nat.add_le_add_left (show m_CR_busySlots.2.2.2.1.cells ≤ 20 from Nat.le_of_ble_eq_true rfl) k) hk
  · exact Nat.le_trans (Nat.add_le_add_left (show m_CR_busySlots.2.2.2.1.slots ≤ 4000 from Nat.le_of_ble_eq_true rfl) n) hn
  refine L_aload_n K 1 2 1624 rfl (by decide +kernel) rfl ?_
  refine L_arg K 1 1629 rfl (by omega) hLx (by decide +kernel) (by decide +kernel) (by decide +kernel) (by decide +kernel) (by decide +kernel) (by decide) ?_
  refine L_arg K 2 1634 rfl (by omega) hLx (by decide +kernel) (by decide +kernel) (by decide +kernel) (by decide +kernel) (by decide +kernel) (by decide) ?_
  refine L_callR (idx := 178) (st := [.int v]) (av := [.int (xs (i + 1)), .int (xs (i + 2))]) K (c_Mo_busySlots l D2 tc2 (s.heap.size + 219) (s.heap.size + 230) M J2 P2 (xs (i + 1)) (xs (i + 2))) eM yv_Mo_busySlots (K.2.2.2.2.1 _ tw_7_117) (K.2.2.2.2.1 _ tw_7_118) (K.2.2.2.2.1 _ tw_7_119) rfl (show 1 ≤ 8 by decide) (by decide +kernel) ⟨Nat.le_of_ble_eq_true rfl, Nat.le_of_ble_eq_true rfl⟩ ⟨?_, ?_⟩ ?_
  · exact Nat.le_trans (Nat.add_le_add_left (show m_CR_busySlots.2.2.2.1.cells + 0 ≤ 20 from Nat.le_of_ble_eq_true rfl) k) hk
  · exact Nat.le_trans (Nat.add_le_add_left (show m_CR_busySlots.2.2.2.1.slots + 0 ≤ 4000 from Nat.le_of_ble_eq_true rfl) n) hn
  refine L_icmp_eq (off := 170) K 1640 rfl 1807 (by decide +kernel) rfl (fun _ => ?_) (fun h => absurd rfl h)
  exact kk _ _ _ _ _ _ _ _ hz' (Nat.add_le_add_left (show m_CR_busySlots.2.2.2.1.cells + 0 ≤ 20 from Nat.le_of_ble_eq_true rfl) k) (Nat.add_le_add_left (show m_CR_busySlots.2.2.2.1.slots + 0 ≤ 4000 from Nat.le_of_ble_eq_true rfl) n)
-- append
theorem L_k40 (K : L_C D D2 tc tc2 ad p s m meth c b) {i t : Nat} {I : q_I} {J : q_J} {P : q_P} {M : q_I} {J2 : q_J} {P2 : q_P} (hz : d_Z t I P M) (hi : i + 6 < Lx) (hLx : Lx ≤ 3584) (ht : t ≤ 100000) (hk : k + 20 ≤ 600000) (hn : n + 4000 ≤ 7302250) (kk : L_kk D D2 tc tc2 ad p l e s m below meth c b Lx xs Q k n i t) : L_V D D2 tc tc2 ad p l e s m below meth c b Lx xs Q k n 1642 (L_l s b i) [] (I, J, P) (M, J2, P2) := by
  obtain ⟨v, I', M', eC, eM, hz'⟩ := y2_append hz (xs (i + 1))
  refine L_aload_n K 2 1 1643 rfl (by decide +kernel) rfl ?_
  refine L_arg K 1 1648 rfl (by omega) hLx (by decide +kernel) (by decide +kernel) (by decide +kernel) (by decide +kernel) (by decide +kernel) (by decide) ?_
  refine L_callC (idx := 179) (st := []) (av := [.int (xs (i + 1))]) K (c_CR_append l D tc s.heap.size (s.heap.size + 230) ad I J P (xs (i + 1))) eC yv_CR_append (K.2.2.2.2.1 _ tw_4_224) (K.2.2.2.2.1 _ tw_4_225) (K.2.2.2.2.1 _ tw_4_226) rfl (show 0 ≤ 8 by decide) (by decide +kernel) ⟨Nat.le_of_ble_eq_true rfl, Nat.le_of_ble_eq_true rfl⟩ ⟨?_, ?_⟩ ?_
  · exact Nat.le_trans (Nat.add_le_add_left (show m_CR_append.2.2.2.1.cells ≤ 20 from Nat.le_of_ble_eq_true rfl) k) hk
  · exact Nat.le_trans (Nat.add_le_add_left (show m_CR_append.2.2.2.1.slots ≤ 4000 from Nat.le_of_ble_eq_true rfl) n) hn
  refine L_aload_n K 1 2 1652 rfl (by decide +kernel) rfl ?_
  refine L_arg K 1 1657 rfl (by omega) hLx (by decide +kernel) (by decide +kernel) (by decide +kernel) (by decide +kernel) (by decide +kernel) (by decide) ?_
  refine L_callR (idx := 182) (st := [.int v]) (av := [.int (xs (i + 1))]) K (c_Mo_append l D2 tc2 (s.heap.size + 219) (s.heap.size + 230) M J2 P2 (xs (i + 1))) eM yv_Mo_append (K.2.2.2.2.1 _ tw_7_121) (K.2.2.2.2.1 _ tw_7_122) (K.2.2.2.2.1 _ tw_7_123) rfl (show 1 ≤ 8 by decide) (by decide +kernel) ⟨Nat.le_of_ble_eq_true rfl, Nat.le_of_ble_eq_true rfl⟩ ⟨?_, ?_⟩ ?_
  · exact Nat.le_trans (Nat.add_le_add_left (show m_CR_append.2.2.2.1.cells + 0 ≤ 20 from Nat.le_of_ble_eq_true rfl) k) hk
  · exact Nat.le_trans (Nat.add_le_add_left (show m_CR_append.2.2.2.1.slots + 0 ≤ 4000 from Nat.le_of_ble_eq_true rfl) n) hn
  refine L_icmp_eq (off := 147) K 1663 rfl 1807 (by decide +kernel) rfl (fun _ => ?_) (fun h => absurd rfl h)
  exact kk _ _ _ _ _ _ _ _ hz' (Nat.add_le_add_left (show m_CR_append.2.2.2.1.cells + 0 ≤ 20 from Nat.le_of_ble_eq_true rfl) k) (Nat.add_le_add_left (show m_CR_append.2.2.2.1.slots + 0 ≤ 4000 from Nat.le_of_ble_eq_true rfl) n)
-- clearText
theorem L_k41 (K : L_C D D2 tc tc2 ad p s m meth c b) {i t : Nat} {I : q_I} {J : q_J} {P : q_P} {M : q_I} {J2 : q_J} {P2 : q_P} (hz : d_Z t I P M) (hi : i + 6 < Lx) (hLx : Lx ≤ 3584) (ht : t ≤ 100000) (hk : k + 20 ≤ 600000) (hn : n + 4000 ≤ 7302250) (kk : L_kk D D2 tc tc2 ad p l e s m below meth c b Lx xs Q k n i t) : L_V D D2 tc tc2 ad p l e s m below meth c b Lx xs Q k n 1665 (L_l s b i) [] (I, J, P) (M, J2, P2) := by
  obtain ⟨v, I', M', eC, eM, hz'⟩ := y2_clearText hz
  refine L_aload_n K 2 1 1666 rfl (by decide +kernel) rfl ?_
  refine L_callC (idx := 183) (st := []) (av := []) K (c_CR_clearText l D tc s.heap.size (s.heap.size + 230) ad I J P) eC yv_CR_clearText (K.2.2.2.2.1 _ tw_5_64) (K.2.2.2.2.1 _ tw_5_65) (K.2.2.2.2.1 _ tw_5_66) rfl (show 0 ≤ 8 by decide) (by decide +kernel) ⟨Nat.le_of_ble_eq_true rfl, Nat.le_of_ble_eq_true rfl⟩ ⟨?_, ?_⟩ ?_
  · exact Nat.le_trans (Nat.add_le_add_left (show m_CR_clearText.2.2.2.1.cells ≤ 20 from Nat.le_of_ble_eq_true rfl) k) hk
  · exact Nat.le_trans (Nat.add_le_add_left (show m_CR_clearText.2.2.2.1.slots ≤ 4000 from Nat.le_of_ble_eq_true rfl) n) hn
  refine L_aload_n K 1 2 1670 rfl (by decide +kernel) rfl ?_
  refine L_callR (idx := 186) (st := [.int v]) (av := []) K (c_Mo_clearText l D2 tc2 (s.heap.size + 219) (s.heap.size + 230) M J2 P2) eM yv_Mo_clearText (K.2.2.2.2.1 _ tw_7_125) (K.2.2.2.2.1 _ tw_7_126) (K.2.2.2.2.1 _ tw_7_127) rfl (show 1 ≤ 8 by decide) (by decide +kernel) ⟨Nat.le_of_ble_eq_true rfl, Nat.le_of_ble_eq_true rfl⟩ ⟨?_, ?_⟩ ?_
  · exact Nat.le_trans (Nat.add_le_add_left (show m_CR_clearText.2.2.2.1.cells + 0 ≤ 20 from Nat.le_of_ble_eq_true rfl) k) hk
  · exact Nat.le_trans (Nat.add_le_add_left (show m_CR_clearText.2.2.2.1.slots + 0 ≤ 4000 from Nat.le_of_ble_eq_true rfl) n) hn
  refine L_icmp_eq (off := 134) K 1676 rfl 1807 (by decide +kernel) rfl (fun _ => ?_) (fun h => absurd rfl h)
  exact kk _ _ _ _ _ _ _ _ hz' (Nat.add_le_add_left (show m_CR_clearText.2.2.2.1.cells + 0 ≤ 20 from Nat.le_of_ble_eq_true rfl) k) (Nat.add_le_add_left (show m_CR_clearText.2.2.2.1.slots + 0 ≤ 4000 from Nat.le_of_ble_eq_true rfl) n)
end LK
