/-! the law's cases, printed by lawcases.py -/
section LK
variable {D D2 : va_G} {tc tc2 : Nat → ClassId} {ad : Nat → Nat} {p : Program} {l : Launch} {e : Env} {s : State} {m : MethodId} {below : List Frame} {meth : Method} {c : Code} {b Lx : Nat} {xs : Nat → Int32} {Q : State → Prop} {k n : Nat}
-- state
theorem L_k30 (K : L_C D D2 tc tc2 ad p s m meth c b) {i t : Nat} {I : q_I} {J : q_J} {P : q_P} {M : q_I} {J2 : q_J} {P2 : q_P} (hz : d_Z t I P M) (hi : i + 6 < Lx) (hLx : Lx ≤ 3584) (ht : t ≤ 100000) (hk : k + 20 ≤ 600000) (hn : n + 4000 ≤ 7302250) (kk : L_kk D D2 tc tc2 ad p l e s m below meth c b Lx xs Q k n i t) : L_V D D2 tc tc2 ad p l e s m below meth c b Lx xs Q k n 1292 (L_l s b i) [] (I, J, P) (M, J2, P2) := by
  obtain ⟨v, M', J', eC, eM, hz'⟩ := y2_state (J := J2) hz (xs (i + 1)) (xs (i + 2))
  refine L_aload_n K 2 1 1293 rfl (by decide +kernel) rfl ?_
  refine L_arg K 1 1298 rfl (by omega) hLx (by decide +kernel) (by decide +kernel) (by decide +kernel) (by decide +kernel) (by decide +kernel) (by decide) ?_
  refine L_arg K 2 1303 rfl (by omega) hLx (by decide +kernel) (by decide +kernel) (by decide +kernel) (by decide +kernel) (by decide +kernel) (by decide) ?_
  refine L_callC (idx := 139) (st := []) (av := [.int (xs (i + 1)), .int (xs (i + 2))]) K (c_CR_state l D tc s.heap.size (s.heap.size + 230) ad I J P (xs (i + 1)) (xs (i + 2))) eC yv_CR_state (K.2.2.2.2.1 _ tw_4_144) (K.2.2.2.2.1 _ tw_4_145) (K.2.2.2.2.1 _ tw_4_146) rfl (show 0 ≤ 8 by decide) (by decide +kernel) ⟨Nat.le_of_ble_eq_true rfl, Nat.le_of_ble_eq_true rfl⟩ ⟨?_, ?_⟩ ?_
  · exact Nat.le_trans (Nat.add_le_add_left (show m_CR_state.2.2.2.1.cells ≤ 20 from Nat.le_of_ble_eq_true rfl) k) hk
  · exact Nat.le_trans (Nat.add_le_add_left (show m_CR_state.2.2.2.1.slots ≤ 4000 from Nat.le_of_ble_eq_true rfl) n) hn
  refine L_aload_n K 1 2 1307 rfl (by decide +kernel) rfl ?_
  refine L_arg K 1 1312 rfl (by omega) hLx (by decide +kernel) (by decide +kernel) (by decide +kernel) (by decide +kernel) (by decide +kernel) (by decide) ?_
  refine L_arg K 2 1317 rfl (by omega) hLx (by decide +kernel) (by decide +kernel) (by decide +kernel) (by decide +kernel) (by decide +kernel) (by decide) ?_
  refine L_callR (idx := 142) (st := [.int v]) (av := [.int (xs (i + 1)), .int (xs (i + 2))]) K (c_Mo_state l D2 tc2 (s.heap.size + 219) (s.heap.size + 230) M J2 P2 (xs (i + 1)) (xs (i + 2))) eM yv_Mo_state (K.2.2.2.2.1 _ tw_7_73) (K.2.2.2.2.1 _ tw_7_74) (K.2.2.2.2.1 _ tw_7_75) rfl (show 1 ≤ 8 by decide) (by decide +kernel) ⟨Nat.le_of_ble_eq_true rfl, Nat.le_of_ble_eq_true rfl⟩ ⟨?_, ?_⟩ ?_
  · exact Nat.le_trans (Nat.add_le_add_left (show m_CR_state.2.2.2.1.cells + 0 ≤ 20 from Nat.le_of_ble_eq_true rfl) k) hk
  · exact Nat.le_trans (Nat.add_le_add_left (show m_CR_state.2.2.2.1.slots + 0 ≤ 4000 from Nat.le_of_ble_eq_true rfl) n) hn
  refine L_icmp_eq (off := 487) K 1323 rfl 1807 (by decide +kernel) rfl (fun _ => ?_) (fun h => absurd rfl h)
  exact kk _ _ _ _ _ _ _ _ hz' (Nat.add_le_add_left (show m_CR_state.2.2.2.1.cells + 0 ≤ 20 from Nat.le_of_ble_eq_true rfl) k) (Nat.add_le_add_left (show m_CR_state.2.2.2.1.slots + 0 ≤ 4000 from Nat.le_of_ble_eq_true rfl) n)
-- acceptedWeight
theorem L_k31 (K : L_C D D2 tc tc2 ad p s m meth c b) {i t : Nat} {I : q_I} {J : q_J} {P : q_P} {M : q_I} {J2 : q_J} {P2 : q_P} (hz : d_Z t I P M) (hi : i + 6 < Lx) (hLx : Lx ≤ 3584) (ht : t ≤ 100000) (hk : k + 20 ≤ 600000) (hn : n + 4000 ≤ 7302250) (kk : L_kk D D2 tc tc2 ad p l e s m below meth c b Lx xs Q k n i t) : L_V D D2 tc tc2 ad p l e s m below meth c b Lx xs Q k n 1325 (L_l s b i) [] (I, J, P) (M, J2, P2) := by
  obtain ⟨v, M', J', eC, eM, hz'⟩ := y2_acceptedWeight (J := J2) hz (xs (i + 1))
  refine L_aload_n K 2 1 1326 rfl (by decide +kernel) rfl ?_
  refine L_arg K 1 1331 rfl (by omega) hLx (by decide +kernel) (by decide +kernel) (by decide +kernel) (by decide +kernel) (by decide +kernel) (by decide) ?_
  refine L_callC (idx := 143) (st := []) (av := [.int (xs (i + 1))]) K (c_CR_acceptedWeight l D tc s.heap.size (s.heap.size + 230) ad I J P (xs (i + 1))) eC yv_CR_acceptedWeight (K.2.2.2.2.1 _ tw_4_153) (K.2.2.2.2.1 _ tw_4_154) (K.2.2.2.2.1 _ tw_4_155) rfl (show 0 ≤ 8 by decide) (by decide +kernel) ⟨Nat.le_of_ble_eq_true rfl, Nat.le_of_ble_eq_true rfl⟩ ⟨?_, ?_⟩ ?_
  · exact Nat.le_trans (Nat.add_le_add_left (show m_CR_acceptedWeight.2.2.2.1.cells ≤ 20 from Nat.le_of_ble_eq_true rfl) k) hk
  · exact Nat.le_trans (Nat.add_le_add_left (show m_CR_acceptedWeight.2.2.2.1.slots ≤ 4000 from Nat.le_of_ble_eq_true rfl) n) hn
  refine L_aload_n K 1 2 1335 rfl (by decide +kernel) rfl ?_
  refine L_arg K 1 1340 rfl (by omega) hLx (by decide +kernel) (by decide +kernel) (by decide +kernel) (by decide +kernel) (by decide +kernel) (by decide) ?_
  refine L_callR (idx := 146) (st := [.int v]) (av := [.int (xs (i + 1))]) K (c_Mo_acceptedWeight l D2 tc2 (s.heap.size + 219) (s.heap.size + 230) M J2 P2 (xs (i + 1))) eM yv_Mo_acceptedWeight (K.2.2.2.2.1 _ tw_7_85) (K.2.2.2.2.1 _ tw_7_86) (K.2.2.2.2.1 _ tw_7_87) rfl (show 1 ≤ 8 by decide) (by decide +kernel) ⟨Nat.le_of_ble_eq_true rfl, Nat.le_of_ble_eq_true rfl⟩ ⟨?_, ?_⟩ ?_
  · exact Nat.le_trans (Nat.add_le_add_left (show m_CR_acceptedWeight.2.2.2.1.cells + 0 ≤ 20 from Nat.le_of_ble_eq_true rfl) k) hk
  · exact Nat.le_trans (Nat.add_le_add_left (show m_CR_acceptedWeight.2.2.2.1.slots + 0 ≤ 4000 from Nat.le_of_ble_eq_true rfl) n) hn
  refine L_icmp_eq (off := 464) K 1346 rfl 1807 (by decide +kernel) rfl (fun _ => ?_) (fun h => absurd rfl h)
  exact kk _ _ _ _ _ _ _ _ hz' (Nat.add_le_add_left (show m_CR_acceptedWeight.2.2.2.1.cells + 0 ≤ 20 from Nat.le_of_ble_eq_true rfl) k) (Nat.add_le_add_left (show m_CR_acceptedWeight.2.2.2.1.slots + 0 ≤ 4000 from Nat.le_of_ble_eq_true rfl) n)
-- rejectedWeight
theorem L_k32 (K : L_C D D2 tc tc2 ad p s m meth c b) {i t : Nat} {I : q_I} {J : q_J} {P : q_P} {M : q_I} {J2 : q_J} {P2 : q_P} (hz : d_Z t I P M) (hi : i + 6 < Lx) (hLx : Lx ≤ 3584) (ht : t ≤ 100000) (hk : k + 20 ≤ 600000) (hn : n + 4000 ≤ 7302250) (kk : L_kk D D2 tc tc2 ad p l e s m below meth c b Lx xs Q k n i t) : L_V D D2 tc tc2 ad p l e s m below meth c b Lx xs Q k n 1348 (L_l s b i) [] (I, J, P) (M, J2, P2) := by
  obtain ⟨v, M', J', eC, eM, hz'⟩ := y2_rejectedWeight (J := J2) hz (xs (i + 1))
  refine L_aload_n K 2 1 1349 rfl (by decide +kernel) rfl ?_
  refine L_arg K 1 1354 rfl (by omega) hLx (by decide +kernel) (by decide +kernel) (by decide +kernel) (by decide +kernel) (by decide +kernel) (by decide) ?_
  refine L_callC (idx := 147) (st := []) (av := [.int (xs (i + 1))]) K (c_CR_rejectedWeight l D tc s.heap.size (s.heap.size + 230) ad I J P (xs (i + 1))) eC yv_CR_rejectedWeight (K.2.2.2.2.1 _ tw_4_158) (K.2.2.2.2.1 _ tw_4_159) (K.2.2.2.2.1 _ tw_4_160) rfl (show 0 ≤ 8 by decide) (by decide +kernel) ⟨Nat.le_of_ble_eq_true rfl, Nat.le_of_ble_eq_true rfl⟩ ⟨?_, ?_⟩ ?_
  · exact Nat.le_trans (Nat.add_le_add_left (show m_CR_rejectedWeight.2.2.2.1.cells ≤ 20 from Nat.le_of_ble_eq_true rfl) k) hk
  · exact Nat.le_trans (Nat.add_le_add_left (show m_CR_rejectedWeight.2.2.2.1.slots ≤ 4000 from Nat.le_of_ble_eq_true rfl) n) hn
  refine L_aload_n K 1 2 1358 rfl (by decide +kernel) rfl ?_
  refine L_arg K 1 1363 rfl (by omega) hLx (by decide +kernel) (by decide +kernel) (by decide +kernel) (by decide +kernel) (by decide +kernel) (by decide) ?_
  refine L_callR (idx := 150) (st := [.int v]) (av := [.int (xs (i + 1))]) K (c_Mo_rejectedWeight l D2 tc2 (s.heap.size + 219) (s.heap.size + 230) M J2 P2 (xs (i + 1))) eM yv_Mo_rejectedWeight (K.2.2.2.2.1 _ tw_7_89) (K.2.2.2.2.1 _ tw_7_90) (K.2.2.2.2.1 _ tw_7_91) rfl (show 1 ≤ 8 by decide) (by decide +kernel) ⟨Nat.le_of_ble_eq_true rfl, Nat.le_of_ble_eq_true rfl⟩ ⟨?_, ?_⟩ ?_
  · exact Nat.le_trans (Nat.add_le_add_left (show m_CR_rejectedWeight.2.2.2.1.cells + 0 ≤ 20 from Nat.le_of_ble_eq_true rfl) k) hk
  · exact Nat.le_trans (Nat.add_le_add_left (show m_CR_rejectedWeight.2.2.2.1.slots + 0 ≤ 4000 from Nat.le_of_ble_eq_true rfl) n) hn
  refine L_icmp_eq (off := 441) K 1369 rfl 1807 (by decide +kernel) rfl (fun _ => ?_) (fun h => absurd rfl h)
  exact kk _ _ _ _ _ _ _ _ hz' (Nat.add_le_add_left (show m_CR_rejectedWeight.2.2.2.1.cells + 0 ≤ 20 from Nat.le_of_ble_eq_true rfl) k) (Nat.add_le_add_left (show m_CR_rejectedWeight.2.2.2.1.slots + 0 ≤ 4000 from Nat.le_of_ble_eq_true rfl) n)
-- agree
theorem L_k33 (K : L_C D D2 tc tc2 ad p s m meth c b) {i t : Nat} {I : q_I} {J : q_J} {P : q_P} {M : q_I} {J2 : q_J} {P2 : q_P} (hz : d_Z t I P M) (hi : i + 6 < Lx) (hLx : Lx ≤ 3584) (ht : t ≤ 100000) (hk : k + 20 ≤ 600000) (hn : n + 4000 ≤ 7302250) (kk : L_kk D D2 tc tc2 ad p l e s m below meth c b Lx xs Q k n i t) : L_V D D2 tc tc2 ad p l e s m below meth c b Lx xs Q k n 1371 (L_l s b i) [] (I, J, P) (M, J2, P2) := by
  obtain ⟨v, eC, eM, hz'⟩ := y2_agree hz (xs (i + 1)) (xs (i + 2))
  refine L_aload_n K 2 1 1372 rfl (by decide +kernel) rfl ?_
  refine L_arg K 1 1377 rfl (by omega) hLx (by decide +kernel) (by decide +kernel) (by decide +kernel) (by decide +kernel) (by decide +kernel) (by decide) ?_
  refine L_arg K 2 1382 rfl (by omega) hLx (by decide +kernel) (by decide +kernel) (by decide +kernel) (by decide +kernel) (by decide +kernel) (by decide) ?_
  refine L_callC (idx := 151) (st := []) (av := [.int (xs (i + 1)), .int (xs (i + 2))]) K (c_CR_agree l D tc s.heap.size (s.heap.size + 230) ad I J P (xs (i + 1)) (xs (i + 2))) eC yv_CR_agree (K.2.2.2.2.1 _ tw_4_162) (K.2.2.2.2.1 _ tw_4_163) (K.2.2.2.2.1 _ tw_4_164) rfl (show 0 ≤ 8 by decide) (by decide +kernel) ⟨Nat.le_of_ble_eq_true rfl, Nat.le_of_ble_eq_true rfl⟩ ⟨?_, ?_⟩ ?_
  · exact Nat.le_trans (Nat.add_le_add_left (show m_CR_agree.2.2.2.1.cells ≤ 20 from Nat.le_of_ble_eq_true rfl) k) hk
  · exact Nat.le_trans (Nat.add_le_add_left (show m_CR_agree.2.2.2.1.slots ≤ 4000 from Nat.le_of_ble_eq_true rfl) n) hn
  refine L_aload_n K 1 2 1386 rfl (by decide +kernel) rfl ?_
  refine L_arg K 1 1391 rfl (by omega) hLx (by decide +kernel) (by decide +kernel) (by decide +kernel) (by decide +kernel) (by decide +kernel) (by decide) ?_
  refine L_arg K 2 1396 rfl (by omega) hLx (by decide +kernel) (by decide +kernel) (by decide +kernel) (by decide +kernel) (by decide +kernel) (by decide) ?_
  refine L_callR (idx := 154) (st := [.int v]) (av := [.int (xs (i + 1)), .int (xs (i + 2))]) K (c_Mo_agree l D2 tc2 (s.heap.size + 219) (s.heap.size + 230) M J2 P2 (xs (i + 1)) (xs (i + 2))) eM yv_Mo_agree (K.2.2.2.2.1 _ tw_7_93) (K.2.2.2.2.1 _ tw_7_94) (K.2.2.2.2.1 _ tw_7_95) rfl (show 1 ≤ 8 by decide) (by decide +kernel) ⟨Nat.le_of_ble_eq_true rfl, Nat.le_of_ble_eq_true rfl⟩ ⟨?_, ?_⟩ ?_
  · exact Nat.le_trans (Nat.add_le_add_left (show m_CR_agree.2.2.2.1.cells + 0 ≤ 20 from Nat.le_of_ble_eq_true rfl) k) hk
  · exact Nat.le_trans (Nat.add_le_add_left (show m_CR_agree.2.2.2.1.slots + 0 ≤ 4000 from Nat.le_of_ble_eq_true rfl) n) hn
  refine L_icmp_eq (off := 408) K 1402 rfl 1807 (by decide +kernel) rfl (fun _ => ?_) (fun h => absurd rfl h)
  exact kk _ _ _ _ _ _ _ _ hz' (Nat.add_le_add_left (show m_CR_agree.2.2.2.1.cells + 0 ≤ 20 from Nat.le_of_ble_eq_true rfl) k) (Nat.add_le_add_left (show m_CR_agree.2.2.2.1.slots + 0 ≤ 4000 from Nat.le_of_ble_eq_true rfl) n)
-- obstacle
theorem L_k34 (K : L_C D D2 tc tc2 ad p s m meth c b) {i t : Nat} {I : q_I} {J : q_J} {P : q_P} {M : q_I} {J2 : q_J} {P2 : q_P} (hz : d_Z t I P M) (hi : i + 6 < Lx) (hLx : Lx ≤ 3584) (ht : t ≤ 100000) (hk : k + 20 ≤ 600000) (hn : n + 4000 ≤ 7302250) (kk : L_kk D D2 tc tc2 ad p l e s m below meth c b Lx xs Q k n i t) : L_V D D2 tc tc2 ad p l e s m below meth c b Lx xs Q k n 1404 (L_l s b i) [] (I, J, P) (M, J2, P2) := by
  obtain ⟨v, I', J', P', M', J2', eC, eM, hz'⟩ := y2_obstacle (J := J) (J2 := J2) hz (xs (i + 1)) (xs (i + 2))
  refine L_aload_n K 2 1 1405 rfl (by decide +kernel) rfl ?_
  refine L_arg K 1 1410 rfl (by omega) hLx (by decide +kernel) (by decide +kernel) (by decide +kernel) (by decide +kernel) (by decide +kernel) (by decide) ?_
  refine L_arg K 2 1415 rfl (by omega) hLx (by decide +kernel) (by decide +kernel) (by decide +kernel) (by decide +kernel) (by decide +kernel) (by decide) ?_
  refine L_callC (idx := 155) (st := []) (av := [.int (xs (i + 1)), .int (xs (i + 2))]) K (c_CR_obstacle l D tc s.heap.size (s.heap.size + 230) ad I J P (xs (i + 1)) (xs (i + 2))) eC yv_CR_obstacle (K.2.2.2.2.1 _ tw_4_166) (K.2.2.2.2.1 _ tw_4_167) (K.2.2.2.2.1 _ tw_4_168) rfl (show 0 ≤ 8 by decide) (by decide +kernel) ⟨Nat.le_of_ble_eq_true rfl, Nat.le_of_ble_eq_true rfl⟩ ⟨?_, ?_⟩ ?_
  · exact Nat.le_trans (Nat.add_le_add_left (show m_CR_obstacle.2.2.2.1.cells ≤ 20 from Nat.le_of_ble_eq_true rfl) k) hk
  · exact Nat.le_trans (Nat.add_le_add_left (show m_CR_obstacle.2.2.2.1.slots ≤ 4000 from Nat.le_of_ble_eq_true rfl) n) hn
  refine L_aload_n K 1 2 1419 rfl (by decide +kernel) rfl ?_
  refine L_arg K 1 1424 rfl (by omega) hLx (by decide +kernel) (by decide +kernel) (by decide +kernel) (by decide +kernel) (by decide +kernel) (by decide) ?_
  refine L_arg K 2 1429 rfl (by omega) hLx (by decide +kernel) (by decide +kernel) (by decide +kernel) (by decide +kernel) (by decide +kernel) (by decide) ?_
  refine L_callR (idx := 158) (st := [.int v]) (av := [.int (xs (i + 1)), .int (xs (i + 2))]) K (c_Mo_obstacle l D2 tc2 (s.heap.size + 219) (s.heap.size + 230) M J2 P2 (xs (i + 1)) (xs (i + 2))) eM yv_Mo_obstacle (K.2.2.2.2.1 _ tw_7_97) (K.2.2.2.2.1 _ tw_7_98) (K.2.2.2.2.1 _ tw_7_99) rfl (show 1 ≤ 8 by decide) (by decide +kernel) ⟨Nat.le_of_ble_eq_true rfl, Nat.le_of_ble_eq_true rfl⟩ ⟨?_, ?_⟩ ?_
  · exact Nat.le_trans (Nat.add_le_add_left (show m_CR_obstacle.2.2.2.1.cells + 0 ≤ 20 from Nat.le_of_ble_eq_true rfl) k) hk
  · exact Nat.le_trans (Nat.add_le_add_left (show m_CR_obstacle.2.2.2.1.slots + 0 ≤ 4000 from Nat.le_of_ble_eq_true rfl) n) hn
  refine L_icmp_eq (off := 375) K 1435 rfl 1807 (by decide +kernel) rfl (fun _ => ?_) (fun h => absurd rfl h)
  exact kk _ _ _ _ _ _ _ _ hz' (Nat.add_le_add_left (show m_CR_obstacle.2.2.2.1.cells + 0 ≤ 20 from Nat.le_of_ble_eq_true rfl) k) (Nat.add_le_add_left (show m_CR_obstacle.2.2.2.1.slots + 0 ≤ 4000 from Nat.le_of_ble_eq_true rfl) n)
-- cost
theorem L_k35 (K : L_C D D2 tc tc2 ad p s m meth c b) {i t : Nat} {I : q_I} {J : q_J} {P : q_P} {M : q_I} {J2 : q_J} {P2 : q_P} (hz : d_Z t I P M) (hi : i + 6 < Lx) (hLx : Lx ≤ 3584) (ht : t ≤ 100000) (hk : k + 20 ≤ 600000) (hn : n + 4000 ≤ 7302250) (kk : L_kk D D2 tc tc2 ad p l e s m below meth c b Lx xs Q k n i t) : L_V D D2 tc tc2 ad p l e s m below meth c b Lx xs Q k n 1437 (L_l s b i) [] (I, J, P) (M, J2, P2) := by
  obtain ⟨v, I', J', P', M', J2', eC, eM, hz'⟩ := y2_cost (J := J) (J2 := J2) hz (xs (i + 1)) (xs (i + 2))
  refine L_aload_n K 2 1 1438 rfl (by decide +kernel) rfl ?_
  refine L_arg K 1 1443 rfl (by omega) hLx (by decide +kernel) (by decide +kernel) (by decide +kernel) (by decide +kernel) (by decide +kernel) (by decide) ?_
  refine L_arg K 2 1448 rfl (by omega) hLx (by decide +kernel) (by decide +kernel) (by decide +kernel) (by decide +kernel) (by decide +kernel) (by decide) ?_
  refine L_callC (idx := 159) (st := []) (av := [.int (xs (i + 1)), .int (xs (i + 2))]) K (c_CR_cost l D tc s.heap.size (s.heap.size + 230) ad I J P (xs (i + 1)) (xs (i + 2))) eC yv_CR_cost (K.2.2.2.2.1 _ tw_4_179) (K.2.2.2.2.1 _ tw_4_180) (K.2.2.2.2.1 _ tw_4_181) rfl (show 0 ≤ 8 by decide) (by decide +kernel) ⟨Nat.le_of_ble_eq_true rfl, Nat.le_of_ble_eq_true rfl⟩ ⟨?_, ?_⟩ ?_
  · exact Nat.le_trans (Nat.add_le_add_left (show m_CR_cost.2.2.2.1.cells ≤ 20 from Nat.le_of_ble_eq_true rfl) k) hk
  · exact Nat.le_trans (Nat.add_le_add_left (show m_CR_cost.2.2.2.1.slots ≤ 4000 from Nat.le_of_ble_eq_true rfl) n) hn
  refine L_aload_n K 1 2 1452 rfl (by decide +kernel) rfl ?_
  refine L_arg K 1 1457 rfl (by omega) hLx (by decide +kernel) (by decide +kernel) (by decide +kernel) (by decide +kernel) (by decide +kernel) (by decide) ?_
  refine L_arg K 2 1462 rfl (by omega) hLx (by decide +kernel) (by decide +kernel) (by decide +kernel) (by decide +kernel) (by decide +kernel) (by decide) ?_
  refine L_callR (idx := 162) (st := [.int v]) (av := [.int (xs (i + 1)), .int (xs (i + 2))]) K (c_Mo_cost l D2 tc2 (s.heap.size + 219) (s.heap.size + 230) M J2 P2 (xs (i + 1)) (xs (i + 2))) eM yv_Mo_cost (K.2.2.2.2.1 _ tw_7_101) (K.2.2.2.2.1 _ tw_7_102) (K.2.2.2.2.1 _ tw_7_103) rfl (show 1 ≤ 8 by decide) (by decide +kernel) ⟨Nat.le_of_ble_eq_true rfl, Nat.le_of_ble_eq_true rfl⟩ ⟨?_, ?_⟩ ?_
  · exact Nat.le_trans (Nat.add_le_add_left (show m_CR_cost.2.2.2.1.cells + 0 ≤ 20 from Nat.le_of_ble_eq_true rfl) k) hk
  · exact Nat.le_trans (Nat.add_le_add_left (show m_CR_cost.2.2.2.1.slots + 0 ≤ 4000 from Nat.le_of_ble_eq_true rfl) n) hn
  refine L_icmp_eq (off := 342) K 1468 rfl 1807 (by decide +kernel) rfl (fun _ => ?_) (fun h => absurd rfl h)
  exact kk _ _ _ _ _ _ _ _ hz' (Nat.add_le_add_left (show m_CR_cost.2.2.2.1.cells + 0 ≤ 20 from Nat.le_of_ble_eq_true rfl) k) (Nat.add_le_add_left (show m_CR_cost.2.2.2.1.slots + 0 ≤ 4000 from Nat.le_of_ble_eq_true rfl) n)
end LK
