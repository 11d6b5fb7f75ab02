/-! the law's cases, printed by lawcases.py -/
section LK
variable {D D2 : va_G} {tc tc2 : Nat → ClassId} {ad : Nat → Nat} {p : Program} {l : Launch} {e : Env} {s : State} {m : MethodId} {below : List Frame} {meth : Method} {c : Code} {b Lx : Nat} {xs : Nat → Int32} {Q : State → Prop} {k n : Nat}
-- faultPosition
theorem L_k42 (K : L_C D D2 tc tc2 ad p s m meth c b) {i t : Nat} {I : q_I} {J : q_J} {P : q_P} {M : q_I} {J2 : q_J} {P2 : q_P} (hz : d_Z t I P M) (hi : i + 6 < Lx) (hLx : Lx ≤ 3584) (ht : t ≤ 100000) (hk : k + 20 ≤ 600000) (hn : n + 4000 ≤ 7302250) (kk : L_kk D D2 tc tc2 ad p l e s m below meth c b Lx xs Q k n i t) : L_V D D2 tc tc2 ad p l e s m below meth c b Lx xs Q k n 1678 (L_l s b i) [] (I, J, P) (M, J2, P2) := by
  obtain ⟨v, I', M', eC, eM, hz'⟩ := y2_faultPosition hz
  refine L_aload_n K 2 1 1679 rfl (by decide +kernel) rfl ?_
  refine L_callC (idx := 187) (st := []) (av := []) K (c_CR_faultPosition l D tc s.heap.size (s.heap.size + 230) ad I J P) eC yv_CR_faultPosition (K.2.2.2.2.1 _ tw_5_88) (K.2.2.2.2.1 _ tw_5_89) (K.2.2.2.2.1 _ tw_5_90) rfl (show 0 ≤ 8 by decide) (by decide +kernel) ⟨Nat.le_of_ble_eq_true rfl, Nat.le_of_ble_eq_true rfl⟩ ⟨?_, ?_⟩ ?_
  · exact Nat.le_trans (Nat.add_le_add_left (show m_CR_faultPosition.2.2.2.1.cells ≤ 20 from Nat.le_of_ble_eq_true rfl) k) hk
  · exact Nat.le_trans (Nat.add_le_add_left (show m_CR_faultPosition.2.2.2.1.slots ≤ 4000 from Nat.le_of_ble_eq_true rfl) n) hn
  refine L_aload_n K 1 2 1683 rfl (by decide +kernel) rfl ?_
  refine L_callR (idx := 190) (st := [.int v]) (av := []) K (c_Mo_faultPosition l D2 tc2 (s.heap.size + 219) (s.heap.size + 230) M J2 P2) eM yv_Mo_faultPosition (K.2.2.2.2.1 _ tw_7_129) (K.2.2.2.2.1 _ tw_7_130) (K.2.2.2.2.1 _ tw_7_131) rfl (show 1 ≤ 8 by decide) (by decide +kernel) ⟨Nat.le_of_ble_eq_true rfl, Nat.le_of_ble_eq_true rfl⟩ ⟨?_, ?_⟩ ?_
  · exact Nat.le_trans (Nat.add_le_add_left (show m_CR_faultPosition.2.2.2.1.cells + 0 ≤ 20 from Nat.le_of_ble_eq_true rfl) k) hk
  · exact Nat.le_trans (Nat.add_le_add_left (show m_CR_faultPosition.2.2.2.1.slots + 0 ≤ 4000 from Nat.le_of_ble_eq_true rfl) n) hn
  refine L_icmp_eq (off := 121) K 1689 rfl 1807 (by decide +kernel) rfl (fun _ => ?_) (fun h => absurd rfl h)
  exact kk _ _ _ _ _ _ _ _ hz' (Nat.add_le_add_left (show m_CR_faultPosition.2.2.2.1.cells + 0 ≤ 20 from Nat.le_of_ble_eq_true rfl) k) (Nat.add_le_add_left (show m_CR_faultPosition.2.2.2.1.slots + 0 ≤ 4000 from Nat.le_of_ble_eq_true rfl) n)
-- print
theorem L_k43 (K : L_C D D2 tc tc2 ad p s m meth c b) {i t : Nat} {I : q_I} {J : q_J} {P : q_P} {M : q_I} {J2 : q_J} {P2 : q_P} (hz : d_Z t I P M) (hi : i + 6 < Lx) (hLx : Lx ≤ 3584) (ht : t ≤ 100000) (hk : k + 20 ≤ 600000) (hn : n + 4000 ≤ 7302250) (kk : L_kk D D2 tc tc2 ad p l e s m below meth c b Lx xs Q k n i t) : L_V D D2 tc tc2 ad p l e s m below meth c b Lx xs Q k n 1691 (L_l s b i) [] (I, J, P) (M, J2, P2) := by
  obtain ⟨v, I', P', M', J', eC, eM, hz'⟩ := y2_print (J := J2) hz (xs (i + 1)) (xs (i + 2))
  refine L_aload_n K 2 1 1692 rfl (by decide +kernel) rfl ?_
  refine L_arg K 1 1697 rfl (by omega) hLx (by decide +kernel) (by decide +kernel) (by decide +kernel) (by decide +kernel) (by decide +kernel) (by decide) ?_
  refine L_arg K 2 1702 rfl (by omega) hLx (by decide +kernel) (by decide +kernel) (by decide +kernel) (by decide +kernel) (by decide +kernel) (by decide) ?_
  refine L_callC (idx := 191) (st := []) (av := [.int (xs (i + 1)), .int (xs (i + 2))]) K (c_CR_print l D tc s.heap.size (s.heap.size + 230) ad I J P (xs (i + 1)) (xs (i + 2))) eC yv_CR_print (K.2.2.2.2.1 _ tw_5_92) (K.2.2.2.2.1 _ tw_5_93) (K.2.2.2.2.1 _ tw_5_94) rfl (show 0 ≤ 8 by decide) (by decide +kernel) ⟨Nat.le_of_ble_eq_true rfl, Nat.le_of_ble_eq_true rfl⟩ ⟨?_, ?_⟩ ?_
  · exact Nat.le_trans (Nat.add_le_add_left (show m_CR_print.2.2.2.1.cells ≤ 20 from Nat.le_of_ble_eq_true rfl) k) hk
  · exact Nat.le_trans (Nat.add_le_add_left (show m_CR_print.2.2.2.1.slots ≤ 4000 from Nat.le_of_ble_eq_true rfl) n) hn
  refine L_aload_n K 1 2 1706 rfl (by decide +kernel) rfl ?_
  refine L_arg K 1 1711 rfl (by omega) hLx (by decide +kernel) (by decide +kernel) (by decide +kernel) (by decide +kernel) (by decide +kernel) (by decide) ?_
  refine L_arg K 2 1716 rfl (by omega) hLx (by decide +kernel) (by decide +kernel) (by decide +kernel) (by decide +kernel) (by decide +kernel) (by decide) ?_
  refine L_callR (idx := 194) (st := [.int v]) (av := [.int (xs (i + 1)), .int (xs (i + 2))]) K (c_Mo_print l D2 tc2 (s.heap.size + 219) (s.heap.size + 230) M J2 P2 (xs (i + 1)) (xs (i + 2))) eM yv_Mo_print (K.2.2.2.2.1 _ tw_7_133) (K.2.2.2.2.1 _ tw_7_134) (K.2.2.2.2.1 _ tw_7_135) rfl (show 1 ≤ 8 by decide) (by decide +kernel) ⟨Nat.le_of_ble_eq_true rfl, Nat.le_of_ble_eq_true rfl⟩ ⟨?_, ?_⟩ ?_
  · exact Nat.le_trans (Nat.add_le_add_left (show m_CR_print.2.2.2.1.cells + 0 ≤ 20 from Nat.le_of_ble_eq_true rfl) k) hk
  · exact Nat.le_trans (Nat.add_le_add_left (show m_CR_print.2.2.2.1.slots + 0 ≤ 4000 from Nat.le_of_ble_eq_true rfl) n) hn
  refine L_icmp_eq (off := 88) K 1722 rfl 1807 (by decide +kernel) rfl (fun _ => ?_) (fun h => absurd rfl h)
  exact kk _ _ _ _ _ _ _ _ hz' (Nat.add_le_add_left (show m_CR_print.2.2.2.1.cells + 0 ≤ 20 from Nat.le_of_ble_eq_true rfl) k) (Nat.add_le_add_left (show m_CR_print.2.2.2.1.slots + 0 ≤ 4000 from Nat.le_of_ble_eq_true rfl) n)
-- printed
theorem L_k44 (K : L_C D D2 tc tc2 ad p s m meth c b) {i t : Nat} {I : q_I} {J : q_J} {P : q_P} {M : q_I} {J2 : q_J} {P2 : q_P} (hz : d_Z t I P M) (hi : i + 6 < Lx) (hLx : Lx ≤ 3584) (ht : t ≤ 100000) (hk : k + 20 ≤ 600000) (hn : n + 4000 ≤ 7302250) (kk : L_kk D D2 tc tc2 ad p l e s m below meth c b Lx xs Q k n i t) : L_V D D2 tc tc2 ad p l e s m below meth c b Lx xs Q k n 1724 (L_l s b i) [] (I, J, P) (M, J2, P2) := by
  obtain ⟨v, eC, eM, hz'⟩ := y2_printed hz (xs (i + 1))
  refine L_aload_n K 2 1 1725 rfl (by decide +kernel) rfl ?_
  refine L_arg K 1 1730 rfl (by omega) hLx (by decide +kernel) (by decide +kernel) (by decide +kernel) (by decide +kernel) (by decide +kernel) (by decide) ?_
  refine L_callC (idx := 195) (st := []) (av := [.int (xs (i + 1))]) K (c_CR_printed l D tc s.heap.size (s.heap.size + 230) ad I J P (xs (i + 1))) eC yv_CR_printed (K.2.2.2.2.1 _ tw_5_154) (K.2.2.2.2.1 _ tw_5_155) (K.2.2.2.2.1 _ tw_5_156) rfl (show 0 ≤ 8 by decide) (by decide +kernel) ⟨Nat.le_of_ble_eq_true rfl, Nat.le_of_ble_eq_true rfl⟩ ⟨?_, ?_⟩ ?_
  · exact Nat.le_trans (Nat.add_le_add_left (show m_CR_printed.2.2.2.1.cells ≤ 20 from Nat.le_of_ble_eq_true rfl) k) hk
  · exact Nat.le_trans (Nat.add_le_add_left (show m_CR_printed.2.2.2.1.slots ≤ 4000 from Nat.le_of_ble_eq_true rfl) n) hn
  refine L_aload_n K 1 2 1734 rfl (by decide +kernel) rfl ?_
  refine L_arg K 1 1739 rfl (by omega) hLx (by decide +kernel) (by decide +kernel) (by decide +kernel) (by decide +kernel) (by decide +kernel) (by decide) ?_
  refine L_callR (idx := 198) (st := [.int v]) (av := [.int (xs (i + 1))]) K (c_Mo_printed l D2 tc2 (s.heap.size + 219) (s.heap.size + 230) M J2 P2 (xs (i + 1))) eM yv_Mo_printed (K.2.2.2.2.1 _ tw_7_149) (K.2.2.2.2.1 _ tw_7_150) (K.2.2.2.2.1 _ tw_7_151) rfl (show 1 ≤ 8 by decide) (by decide +kernel) ⟨Nat.le_of_ble_eq_true rfl, Nat.le_of_ble_eq_true rfl⟩ ⟨?_, ?_⟩ ?_
  · exact Nat.le_trans (Nat.add_le_add_left (show m_CR_printed.2.2.2.1.cells + 0 ≤ 20 from Nat.le_of_ble_eq_true rfl) k) hk
  · exact Nat.le_trans (Nat.add_le_add_left (show m_CR_printed.2.2.2.1.slots + 0 ≤ 4000 from Nat.le_of_ble_eq_true rfl) n) hn
  refine L_icmp_eq (off := 65) K 1745 rfl 1807 (by decide +kernel) rfl (fun _ => ?_) (fun h => absurd rfl h)
  exact kk _ _ _ _ _ _ _ _ hz' (Nat.add_le_add_left (show m_CR_printed.2.2.2.1.cells + 0 ≤ 20 from Nat.le_of_ble_eq_true rfl) k) (Nat.add_le_add_left (show m_CR_printed.2.2.2.1.slots + 0 ≤ 4000 from Nat.le_of_ble_eq_true rfl) n)
-- keep
theorem L_k45 (K : L_C D D2 tc tc2 ad p s m meth c b) {i t : Nat} {I : q_I} {J : q_J} {P : q_P} {M : q_I} {J2 : q_J} {P2 : q_P} (hz : d_Z t I P M) (hi : i + 6 < Lx) (hLx : Lx ≤ 3584) (ht : t ≤ 100000) (hk : k + 20 ≤ 600000) (hn : n + 4000 ≤ 7302250) (kk : L_kk D D2 tc tc2 ad p l e s m below meth c b Lx xs Q k n i t) : L_V D D2 tc tc2 ad p l e s m below meth c b Lx xs Q k n 1747 (L_l s b i) [] (I, J, P) (M, J2, P2) := by
  obtain ⟨v, I', M', eC, eM, hz'⟩ := y2_keep hz (xs (i + 1))
  refine L_aload_n K 2 1 1748 rfl (by decide +kernel) rfl ?_
  refine L_arg K 1 1753 rfl (by omega) hLx (by decide +kernel) (by decide +kernel) (by decide +kernel) (by decide +kernel) (by decide +kernel) (by decide) ?_
  refine L_callC (idx := 199) (st := []) (av := [.int (xs (i + 1))]) K (c_CR_keep l D tc s.heap.size (s.heap.size + 230) ad I J P (xs (i + 1))) eC yv_CR_keep (K.2.2.2.2.1 _ tw_5_159) (K.2.2.2.2.1 _ tw_5_160) (K.2.2.2.2.1 _ tw_5_161) rfl (show 0 ≤ 8 by decide) (by decide +kernel) ⟨Nat.le_of_ble_eq_true rfl, Nat.le_of_ble_eq_true rfl⟩ ⟨?_, ?_⟩ ?_
  · exact Nat.le_trans (Nat.add_le_add_left (show m_CR_keep.2.2.2.1.cells ≤ 20 from Nat.le_of_ble_eq_true rfl) k) hk
  · exact Nat.le_trans (Nat.add_le_add_left (show m_CR_keep.2.2.2.1.slots ≤ 4000 from Nat.le_of_ble_eq_true rfl) n) hn
  refine L_aload_n K 1 2 1757 rfl (by decide +kernel) rfl ?_
  refine L_arg K 1 1762 rfl (by omega) hLx (by decide +kernel) (by decide +kernel) (by decide +kernel) (by decide +kernel) (by decide +kernel) (by decide) ?_
  refine L_callR (idx := 202) (st := [.int v]) (av := [.int (xs (i + 1))]) K (c_Mo_keep l D2 tc2 (s.heap.size + 219) (s.heap.size + 230) M J2 P2 (xs (i + 1))) eM yv_Mo_keep (K.2.2.2.2.1 _ tw_7_153) (K.2.2.2.2.1 _ tw_7_154) (K.2.2.2.2.1 _ tw_7_155) rfl (show 1 ≤ 8 by decide) (by decide +kernel) ⟨Nat.le_of_ble_eq_true rfl, Nat.le_of_ble_eq_true rfl⟩ ⟨?_, ?_⟩ ?_
  · exact Nat.le_trans (Nat.add_le_add_left (show m_CR_keep.2.2.2.1.cells + 0 ≤ 20 from Nat.le_of_ble_eq_true rfl) k) hk
  · exact Nat.le_trans (Nat.add_le_add_left (show m_CR_keep.2.2.2.1.slots + 0 ≤ 4000 from Nat.le_of_ble_eq_true rfl) n) hn
  refine L_icmp_eq (off := 42) K 1768 rfl 1807 (by decide +kernel) rfl (fun _ => ?_) (fun h => absurd rfl h)
  exact kk _ _ _ _ _ _ _ _ hz' (Nat.add_le_add_left (show m_CR_keep.2.2.2.1.cells + 0 ≤ 20 from Nat.le_of_ble_eq_true rfl) k) (Nat.add_le_add_left (show m_CR_keep.2.2.2.1.slots + 0 ≤ 4000 from Nat.le_of_ble_eq_true rfl) n)
-- restore
theorem L_k46 (K : L_C D D2 tc tc2 ad p s m meth c b) {i t : Nat} {I : q_I} {J : q_J} {P : q_P} {M : q_I} {J2 : q_J} {P2 : q_P} (hz : d_Z t I P M) (hi : i + 6 < Lx) (hLx : Lx ≤ 3584) (ht : t ≤ 100000) (hk : k + 20 ≤ 600000) (hn : n + 4000 ≤ 7302250) (kk : L_kk D D2 tc tc2 ad p l e s m below meth c b Lx xs Q k n i t) : L_V D D2 tc tc2 ad p l e s m below meth c b Lx xs Q k n 1770 (L_l s b i) [] (I, J, P) (M, J2, P2) := by
  obtain ⟨v, I', M', eC, eM, hz'⟩ := y2_restore hz (xs (i + 1))
  refine L_aload_n K 2 1 1771 rfl (by decide +kernel) rfl ?_
  refine L_arg K 1 1776 rfl (by omega) hLx (by decide +kernel) (by decide +kernel) (by decide +kernel) (by decide +kernel) (by decide +kernel) (by decide) ?_
  refine L_callC (idx := 203) (st := []) (av := [.int (xs (i + 1))]) K (c_CR_restore l D tc s.heap.size (s.heap.size + 230) ad I J P (xs (i + 1))) eC yv_CR_restore (K.2.2.2.2.1 _ tw_5_180) (K.2.2.2.2.1 _ tw_5_181) (K.2.2.2.2.1 _ tw_5_182) rfl (show 0 ≤ 8 by decide) (by decide +kernel) ⟨Nat.le_of_ble_eq_true rfl, Nat.le_of_ble_eq_true rfl⟩ ⟨?_, ?_⟩ ?_
  · exact Nat.le_trans (Nat.add_le_add_left (show m_CR_restore.2.2.2.1.cells ≤ 20 from Nat.le_of_ble_eq_true rfl) k) hk
  · exact Nat.le_trans (Nat.add_le_add_left (show m_CR_restore.2.2.2.1.slots ≤ 4000 from Nat.le_of_ble_eq_true rfl) n) hn
  refine L_aload_n K 1 2 1780 rfl (by decide +kernel) rfl ?_
  refine L_arg K 1 1785 rfl (by omega) hLx (by decide +kernel) (by decide +kernel) (by decide +kernel) (by decide +kernel) (by decide +kernel) (by decide) ?_
  refine L_callR (idx := 206) (st := [.int v]) (av := [.int (xs (i + 1))]) K (c_Mo_restore l D2 tc2 (s.heap.size + 219) (s.heap.size + 230) M J2 P2 (xs (i + 1))) eM yv_Mo_restore (K.2.2.2.2.1 _ tw_7_157) (K.2.2.2.2.1 _ tw_7_158) (K.2.2.2.2.1 _ tw_7_159) rfl (show 1 ≤ 8 by decide) (by decide +kernel) ⟨Nat.le_of_ble_eq_true rfl, Nat.le_of_ble_eq_true rfl⟩ ⟨?_, ?_⟩ ?_
  · exact Nat.le_trans (Nat.add_le_add_left (show m_CR_restore.2.2.2.1.cells + 0 ≤ 20 from Nat.le_of_ble_eq_true rfl) k) hk
  · exact Nat.le_trans (Nat.add_le_add_left (show m_CR_restore.2.2.2.1.slots + 0 ≤ 4000 from Nat.le_of_ble_eq_true rfl) n) hn
  refine L_icmp_eq (off := 19) K 1791 rfl 1807 (by decide +kernel) rfl (fun _ => ?_) (fun h => absurd rfl h)
  exact kk _ _ _ _ _ _ _ _ hz' (Nat.add_le_add_left (show m_CR_restore.2.2.2.1.cells + 0 ≤ 20 from Nat.le_of_ble_eq_true rfl) k) (Nat.add_le_add_left (show m_CR_restore.2.2.2.1.slots + 0 ≤ 4000 from Nat.le_of_ble_eq_true rfl) n)
-- checksum
theorem L_k47 (K : L_C D D2 tc tc2 ad p s m meth c b) {i t : Nat} {I : q_I} {J : q_J} {P : q_P} {M : q_I} {J2 : q_J} {P2 : q_P} (hz : d_Z t I P M) (hi : i + 6 < Lx) (hLx : Lx ≤ 3584) (ht : t ≤ 100000) (hk : k + 20 ≤ 600000) (hn : n + 4000 ≤ 7302250) (kk : L_kk D D2 tc tc2 ad p l e s m below meth c b Lx xs Q k n i t) : L_V D D2 tc tc2 ad p l e s m below meth c b Lx xs Q k n 1793 (L_l s b i) [] (I, J, P) (M, J2, P2) := by
  obtain ⟨v, I', P', M', J', eC, eM, hz'⟩ := y2_checksum (J := J2) hz
  refine L_aload_n K 2 1 1794 rfl (by decide +kernel) rfl ?_
  refine L_callC (idx := 207) (st := []) (av := []) K (c_CR_checksum l D tc s.heap.size (s.heap.size + 230) ad I J P) eC yv_CR_checksum (K.2.2.2.2.1 _ tw_5_184) (K.2.2.2.2.1 _ tw_5_185) (K.2.2.2.2.1 _ tw_5_186) rfl (show 0 ≤ 8 by decide) (by decide +kernel) ⟨Nat.le_of_ble_eq_true rfl, Nat.le_of_ble_eq_true rfl⟩ ⟨?_, ?_⟩ ?_
  · exact Nat.le_trans (Nat.add_le_add_left (show m_CR_checksum.2.2.2.1.cells ≤ 20 from Nat.le_of_ble_eq_true rfl) k) hk
  · exact Nat.le_trans (Nat.add_le_add_left (show m_CR_checksum.2.2.2.1.slots ≤ 4000 from Nat.le_of_ble_eq_true rfl) n) hn
  refine L_aload_n K 1 2 1798 rfl (by decide +kernel) rfl ?_
  refine L_callR (idx := 211) (st := [.long v]) (av := []) K (c_Mo_checksum l D2 tc2 (s.heap.size + 219) (s.heap.size + 230) M J2 P2) eM yv_Mo_checksum (K.2.2.2.2.1 _ tw_7_161) (K.2.2.2.2.1 _ tw_7_162) (K.2.2.2.2.1 _ tw_7_163) rfl (show 2 ≤ 8 by decide) (by decide +kernel) ⟨Nat.le_of_ble_eq_true rfl, Nat.le_of_ble_eq_true rfl⟩ ⟨?_, ?_⟩ ?_
  · exact Nat.le_trans (Nat.add_le_add_left (show m_CR_checksum.2.2.2.1.cells + 0 ≤ 20 from Nat.le_of_ble_eq_true rfl) k) hk
  · exact Nat.le_trans (Nat.add_le_add_left (show m_CR_checksum.2.2.2.1.slots + 0 ≤ 4000 from Nat.le_of_ble_eq_true rfl) n) hn
  refine L_lcmp K 1802 rfl (by decide +kernel) ?_
  refine L_if_eq (off := 5) K 1805 rfl 1807 (by decide +kernel) rfl (fun _ => ?_) (fun h => absurd ((lg_cmp_eq v v).mpr rfl) h)
  exact kk _ _ _ _ _ _ _ _ hz' (Nat.add_le_add_left (show m_CR_checksum.2.2.2.1.cells + 0 ≤ 20 from Nat.le_of_ble_eq_true rfl) k) (Nat.add_le_add_left (show m_CR_checksum.2.2.2.1.slots + 0 ≤ 4000 from Nat.le_of_ble_eq_true rfl) n)
end LK
