/-! the law's loop -/
theorem L_cmp {i n : Nat} (hi : i ≤ 3584) (hn : n ≤ 3584) (h : ¬ Int32.ofNat n - nI 7 < nI i) : i + 6 < n := by
  rcases Nat.lt_or_ge n 7 with q | q
  · refine absurd ?_ h
    have h1 : (Int32.ofNat n - nI 7).toInt < 0 := by
      have : ∀ k, k < 7 → (Int32.ofNat k - nI 7).toInt < 0 := by decide
      exact this n q
    have h2 : (nI i).toInt = (i : Int) := nI_toInt (by omega)
    rw [Int32.lt_iff_toInt_lt]
    omega
  · have e : Int32.ofNat n = nI (n - 7) + nI 7 := by
      rw [nI_add, Nat.sub_add_cancel q]
      rfl
    rw [e, Int32.add_sub_cancel, nI_ltI (by omega) (by omega)] at h
    omega
theorem L_and63 (x : Int32) : ∃ j, j < 64 ∧ x &&& nI 63 = nI j := by
  have h63 : (nI 63).toBitVec.toNat = 63 := by decide
  have hb : (x &&& nI 63).toBitVec.toNat ≤ 63 := by
    rw [Int32.toBitVec_and, BitVec.toNat_and, h63]
    exact Nat.and_le_right
  refine ⟨(x &&& nI 63).toBitVec.toNat, by omega, ?_⟩
  apply dn_ext
  rw [pk_tn (by omega)]
theorem L_more {t : Nat} {I : q_I} {P : q_P} {M : q_I} (h : d_Z t I P M) : d_Z (t + 1) I P M := d_Z_fr h (Nat.le_succ t) ⟨fun _ _ => rfl, fun _ _ _ => rfl, h.2.2.1, h.2.2.2.1⟩ ⟨fun _ _ _ => rfl, rfl, rfl⟩
section LL
variable {D D2 : va_G} {tc tc2 : Nat → ClassId} {ad : Nat → Nat} {p : Program} {l : Launch} {e : Env} {s : State} {m : MethodId} {below : List Frame} {meth : Method} {c : Code} {b Lx : Nat} {xs : Nat → Int32} {Q : State → Prop} {k n pc : Nat}
theorem L_jump (K : L_C D D2 tc tc2 ad p s m meth c b) {dflt hi : Int} {offs : Array Int} {len : Nat} {off : Int} {j : Nat} {L : List (Nat × Value)} {st : List Value} {S S2 : q_S} (tgt : Nat) (d : decode code pc = .ok (.tableswitch dflt 0 hi offs, len)) (hj : j < 64) (hh : (j : Int) ≤ hi) (ho : offs[j]? = some off) (ht : (pc : Int) + off = (tgt : Int)) (kk : L_V D D2 tc tc2 ad p l e s m below meth c b Lx xs Q k n tgt L st S S2) : L_V D D2 tc tc2 ad p l e s m below meth c b Lx xs Q k n pc L (.int (nI j) :: st) S S2 := by
  have e1 : (nI j).toInt = (j : Int) := nI_toInt (by omega)
  refine L_tableIn K tgt d (by omega) (by omega) ?_ ht kk
  rw [e1, Int.sub_zero, Int.toNat_natCast]
  exact ho
/-- the end: nothing is left to read -/
theorem L_end (K : L_C D D2 tc tc2 ad p s m meth c b) (hr : meth.sig.returnType = ret) (hlocks : meth.locks = false) (hk : k ≤ 600000) (hn : n ≤ 7302250) {L : List (Nat × Value)} {S S2 : q_S} : L_V D D2 tc tc2 ad p l e s m below meth c b Lx xs (lw_Z below #[Value.ref b] s) k n 1813 L [] S S2 := by
  refine L_iconst (i := 1) K 1 1814 rfl (by decide +kernel) (by decide) ?_
  intro H locs ls hW hX hS hl
  refine va_forget (fun q hq => hS.2.2 q hq) ?_
  refine W.widen hk hn ?_
  exact lw_ret K.1 K.2.1 hr hlocks (by decide +kernel)
theorem L_d33 : decode code 33 = .ok (.tableswitch 1774 0 47 #[207, 260, 303, 336, 349, 424, 447, 500, 553, 606, 659, 712, 755, 788, 831, 844, 867, 900, 933, 966, 999, 1032, 1065, 1098, 1111, 1134, 1157, 1180, 1203, 1226, 1259, 1292, 1315, 1338, 1371, 1404, 1437, 1470, 1523, 1576, 1609, 1632, 1645, 1658, 1691, 1714, 1737, 1760], 207) := by decide +kernel
/-- one call: from the switch to the next call -/
theorem L_switch (K : L_C D D2 tc tc2 ad p s m meth c b) {i j : Nat} {t : Nat} {I : q_I} {J : q_J} {P : q_P} {M : q_I} {J2 : q_J} {P2 : q_P} (hz : d_Z t I P M) (hj : j < 64) (hi : i + 6 < Lx) (hLx : Lx ≤ 3584) (ht : t ≤ 100000) (hk : k + 20 ≤ 600000) (hn : n + 4000 ≤ 7302250) (kk : L_kk D D2 tc tc2 ad p l e s m below meth c b Lx xs Q k n i t) (k0 : L_V D D2 tc tc2 ad p l e s m below meth c b Lx xs Q k n 1807 (L_l s b i) [] (I, J, P) (M, J2, P2)) : L_V D D2 tc tc2 ad p l e s m below meth c b Lx xs Q k n 33 (L_l s b i) [.int (nI j)] (I, J, P) (M, J2, P2) := by
  rcases Nat.lt_or_ge 47 j with q | q
  · have e1 : (nI j).toInt = (j : Int) := nI_toInt (by omega)
    exact L_tableOut K 1807 L_d33 (Or.inr (by omega)) rfl k0
  · match j, q with
    | 0, _ => exact L_jump (off := 207) K 240 L_d33 (Nat.le_of_ble_eq_true rfl) (by decide) rfl rfl (L_k0 K hz hi hLx ht hk hn kk)
    | 1, _ => exact L_jump (off := 260) K 293 L_d33 (Nat.le_of_ble_eq_true rfl) (by decide) rfl rfl (L_k1 K hz hi hLx ht hk hn kk)
    | 2, _ => exact L_jump (off := 303) K 336 L_d33 (Nat.le_of_ble_eq_true rfl) (by decide) rfl rfl (L_k2 K hz hi hLx ht hk hn kk)
    | 3, _ => exact L_jump (off := 336) K 369 L_d33 (Nat.le_of_ble_eq_true rfl) (by decide) rfl rfl (L_k3 K hz hi hLx ht hk hn kk)
    | 4, _ => exact L_jump (off := 349) K 382 L_d33 (Nat.le_of_ble_eq_true rfl) (by decide) rfl rfl (L_k4 K hz hi hLx ht hk hn kk)
    | 5, _ => exact L_jump (off := 424) K 457 L_d33 (Nat.le_of_ble_eq_true rfl) (by decide) rfl rfl (L_k5 K hz hi hLx ht hk hn kk)
    | 6, _ => exact L_jump (off := 447) K 480 L_d33 (Nat.le_of_ble_eq_true rfl) (by decide) rfl rfl (L_k6 K hz hi hLx ht hk hn kk)
    | 7, _ => exact L_jump (off := 500) K 533 L_d33 (Nat.le_of_ble_eq_true rfl) (by decide) rfl rfl (L_k7 K hz hi hLx ht hk hn kk)
    | 8, _ => exact L_jump (off := 553) K 586 L_d33 (Nat.le_of_ble_eq_true rfl) (by decide) rfl rfl (L_k8 K hz hi hLx ht hk hn kk)
    | 9, _ => exact L_jump (off := 606) K 639 L_d33 (Nat.le_of_ble_eq_true rfl) (by decide) rfl rfl (L_k9 K hz hi hLx ht hk hn kk)
    | 10, _ => exact L_jump (off := 659) K 692 L_d33 (Nat.le_of_ble_eq_true rfl) (by decide) rfl rfl (L_k10 K hz hi hLx ht hk hn kk)
    | 11, _ => exact L_jump (off := 712) K 745 L_d33 (Nat.le_of_ble_eq_true rfl) (by decide) rfl rfl (L_k11 K hz hi hLx ht hk hn kk)
    | 12, _ => exact L_jump (off := 755) K 788 L_d33 (Nat.le_of_ble_eq_true rfl) (by decide) rfl rfl (L_k12 K hz hi hLx ht hk hn kk)
    | 13, _ => exact L_jump (off := 788) K 821 L_d33 (Nat.le_of_ble_eq_true rfl) (by decide) rfl rfl (L_k13 K hz hi hLx ht hk hn kk)
    | 14, _ => exact L_jump (off := 831) K 864 L_d33 (Nat.le_of_ble_eq_true rfl) (by decide) rfl rfl (L_k14 K hz hi hLx ht hk hn kk)
    | 15, _ => exact L_jump (off := 844) K 877 L_d33 (Nat.le_of_ble_eq_true rfl) (by decide) rfl rfl (L_k15 K hz hi hLx ht hk hn kk)
    | 16, _ => exact L_jump (off := 867) K 900 L_d33 (Nat.le_of_ble_eq_true rfl) (by decide) rfl rfl (L_k16 K hz hi hLx ht hk hn kk)
    | 17, _ => exact L_jump (off := 900) K 933 L_d33 (Nat.le_of_ble_eq_true rfl) (by decide) rfl rfl (L_k17 K hz hi hLx ht hk hn kk)
    | 18, _ => exact L_jump (off := 933) K 966 L_d33 (Nat.le_of_ble_eq_true rfl) (by decide) rfl rfl (L_k18 K hz hi hLx ht hk hn kk)
    | 19, _ => exact L_jump (off := 966) K 999 L_d33 (Nat.le_of_ble_eq_true rfl) (by decide) rfl rfl (L_k19 K hz hi hLx ht hk hn kk)
    | 20, _ => exact L_jump (off := 999) K 1032 L_d33 (Nat.le_of_ble_eq_true rfl) (by decide) rfl rfl (L_k20 K hz hi hLx ht hk hn kk)
    | 21, _ => exact L_jump (off := 1032) K 1065 L_d33 (Nat.le_of_ble_eq_true rfl) (by decide) rfl rfl (L_k21 K hz hi hLx ht hk hn kk)
    | 22, _ => exact L_jump (off := 1065) K 1098 L_d33 (Nat.le_of_ble_eq_true rfl) (by decide) rfl rfl (L_k22 K hz hi hLx ht hk hn kk)
    | 23, _ => exact L_jump (off := 1098) K 1131 L_d33 (Nat.le_of_ble_eq_true rfl) (by decide) rfl rfl (L_k23 K hz hi hLx ht hk hn kk)
    | 24, _ => exact L_jump (off := 1111) K 1144 L_d33 (Nat.le_of_ble_eq_true rfl) (by decide) rfl rfl (L_k24 K hz hi hLx ht hk hn kk)
    | 25, _ => exact L_jump (off := 1134) K 1167 L_d33 (Nat.le_of_ble_eq_true rfl) (by decide) rfl rfl (L_k25 K hz hi hLx ht hk hn kk)
    | 26, _ => exact L_jump (off := 1157) K 1190 L_d33 (Nat.le_of_ble_eq_true rfl) (by decide) rfl rfl (L_k26 K hz hi hLx ht hk hn kk)
    | 27, _ => exact L_jump (off := 1180) K 1213 L_d33 (Nat.le_of_ble_eq_true rfl) (by decide) rfl rfl (L_k27 K hz hi hLx ht hk hn kk)
    | 28, _ => exact L_jump (off := 1203) K 1236 L_d33 (Nat.le_of_ble_eq_true rfl) (by decide) rfl rfl (L_k28 K hz hi hLx ht hk hn kk)
    | 29, _ => exact L_jump (off := 1226) K 1259 L_d33 (Nat.le_of_ble_eq_true rfl) (by decide) rfl rfl (L_k29 K hz hi hLx ht hk hn kk)
    | 30, _ => exact L_jump (off := 1259) K 1292 L_d33 (Nat.le_of_ble_eq_true rfl) (by decide) rfl rfl (L_k30 K hz hi hLx ht hk hn kk)
    | 31, _ => exact L_jump (off := 1292) K 1325 L_d33 (Nat.le_of_ble_eq_true rfl) (by decide) rfl rfl (L_k31 K hz hi hLx ht hk hn kk)
    | 32, _ => exact L_jump (off := 1315) K 1348 L_d33 (Nat.le_of_ble_eq_true rfl) (by decide) rfl rfl (L_k32 K hz hi hLx ht hk hn kk)
    | 33, _ => exact L_jump (off := 1338) K 1371 L_d33 (Nat.le_of_ble_eq_true rfl) (by decide) rfl rfl (L_k33 K hz hi hLx ht hk hn kk)
    | 34, _ => exact L_jump (off := 1371) K 1404 L_d33 (Nat.le_of_ble_eq_true rfl) (by decide) rfl rfl (L_k34 K hz hi hLx ht hk hn kk)
    | 35, _ => exact L_jump (off := 1404) K 1437 L_d33 (Nat.le_of_ble_eq_true rfl) (by decide) rfl rfl (L_k35 K hz hi hLx ht hk hn kk)
    | 36, _ => exact L_jump (off := 1437) K 1470 L_d33 (Nat.le_of_ble_eq_true rfl) (by decide) rfl rfl (L_k36 K hz hi hLx ht hk hn kk)
    | 37, _ => exact L_jump (off := 1470) K 1503 L_d33 (Nat.le_of_ble_eq_true rfl) (by decide) rfl rfl (L_k37 K hz hi hLx ht hk hn kk)
    | 38, _ => exact L_jump (off := 1523) K 1556 L_d33 (Nat.le_of_ble_eq_true rfl) (by decide) rfl rfl (L_k38 K hz hi hLx ht hk hn kk)
    | 39, _ => exact L_jump (off := 1576) K 1609 L_d33 (Nat.le_of_ble_eq_true rfl) (by decide) rfl rfl (L_k39 K hz hi hLx ht hk hn kk)
    | 40, _ => exact L_jump (off := 1609) K 1642 L_d33 (Nat.le_of_ble_eq_true rfl) (by decide) rfl rfl (L_k40 K hz hi hLx ht hk hn kk)
    | 41, _ => exact L_jump (off := 1632) K 1665 L_d33 (Nat.le_of_ble_eq_true rfl) (by decide) rfl rfl (L_k41 K hz hi hLx ht hk hn kk)
    | 42, _ => exact L_jump (off := 1645) K 1678 L_d33 (Nat.le_of_ble_eq_true rfl) (by decide) rfl rfl (L_k42 K hz hi hLx ht hk hn kk)
    | 43, _ => exact L_jump (off := 1658) K 1691 L_d33 (Nat.le_of_ble_eq_true rfl) (by decide) rfl rfl (L_k43 K hz hi hLx ht hk hn kk)
    | 44, _ => exact L_jump (off := 1691) K 1724 L_d33 (Nat.le_of_ble_eq_true rfl) (by decide) rfl rfl (L_k44 K hz hi hLx ht hk hn kk)
    | 45, _ => exact L_jump (off := 1714) K 1747 L_d33 (Nat.le_of_ble_eq_true rfl) (by decide) rfl rfl (L_k45 K hz hi hLx ht hk hn kk)
    | 46, _ => exact L_jump (off := 1737) K 1770 L_d33 (Nat.le_of_ble_eq_true rfl) (by decide) rfl rfl (L_k46 K hz hi hLx ht hk hn kk)
    | 47, _ => exact L_jump (off := 1760) K 1793 L_d33 (Nat.le_of_ble_eq_true rfl) (by decide) rfl rfl (L_k47 K hz hi hLx ht hk hn kk)
    | j + 48, q => exact absurd q (by omega)
/-- the loop, from its head -/
theorem L_loop (K : L_C D D2 tc tc2 ad p s m meth c b) (hr : meth.sig.returnType = ret) (hlocks : meth.locks = false) (hLx : Lx ≤ 3584) : ∀ (f t : Nat) (I : q_I) (J : q_J) (P : q_P) (M : q_I) (J2 : q_J) (P2 : q_P) (k n : Nat), Lx < 7 * t + 7 * f → 7 * t ≤ Lx → d_Z t I P M → k ≤ 1000 + 20 * t → n ≤ 100000 + 4000 * t → L_V D D2 tc tc2 ad p l e s m below meth c b Lx xs (lw_Z below #[Value.ref b] s) k n 18 (L_l s b (7 * t)) [] (I, J, P) (M, J2, P2) := by
  intro f
  induction f with
  | zero =>
    intro t I J P M J2 P2 k n h1 h2
    omega
  | succ f ih =>
    intro t I J P M J2 P2 k n h1 h2 hz hk hn
    refine L_iload_n K 0 3 19 rfl (by decide +kernel) rfl ?_
    refine L_aload_n K 3 0 20 rfl (by decide +kernel) rfl ?_
    refine L_slen K 21 rfl (by decide +kernel) ?_
    refine L_bipush (i := 7) K (nI 7) 23 rfl (by decide +kernel) (by decide) ?_
    refine L_isub K 24 rfl (by decide +kernel) ?_
    refine L_icmp_gt (off := 1789) K 27 rfl 1813 (by decide +kernel) rfl (fun _ => ?_) (fun h => ?_)
    · exact L_end K hr hlocks (by omega) (by omega)
    · have hi : 7 * t + 6 < Lx := L_cmp (by omega) hLx h
      refine L_aload_n K 3 0 28 rfl (by decide +kernel) rfl ?_
      refine L_iload_n K 0 3 29 rfl (by decide +kernel) rfl ?_
      refine L_sld K 30 rfl (nI_in (by omega) (by omega)) (by decide +kernel) ?_
      refine L_bipush (i := 63) K (nI 63) 32 rfl (by decide +kernel) (by decide) ?_
      refine L_iand K 33 rfl (by decide +kernel) ?_
      obtain ⟨j, hj, ej⟩ := L_and63 (xs (nI (7 * t)).toNatClampNeg)
      rw [ej]
      refine L_switch K hz hj hi hLx (by omega) (by omega) (by omega) ?_ ?_
      · have q1 : k + 20 ≤ 1000 + 20 * (t + 1) := by omega
        have q2 : n + 4000 ≤ 100000 + 4000 * (t + 1) := by omega
        have q3 : Lx < 7 * (t + 1) + 7 * f := by omega
        have q4 : 7 * (t + 1) ≤ Lx := by omega
        intro I' J' P' M' J2' P2' k' n' hz' hk' hn'
        exact L_next K (by decide +kernel) (by decide +kernel) (ih (t + 1) I' J' P' M' J2' P2' k' n' q3 q4 hz' (Nat.le_trans hk' q1) (Nat.le_trans hn' q2))
      · exact L_next K (by decide +kernel) (by decide +kernel) (ih (t + 1) I J P M J2 P2 k n (by omega) (by omega) (L_more hz) (by omega) (by omega))
end LL
