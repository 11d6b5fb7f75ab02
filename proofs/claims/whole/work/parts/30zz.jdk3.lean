theorem jx_sz : ∀ v, v < 100 → (-nI v ≤ -10 ↔ 10 ≤ v) ∧ ¬ (-nI v ≤ 10 * (-10)) ∧ (-100 < -nI v) ∧ (-9 ≤ -nI v ↔ v < 10) := by decide +kernel
def y_sSz : MethodName := ⟨"java/lang/Intege\x72", "stringSize", "(I)I"⟩
def m_sSz : q_M := (prog_15_method_13_code, 4, "java/lang/Intege\x72", { frames := 2, cells := 0, slots := 0, locals := 200 }, (some FieldType.int))
theorem yv_sSz : q_Y y_sSz m_sSz 1 := ⟨rfl, ⟨by decide, by decide⟩, by decide +kernel, tw_5_105, tw_1_16⟩
set_option maxRecDepth 100000 in
set_option maxHeartbeats 4000000 in
theorem jc_sSz (l : Launch) (G : q_G) (ad : Nat → Nat) (hG : j_G G ad) (WL : va_W) {u : Nat} (hv : u < 100) : j_Ct l G y_sSz m_sSz [.int (nI u)] (WL) (fun v W => v = some (.int (nI (if u < 10 then 1 else 2))) ∧ WL = W) := by
  refine j_Ct_of hG.1 (by decide) rfl (Nat.le_of_ble_eq_true rfl) rfl (fun X hX => ?_)
  subst hX
  have hs := jx_sz u hv
  refine j_iconst 1 (c := 1) 1 rfl (by decide +kernel) rfl ?_
  refine j_istore_n 1 1 2 rfl [(1, .int 1), (0, .int (nI u))] (by decide +kernel) rfl (Nat.le_of_ble_eq_true rfl) rfl ?_
  refine j_iload_n 1 0 3 rfl (by decide +kernel) rfl ?_
  refine j_if_lt (off := 8) 6 rfl 11 (by decide +kernel) rfl (fun h => absurd h (nI_pos (by omega))) (fun _ => ?_)
  refine j_iconst 0 (c := 0) 7 rfl (by decide +kernel) rfl ?_
  refine j_istore_n 1 1 8 rfl [(1, .int 0), (0, .int (nI u))] (by decide +kernel) rfl (Nat.le_of_ble_eq_true rfl) rfl ?_
  refine j_iload_n 1 0 9 rfl (by decide +kernel) rfl ?_
  refine j_ineg 10 rfl (by decide +kernel) ?_
  refine j_istore_n 0 0 11 rfl [(0, .int (-(nI u))), (1, .int 0)] (by decide +kernel) rfl (Nat.le_of_ble_eq_true rfl) rfl ?_
  refine j_bipush (-10) (c := -10) 13 rfl (by decide +kernel) rfl ?_
  refine j_istore_n 2 2 14 rfl [(2, .int (-10)), (0, .int (-(nI u))), (1, .int 0)] (by decide +kernel) rfl (Nat.le_of_ble_eq_true rfl) rfl ?_
  refine j_iconst 1 (c := 1) 15 rfl (by decide +kernel) rfl ?_
  refine j_istore_n 3 3 16 rfl [(3, .int 1), (2, .int (-10)), (0, .int (-(nI u))), (1, .int 0)] (by decide +kernel) rfl (Nat.le_of_ble_eq_true rfl) rfl ?_
  refine j_iload_n 0 3 17 rfl (by decide +kernel) rfl ?_
  refine j_bipush 10 (c := 10) 19 rfl (by decide +kernel) rfl ?_
  refine j_icmp_ge (off := 23) 22 rfl 42 (by decide +kernel) rfl (fun h => absurd h (by decide)) (fun _ => ?_)
  refine j_iload_n 2 0 23 rfl (by decide +kernel) rfl ?_
  refine j_iload_n 1 2 24 rfl (by decide +kernel) rfl ?_
  by_cases h : u < 10
  · refine j_icmp_le (off := 7) 27 rfl 31 (by decide +kernel) rfl (fun h => absurd h (fun e => by have := hs.1.mp e; omega)) (fun _ => ?_)
    refine j_iload_n 0 3 28 rfl (by decide +kernel) rfl ?_
    refine j_iload_n 3 1 29 rfl (by decide +kernel) rfl ?_
    refine j_iadd 30 rfl (by decide +kernel) ?_
    exact j_iret (by decide +kernel) rfl ⟨by rw [if_pos h]; rfl, rfl⟩ (Nat.le_of_ble_eq_true rfl) (Nat.le_of_ble_eq_true rfl)
  · refine j_icmp_le (off := 7) 27 rfl 31 (by decide +kernel) rfl (fun _ => ?_) (fun h => absurd (hs.1.mpr (by omega)) h)
    refine j_bipush 10 (c := 10) 33 rfl (by decide +kernel) rfl ?_
    refine j_iload_n 1 2 34 rfl (by decide +kernel) rfl ?_
    refine j_imul 35 rfl (by decide +kernel) ?_
    refine j_istore_n 2 2 36 rfl [(2, .int (10 * (-10))), (3, .int 1), (0, .int (-(nI u))), (1, .int 0)] (by decide +kernel) rfl (Nat.le_of_ble_eq_true rfl) rfl ?_
    refine j_iinc ((1 + 1)) (c := 1) 3 1 39 rfl [(3, .int (1 + 1)), (2, .int (10 * (-10))), (0, .int (-(nI u))), (1, .int 0)] (by decide +kernel) rfl rfl (Nat.le_of_ble_eq_true rfl) rfl ?_
    refine j_goto (off := -23) 16 (by decide +kernel) rfl ?_
    refine j_iload_n 0 3 17 rfl (by decide +kernel) rfl ?_
    refine j_bipush 10 (c := 10) 19 rfl (by decide +kernel) rfl ?_
    refine j_icmp_ge (off := 23) 22 rfl 42 (by decide +kernel) rfl (fun h => absurd h (by decide)) (fun _ => ?_)
    refine j_iload_n 2 0 23 rfl (by decide +kernel) rfl ?_
    refine j_iload_n 1 2 24 rfl (by decide +kernel) rfl ?_
    refine j_icmp_le (off := 7) 27 rfl 31 (by decide +kernel) rfl (fun h => absurd h hs.2.1) (fun _ => ?_)
    refine j_iload_n 0 3 28 rfl (by decide +kernel) rfl ?_
    refine j_iload_n 3 1 29 rfl (by decide +kernel) rfl ?_
    refine j_iadd 30 rfl (by decide +kernel) ?_
    exact j_iret (by decide +kernel) rfl ⟨by rw [if_neg h]; rfl, rfl⟩ (Nat.le_of_ble_eq_true rfl) (Nat.le_of_ble_eq_true rfl)
def y_gC : MethodName := ⟨"java/lang/Intege\x72", "getChars", "(II[B)I"⟩
def m_gC : q_M := (prog_15_method_12_code, 7, "java/lang/Intege\x72", { frames := 2, cells := 0, slots := 0, locals := 200 }, (some FieldType.int))
theorem yv_gC : q_Y y_gC m_gC 3 := ⟨rfl, ⟨by decide, by decide⟩, by decide +kernel, tw_5_108, tw_1_16⟩
set_option maxRecDepth 100000 in
set_option maxHeartbeats 4000000 in
theorem jc_gC1 (l : Launch) (G : q_G) (ad : Nat → Nat) (hG : j_G G ad) (a h m n : Nat) (f : Nat → Int32) (ml : Int32) {v : Nat} (hv : v < 100) (h10 : v < 10) (hk : n + 1 ≤ m) (hm : m ≤ 200) : j_Ct l G y_gC m_gC [.int (nI v), .int (nI (n + 1)), .ref h] (j_2 G a h m f ml n) (fun v0 W => (∃ r, v0 = some (.int r)) ∧ W = j_2 G a h m (upd f n (nI (48 + v % 10)).toInt8.toInt32) ml n) := by
  refine j_Ct_of hG.1 (by decide) rfl (Nat.le_of_ble_eq_true rfl) rfl (fun X hX => ?_)
  subst hX
  have hs := jx_sz v hv
  refine j_iload_n 1 1 1 rfl (by decide +kernel) rfl ?_
  refine j_istore 5 3 rfl [(5, .int (nI (n + 1))), (0, .int (nI v)), (1, .int (nI (n + 1))), (2, .ref h)] (by decide +kernel) (Nat.le_of_ble_eq_true rfl) rfl ?_
  refine j_iload_n 1 0 4 rfl (by decide +kernel) rfl ?_
  refine j_if_ge (off := 7) 7 rfl 11 (by decide +kernel) rfl (fun _ => ?_) (fun h => absurd (nI_pos' (by omega)) h)
  refine j_iconst 0 (c := 0) 12 rfl (by decide +kernel) rfl ?_
  refine j_istore 6 14 rfl [(6, .int 0), (5, .int (nI (n + 1))), (0, .int (nI v)), (1, .int (nI (n + 1))), (2, .ref h)] (by decide +kernel) (Nat.le_of_ble_eq_true rfl) rfl ?_
  refine j_iload 0 6 16 rfl (by decide +kernel) rfl ?_
  refine j_if_ne (off := 6) 19 rfl 22 (by decide +kernel) rfl (fun h => absurd rfl h) (fun _ => ?_)
  refine j_iload_n 2 0 20 rfl (by decide +kernel) rfl ?_
  refine j_ineg 21 rfl (by decide +kernel) ?_
  refine j_istore_n 0 0 22 rfl [(0, .int (-(nI v))), (6, .int 0), (5, .int (nI (n + 1))), (1, .int (nI (n + 1))), (2, .ref h)] (by decide +kernel) rfl (Nat.le_of_ble_eq_true rfl) rfl ?_
  refine j_iload_n 0 0 23 rfl (by decide +kernel) rfl ?_
  refine j_bipush (-100) (c := -100) 25 rfl (by decide +kernel) rfl ?_
  refine j_icmp_gt (off := 47) 28 rfl 72 (by decide +kernel) rfl (fun _ => ?_) (fun h => absurd hs.2.2.1 h)
  refine j_aload_n 4 2 73 rfl (by decide +kernel) rfl ?_
  refine j_iinc (((nI (n + 1)) + (-1))) (c := -1) 5 2 76 rfl [(5, .int ((nI (n + 1)) + (-1))), (0, .int (-(nI v))), (6, .int 0), (1, .int (nI (n + 1))), (2, .ref h)] (by decide +kernel) rfl rfl (Nat.le_of_ble_eq_true rfl) rfl ?_
  refine j_iload 0 5 78 rfl (by decide +kernel) rfl ?_
  refine j_eqi (x' := (nI n)) (pk_m1 n) ?_
  refine j_gets (.ref (ad 10)) 81 rfl (by decide +kernel) (fun U h => (hG.2.1 U h).2.2.1) tw_5_109 ?_
  refine j_iload_n 1 0 82 rfl (by decide +kernel) rfl ?_
  refine j_ineg 83 rfl (by decide +kernel) ?_
  refine j_eqi (x' := (nI v)) Int32.neg_neg ?_
  refine j_tb (.int (nI (48 + v % 10))) 84 rfl (by decide +kernel) (fun U h => (hG.2.1 U h).2.2.2.1) (vp_in_nI (by omega) (by decide)) (by show Value.int (nI (48 + (nI v).toNatClampNeg % 10)) = _; rw [nI_clamp (by omega)]) ?_
  refine j_bast (t := 6) (N := m) (f := f) 1 85 rfl (by decide +kernel) rfl hG.2.2.2.1 (vp_in_nI (by omega) (by omega)) ?_
  rw [nI_clamp (show n < 2 ^ 31 by omega), vp_nar_byte]
  refine j_iload_n 1 0 86 rfl (by decide +kernel) rfl ?_
  refine j_bipush (-9) (c := -9) 88 rfl (by decide +kernel) rfl ?_
  refine j_icmp_ge (off := 16) 91 rfl 104 (by decide +kernel) rfl (fun _ => ?_) (fun h => absurd (hs.2.2.2.mpr h10) h)
  refine j_iload 2 6 106 rfl (by decide +kernel) rfl ?_
  refine j_if_eq (off := 12) 109 rfl 118 (by decide +kernel) rfl (fun _ => ?_) (fun h => absurd rfl h)
  refine j_iload 0 5 120 rfl (by decide +kernel) rfl ?_
  exact j_iret (by decide +kernel) rfl ⟨⟨_, rfl⟩, rfl⟩ (Nat.le_of_ble_eq_true rfl) (Nat.le_of_ble_eq_true rfl)
set_option maxRecDepth 100000 in
set_option maxHeartbeats 4000000 in
theorem jc_gC2 (l : Launch) (G : q_G) (ad : Nat → Nat) (hG : j_G G ad) (a h m n : Nat) (f : Nat → Int32) (ml : Int32) {v : Nat} (hv : v < 100) (h10 : 10 ≤ v) (hk : n + 2 ≤ m) (hm : m ≤ 200) : j_Ct l G y_gC m_gC [.int (nI v), .int (nI (n + 2)), .ref h] (j_2 G a h m f ml n) (fun v0 W => (∃ r, v0 = some (.int r)) ∧ W = j_2 G a h m (upd (upd f (n + 1) (nI (48 + v % 10)).toInt8.toInt32) n (nI (48 + v / 10)).toInt8.toInt32) ml n) := by
  refine j_Ct_of hG.1 (by decide) rfl (Nat.le_of_ble_eq_true rfl) rfl (fun X hX => ?_)
  subst hX
  have hs := jx_sz v hv
  refine j_iload_n 1 1 1 rfl (by decide +kernel) rfl ?_
  refine j_istore 5 3 rfl [(5, .int (nI (n + 2))), (0, .int (nI v)), (1, .int (nI (n + 2))), (2, .ref h)] (by decide +kernel) (Nat.le_of_ble_eq_true rfl) rfl ?_
  refine j_iload_n 1 0 4 rfl (by decide +kernel) rfl ?_
  refine j_if_ge (off := 7) 7 rfl 11 (by decide +kernel) rfl (fun _ => ?_) (fun h => absurd (nI_pos' (by omega)) h)
  refine j_iconst 0 (c := 0) 12 rfl (by decide +kernel) rfl ?_
  refine j_istore 6 14 rfl [(6, .int 0), (5, .int (nI (n + 2))), (0, .int (nI v)), (1, .int (nI (n + 2))), (2, .ref h)] (by decide +kernel) (Nat.le_of_ble_eq_true rfl) rfl ?_
  refine j_iload 0 6 16 rfl (by decide +kernel) rfl ?_
  refine j_if_ne (off := 6) 19 rfl 22 (by decide +kernel) rfl (fun h => absurd rfl h) (fun _ => ?_)
  refine j_iload_n 2 0 20 rfl (by decide +kernel) rfl ?_
  refine j_ineg 21 rfl (by decide +kernel) ?_
  refine j_istore_n 0 0 22 rfl [(0, .int (-(nI v))), (6, .int 0), (5, .int (nI (n + 2))), (1, .int (nI (n + 2))), (2, .ref h)] (by decide +kernel) rfl (Nat.le_of_ble_eq_true rfl) rfl ?_
  refine j_iload_n 0 0 23 rfl (by decide +kernel) rfl ?_
  refine j_bipush (-100) (c := -100) 25 rfl (by decide +kernel) rfl ?_
  refine j_icmp_gt (off := 47) 28 rfl 72 (by decide +kernel) rfl (fun _ => ?_) (fun h => absurd hs.2.2.1 h)
  refine j_aload_n 4 2 73 rfl (by decide +kernel) rfl ?_
  refine j_iinc (((nI (n + 2)) + (-1))) (c := -1) 5 2 76 rfl [(5, .int ((nI (n + 2)) + (-1))), (0, .int (-(nI v))), (6, .int 0), (1, .int (nI (n + 2))), (2, .ref h)] (by decide +kernel) rfl rfl (Nat.le_of_ble_eq_true rfl) rfl ?_
  refine j_iload 0 5 78 rfl (by decide +kernel) rfl ?_
  refine j_eqi (x' := (nI (n + 1))) (pk_m1 (n + 1)) ?_
  refine j_gets (.ref (ad 10)) 81 rfl (by decide +kernel) (fun U h => (hG.2.1 U h).2.2.1) tw_5_109 ?_
  refine j_iload_n 1 0 82 rfl (by decide +kernel) rfl ?_
  refine j_ineg 83 rfl (by decide +kernel) ?_
  refine j_eqi (x' := (nI v)) Int32.neg_neg ?_
  refine j_tb (.int (nI (48 + v % 10))) 84 rfl (by decide +kernel) (fun U h => (hG.2.1 U h).2.2.2.1) (vp_in_nI (by omega) (by decide)) (by show Value.int (nI (48 + (nI v).toNatClampNeg % 10)) = _; rw [nI_clamp (by omega)]) ?_
  refine j_bast (t := 6) (N := m) (f := f) 1 85 rfl (by decide +kernel) rfl hG.2.2.2.1 (vp_in_nI (by omega) (by omega)) ?_
  rw [nI_clamp (show (n + 1) < 2 ^ 31 by omega), vp_nar_byte]
  refine j_iload_n 1 0 86 rfl (by decide +kernel) rfl ?_
  refine j_bipush (-9) (c := -9) 88 rfl (by decide +kernel) rfl ?_
  refine j_icmp_ge (off := 16) 91 rfl 104 (by decide +kernel) rfl (fun h => absurd h (fun e => by have := hs.2.2.2.mp e; omega)) (fun _ => ?_)
  refine j_aload_n 4 2 92 rfl (by decide +kernel) rfl ?_
  refine j_iinc ((((nI (n + 2)) + (-1)) + (-1))) (c := -1) 5 0 95 rfl [(5, .int (((nI (n + 2)) + (-1)) + (-1))), (0, .int (-(nI v))), (6, .int 0), (1, .int (nI (n + 2))), (2, .ref h)] (by decide +kernel) rfl rfl (Nat.le_of_ble_eq_true rfl) rfl ?_
  refine j_iload 0 5 97 rfl (by decide +kernel) rfl ?_
  refine j_eqi (x' := (nI n)) (by rw [pk_m1 (n + 1), pk_m1 n]) ?_
  refine j_gets (.ref (ad 11)) 100 rfl (by decide +kernel) (fun U h => (hG.2.1 U h).2.2.2.2.1) tw_5_111 ?_
  refine j_iload_n 1 0 101 rfl (by decide +kernel) rfl ?_
  refine j_ineg 102 rfl (by decide +kernel) ?_
  refine j_eqi (x' := (nI v)) Int32.neg_neg ?_
  refine j_tb (.int (nI (48 + v / 10))) 103 rfl (by decide +kernel) (fun U h => (hG.2.1 U h).2.2.2.2.2.1) (vp_in_nI (by omega) (by decide)) (by show Value.int (nI (48 + (nI v).toNatClampNeg / 10)) = _; rw [nI_clamp (by omega)]) ?_
  refine j_bast (t := 6) (N := m) (f := (upd f (n + 1) (nI (48 + v % 10)).toInt8.toInt32)) 1 104 rfl (by decide +kernel) rfl hG.2.2.2.1 (vp_in_nI (by omega) (by omega)) ?_
  rw [nI_clamp (show n < 2 ^ 31 by omega), vp_nar_byte]
  refine j_iload 2 6 106 rfl (by decide +kernel) rfl ?_
  refine j_if_eq (off := 12) 109 rfl 118 (by decide +kernel) rfl (fun _ => ?_) (fun h => absurd rfl h)
  refine j_iload 0 5 120 rfl (by decide +kernel) rfl ?_
  exact j_iret (by decide +kernel) rfl ⟨⟨_, rfl⟩, rfl⟩ (Nat.le_of_ble_eq_true rfl) (Nat.le_of_ble_eq_true rfl)
def y_apI : MethodName := ⟨"java/lang/AbstractStringBuilde\x72", "append", "(I)Ljava/lang/AbstractStringBuilder;"⟩
def m_apI : q_M := (prog_12_method_32_code, 4, "java/lang/AbstractStringBuilde\x72", { frames := 7, cells := 1, slots := 200, locals := 700 }, (some (FieldType.object "java/lang/AbstractStringBuilde\x72")))
theorem yv_apI : q_Y y_apI m_apI 1 := ⟨rfl, ⟨by decide, by decide⟩, by decide +kernel, tw_5_102, tw_1_11⟩
set_option maxRecDepth 100000 in
set_option maxHeartbeats 4000000 in
theorem jc_apI1 (l : Launch) (G : q_G) (ad : Nat → Nat) (hG : j_G G ad) (a h m n : Nat) (f : Nat → Int32) (ml : Int32) {v : Nat} (hv : v < 100) (h10 : v < 10) (hn : n ≤ 90) (hm : n ≤ m ∧ m ≤ 200) (hz : ∀ j, m ≤ j → f j = 0) (hf : ∀ j, fits .byte (.int (f j)) = true) : j_Ct l G y_apI m_apI [.ref a, .int (nI v)] (j_2 G a h m f ml n) (fun v0 W => v0 = some (.ref a) ∧ ∃ h' m', W = j_2 G a h' m' (upd f n (nI (48 + v % 10)).toInt8.toInt32) ml (n + 1) ∧ n + 1 ≤ m' ∧ m ≤ m' ∧ m' ≤ 200) := by
  refine j_Ct_of hG.1 (by decide) rfl (Nat.le_of_ble_eq_true rfl) rfl (fun X hX => ?_)
  subst hX
  refine j_aload_n 0 0 1 rfl (by decide +kernel) rfl ?_
  refine j_get (f := 3) (T := TJ4) 0 (.int (nI n)) 4 rfl (by decide +kernel) (j_C hG) rfl (by decide) rfl tw_2_68 ?_
  refine j_istore_n 2 2 5 rfl [(2, .int (nI n)), (0, .ref a), (1, .int (nI v))] (by decide +kernel) rfl (Nat.le_of_ble_eq_true rfl) rfl ?_
  refine j_iload_n 0 2 6 rfl (by decide +kernel) rfl ?_
  refine j_iload_n 2 1 7 rfl (by decide +kernel) rfl ?_
  refine j_callS (M' := m_sSz) 10 rfl (av := [.int (nI v)]) (st := [.int (nI n)]) (np := 1) (jc_sSz _ G ad hG _ hv) yv_sSz tw_5_103 tw_5_104 rfl (Nat.le_of_ble_eq_true rfl) (by decide +kernel) ⟨(Nat.le_of_ble_eq_true rfl), (Nat.le_of_ble_eq_true rfl)⟩ ⟨(Nat.le_of_ble_eq_true rfl), (Nat.le_of_ble_eq_true rfl)⟩ rfl rfl ?_
  rintro _ _ ⟨rfl, rfl⟩
  refine j_iadd 11 rfl (by decide +kernel) ?_
  refine j_eqi (x' := (nI (n + 1))) (by rw [if_pos h10]; exact nI_add n 1) ?_
  refine j_istore_n 3 3 12 rfl [(3, .int (nI (n + 1))), (2, .int (nI n)), (0, .ref a), (1, .int (nI v))] (by decide +kernel) rfl (Nat.le_of_ble_eq_true rfl) rfl ?_
  refine j_aload_n 2 0 13 rfl (by decide +kernel) rfl ?_
  refine j_iload_n 0 3 14 rfl (by decide +kernel) rfl ?_
  refine j_callV (M' := m_ens) 0 17 rfl (av := [.int (nI (n + 1))]) (st := []) (np := 1) (jc_ens _ G ad hG a h m n f ml (by omega) hm hz hf) yv_ens tw_4_236 tw_4_238 sx_0 (j_C hG) rfl rfl (Nat.le_of_ble_eq_true rfl) (by decide +kernel) ⟨(Nat.le_of_ble_eq_true rfl), (Nat.le_of_ble_eq_true rfl)⟩ ⟨(Nat.le_of_ble_eq_true rfl), (Nat.le_of_ble_eq_true rfl)⟩ rfl rfl ?_
  rintro _ _ ⟨rfl, h', m', rfl, hq, hmm, hm2⟩
  refine j_aload_n 2 0 18 rfl (by decide +kernel) rfl ?_
  refine j_callV (M' := m_BisL) 0 21 rfl (av := []) (st := []) (np := 0) (jc_BisL _ G ad hG a h' m' n f ml) yv_BisL tw_5_27 tw_5_28 tw_5_30 (j_C hG) rfl rfl (Nat.le_of_ble_eq_true rfl) (by decide +kernel) ⟨(Nat.le_of_ble_eq_true rfl), (Nat.le_of_ble_eq_true rfl)⟩ ⟨(Nat.le_of_ble_eq_true rfl), (Nat.le_of_ble_eq_true rfl)⟩ rfl rfl ?_
  rintro _ _ ⟨rfl, rfl⟩
  refine j_if_eq (off := 16) 24 rfl 37 (by decide +kernel) rfl (fun h => absurd h (by decide)) (fun _ => ?_)
  refine j_iload_n 3 1 25 rfl (by decide +kernel) rfl ?_
  refine j_iload_n 0 3 26 rfl (by decide +kernel) rfl ?_
  refine j_aload_n 2 0 27 rfl (by decide +kernel) rfl ?_
  refine j_get (f := 0) (T := TJ4) 0 (.ref h') 30 rfl (by decide +kernel) (j_C hG) rfl (by decide) rfl tw_2_65 ?_
  refine j_callS (M' := m_gC) 33 rfl (av := [.int (nI v), .int (nI (n + 1)), .ref h']) (st := []) (np := 3) (jc_gC1 _ G ad hG a h' m' n f ml hv h10 hq hm2) yv_gC tw_5_106 tw_5_107 rfl (Nat.le_of_ble_eq_true rfl) (by decide +kernel) ⟨(Nat.le_of_ble_eq_true rfl), (Nat.le_of_ble_eq_true rfl)⟩ ⟨(Nat.le_of_ble_eq_true rfl), (Nat.le_of_ble_eq_true rfl)⟩ rfl rfl ?_
  rintro _ _ ⟨⟨r, rfl⟩, rfl⟩
  refine j_pop 34 rfl (by decide +kernel) rfl ?_
  refine j_goto (off := 14) 48 (by decide +kernel) rfl ?_
  refine j_aload_n 2 0 49 rfl (by decide +kernel) rfl ?_
  refine j_iload_n 0 3 50 rfl (by decide +kernel) rfl ?_
  refine j_put (f := 3) (T := TJ4) 0 53 rfl (by decide +kernel) (j_C hG) rfl (by decide) (Nat.le_of_ble_eq_true rfl) rfl rfl rfl tw_2_68 ?_
  refine j_aload_n 2 0 54 rfl (by decide +kernel) rfl ?_
  exact j_aret (by decide +kernel) rfl (Or.inl ⟨_, rfl⟩) ⟨rfl, h', m', rfl, hq, hmm, hm2⟩ (Nat.le_of_ble_eq_true rfl) (Nat.le_of_ble_eq_true rfl)
set_option maxRecDepth 100000 in
set_option maxHeartbeats 4000000 in
theorem jc_apI2 (l : Launch) (G : q_G) (ad : Nat → Nat) (hG : j_G G ad) (a h m n : Nat) (f : Nat → Int32) (ml : Int32) {v : Nat} (hv : v < 100) (h10 : 10 ≤ v) (hn : n ≤ 90) (hm : n ≤ m ∧ m ≤ 200) (hz : ∀ j, m ≤ j → f j = 0) (hf : ∀ j, fits .byte (.int (f j)) = true) : j_Ct l G y_apI m_apI [.ref a, .int (nI v)] (j_2 G a h m f ml n) (fun v0 W => v0 = some (.ref a) ∧ ∃ h' m', W = j_2 G a h' m' (upd (upd f (n + 1) (nI (48 + v % 10)).toInt8.toInt32) n (nI (48 + v / 10)).toInt8.toInt32) ml (n + 2) ∧ n + 2 ≤ m' ∧ m ≤ m' ∧ m' ≤ 200) := by
  refine j_Ct_of hG.1 (by decide) rfl (Nat.le_of_ble_eq_true rfl) rfl (fun X hX => ?_)
  subst hX
  refine j_aload_n 0 0 1 rfl (by decide +kernel) rfl ?_
  refine j_get (f := 3) (T := TJ4) 0 (.int (nI n)) 4 rfl (by decide +kernel) (j_C hG) rfl (by decide) rfl tw_2_68 ?_
  refine j_istore_n 2 2 5 rfl [(2, .int (nI n)), (0, .ref a), (1, .int (nI v))] (by decide +kernel) rfl (Nat.le_of_ble_eq_true rfl) rfl ?_
  refine j_iload_n 0 2 6 rfl (by decide +kernel) rfl ?_
  refine j_iload_n 2 1 7 rfl (by decide +kernel) rfl ?_
  refine j_callS (M' := m_sSz) 10 rfl (av := [.int (nI v)]) (st := [.int (nI n)]) (np := 1) (jc_sSz _ G ad hG _ hv) yv_sSz tw_5_103 tw_5_104 rfl (Nat.le_of_ble_eq_true rfl) (by decide +kernel) ⟨(Nat.le_of_ble_eq_true rfl), (Nat.le_of_ble_eq_true rfl)⟩ ⟨(Nat.le_of_ble_eq_true rfl), (Nat.le_of_ble_eq_true rfl)⟩ rfl rfl ?_
  rintro _ _ ⟨rfl, rfl⟩
  refine j_iadd 11 rfl (by decide +kernel) ?_
  refine j_eqi (x' := (nI (n + 2))) (by rw [if_neg (by omega)]; exact nI_add n 2) ?_
  refine j_istore_n 3 3 12 rfl [(3, .int (nI (n + 2))), (2, .int (nI n)), (0, .ref a), (1, .int (nI v))] (by decide +kernel) rfl (Nat.le_of_ble_eq_true rfl) rfl ?_
  refine j_aload_n 2 0 13 rfl (by decide +kernel) rfl ?_
  refine j_iload_n 0 3 14 rfl (by decide +kernel) rfl ?_
  refine j_callV (M' := m_ens) 0 17 rfl (av := [.int (nI (n + 2))]) (st := []) (np := 1) (jc_ens _ G ad hG a h m n f ml (by omega) hm hz hf) yv_ens tw_4_236 tw_4_238 sx_0 (j_C hG) rfl rfl (Nat.le_of_ble_eq_true rfl) (by decide +kernel) ⟨(Nat.le_of_ble_eq_true rfl), (Nat.le_of_ble_eq_true rfl)⟩ ⟨(Nat.le_of_ble_eq_true rfl), (Nat.le_of_ble_eq_true rfl)⟩ rfl rfl ?_
  rintro _ _ ⟨rfl, h', m', rfl, hq, hmm, hm2⟩
  refine j_aload_n 2 0 18 rfl (by decide +kernel) rfl ?_
  refine j_callV (M' := m_BisL) 0 21 rfl (av := []) (st := []) (np := 0) (jc_BisL _ G ad hG a h' m' n f ml) yv_BisL tw_5_27 tw_5_28 tw_5_30 (j_C hG) rfl rfl (Nat.le_of_ble_eq_true rfl) (by decide +kernel) ⟨(Nat.le_of_ble_eq_true rfl), (Nat.le_of_ble_eq_true rfl)⟩ ⟨(Nat.le_of_ble_eq_true rfl), (Nat.le_of_ble_eq_true rfl)⟩ rfl rfl ?_
  rintro _ _ ⟨rfl, rfl⟩
  refine j_if_eq (off := 16) 24 rfl 37 (by decide +kernel) rfl (fun h => absurd h (by decide)) (fun _ => ?_)
  refine j_iload_n 3 1 25 rfl (by decide +kernel) rfl ?_
  refine j_iload_n 0 3 26 rfl (by decide +kernel) rfl ?_
  refine j_aload_n 2 0 27 rfl (by decide +kernel) rfl ?_
  refine j_get (f := 0) (T := TJ4) 0 (.ref h') 30 rfl (by decide +kernel) (j_C hG) rfl (by decide) rfl tw_2_65 ?_
  refine j_callS (M' := m_gC) 33 rfl (av := [.int (nI v), .int (nI (n + 2)), .ref h']) (st := []) (np := 3) (jc_gC2 _ G ad hG a h' m' n f ml hv h10 hq hm2) yv_gC tw_5_106 tw_5_107 rfl (Nat.le_of_ble_eq_true rfl) (by decide +kernel) ⟨(Nat.le_of_ble_eq_true rfl), (Nat.le_of_ble_eq_true rfl)⟩ ⟨(Nat.le_of_ble_eq_true rfl), (Nat.le_of_ble_eq_true rfl)⟩ rfl rfl ?_
  rintro _ _ ⟨⟨r, rfl⟩, rfl⟩
  refine j_pop 34 rfl (by decide +kernel) rfl ?_
  refine j_goto (off := 14) 48 (by decide +kernel) rfl ?_
  refine j_aload_n 2 0 49 rfl (by decide +kernel) rfl ?_
  refine j_iload_n 0 3 50 rfl (by decide +kernel) rfl ?_
  refine j_put (f := 3) (T := TJ4) 0 53 rfl (by decide +kernel) (j_C hG) rfl (by decide) (Nat.le_of_ble_eq_true rfl) rfl rfl rfl tw_2_68 ?_
  refine j_aload_n 2 0 54 rfl (by decide +kernel) rfl ?_
  exact j_aret (by decide +kernel) rfl (Or.inl ⟨_, rfl⟩) ⟨rfl, h', m', rfl, hq, hmm, hm2⟩ (Nat.le_of_ble_eq_true rfl) (Nat.le_of_ble_eq_true rfl)
def y_ens0 : MethodName := ⟨"java/lang/AbstractStringBuilde\x72", "ensureCapacityInternal", "(I)V"⟩
def m_ens0 : q_M := (prog_12_method_9_code, 3, "java/lang/AbstractStringBuilde\x72", { frames := 5, cells := 0, slots := 0, locals := 500 }, (none : Option FieldType))
theorem yv_ens0 : q_Y y_ens0 m_ens0 1 := ⟨rfl, ⟨by decide, by decide⟩, by decide +kernel, tw_4_239, tw_1_11⟩
set_option maxRecDepth 100000 in
set_option maxHeartbeats 4000000 in
theorem jc_ens0 (l : Launch) (G : q_G) (ad : Nat → Nat) (hG : j_G G ad) (a h m n : Nat) (f : Nat → Int32) (ml : Int32) {q : Nat} (hq : q ≤ 99) (hm : q ≤ m ∧ m ≤ 200) : j_Ct l G y_ens0 m_ens0 [.ref a, .int (nI q)] (j_2 G a h m f ml n) (fun v W => v = none ∧ W = j_2 G a h m f ml n) := by
  refine j_Ct_of hG.1 (by decide) rfl (Nat.le_of_ble_eq_true rfl) rfl (fun X hX => ?_)
  subst hX
  refine j_aload_n 0 0 1 rfl (by decide +kernel) rfl ?_
  refine j_get (f := 0) (T := TJ4) 0 (.ref h) 4 rfl (by decide +kernel) (j_C hG) rfl (by decide) rfl tw_2_65 ?_
  refine j_alen (t := 6) (nI m) 1 5 rfl (by decide +kernel) rfl hG.2.2.2.1 rfl ?_
  refine j_aload_n 0 0 6 rfl (by decide +kernel) rfl ?_
  refine j_get (f := 1) (T := TJ4) 0 (.int 0) 9 rfl (by decide +kernel) (j_C hG) rfl (by decide) rfl tw_2_66 ?_
  refine j_ishr 10 rfl (by decide +kernel) ?_
  refine j_eqi (x' := (nI m)) (jx_shr _) ?_
  refine j_istore_n 2 2 11 rfl [(2, .int (nI m)), (0, .ref a), (1, .int (nI q))] (by decide +kernel) rfl (Nat.le_of_ble_eq_true rfl) rfl ?_
  refine j_iload_n 2 1 12 rfl (by decide +kernel) rfl ?_
  refine j_iload_n 0 2 13 rfl (by decide +kernel) rfl ?_
  refine j_isub 14 rfl (by decide +kernel) ?_
  refine j_if_le (off := 24) 17 rfl 38 (by decide +kernel) rfl (fun _ => ?_) (fun h => absurd ((jx_le hq hm.2).mpr hm.1) h)
  exact j_vret (by decide +kernel) rfl ⟨rfl, rfl⟩ (Nat.le_of_ble_eq_true rfl) (Nat.le_of_ble_eq_true rfl)
def y_BseL : MethodName := ⟨"java/lang/AbstractStringBuilde\x72", "setLength", "(I)V"⟩
def m_BseL : q_M := (prog_12_method_13_code, 2, "java/lang/AbstractStringBuilde\x72", { frames := 7, cells := 0, slots := 0, locals := 700 }, (none : Option FieldType))
theorem yv_BseL : q_Y y_BseL m_BseL 1 := ⟨rfl, ⟨by decide, by decide⟩, by decide +kernel, tw_5_74, tw_1_11⟩
set_option maxRecDepth 100000 in
set_option maxHeartbeats 4000000 in
theorem jc_BseL (l : Launch) (G : q_G) (ad : Nat → Nat) (hG : j_G G ad) (a h m n : Nat) (f : Nat → Int32) (ml : Int32) (hn : n ≤ 200) (hm : m ≤ 200) : j_Ct l G y_BseL m_BseL [.ref a, .int 0] (j_2 G a h m f ml n) (fun v W => v = none ∧ W = j_2 G a h m f (if n = 0 then ml else 1) 0) := by
  refine j_Ct_of hG.1 (by decide) rfl (Nat.le_of_ble_eq_true rfl) rfl (fun X hX => ?_)
  subst hX
  refine j_iload_n 1 1 1 rfl (by decide +kernel) rfl ?_
  refine j_if_ge (off := 12) 4 rfl 13 (by decide +kernel) rfl (fun _ => ?_) (fun h => absurd (by decide) h)
  refine j_aload_n 0 0 14 rfl (by decide +kernel) rfl ?_
  refine j_iload_n 1 1 15 rfl (by decide +kernel) rfl ?_
  refine j_callV (M' := m_ens0) 0 18 rfl (av := [.int 0]) (st := []) (np := 1) (jc_ens0 _ G ad hG a h m n f ml (q := 0) (by omega) ⟨by omega, hm⟩) yv_ens0 tw_4_236 tw_4_238 sx_0 (j_C hG) rfl rfl (Nat.le_of_ble_eq_true rfl) (by decide +kernel) ⟨(Nat.le_of_ble_eq_true rfl), (Nat.le_of_ble_eq_true rfl)⟩ ⟨(Nat.le_of_ble_eq_true rfl), (Nat.le_of_ble_eq_true rfl)⟩ rfl rfl ?_
  rintro _ _ ⟨rfl, rfl⟩
  refine j_aload_n 0 0 19 rfl (by decide +kernel) rfl ?_
  refine j_get (f := 3) (T := TJ4) 0 (.int (nI n)) 22 rfl (by decide +kernel) (j_C hG) rfl (by decide) rfl tw_2_68 ?_
  refine j_iload_n 1 1 23 rfl (by decide +kernel) rfl ?_
  refine j_icmp_ge (off := 40) 26 rfl 63 (by decide +kernel) rfl (fun _ => ?_) (fun h => absurd (nI_pos' (by omega)) h)
  refine j_aload_n 0 0 64 rfl (by decide +kernel) rfl ?_
  refine j_get (f := 3) (T := TJ4) 0 (.int (nI n)) 67 rfl (by decide +kernel) (j_C hG) rfl (by decide) rfl tw_2_68 ?_
  refine j_iload_n 1 1 68 rfl (by decide +kernel) rfl ?_
  by_cases h0 : n = 0
  · subst h0
    refine j_icmp_le (off := 8) 71 rfl 76 (by decide +kernel) rfl (fun _ => ?_) (fun h => absurd (by decide) h)
    refine j_aload_n 0 0 77 rfl (by decide +kernel) rfl ?_
    refine j_iload_n 1 1 78 rfl (by decide +kernel) rfl ?_
    refine j_put (f := 3) (T := TJ4) 0 81 rfl (by decide +kernel) (j_C hG) rfl (by decide) (Nat.le_of_ble_eq_true rfl) rfl rfl rfl tw_2_68 ?_
    exact j_vret (by decide +kernel) rfl ⟨rfl, rfl⟩ (Nat.le_of_ble_eq_true rfl) (Nat.le_of_ble_eq_true rfl)
  · refine j_icmp_le (off := 8) 71 rfl 76 (by decide +kernel) rfl (fun h => absurd h (nI_nle (by omega) (by omega))) (fun _ => ?_)
    refine j_aload_n 0 0 72 rfl (by decide +kernel) rfl ?_
    refine j_iconst 1 (c := 1) 73 rfl (by decide +kernel) rfl ?_
    refine j_put (f := 2) (T := TJ4) 0 76 rfl (by decide +kernel) (j_C hG) rfl (by decide) (Nat.le_of_ble_eq_true rfl) rfl rfl rfl tw_2_67 ?_
    refine j_aload_n 0 0 77 rfl (by decide +kernel) rfl ?_
    refine j_iload_n 1 1 78 rfl (by decide +kernel) rfl ?_
    refine j_put (f := 3) (T := TJ4) 0 81 rfl (by decide +kernel) (j_C hG) rfl (by decide) (Nat.le_of_ble_eq_true rfl) rfl rfl rfl tw_2_68 ?_
    exact j_vret (by decide +kernel) rfl ⟨rfl, by rw [if_neg h0]; rfl⟩ (Nat.le_of_ble_eq_true rfl) (Nat.le_of_ble_eq_true rfl)
set_option maxRecDepth 100000 in
set_option maxHeartbeats 4000000 in
theorem jc_SB_length (l : Launch) (G : q_G) (ad : Nat → Nat) (hG : j_G G ad) (a h m n : Nat) (f : Nat → Int32) (ml : Int32) : j_Ct l G y_SB_length m_SB_length [.ref a] (j_2 G a h m f ml n) (fun v W => v = some (.int (nI n)) ∧ W = j_2 G a h m f ml n) := by
  refine j_Ct_of hG.1 (by decide) rfl (Nat.le_of_ble_eq_true rfl) rfl (fun X hX => ?_)
  subst hX
  refine j_aload_n 0 0 1 rfl (by decide +kernel) rfl ?_
  refine j_callSU (M' := m_Blen) 0 4 rfl (av := []) (st := []) (np := 0) (jc_Blen _ G ad hG a h m n f ml) yv_Blen tw_3_135 tw_7_178 tw_2_77 tw_3_136 (by decide) (j_C hG) rfl rfl (Nat.le_of_ble_eq_true rfl) (by decide +kernel) ⟨(Nat.le_of_ble_eq_true rfl), (Nat.le_of_ble_eq_true rfl)⟩ ⟨(Nat.le_of_ble_eq_true rfl), (Nat.le_of_ble_eq_true rfl)⟩ rfl rfl ?_
  rintro _ _ ⟨rfl, rfl⟩
  exact j_iret (by decide +kernel) rfl ⟨rfl, rfl⟩ (Nat.le_of_ble_eq_true rfl) (Nat.le_of_ble_eq_true rfl)
set_option maxRecDepth 100000 in
set_option maxHeartbeats 4000000 in
theorem jc_SB_charAt (l : Launch) (G : q_G) (ad : Nat → Nat) (hG : j_G G ad) (a h m n : Nat) (f : Nat → Int32) (ml : Int32) (hm : n ≤ m ∧ m ≤ 200) {k : Nat} (hk : k < n) : j_Ct l G y_SB_charAt m_SB_charAt [.ref a, .int (nI k)] (j_2 G a h m f ml n) (fun v W => v = some (.int (f k &&& 255)) ∧ W = j_2 G a h m f ml n) := by
  refine j_Ct_of hG.1 (by decide) rfl (Nat.le_of_ble_eq_true rfl) rfl (fun X hX => ?_)
  subst hX
  refine j_aload_n 0 0 1 rfl (by decide +kernel) rfl ?_
  refine j_iload_n 1 1 2 rfl (by decide +kernel) rfl ?_
  refine j_callSU (M' := m_BchA) 0 5 rfl (av := [.int (nI k)]) (st := []) (np := 1) (jc_BchA _ G ad hG a h m n f ml hm hk) yv_BchA tw_3_142 tw_7_179 tw_2_77 tw_3_143 (by decide) (j_C hG) rfl rfl (Nat.le_of_ble_eq_true rfl) (by decide +kernel) ⟨(Nat.le_of_ble_eq_true rfl), (Nat.le_of_ble_eq_true rfl)⟩ ⟨(Nat.le_of_ble_eq_true rfl), (Nat.le_of_ble_eq_true rfl)⟩ rfl rfl ?_
  rintro _ _ ⟨rfl, rfl⟩
  exact j_zret (w := f k &&& 255) (by decide +kernel) rfl (sc_nar _) ⟨rfl, rfl⟩ (Nat.le_of_ble_eq_true rfl) (Nat.le_of_ble_eq_true rfl)
set_option maxRecDepth 100000 in
set_option maxHeartbeats 4000000 in
theorem jc_SB_setLength (l : Launch) (G : q_G) (ad : Nat → Nat) (hG : j_G G ad) (a h m n : Nat) (f : Nat → Int32) (ml : Int32) (hn : n ≤ 200) (hm : m ≤ 200) : j_Ct l G y_SB_setLength m_SB_setLength [.ref a, .int 0] (j_2 G a h m f ml n) (fun v W => v = none ∧ W = j_2 G a h m f (if n = 0 then ml else 1) 0) := by
  refine j_Ct_of hG.1 (by decide) rfl (Nat.le_of_ble_eq_true rfl) rfl (fun X hX => ?_)
  subst hX
  refine j_aload_n 0 0 1 rfl (by decide +kernel) rfl ?_
  refine j_iload_n 1 1 2 rfl (by decide +kernel) rfl ?_
  refine j_callSU (M' := m_BseL) 0 5 rfl (av := [.int 0]) (st := []) (np := 1) (jc_BseL _ G ad hG a h m n f ml hn hm) yv_BseL tw_5_72 tw_7_184 tw_2_77 tw_5_73 (by decide) (j_C hG) rfl rfl (Nat.le_of_ble_eq_true rfl) (by decide +kernel) ⟨(Nat.le_of_ble_eq_true rfl), (Nat.le_of_ble_eq_true rfl)⟩ ⟨(Nat.le_of_ble_eq_true rfl), (Nat.le_of_ble_eq_true rfl)⟩ rfl rfl ?_
  rintro _ _ ⟨rfl, rfl⟩
  exact j_vret (by decide +kernel) rfl ⟨rfl, rfl⟩ (Nat.le_of_ble_eq_true rfl) (Nat.le_of_ble_eq_true rfl)
set_option maxRecDepth 100000 in
set_option maxHeartbeats 4000000 in
theorem jc_SB_appC (l : Launch) (G : q_G) (ad : Nat → Nat) (hG : j_G G ad) (a h m n : Nat) (f : Nat → Int32) (ml : Int32) {c : Int32} (hc : c ≤ 255) (hn : n ≤ 90) (hm : n ≤ m ∧ m ≤ 200) (hz : ∀ j, m ≤ j → f j = 0) (hf : ∀ j, fits .byte (.int (f j)) = true) : j_Ct l G y_SB_appC m_SB_appC [.ref a, .int c] (j_2 G a h m f ml n) (fun v0 W => v0 = some (.ref a) ∧ ∃ h' m', W = j_2 G a h' m' (upd f n c.toInt8.toInt32) ml (n + 1) ∧ n + 1 ≤ m' ∧ m ≤ m' ∧ m' ≤ 200) := by
  refine j_Ct_of hG.1 (by decide) rfl (Nat.le_of_ble_eq_true rfl) rfl (fun X hX => ?_)
  subst hX
  refine j_aload_n 0 0 1 rfl (by decide +kernel) rfl ?_
  refine j_iload_n 1 1 2 rfl (by decide +kernel) rfl ?_
  refine j_callSU (M' := m_apC) 0 5 rfl (av := [.int c]) (st := []) (np := 1) (jc_apC _ G ad hG a h m n f ml hc hn hm hz hf) yv_apC tw_4_233 tw_7_180 tw_2_77 tw_4_234 (by decide) (j_C hG) rfl rfl (Nat.le_of_ble_eq_true rfl) (by decide +kernel) ⟨(Nat.le_of_ble_eq_true rfl), (Nat.le_of_ble_eq_true rfl)⟩ ⟨(Nat.le_of_ble_eq_true rfl), (Nat.le_of_ble_eq_true rfl)⟩ rfl rfl ?_
  rintro _ _ ⟨rfl, h', m', rfl, hq, hmm, hm2⟩
  refine j_pop 6 rfl (by decide +kernel) rfl ?_
  refine j_aload_n 0 0 7 rfl (by decide +kernel) rfl ?_
  exact j_aret (by decide +kernel) rfl (Or.inl ⟨_, rfl⟩) ⟨rfl, h', m', rfl, hq, hmm, hm2⟩ (Nat.le_of_ble_eq_true rfl) (Nat.le_of_ble_eq_true rfl)
set_option maxRecDepth 100000 in
set_option maxHeartbeats 4000000 in
theorem jc_SB_appS (l : Launch) (G : q_G) (ad : Nat → Nat) (hG : j_G G ad) (a h m n : Nat) (f : Nat → Int32) (ml : Int32) {i : Nat} (hi : i < 4) (hn : n ≤ 90) (hm : n ≤ m ∧ m ≤ 200) (hz : ∀ j, m ≤ j → f j = 0) (hf : ∀ j, fits .byte (.int (f j)) = true) : j_Ct l G y_SB_appS m_SB_appS [.ref a, .ref (ad i)] (j_2 G a h m f ml n) (fun v0 W => v0 = some (.ref a) ∧ ∃ h' m', W = j_2 G a h' m' (va_cpy (fun j => (([[114, 112, 119, 101], [32, 114], [32, 112], [32, 101]] : List (List Int32)).getD i []).getD j 0) f 0 n (([4, 2, 2, 2] : List Nat).getD i 0)) ml (n + (([4, 2, 2, 2] : List Nat).getD i 0)) ∧ n + (([4, 2, 2, 2] : List Nat).getD i 0) ≤ m' ∧ m ≤ m' ∧ m' ≤ 200) := by
  refine j_Ct_of hG.1 (by decide) rfl (Nat.le_of_ble_eq_true rfl) rfl (fun X hX => ?_)
  subst hX
  refine j_aload_n 0 0 1 rfl (by decide +kernel) rfl ?_
  refine j_aload_n 1 1 2 rfl (by decide +kernel) rfl ?_
  refine j_callSU (M' := m_apS) 0 5 rfl (av := [.ref (ad i)]) (st := []) (np := 1) (jc_apS _ G ad hG a h m n f ml hi hn hm hz hf) yv_apS tw_5_126 tw_7_186 tw_2_77 tw_5_127 (by decide) (j_C hG) rfl rfl (Nat.le_of_ble_eq_true rfl) (by decide +kernel) ⟨(Nat.le_of_ble_eq_true rfl), (Nat.le_of_ble_eq_true rfl)⟩ ⟨(Nat.le_of_ble_eq_true rfl), (Nat.le_of_ble_eq_true rfl)⟩ rfl rfl ?_
  rintro _ _ ⟨rfl, h', m', rfl, hq, hmm, hm2⟩
  refine j_pop 6 rfl (by decide +kernel) rfl ?_
  refine j_aload_n 0 0 7 rfl (by decide +kernel) rfl ?_
  exact j_aret (by decide +kernel) rfl (Or.inl ⟨_, rfl⟩) ⟨rfl, h', m', rfl, hq, hmm, hm2⟩ (Nat.le_of_ble_eq_true rfl) (Nat.le_of_ble_eq_true rfl)
set_option maxRecDepth 100000 in
set_option maxHeartbeats 4000000 in
theorem jc_SB_appI1 (l : Launch) (G : q_G) (ad : Nat → Nat) (hG : j_G G ad) (a h m n : Nat) (f : Nat → Int32) (ml : Int32) {v : Nat} (hv : v < 100) (h10 : v < 10) (hn : n ≤ 90) (hm : n ≤ m ∧ m ≤ 200) (hz : ∀ j, m ≤ j → f j = 0) (hf : ∀ j, fits .byte (.int (f j)) = true) : j_Ct l G y_SB_appI m_SB_appI [.ref a, .int (nI v)] (j_2 G a h m f ml n) (fun v0 W => v0 = some (.ref a) ∧ ∃ h' m', W = j_2 G a h' m' (upd f n (nI (48 + v % 10)).toInt8.toInt32) ml (n + 1) ∧ n + 1 ≤ m' ∧ m ≤ m' ∧ m' ≤ 200) := by
  refine j_Ct_of hG.1 (by decide) rfl (Nat.le_of_ble_eq_true rfl) rfl (fun X hX => ?_)
  subst hX
  refine j_aload_n 0 0 1 rfl (by decide +kernel) rfl ?_
  refine j_iload_n 1 1 2 rfl (by decide +kernel) rfl ?_
  refine j_callSU (M' := m_apI) 0 5 rfl (av := [.int (nI v)]) (st := []) (np := 1) (jc_apI1 _ G ad hG a h m n f ml hv h10 hn hm hz hf) yv_apI tw_5_100 tw_7_185 tw_2_77 tw_5_101 (by decide) (j_C hG) rfl rfl (Nat.le_of_ble_eq_true rfl) (by decide +kernel) ⟨(Nat.le_of_ble_eq_true rfl), (Nat.le_of_ble_eq_true rfl)⟩ ⟨(Nat.le_of_ble_eq_true rfl), (Nat.le_of_ble_eq_true rfl)⟩ rfl rfl ?_
  rintro _ _ ⟨rfl, h', m', rfl, hq, hmm, hm2⟩
  refine j_pop 6 rfl (by decide +kernel) rfl ?_
  refine j_aload_n 0 0 7 rfl (by decide +kernel) rfl ?_
  exact j_aret (by decide +kernel) rfl (Or.inl ⟨_, rfl⟩) ⟨rfl, h', m', rfl, hq, hmm, hm2⟩ (Nat.le_of_ble_eq_true rfl) (Nat.le_of_ble_eq_true rfl)
set_option maxRecDepth 100000 in
set_option maxHeartbeats 4000000 in
theorem jc_SB_appI2 (l : Launch) (G : q_G) (ad : Nat → Nat) (hG : j_G G ad) (a h m n : Nat) (f : Nat → Int32) (ml : Int32) {v : Nat} (hv : v < 100) (h10 : 10 ≤ v) (hn : n ≤ 90) (hm : n ≤ m ∧ m ≤ 200) (hz : ∀ j, m ≤ j → f j = 0) (hf : ∀ j, fits .byte (.int (f j)) = true) : j_Ct l G y_SB_appI m_SB_appI [.ref a, .int (nI v)] (j_2 G a h m f ml n) (fun v0 W => v0 = some (.ref a) ∧ ∃ h' m', W = j_2 G a h' m' (upd (upd f (n + 1) (nI (48 + v % 10)).toInt8.toInt32) n (nI (48 + v / 10)).toInt8.toInt32) ml (n + 2) ∧ n + 2 ≤ m' ∧ m ≤ m' ∧ m' ≤ 200) := by
  refine j_Ct_of hG.1 (by decide) rfl (Nat.le_of_ble_eq_true rfl) rfl (fun X hX => ?_)
  subst hX
  refine j_aload_n 0 0 1 rfl (by decide +kernel) rfl ?_
  refine j_iload_n 1 1 2 rfl (by decide +kernel) rfl ?_
  refine j_callSU (M' := m_apI) 0 5 rfl (av := [.int (nI v)]) (st := []) (np := 1) (jc_apI2 _ G ad hG a h m n f ml hv h10 hn hm hz hf) yv_apI tw_5_100 tw_7_185 tw_2_77 tw_5_101 (by decide) (j_C hG) rfl rfl (Nat.le_of_ble_eq_true rfl) (by decide +kernel) ⟨(Nat.le_of_ble_eq_true rfl), (Nat.le_of_ble_eq_true rfl)⟩ ⟨(Nat.le_of_ble_eq_true rfl), (Nat.le_of_ble_eq_true rfl)⟩ rfl rfl ?_
  rintro _ _ ⟨rfl, h', m', rfl, hq, hmm, hm2⟩
  refine j_pop 6 rfl (by decide +kernel) rfl ?_
  refine j_aload_n 0 0 7 rfl (by decide +kernel) rfl ?_
  exact j_aret (by decide +kernel) rfl (Or.inl ⟨_, rfl⟩) ⟨rfl, h', m', rfl, hq, hmm, hm2⟩ (Nat.le_of_ble_eq_true rfl) (Nat.le_of_ble_eq_true rfl)
