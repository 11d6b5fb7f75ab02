theorem jx_cpy {f : Nat → Int32} {m : Nat} (hz : ∀ j, m ≤ j → f j = 0) : va_cpy f (fun _ => 0) 0 0 m = f := by
  funext j
  unfold va_cpy
  split
  · next h => congr 1; omega
  · next h => exact (hz j (by omega)).symm
theorem jx_le {a b : Nat} (ha : a ≤ 99) (hb : b ≤ 200) : nI a - nI b ≤ 0 ↔ a ≤ b := by
  rw [Int32.le_iff_toInt_le, pk_sub_toInt (by omega) (by omega), Int32.toInt_zero]
  omega
def y_ens : MethodName := ⟨"java/lang/AbstractStringBuilde\x72", "ensureCapacityInternal", "(I)V"⟩
def m_ens : q_M := (prog_12_method_9_code, 3, "java/lang/AbstractStringBuilde\x72", { frames := 5, cells := 1, slots := 200, locals := 500 }, (none : Option FieldType))
theorem yv_ens : q_Y y_ens m_ens 1 := ⟨rfl, ⟨by decide, by decide⟩, by decide +kernel, tw_4_239, tw_1_11⟩
set_option maxRecDepth 100000 in
set_option maxHeartbeats 4000000 in
theorem jc_ens (l : Launch) (G : q_G) (ad : Nat → Nat) (hG : j_G G ad) (a h m n : Nat) (f : Nat → Int32) (ml : Int32) {q : Nat} (hq : q ≤ 99) (hm : n ≤ m ∧ m ≤ 200) (hz : ∀ j, m ≤ j → f j = 0) (hf : ∀ j, fits .byte (.int (f j)) = true) : j_Ct l G y_ens m_ens [.ref a, .int (nI q)] (j_2 G a h m f ml n) (fun v W => v = none ∧ ∃ h' m', W = j_2 G a h' m' f ml n ∧ q ≤ m' ∧ m ≤ m' ∧ m' ≤ 200) := by
  refine j_Ct_of hG.1 (by decide) rfl (Nat.le_of_ble_eq_true rfl) rfl (fun X hX => ?_)
  subst hX
  refine j_aload_n 0 0 1 rfl (by decide +kernel) rfl ?_
  refine j_get (f := 0) (T := TJ4) 0 (.ref h) 4 rfl (by decide +kernel) (j_C hG) rfl (by decide) rfl tw_2_65 ?_
  refine j_alen (t := 6) (nI m) 1 5 rfl (by decide +kernel) rfl hG.2.2.2.1 rfl ?_
  refine j_aload_n 0 0 6 rfl (by decide +kernel) rfl ?_
  refine j_get (f := 1) (T := TJ4) 0 (.int 0) 9 rfl (by decide +kernel) (j_C hG) rfl (by decide) rfl tw_2_66 ?_
  refine j_ishr 10 rfl (by decide +kernel) ?_
  refine j_eqi (x' := (nI m)) (jx_shr _) ?_
  refine j_istore_n 2 2 11 rfl [(2, .int (nI m)), (0, .ref a), (1, .int (nI q))] (by decide +kernel) rfl (Nat.le_of_ble_eq_true rfl) rfl ?_
  refine j_iload_n 2 1 12 rfl (by decide +kernel) rfl ?_
  refine j_iload_n 0 2 13 rfl (by decide +kernel) rfl ?_
  refine j_isub 14 rfl (by decide +kernel) ?_
  by_cases hqm : q ≤ m
  · refine j_if_le (off := 24) 17 rfl 38 (by decide +kernel) rfl (fun _ => ?_) (fun h => absurd ((jx_le hq hm.2).mpr hqm) h)
    exact j_vret (by decide +kernel) rfl ⟨rfl, h, m, rfl, hqm, Nat.le_refl _, hm.2⟩ (Nat.le_of_ble_eq_true rfl) (Nat.le_of_ble_eq_true rfl)
  · refine j_if_le (off := 24) 17 rfl 38 (by decide +kernel) rfl (fun h => absurd h (fun e => hqm ((jx_le hq hm.2).mp e))) (fun _ => ?_)
    have hc := jx_cap_le (q := q) (m := m) (by omega) hq
    refine j_aload_n 1 0 18 rfl (by decide +kernel) rfl ?_
    refine j_aload_n 1 0 19 rfl (by decide +kernel) rfl ?_
    refine j_get (f := 0) (T := TJ4) 0 (.ref h) 22 rfl (by decide +kernel) (j_C hG) rfl (by decide) rfl tw_2_65 ?_
    refine j_aload_n 1 0 23 rfl (by decide +kernel) rfl ?_
    refine j_iload_n 2 1 24 rfl (by decide +kernel) rfl ?_
    refine j_callV (M' := m_newC) 0 27 rfl (av := [.int (nI q)]) (st := [.ref h, .ref a]) (np := 1) (jc_newC _ G ad hG a h m n f ml (by omega) hq) yv_newC tw_5_0 tw_5_2 sx_1 (j_C hG) rfl rfl (Nat.le_of_ble_eq_true rfl) (by decide +kernel) ⟨(Nat.le_of_ble_eq_true rfl), (Nat.le_of_ble_eq_true rfl)⟩ ⟨(Nat.le_of_ble_eq_true rfl), (Nat.le_of_ble_eq_true rfl)⟩ rfl rfl ?_
    rintro _ _ ⟨rfl, rfl⟩
    refine j_aload_n 1 0 28 rfl (by decide +kernel) rfl ?_
    refine j_get (f := 1) (T := TJ4) 0 (.int 0) 31 rfl (by decide +kernel) (j_C hG) rfl (by decide) rfl tw_2_66 ?_
    refine j_ishl 32 rfl (by decide +kernel) ?_
    refine j_eqi (x' := (nI (jx_cap q m))) (jx_shl _) ?_
    refine j_callS (M' := m_cpO) 35 rfl (av := [.ref h, .int (nI (jx_cap q m))]) (st := [.ref a]) (np := 2) (jc_cpO _ G ad hG a h m n f ml ⟨hc.2.1, hc.2.2⟩ hf) yv_cpO tw_5_13 tw_5_14 rfl (Nat.le_of_ble_eq_true rfl) (by decide +kernel) ⟨(Nat.le_of_ble_eq_true rfl), (Nat.le_of_ble_eq_true rfl)⟩ ⟨(Nat.le_of_ble_eq_true rfl), (Nat.le_of_ble_eq_true rfl)⟩ rfl rfl ?_
    rintro _ _ ⟨q0, hq0, rfl, rfl⟩
    refine j_put (f := 0) (T := TJ4) 0 38 rfl (by decide +kernel) (j_C hG) rfl (by decide) (Nat.le_of_ble_eq_true rfl) rfl rfl rfl tw_2_65 ?_
    refine j_mono (WL' := j_2 G a q0 (jx_cap q m) (va_cpy f (fun _ => 0) 0 0 m) ml n) (fun H hh => j_drop hh) ?_
    rw [jx_cpy hz]
    exact j_vret (by decide +kernel) rfl ⟨rfl, q0, _, rfl, hc.1, by omega, hc.2.2⟩ (Nat.le_of_ble_eq_true rfl) (Nat.le_of_ble_eq_true rfl)
def y_apC : MethodName := ⟨"java/lang/AbstractStringBuilde\x72", "append", "(C)Ljava/lang/AbstractStringBuilder;"⟩
def m_apC : q_M := (prog_12_method_31_code, 2, "java/lang/AbstractStringBuilde\x72", { frames := 7, cells := 1, slots := 200, locals := 700 }, (some (FieldType.object "java/lang/AbstractStringBuilde\x72")))
theorem yv_apC : q_Y y_apC m_apC 1 := ⟨rfl, ⟨by decide, by decide⟩, by decide +kernel, tw_4_235, tw_1_11⟩
set_option maxRecDepth 100000 in
set_option maxHeartbeats 4000000 in
theorem jc_apC (l : Launch) (G : q_G) (ad : Nat → Nat) (hG : j_G G ad) (a h m n : Nat) (f : Nat → Int32) (ml : Int32) {c : Int32} (hc : c ≤ 255) (hn : n ≤ 90) (hm : n ≤ m ∧ m ≤ 200) (hz : ∀ j, m ≤ j → f j = 0) (hf : ∀ j, fits .byte (.int (f j)) = true) : j_Ct l G y_apC m_apC [.ref a, .int c] (j_2 G a h m f ml n) (fun v W => v = some (.ref a) ∧ ∃ h' m', W = j_2 G a h' m' (upd f n c.toInt8.toInt32) ml (n + 1) ∧ n + 1 ≤ m' ∧ m ≤ m' ∧ m' ≤ 200) := by
  refine j_Ct_of hG.1 (by decide) rfl (Nat.le_of_ble_eq_true rfl) rfl (fun X hX => ?_)
  subst hX
  refine j_aload_n 0 0 1 rfl (by decide +kernel) rfl ?_
  refine j_aload_n 0 0 2 rfl (by decide +kernel) rfl ?_
  refine j_get (f := 3) (T := TJ4) 0 (.int (nI n)) 5 rfl (by decide +kernel) (j_C hG) rfl (by decide) rfl tw_2_68 ?_
  refine j_iconst 1 (c := 1) 6 rfl (by decide +kernel) rfl ?_
  refine j_iadd 7 rfl (by decide +kernel) ?_
  refine j_eqi (x' := (nI (n + 1))) (nI_1 n) ?_
  refine j_callV (M' := m_ens) 0 10 rfl (av := [.int (nI (n + 1))]) (st := []) (np := 1) (jc_ens _ G ad hG a h m n f ml (by omega) hm hz hf) yv_ens tw_4_236 tw_4_238 sx_0 (j_C hG) rfl rfl (Nat.le_of_ble_eq_true rfl) (by decide +kernel) ⟨(Nat.le_of_ble_eq_true rfl), (Nat.le_of_ble_eq_true rfl)⟩ ⟨(Nat.le_of_ble_eq_true rfl), (Nat.le_of_ble_eq_true rfl)⟩ rfl rfl ?_
  rintro _ _ ⟨rfl, h', m', rfl, hq, hmm, hm2⟩
  refine j_aload_n 0 0 11 rfl (by decide +kernel) rfl ?_
  refine j_callV (M' := m_BisL) 0 14 rfl (av := []) (st := []) (np := 0) (jc_BisL _ G ad hG a h' m' n f ml) yv_BisL tw_5_27 tw_5_28 tw_5_30 (j_C hG) rfl rfl (Nat.le_of_ble_eq_true rfl) (by decide +kernel) ⟨(Nat.le_of_ble_eq_true rfl), (Nat.le_of_ble_eq_true rfl)⟩ ⟨(Nat.le_of_ble_eq_true rfl), (Nat.le_of_ble_eq_true rfl)⟩ rfl rfl ?_
  rintro _ _ ⟨rfl, rfl⟩
  refine j_if_eq (off := 31) 17 rfl 45 (by decide +kernel) rfl (fun h => absurd h (by decide)) (fun _ => ?_)
  refine j_iload_n 1 1 18 rfl (by decide +kernel) rfl ?_
  refine j_callS (M' := m_cEC) 21 rfl (av := [.int c]) (st := []) (np := 1) (jc_cEC _ G ad hG _ hc) yv_cEC tw_5_32 tw_5_33 rfl (Nat.le_of_ble_eq_true rfl) (by decide +kernel) ⟨(Nat.le_of_ble_eq_true rfl), (Nat.le_of_ble_eq_true rfl)⟩ ⟨(Nat.le_of_ble_eq_true rfl), (Nat.le_of_ble_eq_true rfl)⟩ rfl rfl ?_
  rintro _ _ ⟨rfl, rfl⟩
  refine j_if_eq (off := 24) 24 rfl 45 (by decide +kernel) rfl (fun h => absurd h (by decide)) (fun _ => ?_)
  refine j_aload_n 0 0 25 rfl (by decide +kernel) rfl ?_
  refine j_get (f := 0) (T := TJ4) 0 (.ref h') 28 rfl (by decide +kernel) (j_C hG) rfl (by decide) rfl tw_2_65 ?_
  refine j_aload_n 0 0 29 rfl (by decide +kernel) rfl ?_
  refine j_dup 30 rfl (by decide +kernel) rfl ?_
  refine j_get (f := 3) (T := TJ4) 0 (.int (nI n)) 33 rfl (by decide +kernel) (j_C hG) rfl (by decide) rfl tw_2_68 ?_
  refine j_dup_x1 34 rfl (by decide +kernel) rfl rfl ?_
  refine j_iconst 1 (c := 1) 35 rfl (by decide +kernel) rfl ?_
  refine j_iadd 36 rfl (by decide +kernel) ?_
  refine j_eqi (x' := (nI (n + 1))) (nI_1 n) ?_
  refine j_put (f := 3) (T := TJ4) 0 39 rfl (by decide +kernel) (j_C hG) rfl (by decide) (Nat.le_of_ble_eq_true rfl) rfl rfl rfl tw_2_68 ?_
  refine j_iload_n 1 1 40 rfl (by decide +kernel) rfl ?_
  refine j_i2b 41 rfl (by decide +kernel) ?_
  refine j_bast (t := 6) (N := m') (f := f) 1 42 rfl (by decide +kernel) rfl hG.2.2.2.1 (vp_in_nI (by omega) (by omega)) ?_
  rw [nI_clamp (show n < 2 ^ 31 by omega), pk_vb]
  refine j_goto (off := 33) 75 (by decide +kernel) rfl ?_
  refine j_aload_n 0 0 76 rfl (by decide +kernel) rfl ?_
  exact j_aret (by decide +kernel) rfl (Or.inl ⟨_, rfl⟩) ⟨rfl, h', m', rfl, hq, hmm, hm2⟩ (Nat.le_of_ble_eq_true rfl) (Nat.le_of_ble_eq_true rfl)
def y_ifn : MethodName := ⟨"java/lang/AbstractStringBuilde\x72", "inflateIfNeededFo\x72", "(Ljava/lang/String;)V"⟩
def m_ifn : q_M := (prog_12_method_71_code, 2, "java/lang/AbstractStringBuilde\x72", { frames := 4, cells := 0, slots := 0, locals := 400 }, (none : Option FieldType))
theorem yv_ifn : q_Y y_ifn m_ifn 1 := ⟨rfl, ⟨by decide, by decide⟩, by decide +kernel, tw_5_144, tw_1_11⟩
set_option maxRecDepth 100000 in
set_option maxHeartbeats 4000000 in
theorem jc_ifn (l : Launch) (G : q_G) (ad : Nat → Nat) (hG : j_G G ad) (a h m n : Nat) (f : Nat → Int32) (ml : Int32) {i : Nat} (hi : i < 4) : j_Ct l G y_ifn m_ifn [.ref a, .ref (ad i)] (j_2 G a h m f ml n) (fun v W => v = none ∧ W = j_2 G a h m f ml n) := by
  refine j_Ct_of hG.1 (by decide) rfl (Nat.le_of_ble_eq_true rfl) rfl (fun X hX => ?_)
  subst hX
  refine j_gets (.int 1) 3 rfl (by decide +kernel) (fun U h => (hG.2.1 U h).1) tw_2_56 ?_
  refine j_if_eq (off := 18) 6 rfl 21 (by decide +kernel) rfl (fun h => absurd h (by decide)) (fun _ => ?_)
  refine j_aload_n 0 0 7 rfl (by decide +kernel) rfl ?_
  refine j_get (f := 1) (T := TJ4) 0 (.int 0) 10 rfl (by decide +kernel) (j_C hG) rfl (by decide) rfl tw_2_66 ?_
  refine j_aload_n 1 1 11 rfl (by decide +kernel) rfl ?_
  refine j_callT (M' := m_Scoder) i (j_spS hG) hi 14 rfl (av := []) (st := [.int 0]) (np := 0) (jc_Scoder _ G ad hG _ hi) yv_Scoder tw_5_145 tw_3_110 tw_3_111 rfl (Nat.le_of_ble_eq_true rfl) (by decide +kernel) ⟨(Nat.le_of_ble_eq_true rfl), (Nat.le_of_ble_eq_true rfl)⟩ ⟨(Nat.le_of_ble_eq_true rfl), (Nat.le_of_ble_eq_true rfl)⟩ rfl rfl ?_
  rintro _ _ ⟨rfl, rfl⟩
  refine j_icmp_eq (off := 7) 17 rfl 21 (by decide +kernel) rfl (fun _ => ?_) (fun h => absurd rfl h)
  exact j_vret (by decide +kernel) rfl ⟨rfl, rfl⟩ (Nat.le_of_ble_eq_true rfl) (Nat.le_of_ble_eq_true rfl)
def y_gB : MethodName := ⟨"java/lang/String", "getBytes", "([BIB)V"⟩
def m_gB : q_M := (prog_17_method_147_code, 4, "java/lang/String", { frames := 5, cells := 0, slots := 0, locals := 500 }, (none : Option FieldType))
theorem yv_gB : q_Y y_gB m_gB 3 := ⟨rfl, ⟨by decide, by decide⟩, by decide +kernel, tw_5_149, tw_1_13⟩
set_option maxRecDepth 100000 in
set_option maxHeartbeats 4000000 in
theorem jc_gB (l : Launch) (G : q_G) (ad : Nat → Nat) (hG : j_G G ad) (a h m n : Nat) (f : Nat → Int32) (ml : Int32) {i : Nat} (hi : i < 4) {k : Nat} (hk : k + (([4, 2, 2, 2] : List Nat).getD i 0) ≤ m) (hm : m ≤ 200) : j_Ct l G y_gB m_gB [.ref (ad i), .ref h, .int (nI k), .int 0] (j_2 G a h m f ml n) (fun v W => v = none ∧ W = j_2 G a h m (va_cpy (fun j => (([[114, 112, 119, 101], [32, 114], [32, 112], [32, 101]] : List (List Int32)).getD i []).getD j 0) f 0 k (([4, 2, 2, 2] : List Nat).getD i 0)) ml n) := by
  refine j_Ct_of hG.1 (by decide) rfl (Nat.le_of_ble_eq_true rfl) rfl (fun X hX => ?_)
  subst hX
  refine j_aload_n 0 0 1 rfl (by decide +kernel) rfl ?_
  refine j_callT (M' := m_Scoder) i (j_spS hG) hi 4 rfl (av := []) (st := []) (np := 0) (jc_Scoder _ G ad hG _ hi) yv_Scoder tw_3_109 tw_3_110 tw_3_111 rfl (Nat.le_of_ble_eq_true rfl) (by decide +kernel) ⟨(Nat.le_of_ble_eq_true rfl), (Nat.le_of_ble_eq_true rfl)⟩ ⟨(Nat.le_of_ble_eq_true rfl), (Nat.le_of_ble_eq_true rfl)⟩ rfl rfl ?_
  rintro _ _ ⟨rfl, rfl⟩
  refine j_iload_n 3 3 5 rfl (by decide +kernel) rfl ?_
  refine j_icmp_ne (off := 23) 8 rfl 28 (by decide +kernel) rfl (fun h => absurd rfl h) (fun _ => ?_)
  refine j_aload_n 0 0 9 rfl (by decide +kernel) rfl ?_
  refine j_getF (.ref (ad (i + 4))) 12 rfl (by decide +kernel) (fun U h => ((j_spS hG U h).1 i hi).2.2.1) tw_7_190 ?_
  refine j_iconst 0 (c := 0) 13 rfl (by decide +kernel) rfl ?_
  refine j_aload_n 1 1 14 rfl (by decide +kernel) rfl ?_
  refine j_iload_n 2 2 15 rfl (by decide +kernel) rfl ?_
  refine j_iload_n 3 3 16 rfl (by decide +kernel) rfl ?_
  refine j_ishl 17 rfl (by decide +kernel) ?_
  refine j_eqi (x' := (nI k)) (jx_shl _) ?_
  refine j_aload_n 0 0 18 rfl (by decide +kernel) rfl ?_
  refine j_getF (.ref (ad (i + 4))) 21 rfl (by decide +kernel) (fun U h => ((j_spS hG U h).1 i hi).2.2.1) tw_7_190 ?_
  refine j_tlen (nI (([4, 2, 2, 2] : List Nat).getD i 0)) 22 rfl (by decide +kernel) (fun U h => ((j_spS hG U h).1 i hi).2.2.2) rfl ?_
  have hl4 : (([4, 2, 2, 2] : List Nat).getD i 0) ≤ 4 := by rcases (by omega : i = 0 ∨ i = 1 ∨ i = 2 ∨ i = 3) with rfl | rfl | rfl | rfl <;> decide
  refine j_copyt (t := 6) (n0 := (([4, 2, 2, 2] : List Nat).getD i 0)) (n1 := m) (f := (fun j => (([[114, 112, 119, 101], [32, 114], [32, 112], [32, 101]] : List (List Int32)).getD i []).getD j 0)) (g := f) 1 25 rfl (by decide +kernel) tw_5_150 tw_5_26 tw_5_25 tw_1_22 (fun U h => ((j_spS hG U h).1 i hi).2.2.2) rfl hG.2.2.2.1 (by decide) (nI_pos (by omega)) (nI_pos (by omega)) (by rw [nI_clamp (by omega)]; show 0 + _ ≤ _; omega) (by rw [nI_clamp (by omega), nI_clamp (by omega)]; exact hk) (fun z hz9 => ?_) (by decide) (by decide) ?_
  · rw [nI_clamp (by omega)] at hz9
    have hz4 : z < 4 := by omega
    show fits .byte (.int ((([[114, 112, 119, 101], [32, 114], [32, 112], [32, 101]] : List (List Int32)).getD i []).getD (0 + z) 0)) = true
    rcases (by omega : i = 0 ∨ i = 1 ∨ i = 2 ∨ i = 3) with rfl | rfl | rfl | rfl <;> rcases (by omega : z = 0 ∨ z = 1 ∨ z = 2 ∨ z = 3) with rfl | rfl | rfl | rfl <;> decide
  rw [nI_clamp (show k < 2 ^ 31 by omega), nI_clamp (show (([4, 2, 2, 2] : List Nat).getD i 0) < 2 ^ 31 by omega)]
  refine j_goto (off := 18) 43 (by decide +kernel) rfl ?_
  exact j_vret (by decide +kernel) rfl ⟨rfl, rfl⟩ (Nat.le_of_ble_eq_true rfl) (Nat.le_of_ble_eq_true rfl)
def y_pSA : MethodName := ⟨"java/lang/AbstractStringBuilde\x72", "putStringAt", "(ILjava/lang/String;)V"⟩
def m_pSA : q_M := (prog_12_method_73_code, 3, "java/lang/AbstractStringBuilde\x72", { frames := 6, cells := 0, slots := 0, locals := 600 }, (none : Option FieldType))
theorem yv_pSA : q_Y y_pSA m_pSA 2 := ⟨rfl, ⟨by decide, by decide⟩, by decide +kernel, tw_5_140, tw_1_11⟩
set_option maxRecDepth 100000 in
set_option maxHeartbeats 4000000 in
theorem jc_pSA (l : Launch) (G : q_G) (ad : Nat → Nat) (hG : j_G G ad) (a h m n : Nat) (f : Nat → Int32) (ml : Int32) {i : Nat} (hi : i < 4) {k : Nat} (hk : k + (([4, 2, 2, 2] : List Nat).getD i 0) ≤ m) (hm : m ≤ 200) : j_Ct l G y_pSA m_pSA [.ref a, .int (nI k), .ref (ad i)] (j_2 G a h m f ml n) (fun v W => v = none ∧ W = j_2 G a h m (va_cpy (fun j => (([[114, 112, 119, 101], [32, 114], [32, 112], [32, 101]] : List (List Int32)).getD i []).getD j 0) f 0 k (([4, 2, 2, 2] : List Nat).getD i 0)) ml n) := by
  refine j_Ct_of hG.1 (by decide) rfl (Nat.le_of_ble_eq_true rfl) rfl (fun X hX => ?_)
  subst hX
  refine j_aload_n 0 0 1 rfl (by decide +kernel) rfl ?_
  refine j_aload_n 2 2 2 rfl (by decide +kernel) rfl ?_
  refine j_callV (M' := m_ifn) 0 5 rfl (av := [.ref (ad i)]) (st := []) (np := 1) (jc_ifn _ G ad hG a h m n f ml hi) yv_ifn tw_5_141 tw_5_143 sx_3 (j_C hG) rfl rfl (Nat.le_of_ble_eq_true rfl) (by decide +kernel) ⟨(Nat.le_of_ble_eq_true rfl), (Nat.le_of_ble_eq_true rfl)⟩ ⟨(Nat.le_of_ble_eq_true rfl), (Nat.le_of_ble_eq_true rfl)⟩ rfl rfl ?_
  rintro _ _ ⟨rfl, rfl⟩
  refine j_aload_n 2 2 6 rfl (by decide +kernel) rfl ?_
  refine j_aload_n 0 0 7 rfl (by decide +kernel) rfl ?_
  refine j_get (f := 0) (T := TJ4) 0 (.ref h) 10 rfl (by decide +kernel) (j_C hG) rfl (by decide) rfl tw_2_65 ?_
  refine j_iload_n 1 1 11 rfl (by decide +kernel) rfl ?_
  refine j_aload_n 0 0 12 rfl (by decide +kernel) rfl ?_
  refine j_get (f := 1) (T := TJ4) 0 (.int 0) 15 rfl (by decide +kernel) (j_C hG) rfl (by decide) rfl tw_2_66 ?_
  refine j_callT (M' := m_gB) i (j_spS hG) hi 18 rfl (av := [.ref h, .int (nI k), .int 0]) (st := []) (np := 3) (jc_gB _ G ad hG a h m n f ml hi hk hm) yv_gB tw_5_146 tw_5_147 tw_5_148 rfl (Nat.le_of_ble_eq_true rfl) (by decide +kernel) ⟨(Nat.le_of_ble_eq_true rfl), (Nat.le_of_ble_eq_true rfl)⟩ ⟨(Nat.le_of_ble_eq_true rfl), (Nat.le_of_ble_eq_true rfl)⟩ rfl rfl ?_
  rintro _ _ ⟨rfl, rfl⟩
  exact j_vret (by decide +kernel) rfl ⟨rfl, rfl⟩ (Nat.le_of_ble_eq_true rfl) (Nat.le_of_ble_eq_true rfl)
def y_apS : MethodName := ⟨"java/lang/AbstractStringBuilde\x72", "append", "(Ljava/lang/String;)Ljava/lang/AbstractStringBuilder;"⟩
def m_apS : q_M := (prog_12_method_22_code, 3, "java/lang/AbstractStringBuilde\x72", { frames := 7, cells := 1, slots := 200, locals := 700 }, (some (FieldType.object "java/lang/AbstractStringBuilde\x72")))
theorem yv_apS : q_Y y_apS m_apS 1 := ⟨rfl, ⟨by decide, by decide⟩, by decide +kernel, tw_5_128, tw_1_11⟩
set_option maxRecDepth 100000 in
set_option maxHeartbeats 4000000 in
theorem jc_apS (l : Launch) (G : q_G) (ad : Nat → Nat) (hG : j_G G ad) (a h m n : Nat) (f : Nat → Int32) (ml : Int32) {i : Nat} (hi : i < 4) (hn : n ≤ 90) (hm : n ≤ m ∧ m ≤ 200) (hz : ∀ j, m ≤ j → f j = 0) (hf : ∀ j, fits .byte (.int (f j)) = true) : j_Ct l G y_apS m_apS [.ref a, .ref (ad i)] (j_2 G a h m f ml n) (fun v W => v = some (.ref a) ∧ ∃ h' m', W = j_2 G a h' m' (va_cpy (fun j => (([[114, 112, 119, 101], [32, 114], [32, 112], [32, 101]] : List (List Int32)).getD i []).getD j 0) f 0 n (([4, 2, 2, 2] : List Nat).getD i 0)) ml (n + (([4, 2, 2, 2] : List Nat).getD i 0)) ∧ n + (([4, 2, 2, 2] : List Nat).getD i 0) ≤ m' ∧ m ≤ m' ∧ m' ≤ 200) := by
  refine j_Ct_of hG.1 (by decide) rfl (Nat.le_of_ble_eq_true rfl) rfl (fun X hX => ?_)
  subst hX
  have hl4 : (([4, 2, 2, 2] : List Nat).getD i 0) ≤ 4 := by rcases (by omega : i = 0 ∨ i = 1 ∨ i = 2 ∨ i = 3) with rfl | rfl | rfl | rfl <;> decide
  refine j_aload_n 1 1 1 rfl (by decide +kernel) rfl ?_
  refine j_ifnonnull (off := 8) 9 (by decide +kernel) rfl ?_
  refine j_aload_n 1 1 10 rfl (by decide +kernel) rfl ?_
  refine j_callT (M' := m_Slen) i (j_spS hG) hi 13 rfl (av := []) (st := []) (np := 0) (jc_Slen _ G ad hG _ hi) yv_Slen tw_5_136 tw_3_106 tw_3_107 rfl (Nat.le_of_ble_eq_true rfl) (by decide +kernel) ⟨(Nat.le_of_ble_eq_true rfl), (Nat.le_of_ble_eq_true rfl)⟩ ⟨(Nat.le_of_ble_eq_true rfl), (Nat.le_of_ble_eq_true rfl)⟩ rfl rfl ?_
  rintro _ _ ⟨rfl, rfl⟩
  refine j_istore_n 2 2 14 rfl [(2, .int (nI (([4, 2, 2, 2] : List Nat).getD i 0))), (0, .ref a), (1, .ref (ad i))] (by decide +kernel) rfl (Nat.le_of_ble_eq_true rfl) rfl ?_
  refine j_aload_n 1 0 15 rfl (by decide +kernel) rfl ?_
  refine j_aload_n 1 0 16 rfl (by decide +kernel) rfl ?_
  refine j_get (f := 3) (T := TJ4) 0 (.int (nI n)) 19 rfl (by decide +kernel) (j_C hG) rfl (by decide) rfl tw_2_68 ?_
  refine j_iload_n 0 2 20 rfl (by decide +kernel) rfl ?_
  refine j_iadd 21 rfl (by decide +kernel) ?_
  refine j_eqi (x' := (nI (n + (([4, 2, 2, 2] : List Nat).getD i 0)))) (nI_add _ _) ?_
  refine j_callV (M' := m_ens) 0 24 rfl (av := [.int (nI (n + (([4, 2, 2, 2] : List Nat).getD i 0)))]) (st := []) (np := 1) (jc_ens _ G ad hG a h m n f ml (by omega) hm hz hf) yv_ens tw_4_236 tw_4_238 sx_0 (j_C hG) rfl rfl (Nat.le_of_ble_eq_true rfl) (by decide +kernel) ⟨(Nat.le_of_ble_eq_true rfl), (Nat.le_of_ble_eq_true rfl)⟩ ⟨(Nat.le_of_ble_eq_true rfl), (Nat.le_of_ble_eq_true rfl)⟩ rfl rfl ?_
  rintro _ _ ⟨rfl, h', m', rfl, hq, hmm, hm2⟩
  refine j_aload_n 1 0 25 rfl (by decide +kernel) rfl ?_
  refine j_aload_n 1 0 26 rfl (by decide +kernel) rfl ?_
  refine j_get (f := 3) (T := TJ4) 0 (.int (nI n)) 29 rfl (by decide +kernel) (j_C hG) rfl (by decide) rfl tw_2_68 ?_
  refine j_aload_n 2 1 30 rfl (by decide +kernel) rfl ?_
  refine j_callV (M' := m_pSA) 0 33 rfl (av := [.int (nI n), .ref (ad i)]) (st := []) (np := 2) (jc_pSA _ G ad hG a h' m' n f ml hi hq hm2) yv_pSA tw_5_137 tw_5_139 sx_2 (j_C hG) rfl rfl (Nat.le_of_ble_eq_true rfl) (by decide +kernel) ⟨(Nat.le_of_ble_eq_true rfl), (Nat.le_of_ble_eq_true rfl)⟩ ⟨(Nat.le_of_ble_eq_true rfl), (Nat.le_of_ble_eq_true rfl)⟩ rfl rfl ?_
  rintro _ _ ⟨rfl, rfl⟩
  refine j_aload_n 1 0 34 rfl (by decide +kernel) rfl ?_
  refine j_dup 35 rfl (by decide +kernel) rfl ?_
  refine j_get (f := 3) (T := TJ4) 0 (.int (nI n)) 38 rfl (by decide +kernel) (j_C hG) rfl (by decide) rfl tw_2_68 ?_
  refine j_iload_n 0 2 39 rfl (by decide +kernel) rfl ?_
  refine j_iadd 40 rfl (by decide +kernel) ?_
  refine j_eqi (x' := (nI (n + (([4, 2, 2, 2] : List Nat).getD i 0)))) (nI_add _ _) ?_
  refine j_put (f := 3) (T := TJ4) 0 43 rfl (by decide +kernel) (j_C hG) rfl (by decide) (Nat.le_of_ble_eq_true rfl) rfl rfl rfl tw_2_68 ?_
  refine j_aload_n 1 0 44 rfl (by decide +kernel) rfl ?_
  exact j_aret (by decide +kernel) rfl (Or.inl ⟨_, rfl⟩) ⟨rfl, h', m', rfl, hq, hmm, hm2⟩ (Nat.le_of_ble_eq_true rfl) (Nat.le_of_ble_eq_true rfl)
