abbrev j_2 (G : q_G) (a h m : Nat) (f : Nat → Int32) (ml : Int32) (n : Nat) : va_W := [(a, .inr (9, [.ref h, .int 0, .int ml, .int (nI n)])), (h, .inl (q_tc G 6, m, .inl f))]
theorem jx_shr (x : Int32) : x >>> ((0 : Int32) &&& 31) = x := sb_shr0 x
theorem jx_shl (x : Int32) : x <<< ((0 : Int32) &&& 31) = x := sb_shl0 x
theorem j_spS {G : q_G} {ad : Nat → Nat} (hG : j_G G ad) : ∀ U, q_sp G U → vk_S 4 [4, 2, 2, 2] [[114, 112, 119, 101], [32, 114], [32, 112], [32, 101]] ad (fun i => ad (i + 4)) (q_A G) U U.heap := fun U h => (hG.2.1 U h).2.2.2.2.2.2.1
theorem j_mono {G : q_G} {M : q_M} {X : q_X} {R : Option Value → va_W → Prop} {k n pc : Nat} {L : List (Nat × Value)} {st : List Value} {WL WL' : va_W} (h : ∀ H, va_P (q_D G) (q_cl G) WL H ∧ va_D (q_A G) WL → va_P (q_D G) (q_cl G) WL' H ∧ va_D (q_A G) WL') (kk : j_V G M X R k n pc L st WL') : j_V G M X R k n pc L st WL := fun K H locs ls hW hS hl => kk K H locs ls (h H hW) hS hl
theorem j_drop {G : q_G} {H : Heap} {x y z : Nat × va_E} (h : va_P (q_D G) (q_cl G) [x, y, z] H ∧ va_D (q_A G) [x, y, z]) : va_P (q_D G) (q_cl G) [x, z] H ∧ va_D (q_A G) [x, z] :=
  ⟨h.1.sub [0, 2] rfl, h.2.sub [0, 2] (by decide) rfl⟩
theorem j_lo {G : q_G} {H : Heap} {a h m n : Nat} {f : Nat → Int32} {ml : Int32} (hW : va_P (q_D G) (q_cl G) (j_2 G a h m f ml n) H ∧ va_D (q_A G) (j_2 G a h m f ml n)) : a ≠ h := fun e => by
  have := hW.2.1 0 1 _ _ rfl rfl e
  cases this
section JM
variable {G : q_G} {M : q_M} {X : q_X} {R : Option Value → va_W → Prop} {k n pc : Nat} {L : List (Nat × Value)} {st : List Value} {WL : va_W}
theorem j_mmax {x y : Int32} {idx : Nat} (q : Nat) (e : pc + 3 = q) (d : decode M.1 pc = .ok (.invokestatic idx, 3)) (h1 : Cond.methodLink M.2.2.1 idx Lib.Math.max.name ∈ q_gw) (h2 : Cond.static Lib.Math.max.name ∈ q_gw) (h3 : Cond.initialized "java/lang/Math" ∈ q_gw) (h4 : Cond.code Lib.Math.max.name Lib.Math.max.code 2 (some .int) ∈ q_gw) (hfr : 1 ≤ M.2.2.2.1.frames) (hlo : (st.map fun v => v.category).sum + 13 ≤ M.2.2.2.1.locals) (hk : k ≤ M.2.2.2.1.cells) (hn : n ≤ M.2.2.2.1.slots) (kk : j_V G M X R k n q L (.int (if x < y then y else x) :: st) WL) : j_V G M X R k n pc L (.int y :: .int x :: st) WL := by
  subst e
  intro K H locs ls hW hS hl
  exact va_mmax K.1 K.2.1 (K.2.2.1.trans hl.1.symm) K.2.2.2.1 (K.2.2.2.2.1 _ h1) (K.2.2.2.2.1 _ h2) (K.2.2.2.2.1 _ h3) (K.2.2.2.2.1 _ h4) hfr hlo hk hn d (kk K H locs ls hW hS hl)
theorem j_mmin {x y : Int32} {idx : Nat} (q : Nat) (e : pc + 3 = q) (d : decode M.1 pc = .ok (.invokestatic idx, 3)) (h1 : Cond.methodLink M.2.2.1 idx Lib.Math.min.name ∈ q_gw) (h2 : Cond.static Lib.Math.min.name ∈ q_gw) (h3 : Cond.initialized "java/lang/Math" ∈ q_gw) (h4 : Cond.code Lib.Math.min.name Lib.Math.min.code 2 (some .int) ∈ q_gw) (hfr : 1 ≤ M.2.2.2.1.frames) (hlo : (st.map fun v => v.category).sum + 13 ≤ M.2.2.2.1.locals) (hk : k ≤ M.2.2.2.1.cells) (hn : n ≤ M.2.2.2.1.slots) (kk : j_V G M X R k n q L (.int (if y < x then y else x) :: st) WL) : j_V G M X R k n pc L (.int y :: .int x :: st) WL := by
  subst e
  intro K H locs ls hW hS hl
  exact va_mmin K.1 K.2.1 (K.2.2.1.trans hl.1.symm) K.2.2.2.1 (K.2.2.2.2.1 _ h1) (K.2.2.2.2.1 _ h2) (K.2.2.2.2.1 _ h3) (K.2.2.2.2.1 _ h4) hfr hlo hk hn d (kk K H locs ls hW hS hl)
end JM
def y_Scoder : MethodName := ⟨"java/lang/String", "code\x72", "()B"⟩
def m_Scoder : q_M := (prog_17_method_152_code, 1, "java/lang/String", { frames := 3, cells := 0, slots := 0, locals := 300 }, (some FieldType.byte))
theorem yv_Scoder : q_Y y_Scoder m_Scoder 0 := ⟨rfl, ⟨by decide, by decide⟩, by decide +kernel, tw_3_112, tw_1_13⟩
set_option maxRecDepth 100000 in
set_option maxHeartbeats 4000000 in
theorem jc_Scoder (l : Launch) (G : q_G) (ad : Nat → Nat) (hG : j_G G ad) (WL : va_W) {i : Nat} (hi : i < 4) : j_Ct l G y_Scoder m_Scoder [.ref (ad i)] (WL) (fun v W => v = some (.int 0) ∧ WL = W) := by
  refine j_Ct_of hG.1 (by decide) rfl (Nat.le_of_ble_eq_true rfl) rfl (fun X hX => ?_)
  subst hX
  refine j_gets (.int 1) 3 rfl (by decide +kernel) (fun U h => (hG.2.1 U h).1) tw_3_113 ?_
  refine j_if_eq (off := 10) 6 rfl 13 (by decide +kernel) rfl (fun h => absurd h (by decide)) (fun _ => ?_)
  refine j_aload_n 0 0 7 rfl (by decide +kernel) rfl ?_
  refine j_getF (.int 0) 10 rfl (by decide +kernel) (fun U h => ((j_spS hG U h).1 i hi).2.1) tw_7_191 ?_
  refine j_goto (off := 4) 14 (by decide +kernel) rfl ?_
  exact j_zret (w := 0) (by decide +kernel) rfl rfl ⟨rfl, rfl⟩ (Nat.le_of_ble_eq_true rfl) (Nat.le_of_ble_eq_true rfl)
def y_SisLatin1 : MethodName := ⟨"java/lang/String", "isLatin1", "()Z"⟩
def m_SisLatin1 : q_M := (prog_17_method_154_code, 1, "java/lang/String", { frames := 3, cells := 0, slots := 0, locals := 300 }, (some FieldType.boolean))
theorem yv_SisLatin1 : q_Y y_SisLatin1 m_SisLatin1 0 := ⟨rfl, ⟨by decide, by decide⟩, by decide +kernel, tw_3_194, tw_1_13⟩
set_option maxRecDepth 100000 in
set_option maxHeartbeats 4000000 in
theorem jc_SisLatin1 (l : Launch) (G : q_G) (ad : Nat → Nat) (hG : j_G G ad) (WL : va_W) {i : Nat} (hi : i < 4) : j_Ct l G y_SisLatin1 m_SisLatin1 [.ref (ad i)] (WL) (fun v W => v = some (.int 1) ∧ WL = W) := by
  refine j_Ct_of hG.1 (by decide) rfl (Nat.le_of_ble_eq_true rfl) rfl (fun X hX => ?_)
  subst hX
  refine j_gets (.int 1) 3 rfl (by decide +kernel) (fun U h => (hG.2.1 U h).1) tw_3_113 ?_
  refine j_if_eq (off := 14) 6 rfl 17 (by decide +kernel) rfl (fun h => absurd h (by decide)) (fun _ => ?_)
  refine j_aload_n 0 0 7 rfl (by decide +kernel) rfl ?_
  refine j_getF (.int 0) 10 rfl (by decide +kernel) (fun U h => ((j_spS hG U h).1 i hi).2.1) tw_7_191 ?_
  refine j_if_ne (off := 7) 13 rfl 17 (by decide +kernel) rfl (fun h => absurd rfl h) (fun _ => ?_)
  refine j_iconst 1 (c := 1) 14 rfl (by decide +kernel) rfl ?_
  refine j_goto (off := 4) 18 (by decide +kernel) rfl ?_
  exact j_zret (w := 1) (by decide +kernel) rfl rfl ⟨rfl, rfl⟩ (Nat.le_of_ble_eq_true rfl) (Nat.le_of_ble_eq_true rfl)
def y_Slen : MethodName := ⟨"java/lang/String", "length", "()I"⟩
def m_Slen : q_M := (prog_17_method_54_code, 1, "java/lang/String", { frames := 4, cells := 0, slots := 0, locals := 400 }, (some FieldType.int))
theorem yv_Slen : q_Y y_Slen m_Slen 0 := ⟨rfl, ⟨by decide, by decide⟩, by decide +kernel, tw_3_108, tw_1_13⟩
set_option maxRecDepth 100000 in
set_option maxHeartbeats 4000000 in
theorem jc_Slen (l : Launch) (G : q_G) (ad : Nat → Nat) (hG : j_G G ad) (WL : va_W) {i : Nat} (hi : i < 4) : j_Ct l G y_Slen m_Slen [.ref (ad i)] (WL) (fun v W => v = some (.int (nI (([4, 2, 2, 2] : List Nat).getD i 0))) ∧ WL = W) := by
  refine j_Ct_of hG.1 (by decide) rfl (Nat.le_of_ble_eq_true rfl) rfl (fun X hX => ?_)
  subst hX
  refine j_aload_n 0 0 1 rfl (by decide +kernel) rfl ?_
  refine j_getF (.ref (ad (i + 4))) 4 rfl (by decide +kernel) (fun U h => ((j_spS hG U h).1 i hi).2.2.1) tw_7_190 ?_
  refine j_tlen (nI (([4, 2, 2, 2] : List Nat).getD i 0)) 5 rfl (by decide +kernel) (fun U h => ((j_spS hG U h).1 i hi).2.2.2) rfl ?_
  refine j_aload_n 0 0 6 rfl (by decide +kernel) rfl ?_
  refine j_callT (M' := m_Scoder) i (j_spS hG) hi 9 rfl (av := []) (st := [.int (nI (([4, 2, 2, 2] : List Nat).getD i 0))]) (np := 0) (jc_Scoder _ G ad hG WL hi) yv_Scoder tw_3_109 tw_3_110 tw_3_111 rfl (Nat.le_of_ble_eq_true rfl) (by decide +kernel) ⟨(Nat.le_of_ble_eq_true rfl), (Nat.le_of_ble_eq_true rfl)⟩ ⟨(Nat.le_of_ble_eq_true rfl), (Nat.le_of_ble_eq_true rfl)⟩ rfl rfl ?_
  rintro _ _ ⟨rfl, rfl⟩
  refine j_ishr 10 rfl (by decide +kernel) ?_
  refine j_eqi (x' := (nI (([4, 2, 2, 2] : List Nat).getD i 0))) (jx_shr _) ?_
  exact j_iret (by decide +kernel) rfl ⟨rfl, rfl⟩ (Nat.le_of_ble_eq_true rfl) (Nat.le_of_ble_eq_true rfl)
set_option maxRecDepth 100000 in
set_option maxHeartbeats 4000000 in
theorem jc_JS_length (l : Launch) (G : q_G) (ad : Nat → Nat) (hG : j_G G ad) (WL : va_W) {i : Nat} (hi : i < 4) : j_Ct l G y_JS_length m_JS_length [.ref (ad i)] (WL) (fun v W => v = some (.int (nI (([4, 2, 2, 2] : List Nat).getD i 0))) ∧ WL = W) := by
  refine j_Ct_of hG.1 (by decide) rfl (Nat.le_of_ble_eq_true rfl) rfl (fun X hX => ?_)
  subst hX
  refine j_aload_n 0 0 1 rfl (by decide +kernel) rfl ?_
  refine j_getF (.ref (ad (i + 4))) 4 rfl (by decide +kernel) (fun U h => ((j_spS hG U h).1 i hi).2.2.1) tw_7_190 ?_
  refine j_tlen (nI (([4, 2, 2, 2] : List Nat).getD i 0)) 5 rfl (by decide +kernel) (fun U h => ((j_spS hG U h).1 i hi).2.2.2) rfl ?_
  refine j_aload_n 0 0 6 rfl (by decide +kernel) rfl ?_
  refine j_callT (M' := m_Scoder) i (j_spS hG) hi 9 rfl (av := []) (st := [.int (nI (([4, 2, 2, 2] : List Nat).getD i 0))]) (np := 0) (jc_Scoder _ G ad hG WL hi) yv_Scoder tw_3_109 tw_3_110 tw_3_111 rfl (Nat.le_of_ble_eq_true rfl) (by decide +kernel) ⟨(Nat.le_of_ble_eq_true rfl), (Nat.le_of_ble_eq_true rfl)⟩ ⟨(Nat.le_of_ble_eq_true rfl), (Nat.le_of_ble_eq_true rfl)⟩ rfl rfl ?_
  rintro _ _ ⟨rfl, rfl⟩
  refine j_ishr 10 rfl (by decide +kernel) ?_
  refine j_eqi (x' := (nI (([4, 2, 2, 2] : List Nat).getD i 0))) (jx_shr _) ?_
  exact j_iret (by decide +kernel) rfl ⟨rfl, rfl⟩ (Nat.le_of_ble_eq_true rfl) (Nat.le_of_ble_eq_true rfl)
def y_cEC : MethodName := ⟨"java/lang/StringLatin1", "canEncode", "(C)Z"⟩
def m_cEC : q_M := (prog_19_method_3_code, 1, "java/lang/StringLatin1", { frames := 2, cells := 0, slots := 0, locals := 200 }, (some FieldType.boolean))
theorem yv_cEC : q_Y y_cEC m_cEC 1 := ⟨rfl, ⟨by decide, by decide⟩, by decide +kernel, tw_5_34, tw_1_18⟩
set_option maxRecDepth 100000 in
set_option maxHeartbeats 4000000 in
theorem jc_cEC (l : Launch) (G : q_G) (ad : Nat → Nat) (hG : j_G G ad) (WL : va_W) {c : Int32} (hc : c ≤ 255) : j_Ct l G y_cEC m_cEC [.int c] (WL) (fun v W => v = some (.int 1) ∧ WL = W) := by
  refine j_Ct_of hG.1 (by decide) rfl (Nat.le_of_ble_eq_true rfl) rfl (fun X hX => ?_)
  subst hX
  refine j_iload_n 0 0 1 rfl (by decide +kernel) rfl ?_
  refine j_sipush 255 (c := 255) 4 rfl (by decide +kernel) rfl ?_
  refine j_icmp_gt (off := 7) 7 rfl 11 (by decide +kernel) rfl (fun h => absurd h (Int32.not_lt.mpr hc)) (fun _ => ?_)
  refine j_iconst 1 (c := 1) 8 rfl (by decide +kernel) rfl ?_
  refine j_goto (off := 4) 12 (by decide +kernel) rfl ?_
  exact j_zret (w := 1) (by decide +kernel) rfl rfl ⟨rfl, rfl⟩ (Nat.le_of_ble_eq_true rfl) (Nat.le_of_ble_eq_true rfl)
def y_cEI : MethodName := ⟨"java/lang/StringLatin1", "canEncode", "(I)Z"⟩
def m_cEI : q_M := (prog_19_method_4_code, 1, "java/lang/StringLatin1", { frames := 2, cells := 0, slots := 0, locals := 200 }, (some FieldType.boolean))
theorem yv_cEI : q_Y y_cEI m_cEI 1 := ⟨rfl, ⟨by decide, by decide⟩, by decide +kernel, tw_3_201, tw_1_18⟩
set_option maxRecDepth 100000 in
set_option maxHeartbeats 4000000 in
theorem jc_cEI (l : Launch) (G : q_G) (ad : Nat → Nat) (hG : j_G G ad) (WL : va_W) (c : Int32) : j_Ct l G y_cEI m_cEI [.int c] (WL) (fun v W => v = some (.int (if 0 ≤ c ∧ c ≤ 255 then 1 else 0)) ∧ WL = W) := by
  refine j_Ct_of hG.1 (by decide) rfl (Nat.le_of_ble_eq_true rfl) rfl (fun X hX => ?_)
  subst hX
  refine j_iload_n 0 0 1 rfl (by decide +kernel) rfl ?_
  by_cases h0 : c < 0
  · refine j_if_lt (off := 14) 4 rfl 15 (by decide +kernel) rfl (fun _ => ?_) (fun h => absurd h0 h)
    refine j_iconst 0 (c := 0) 16 rfl (by decide +kernel) rfl ?_
    exact j_zret (w := 0) (by decide +kernel) rfl rfl ⟨by rw [if_neg (fun q => Int32.not_lt.mpr q.1 h0)], rfl⟩ (Nat.le_of_ble_eq_true rfl) (Nat.le_of_ble_eq_true rfl)
  · refine j_if_lt (off := 14) 4 rfl 15 (by decide +kernel) rfl (fun h => absurd h h0) (fun _ => ?_)
    refine j_iload_n 0 0 5 rfl (by decide +kernel) rfl ?_
    refine j_sipush 255 (c := 255) 8 rfl (by decide +kernel) rfl ?_
    by_cases h1 : 255 < c
    · refine j_icmp_gt (off := 7) 11 rfl 15 (by decide +kernel) rfl (fun _ => ?_) (fun h => absurd h1 h)
      refine j_iconst 0 (c := 0) 16 rfl (by decide +kernel) rfl ?_
      exact j_zret (w := 0) (by decide +kernel) rfl rfl ⟨by rw [if_neg (fun q => Int32.not_lt.mpr q.2 h1)], rfl⟩ (Nat.le_of_ble_eq_true rfl) (Nat.le_of_ble_eq_true rfl)
    · refine j_icmp_gt (off := 7) 11 rfl 15 (by decide +kernel) rfl (fun h => absurd h h1) (fun _ => ?_)
      refine j_iconst 1 (c := 1) 12 rfl (by decide +kernel) rfl ?_
      refine j_goto (off := 4) 16 (by decide +kernel) rfl ?_
      exact j_zret (w := 1) (by decide +kernel) rfl rfl ⟨by rw [if_pos ⟨Int32.not_lt.mp h0, Int32.not_lt.mp h1⟩], rfl⟩ (Nat.le_of_ble_eq_true rfl) (Nat.le_of_ble_eq_true rfl)
def jx_pos (c : Int32) : Int32 := if c = 114 then 0 else if c = 112 then 1 else if c = 119 then 2 else if c = 101 then 3 else (-1)
theorem jx_b : ∀ k, k < 256 → ((nI k).toInt8.toInt32 = 114 → nI k = 114) ∧ ((nI k).toInt8.toInt32 = 112 → nI k = 112) ∧ ((nI k).toInt8.toInt32 = 119 → nI k = 119) ∧ ((nI k).toInt8.toInt32 = 101 → nI k = 101) := by decide +kernel
def y_LiC : MethodName := ⟨"java/lang/StringLatin1", "indexOfCha\x72", "([BIII)I"⟩
def m_LiC : q_M := (prog_19_method_23_code, 6, "java/lang/StringLatin1", { frames := 3, cells := 0, slots := 0, locals := 300 }, (some FieldType.int))
theorem yv_LiC : q_Y y_LiC m_LiC 4 := ⟨rfl, ⟨by decide, by decide⟩, by decide +kernel, tw_3_206, tw_1_18⟩
set_option maxRecDepth 100000 in
set_option maxHeartbeats 4000000 in
theorem jc_LiC (l : Launch) (G : q_G) (ad : Nat → Nat) (hG : j_G G ad) (WL : va_W) {c : Int32} (hc : 0 ≤ c ∧ c ≤ 255) : j_Ct l G y_LiC m_LiC [.ref (ad 4), .int c, .int 0, .int 4] (WL) (fun v W => v = some (.int (jx_pos c)) ∧ WL = W) := by
  refine j_Ct_of hG.1 (by decide) rfl (Nat.le_of_ble_eq_true rfl) rfl (fun X hX => ?_)
  subst hX
  have hb : (c.toInt8.toInt32 = 114 → c = 114) ∧ (c.toInt8.toInt32 = 112 → c = 112) ∧ (c.toInt8.toInt32 = 119 → c = 119) ∧ (c.toInt8.toInt32 = 101 → c = 101) := by
    obtain ⟨k, hk, rfl⟩ := nI_of2 (M := 255) (n := 255) (by decide) (Int32.not_lt.mpr hc.1) hc.2
    exact jx_b k (by omega)
  refine j_iload_n 1 1 1 rfl (by decide +kernel) rfl ?_
  refine j_i2b 2 rfl (by decide +kernel) ?_
  refine j_istore 4 4 rfl [(4, .int (c).toInt8.toInt32), (0, .ref (ad 4)), (1, .int c), (2, .int 0), (3, .int 4)] (by decide +kernel) (Nat.le_of_ble_eq_true rfl) rfl ?_
  refine j_iload_n 3 2 5 rfl (by decide +kernel) rfl ?_
  refine j_istore 5 7 rfl [(5, .int 0), (4, .int (c).toInt8.toInt32), (0, .ref (ad 4)), (1, .int c), (2, .int 0), (3, .int 4)] (by decide +kernel) (Nat.le_of_ble_eq_true rfl) rfl ?_
  refine j_iload 0 5 9 rfl (by decide +kernel) rfl ?_
  refine j_iload_n 5 3 10 rfl (by decide +kernel) rfl ?_
  refine j_icmp_ge (off := 21) 13 rfl 31 (by decide +kernel) rfl (fun h => absurd h (by decide)) (fun _ => ?_)
  refine j_aload_n 2 0 14 rfl (by decide +kernel) rfl ?_
  refine j_iload 0 5 16 rfl (by decide +kernel) rfl ?_
  refine j_tb (.int 114) 17 rfl (by decide +kernel) (fun U h => ((j_spS hG U h).1 0 (by decide)).2.2.2) (vp_in_iff.mpr (by decide)) rfl ?_
  refine j_iload 1 4 19 rfl (by decide +kernel) rfl ?_
  by_cases h0 : c = 114
  · refine j_icmp_ne (off := 6) 22 rfl 25 (by decide +kernel) rfl (fun h => absurd (by rw [h0]; decide) h) (fun _ => ?_)
    refine j_iload 0 5 24 rfl (by decide +kernel) rfl ?_
    exact j_iret (by decide +kernel) rfl ⟨by unfold jx_pos; rw [if_pos h0]; (try rfl), rfl⟩ (Nat.le_of_ble_eq_true rfl) (Nat.le_of_ble_eq_true rfl)
  · refine j_icmp_ne (off := 6) 22 rfl 25 (by decide +kernel) rfl (fun _ => ?_) (fun h => absurd h (fun e => h0 (hb.1 e.symm)))
    refine j_iinc ((0 + 1)) (c := 1) 5 0 28 rfl [(5, .int (0 + 1)), (4, .int (c).toInt8.toInt32), (0, .ref (ad 4)), (1, .int c), (2, .int 0), (3, .int 4)] (by decide +kernel) rfl rfl (Nat.le_of_ble_eq_true rfl) rfl ?_
    refine j_goto (off := -21) 7 (by decide +kernel) rfl ?_
    refine j_iload 0 5 9 rfl (by decide +kernel) rfl ?_
    refine j_iload_n 5 3 10 rfl (by decide +kernel) rfl ?_
    refine j_icmp_ge (off := 21) 13 rfl 31 (by decide +kernel) rfl (fun h => absurd h (by decide)) (fun _ => ?_)
    refine j_aload_n 2 0 14 rfl (by decide +kernel) rfl ?_
    refine j_iload 0 5 16 rfl (by decide +kernel) rfl ?_
    refine j_tb (.int 112) 17 rfl (by decide +kernel) (fun U h => ((j_spS hG U h).1 0 (by decide)).2.2.2) (vp_in_iff.mpr (by decide)) rfl ?_
    refine j_iload 1 4 19 rfl (by decide +kernel) rfl ?_
    by_cases h1 : c = 112
    · refine j_icmp_ne (off := 6) 22 rfl 25 (by decide +kernel) rfl (fun h => absurd (by rw [h1]; decide) h) (fun _ => ?_)
      refine j_iload 0 5 24 rfl (by decide +kernel) rfl ?_
      exact j_iret (by decide +kernel) rfl ⟨by unfold jx_pos; rw [if_neg h0]; rw [if_pos h1]; (try rfl), rfl⟩ (Nat.le_of_ble_eq_true rfl) (Nat.le_of_ble_eq_true rfl)
    · refine j_icmp_ne (off := 6) 22 rfl 25 (by decide +kernel) rfl (fun _ => ?_) (fun h => absurd h (fun e => h1 (hb.2.1 e.symm)))
      refine j_iinc (((0 + 1) + 1)) (c := 1) 5 0 28 rfl [(5, .int ((0 + 1) + 1)), (4, .int (c).toInt8.toInt32), (0, .ref (ad 4)), (1, .int c), (2, .int 0), (3, .int 4)] (by decide +kernel) rfl rfl (Nat.le_of_ble_eq_true rfl) rfl ?_
      refine j_goto (off := -21) 7 (by decide +kernel) rfl ?_
      refine j_iload 0 5 9 rfl (by decide +kernel) rfl ?_
      refine j_iload_n 5 3 10 rfl (by decide +kernel) rfl ?_
      refine j_icmp_ge (off := 21) 13 rfl 31 (by decide +kernel) rfl (fun h => absurd h (by decide)) (fun _ => ?_)
      refine j_aload_n 2 0 14 rfl (by decide +kernel) rfl ?_
      refine j_iload 0 5 16 rfl (by decide +kernel) rfl ?_
      refine j_tb (.int 119) 17 rfl (by decide +kernel) (fun U h => ((j_spS hG U h).1 0 (by decide)).2.2.2) (vp_in_iff.mpr (by decide)) rfl ?_
      refine j_iload 1 4 19 rfl (by decide +kernel) rfl ?_
      by_cases h2 : c = 119
      · refine j_icmp_ne (off := 6) 22 rfl 25 (by decide +kernel) rfl (fun h => absurd (by rw [h2]; decide) h) (fun _ => ?_)
        refine j_iload 0 5 24 rfl (by decide +kernel) rfl ?_
        exact j_iret (by decide +kernel) rfl ⟨by unfold jx_pos; rw [if_neg h0]; rw [if_neg h1]; rw [if_pos h2]; (try rfl), rfl⟩ (Nat.le_of_ble_eq_true rfl) (Nat.le_of_ble_eq_true rfl)
      · refine j_icmp_ne (off := 6) 22 rfl 25 (by decide +kernel) rfl (fun _ => ?_) (fun h => absurd h (fun e => h2 (hb.2.2.1 e.symm)))
        refine j_iinc ((((0 + 1) + 1) + 1)) (c := 1) 5 0 28 rfl [(5, .int (((0 + 1) + 1) + 1)), (4, .int (c).toInt8.toInt32), (0, .ref (ad 4)), (1, .int c), (2, .int 0), (3, .int 4)] (by decide +kernel) rfl rfl (Nat.le_of_ble_eq_true rfl) rfl ?_
        refine j_goto (off := -21) 7 (by decide +kernel) rfl ?_
        refine j_iload 0 5 9 rfl (by decide +kernel) rfl ?_
        refine j_iload_n 5 3 10 rfl (by decide +kernel) rfl ?_
        refine j_icmp_ge (off := 21) 13 rfl 31 (by decide +kernel) rfl (fun h => absurd h (by decide)) (fun _ => ?_)
        refine j_aload_n 2 0 14 rfl (by decide +kernel) rfl ?_
        refine j_iload 0 5 16 rfl (by decide +kernel) rfl ?_
        refine j_tb (.int 101) 17 rfl (by decide +kernel) (fun U h => ((j_spS hG U h).1 0 (by decide)).2.2.2) (vp_in_iff.mpr (by decide)) rfl ?_
        refine j_iload 1 4 19 rfl (by decide +kernel) rfl ?_
        by_cases h3 : c = 101
        · refine j_icmp_ne (off := 6) 22 rfl 25 (by decide +kernel) rfl (fun h => absurd (by rw [h3]; decide) h) (fun _ => ?_)
          refine j_iload 0 5 24 rfl (by decide +kernel) rfl ?_
          exact j_iret (by decide +kernel) rfl ⟨by unfold jx_pos; rw [if_neg h0]; rw [if_neg h1]; rw [if_neg h2]; rw [if_pos h3]; (try rfl), rfl⟩ (Nat.le_of_ble_eq_true rfl) (Nat.le_of_ble_eq_true rfl)
        · refine j_icmp_ne (off := 6) 22 rfl 25 (by decide +kernel) rfl (fun _ => ?_) (fun h => absurd h (fun e => h3 (hb.2.2.2 e.symm)))
          refine j_iinc (((((0 + 1) + 1) + 1) + 1)) (c := 1) 5 0 28 rfl [(5, .int ((((0 + 1) + 1) + 1) + 1)), (4, .int (c).toInt8.toInt32), (0, .ref (ad 4)), (1, .int c), (2, .int 0), (3, .int 4)] (by decide +kernel) rfl rfl (Nat.le_of_ble_eq_true rfl) rfl ?_
          refine j_goto (off := -21) 7 (by decide +kernel) rfl ?_
          refine j_iload 0 5 9 rfl (by decide +kernel) rfl ?_
          refine j_iload_n 5 3 10 rfl (by decide +kernel) rfl ?_
          refine j_icmp_ge (off := 21) 13 rfl 31 (by decide +kernel) rfl (fun _ => ?_) (fun h => absurd (by decide) h)
          refine j_iconst (-1) (c := -1) 32 rfl (by decide +kernel) rfl ?_
          exact j_iret (by decide +kernel) rfl ⟨by unfold jx_pos; rw [if_neg h0, if_neg h1, if_neg h2, if_neg h3], rfl⟩ (Nat.le_of_ble_eq_true rfl) (Nat.le_of_ble_eq_true rfl)
def y_Lio : MethodName := ⟨"java/lang/StringLatin1", "indexOf", "([BIII)I"⟩
def m_Lio : q_M := (prog_19_method_22_code, 4, "java/lang/StringLatin1", { frames := 5, cells := 0, slots := 0, locals := 500 }, (some FieldType.int))
theorem yv_Lio : q_Y y_Lio m_Lio 4 := ⟨rfl, ⟨by decide, by decide⟩, by decide +kernel, tw_3_198, tw_1_18⟩
set_option maxRecDepth 100000 in
set_option maxHeartbeats 4000000 in
theorem jc_Lio (l : Launch) (G : q_G) (ad : Nat → Nat) (hG : j_G G ad) (WL : va_W) (c : Int32) : j_Ct l G y_Lio m_Lio [.ref (ad 4), .int c, .int 0, .int 4] (WL) (fun v W => v = some (.int (jx_pos c)) ∧ WL = W) := by
  refine j_Ct_of hG.1 (by decide) rfl (Nat.le_of_ble_eq_true rfl) rfl (fun X hX => ?_)
  subst hX
  refine j_iload_n 1 1 1 rfl (by decide +kernel) rfl ?_
  refine j_callS (M' := m_cEI) 4 rfl (av := [.int c]) (st := []) (np := 1) (jc_cEI _ G ad hG WL c) yv_cEI tw_3_199 tw_3_200 rfl (Nat.le_of_ble_eq_true rfl) (by decide +kernel) ⟨(Nat.le_of_ble_eq_true rfl), (Nat.le_of_ble_eq_true rfl)⟩ ⟨(Nat.le_of_ble_eq_true rfl), (Nat.le_of_ble_eq_true rfl)⟩ rfl rfl ?_
  rintro _ _ ⟨rfl, rfl⟩
  by_cases hc : 0 ≤ c ∧ c ≤ 255
  · rw [if_pos hc]
    refine j_if_ne (off := 5) 7 rfl 9 (by decide +kernel) rfl (fun _ => ?_) (fun h => absurd h (by decide))
    refine j_iload_n 2 2 10 rfl (by decide +kernel) rfl ?_
    refine j_iconst 0 (c := 0) 11 rfl (by decide +kernel) rfl ?_
    refine j_mmax 14 rfl (by decide +kernel) tw_3_202 tw_1_86 tw_1_5 tw_1_87 (Nat.le_of_ble_eq_true rfl) (Nat.le_of_ble_eq_true rfl) (Nat.le_of_ble_eq_true rfl) (Nat.le_of_ble_eq_true rfl) ?_
    rw [if_neg (by decide)]
    refine j_istore_n 2 2 15 rfl [(2, .int 0), (0, .ref (ad 4)), (1, .int c), (3, .int 4)] (by decide +kernel) rfl (Nat.le_of_ble_eq_true rfl) rfl ?_
    refine j_iload_n 3 3 16 rfl (by decide +kernel) rfl ?_
    refine j_aload_n 1 0 17 rfl (by decide +kernel) rfl ?_
    refine j_tlen 4 18 rfl (by decide +kernel) (fun U h => ((j_spS hG U h).1 0 (by decide)).2.2.2) rfl ?_
    refine j_mmin 21 rfl (by decide +kernel) tw_3_203 tw_2_207 tw_1_5 tw_2_208 (Nat.le_of_ble_eq_true rfl) (Nat.le_of_ble_eq_true rfl) (Nat.le_of_ble_eq_true rfl) (Nat.le_of_ble_eq_true rfl) ?_
    rw [if_neg (by decide)]
    refine j_istore_n 3 3 22 rfl [(3, .int 4), (2, .int 0), (0, .ref (ad 4)), (1, .int c)] (by decide +kernel) rfl (Nat.le_of_ble_eq_true rfl) rfl ?_
    refine j_iload_n 1 2 23 rfl (by decide +kernel) rfl ?_
    refine j_iload_n 0 3 24 rfl (by decide +kernel) rfl ?_
    refine j_icmp_lt (off := 5) 27 rfl 29 (by decide +kernel) rfl (fun _ => ?_) (fun h => absurd (by decide) h)
    refine j_aload_n 2 0 30 rfl (by decide +kernel) rfl ?_
    refine j_iload_n 3 1 31 rfl (by decide +kernel) rfl ?_
    refine j_iload_n 1 2 32 rfl (by decide +kernel) rfl ?_
    refine j_iload_n 0 3 33 rfl (by decide +kernel) rfl ?_
    refine j_callS (M' := m_LiC) 36 rfl (av := [.ref (ad 4), .int c, .int 0, .int 4]) (st := []) (np := 4) (jc_LiC _ G ad hG WL hc) yv_LiC tw_3_204 tw_3_205 rfl (Nat.le_of_ble_eq_true rfl) (by decide +kernel) ⟨(Nat.le_of_ble_eq_true rfl), (Nat.le_of_ble_eq_true rfl)⟩ ⟨(Nat.le_of_ble_eq_true rfl), (Nat.le_of_ble_eq_true rfl)⟩ rfl rfl ?_
    rintro _ _ ⟨rfl, rfl⟩
    exact j_iret (by decide +kernel) rfl ⟨rfl, rfl⟩ (Nat.le_of_ble_eq_true rfl) (Nat.le_of_ble_eq_true rfl)
  · rw [if_neg hc]
    refine j_if_ne (off := 5) 7 rfl 9 (by decide +kernel) rfl (fun h => absurd rfl h) (fun _ => ?_)
    refine j_iconst (-1) (c := -1) 8 rfl (by decide +kernel) rfl ?_
    exact j_iret (by decide +kernel) rfl ⟨by have h5 : ∀ z : Int32, (0 ≤ z ∧ z ≤ 255) → ¬ c = z := fun z hz e => hc (e ▸ hz); unfold jx_pos; rw [if_neg (h5 114 (by decide)), if_neg (h5 112 (by decide)), if_neg (h5 119 (by decide)), if_neg (h5 101 (by decide))], rfl⟩ (Nat.le_of_ble_eq_true rfl) (Nat.le_of_ble_eq_true rfl)
def y_SioII : MethodName := ⟨"java/lang/String", "indexOf", "(II)I"⟩
def m_SioII : q_M := (prog_17_method_80_code, 3, "java/lang/String", { frames := 6, cells := 0, slots := 0, locals := 600 }, (some FieldType.int))
theorem yv_SioII : q_Y y_SioII m_SioII 2 := ⟨rfl, ⟨by decide, by decide⟩, by decide +kernel, tw_3_190, tw_1_13⟩
set_option maxRecDepth 100000 in
set_option maxHeartbeats 4000000 in
theorem jc_SioII (l : Launch) (G : q_G) (ad : Nat → Nat) (hG : j_G G ad) (WL : va_W) (c : Int32) : j_Ct l G y_SioII m_SioII [.ref (ad 0), .int c, .int 0] (WL) (fun v W => v = some (.int (jx_pos c)) ∧ WL = W) := by
  refine j_Ct_of hG.1 (by decide) rfl (Nat.le_of_ble_eq_true rfl) rfl (fun X hX => ?_)
  subst hX
  have hi : 0 < 4 := by decide
  refine j_aload_n 0 0 1 rfl (by decide +kernel) rfl ?_
  refine j_callT (M' := m_SisLatin1) 0 (j_spS hG) hi 4 rfl (av := []) (st := []) (np := 0) (jc_SisLatin1 _ G ad hG WL hi) yv_SisLatin1 tw_3_191 tw_3_192 tw_3_193 rfl (Nat.le_of_ble_eq_true rfl) (by decide +kernel) ⟨(Nat.le_of_ble_eq_true rfl), (Nat.le_of_ble_eq_true rfl)⟩ ⟨(Nat.le_of_ble_eq_true rfl), (Nat.le_of_ble_eq_true rfl)⟩ rfl rfl ?_
  rintro _ _ ⟨rfl, rfl⟩
  refine j_if_eq (off := 19) 7 rfl 23 (by decide +kernel) rfl (fun h => absurd h (by decide)) (fun _ => ?_)
  refine j_aload_n 0 0 8 rfl (by decide +kernel) rfl ?_
  refine j_getF (.ref (ad 4)) 11 rfl (by decide +kernel) (fun U h => ((j_spS hG U h).1 0 hi).2.2.1) tw_7_190 ?_
  refine j_iload_n 1 1 12 rfl (by decide +kernel) rfl ?_
  refine j_iload_n 2 2 13 rfl (by decide +kernel) rfl ?_
  refine j_aload_n 0 0 14 rfl (by decide +kernel) rfl ?_
  refine j_callT (M' := m_Slen) 0 (j_spS hG) hi 17 rfl (av := []) (st := [.int 0, .int c, .ref (ad 4)]) (np := 0) (jc_Slen _ G ad hG WL hi) yv_Slen tw_3_195 tw_3_106 tw_3_107 rfl (Nat.le_of_ble_eq_true rfl) (by decide +kernel) ⟨(Nat.le_of_ble_eq_true rfl), (Nat.le_of_ble_eq_true rfl)⟩ ⟨(Nat.le_of_ble_eq_true rfl), (Nat.le_of_ble_eq_true rfl)⟩ rfl rfl ?_
  rintro _ _ ⟨rfl, rfl⟩
  refine j_callS (M' := m_Lio) 20 rfl (av := [.ref (ad 4), .int c, .int 0, .int 4]) (st := []) (np := 4) (jc_Lio _ G ad hG WL c) yv_Lio tw_3_196 tw_3_197 rfl (Nat.le_of_ble_eq_true rfl) (by decide +kernel) ⟨(Nat.le_of_ble_eq_true rfl), (Nat.le_of_ble_eq_true rfl)⟩ ⟨(Nat.le_of_ble_eq_true rfl), (Nat.le_of_ble_eq_true rfl)⟩ rfl rfl ?_
  rintro _ _ ⟨rfl, rfl⟩
  refine j_goto (off := 16) 36 (by decide +kernel) rfl ?_
  exact j_iret (by decide +kernel) rfl ⟨rfl, rfl⟩ (Nat.le_of_ble_eq_true rfl) (Nat.le_of_ble_eq_true rfl)
set_option maxRecDepth 100000 in
set_option maxHeartbeats 4000000 in
theorem jc_JS_indexOf (l : Launch) (G : q_G) (ad : Nat → Nat) (hG : j_G G ad) (WL : va_W) (c : Int32) : j_Ct l G y_JS_indexOf m_JS_indexOf [.ref (ad 0), .int c] (WL) (fun v W => v = some (.int (jx_pos c)) ∧ WL = W) := by
  refine j_Ct_of hG.1 (by decide) rfl (Nat.le_of_ble_eq_true rfl) rfl (fun X hX => ?_)
  subst hX
  have hi : 0 < 4 := by decide
  refine j_aload_n 0 0 1 rfl (by decide +kernel) rfl ?_
  refine j_iload_n 1 1 2 rfl (by decide +kernel) rfl ?_
  refine j_iconst 0 (c := 0) 3 rfl (by decide +kernel) rfl ?_
  refine j_callT (M' := m_SioII) 0 (j_spS hG) hi 6 rfl (av := [.int c, .int 0]) (st := []) (np := 2) (jc_SioII _ G ad hG WL c) yv_SioII tw_3_187 tw_3_188 tw_3_189 rfl (Nat.le_of_ble_eq_true rfl) (by decide +kernel) ⟨(Nat.le_of_ble_eq_true rfl), (Nat.le_of_ble_eq_true rfl)⟩ ⟨(Nat.le_of_ble_eq_true rfl), (Nat.le_of_ble_eq_true rfl)⟩ rfl rfl ?_
  rintro _ _ ⟨rfl, rfl⟩
  exact j_iret (by decide +kernel) rfl ⟨rfl, rfl⟩ (Nat.le_of_ble_eq_true rfl) (Nat.le_of_ble_eq_true rfl)
def y_Pck : MethodName := ⟨"jdk/internal/util/Preconditions", "checkIndex", "(IILjava/util/function/BiFunction;)I"⟩
def m_Pck : q_M := (prog_24_method_11_code, 3, "jdk/internal/util/Preconditions", { frames := 2, cells := 0, slots := 0, locals := 200 }, (some FieldType.int))
theorem yv_Pck : q_Y y_Pck m_Pck 3 := ⟨rfl, ⟨by decide, by decide⟩, by decide +kernel, tw_3_153, tw_1_17⟩
set_option maxRecDepth 100000 in
set_option maxHeartbeats 4000000 in
theorem jc_Pck (l : Launch) (G : q_G) (ad : Nat → Nat) (hG : j_G G ad) (WL : va_W) {x y : Int32} (h0 : 0 ≤ x) (h1 : x < y) (v : Value) (hv : v = .null ∨ ∃ t, v = .ref t) : j_Ct l G y_Pck m_Pck [.int x, .int y, v] (WL) (fun v W => v = some (.int x) ∧ WL = W) := by
  rcases hv with rfl | ⟨t, rfl⟩
  · refine j_Ct_of hG.1 (by decide) rfl (Nat.le_of_ble_eq_true rfl) rfl (fun X hX => ?_)
    subst hX
    refine j_iload_n 0 0 1 rfl (by decide +kernel) rfl ?_
    refine j_if_lt (off := 8) 4 rfl 9 (by decide +kernel) rfl (fun h => absurd h (Int32.not_lt.mpr h0)) (fun _ => ?_)
    refine j_iload_n 0 0 5 rfl (by decide +kernel) rfl ?_
    refine j_iload_n 1 1 6 rfl (by decide +kernel) rfl ?_
    refine j_icmp_lt (off := 10) 9 rfl 16 (by decide +kernel) rfl (fun _ => ?_) (fun h => absurd h1 h)
    refine j_iload_n 0 0 17 rfl (by decide +kernel) rfl ?_
    exact j_iret (by decide +kernel) rfl ⟨rfl, rfl⟩ (Nat.le_of_ble_eq_true rfl) (Nat.le_of_ble_eq_true rfl)
  · refine j_Ct_of hG.1 (by decide) rfl (Nat.le_of_ble_eq_true rfl) rfl (fun X hX => ?_)
    subst hX
    refine j_iload_n 0 0 1 rfl (by decide +kernel) rfl ?_
    refine j_if_lt (off := 8) 4 rfl 9 (by decide +kernel) rfl (fun h => absurd h (Int32.not_lt.mpr h0)) (fun _ => ?_)
    refine j_iload_n 0 0 5 rfl (by decide +kernel) rfl ?_
    refine j_iload_n 1 1 6 rfl (by decide +kernel) rfl ?_
    refine j_icmp_lt (off := 10) 9 rfl 16 (by decide +kernel) rfl (fun _ => ?_) (fun h => absurd h1 h)
    refine j_iload_n 0 0 17 rfl (by decide +kernel) rfl ?_
    exact j_iret (by decide +kernel) rfl ⟨rfl, rfl⟩ (Nat.le_of_ble_eq_true rfl) (Nat.le_of_ble_eq_true rfl)
def y_Sck : MethodName := ⟨"java/lang/String", "checkIndex", "(II)V"⟩
def m_Sck : q_M := (prog_17_method_155_code, 2, "java/lang/String", { frames := 3, cells := 0, slots := 0, locals := 300 }, (none : Option FieldType))
theorem yv_Sck : q_Y y_Sck m_Sck 2 := ⟨rfl, ⟨by decide, by decide⟩, by decide +kernel, tw_3_148, tw_1_13⟩
set_option maxRecDepth 100000 in
set_option maxHeartbeats 4000000 in
theorem jc_Sck (l : Launch) (G : q_G) (ad : Nat → Nat) (hG : j_G G ad) (WL : va_W) {x y : Int32} (h0 : 0 ≤ x) (h1 : x < y) : j_Ct l G y_Sck m_Sck [.int x, .int y] (WL) (fun v W => v = none ∧ WL = W) := by
  refine j_Ct_of hG.1 (by decide) rfl (Nat.le_of_ble_eq_true rfl) rfl (fun X hX => ?_)
  subst hX
  refine j_iload_n 0 0 1 rfl (by decide +kernel) rfl ?_
  refine j_iload_n 1 1 2 rfl (by decide +kernel) rfl ?_
  refine j_getsq 5 rfl (by decide +kernel) (fun U h => (hG.2.1 U h).2.1) tw_3_149 (fun v hv => ?_)
  refine j_callS (M' := m_Pck) 8 rfl (av := [.int x, .int y, v]) (st := []) (np := 3) (jc_Pck _ G ad hG WL h0 h1 v hv) yv_Pck tw_3_151 tw_3_152 rfl (Nat.le_of_ble_eq_true rfl) (by decide +kernel) ⟨(Nat.le_of_ble_eq_true rfl), (Nat.le_of_ble_eq_true rfl)⟩ ⟨(Nat.le_of_ble_eq_true rfl), (Nat.le_of_ble_eq_true rfl)⟩ rfl rfl ?_
  rintro _ _ ⟨rfl, rfl⟩
  refine j_pop 9 rfl (by decide +kernel) rfl ?_
  exact j_vret (by decide +kernel) rfl ⟨rfl, rfl⟩ (Nat.le_of_ble_eq_true rfl) (Nat.le_of_ble_eq_true rfl)
def y_BisL : MethodName := ⟨"java/lang/AbstractStringBuilde\x72", "isLatin1", "()Z"⟩
def m_BisL : q_M := (prog_12_method_68_code, 1, "java/lang/AbstractStringBuilde\x72", { frames := 2, cells := 0, slots := 0, locals := 200 }, (some FieldType.boolean))
theorem yv_BisL : q_Y y_BisL m_BisL 0 := ⟨rfl, ⟨by decide, by decide⟩, by decide +kernel, tw_5_31, tw_1_11⟩
set_option maxRecDepth 100000 in
set_option maxHeartbeats 4000000 in
theorem jc_BisL (l : Launch) (G : q_G) (ad : Nat → Nat) (hG : j_G G ad) (a h m n : Nat) (f : Nat → Int32) (ml : Int32) : j_Ct l G y_BisL m_BisL [.ref a] (j_2 G a h m f ml n) (fun v W => v = some (.int 1) ∧ W = j_2 G a h m f ml n) := by
  refine j_Ct_of hG.1 (by decide) rfl (Nat.le_of_ble_eq_true rfl) rfl (fun X hX => ?_)
  subst hX
  refine j_gets (.int 1) 3 rfl (by decide +kernel) (fun U h => (hG.2.1 U h).1) tw_2_56 ?_
  refine j_if_eq (off := 14) 6 rfl 17 (by decide +kernel) rfl (fun h => absurd h (by decide)) (fun _ => ?_)
  refine j_aload_n 0 0 7 rfl (by decide +kernel) rfl ?_
  refine j_get (f := 1) (T := TJ4) 0 (.int 0) 10 rfl (by decide +kernel) (j_C hG) rfl (by decide) rfl tw_2_66 ?_
  refine j_if_ne (off := 7) 13 rfl 17 (by decide +kernel) rfl (fun h => absurd rfl h) (fun _ => ?_)
  refine j_iconst 1 (c := 1) 14 rfl (by decide +kernel) rfl ?_
  refine j_goto (off := 4) 18 (by decide +kernel) rfl ?_
  exact j_zret (w := 1) (by decide +kernel) rfl rfl ⟨rfl, rfl⟩ (Nat.le_of_ble_eq_true rfl) (Nat.le_of_ble_eq_true rfl)
def y_Blen : MethodName := ⟨"java/lang/AbstractStringBuilde\x72", "length", "()I"⟩
def m_Blen : q_M := (prog_12_method_6_code, 1, "java/lang/AbstractStringBuilde\x72", { frames := 7, cells := 0, slots := 0, locals := 700 }, (some FieldType.int))
theorem yv_Blen : q_Y y_Blen m_Blen 0 := ⟨rfl, ⟨by decide, by decide⟩, by decide +kernel, tw_3_137, tw_1_11⟩
set_option maxRecDepth 100000 in
set_option maxHeartbeats 4000000 in
theorem jc_Blen (l : Launch) (G : q_G) (ad : Nat → Nat) (hG : j_G G ad) (a h m n : Nat) (f : Nat → Int32) (ml : Int32) : j_Ct l G y_Blen m_Blen [.ref a] (j_2 G a h m f ml n) (fun v W => v = some (.int (nI n)) ∧ W = j_2 G a h m f ml n) := by
  refine j_Ct_of hG.1 (by decide) rfl (Nat.le_of_ble_eq_true rfl) rfl (fun X hX => ?_)
  subst hX
  refine j_aload_n 0 0 1 rfl (by decide +kernel) rfl ?_
  refine j_get (f := 3) (T := TJ4) 0 (.int (nI n)) 4 rfl (by decide +kernel) (j_C hG) rfl (by decide) rfl tw_2_68 ?_
  exact j_iret (by decide +kernel) rfl ⟨rfl, rfl⟩ (Nat.le_of_ble_eq_true rfl) (Nat.le_of_ble_eq_true rfl)
def y_BchA : MethodName := ⟨"java/lang/AbstractStringBuilde\x72", "charAt", "(I)C"⟩
def m_BchA : q_M := (prog_12_method_14_code, 5, "java/lang/AbstractStringBuilde\x72", { frames := 7, cells := 0, slots := 0, locals := 700 }, (some FieldType.char))
theorem yv_BchA : q_Y y_BchA m_BchA 1 := ⟨rfl, ⟨by decide, by decide⟩, by decide +kernel, tw_3_144, tw_1_11⟩
set_option maxRecDepth 100000 in
set_option maxHeartbeats 4000000 in
theorem jc_BchA (l : Launch) (G : q_G) (ad : Nat → Nat) (hG : j_G G ad) (a h m n : Nat) (f : Nat → Int32) (ml : Int32) (hm : n ≤ m ∧ m ≤ 200) {k : Nat} (hk : k < n) : j_Ct l G y_BchA m_BchA [.ref a, .int (nI k)] (j_2 G a h m f ml n) (fun v W => v = some (.int (f k &&& 255)) ∧ W = j_2 G a h m f ml n) := by
  refine j_Ct_of hG.1 (by decide) rfl (Nat.le_of_ble_eq_true rfl) rfl (fun X hX => ?_)
  subst hX
  refine j_aload_n 0 0 1 rfl (by decide +kernel) rfl ?_
  refine j_get (f := 1) (T := TJ4) 0 (.int 0) 4 rfl (by decide +kernel) (j_C hG) rfl (by decide) rfl tw_2_66 ?_
  refine j_istore_n 2 2 5 rfl [(2, .int 0), (0, .ref a), (1, .int (nI k))] (by decide +kernel) rfl (Nat.le_of_ble_eq_true rfl) rfl ?_
  refine j_aload_n 1 0 6 rfl (by decide +kernel) rfl ?_
  refine j_get (f := 0) (T := TJ4) 0 (.ref h) 9 rfl (by decide +kernel) (j_C hG) rfl (by decide) rfl tw_2_65 ?_
  refine j_astore_n 3 3 10 rfl [(3, .ref h), (2, .int 0), (0, .ref a), (1, .int (nI k))] (by decide +kernel) rfl (Nat.le_of_ble_eq_true rfl) rfl ?_
  refine j_aload_n 2 0 11 rfl (by decide +kernel) rfl ?_
  refine j_get (f := 3) (T := TJ4) 0 (.int (nI n)) 14 rfl (by decide +kernel) (j_C hG) rfl (by decide) rfl tw_2_68 ?_
  refine j_aload_n 0 3 15 rfl (by decide +kernel) rfl ?_
  refine j_alen (t := 6) (nI m) 1 16 rfl (by decide +kernel) rfl hG.2.2.2.1 rfl ?_
  refine j_iload_n 1 2 17 rfl (by decide +kernel) rfl ?_
  refine j_ishr 18 rfl (by decide +kernel) ?_
  refine j_eqi (x' := (nI m)) (jx_shr _) ?_
  refine j_mmin 21 rfl (by decide +kernel) tw_3_145 tw_2_207 tw_1_5 tw_2_208 (Nat.le_of_ble_eq_true rfl) (Nat.le_of_ble_eq_true rfl) (Nat.le_of_ble_eq_true rfl) (Nat.le_of_ble_eq_true rfl) ?_
  rw [if_neg (nI_nlt hm.1 (by omega))]
  refine j_istore 4 23 rfl [(4, .int (nI n)), (3, .ref h), (2, .int 0), (0, .ref a), (1, .int (nI k))] (by decide +kernel) (Nat.le_of_ble_eq_true rfl) rfl ?_
  refine j_iload_n 4 1 24 rfl (by decide +kernel) rfl ?_
  refine j_iload 0 4 26 rfl (by decide +kernel) rfl ?_
  refine j_callS (M' := m_Sck) 29 rfl (av := [.int (nI k), .int (nI n)]) (st := []) (np := 2) (jc_Sck _ G ad hG _ (nI_pos' (by omega)) (nI_lt hk (by omega))) yv_Sck tw_3_146 tw_3_147 rfl (Nat.le_of_ble_eq_true rfl) (by decide +kernel) ⟨(Nat.le_of_ble_eq_true rfl), (Nat.le_of_ble_eq_true rfl)⟩ ⟨(Nat.le_of_ble_eq_true rfl), (Nat.le_of_ble_eq_true rfl)⟩ rfl rfl ?_
  rintro _ _ ⟨rfl, rfl⟩
  refine j_iload_n 2 2 30 rfl (by decide +kernel) rfl ?_
  refine j_if_ne (off := 12) 33 rfl 42 (by decide +kernel) rfl (fun h => absurd rfl h) (fun _ => ?_)
  refine j_aload_n 1 3 34 rfl (by decide +kernel) rfl ?_
  refine j_iload_n 4 1 35 rfl (by decide +kernel) rfl ?_
  refine j_bald (t := 6) (N := m) (f := f) 1 36 rfl (by decide +kernel) rfl hG.2.2.2.1 (vp_in_nI (by omega) (by omega)) ?_
  rw [nI_clamp (by omega)]
  refine j_sipush 255 (c := 255) 39 rfl (by decide +kernel) rfl ?_
  refine j_iand 40 rfl (by decide +kernel) ?_
  refine j_i2c 41 rfl (by decide +kernel) ?_
  refine j_eqi (x' := (f k &&& 255)) (sc_c2 _) ?_
  exact j_zret (w := f k &&& 255) (by decide +kernel) rfl (sc_nar _) ⟨rfl, rfl⟩ (Nat.le_of_ble_eq_true rfl) (Nat.le_of_ble_eq_true rfl)
def jx_cap (q m : Nat) : Nat := m + (if m + 2 ≤ q - m then q - m else m + 2)
theorem jx_cap_le {q m : Nat} (h : m < q) (hq : q ≤ 99) : q ≤ jx_cap q m ∧ m < jx_cap q m ∧ jx_cap q m ≤ 200 := by
  unfold jx_cap
  split <;> omega
def y_newL : MethodName := ⟨"jdk/internal/util/ArraysSupport", "newLength", "(III)I"⟩
def m_newL : q_M := (prog_23_method_27_code, 4, "jdk/internal/util/ArraysSupport", { frames := 3, cells := 0, slots := 0, locals := 300 }, (some FieldType.int))
theorem yv_newL : q_Y y_newL m_newL 3 := ⟨rfl, ⟨by decide, by decide⟩, by decide +kernel, tw_5_6, tw_1_20⟩
set_option maxRecDepth 100000 in
set_option maxHeartbeats 4000000 in
theorem jc_newL (l : Launch) (G : q_G) (ad : Nat → Nat) (hG : j_G G ad) (WL : va_W) {m q : Nat} (hm : m < q) (hq : q ≤ 99) : j_Ct l G y_newL m_newL [.int (nI m), .int (nI (q - m)), .int (nI (m + 2))] (WL) (fun v W => v = some (.int (nI (jx_cap q m))) ∧ WL = W) := by
  refine j_Ct_of hG.1 (by decide) rfl (Nat.le_of_ble_eq_true rfl) rfl (fun X hX => ?_)
  subst hX
  refine j_iload_n 0 0 1 rfl (by decide +kernel) rfl ?_
  refine j_iload_n 1 1 2 rfl (by decide +kernel) rfl ?_
  refine j_iload_n 2 2 3 rfl (by decide +kernel) rfl ?_
  refine j_mmax 6 rfl (by decide +kernel) tw_5_7 tw_1_86 tw_1_5 tw_1_87 (Nat.le_of_ble_eq_true rfl) (Nat.le_of_ble_eq_true rfl) (Nat.le_of_ble_eq_true rfl) (Nat.le_of_ble_eq_true rfl) ?_
  have hx : nI m + (if nI (q - m) < nI (m + 2) then nI (m + 2) else nI (q - m)) = nI (jx_cap q m) := by
    unfold jx_cap
    by_cases h2 : m + 2 ≤ q - m
    · rw [if_pos h2, if_neg (nI_nlt h2 (by omega)), nI_add]
    · rw [if_neg h2, if_pos (nI_lt (by omega) (by omega)), nI_add]
  have hc := jx_cap_le hm hq
  refine j_iadd 7 rfl (by decide +kernel) ?_
  refine j_eqi hx ?_
  refine j_istore_n 3 3 8 rfl [(3, .int (nI (jx_cap q m))), (0, .int (nI m)), (1, .int (nI (q - m))), (2, .int (nI (m + 2)))] (by decide +kernel) rfl (Nat.le_of_ble_eq_true rfl) rfl ?_
  refine j_iconst 0 (c := 0) 9 rfl (by decide +kernel) rfl ?_
  refine j_iload_n 0 3 10 rfl (by decide +kernel) rfl ?_
  refine j_icmp_ge (off := 11) 13 rfl 21 (by decide +kernel) rfl (fun h => absurd h (nI_ge (a := 0) (by omega) (by omega))) (fun _ => ?_)
  refine j_iload_n 0 3 14 rfl (by decide +kernel) rfl ?_
  refine j_ldc (v := 2147483639) 16 rfl (by decide +kernel) tw_5_8 ?_
  refine j_icmp_gt (off := 5) 19 rfl 21 (by decide +kernel) rfl (fun h => absurd h (show ¬ nI 2147483639 < nI (jx_cap q m) from nI_nlt (by omega) (by decide))) (fun _ => ?_)
  refine j_iload_n 0 3 20 rfl (by decide +kernel) rfl ?_
  exact j_iret (by decide +kernel) rfl ⟨rfl, rfl⟩ (Nat.le_of_ble_eq_true rfl) (Nat.le_of_ble_eq_true rfl)
def y_newC : MethodName := ⟨"java/lang/AbstractStringBuilde\x72", "newCapacity", "(I)I"⟩
def m_newC : q_M := (prog_12_method_10_code, 6, "java/lang/AbstractStringBuilde\x72", { frames := 4, cells := 0, slots := 0, locals := 400 }, (some FieldType.int))
theorem yv_newC : q_Y y_newC m_newC 1 := ⟨rfl, ⟨by decide, by decide⟩, by decide +kernel, tw_5_3, tw_1_11⟩
set_option maxRecDepth 100000 in
set_option maxHeartbeats 4000000 in
theorem jc_newC (l : Launch) (G : q_G) (ad : Nat → Nat) (hG : j_G G ad) (a h m n : Nat) (f : Nat → Int32) (ml : Int32) {q : Nat} (hm : m < q) (hq : q ≤ 99) : j_Ct l G y_newC m_newC [.ref a, .int (nI q)] (j_2 G a h m f ml n) (fun v W => v = some (.int (nI (jx_cap q m))) ∧ W = j_2 G a h m f ml n) := by
  refine j_Ct_of hG.1 (by decide) rfl (Nat.le_of_ble_eq_true rfl) rfl (fun X hX => ?_)
  subst hX
  refine j_aload_n 0 0 1 rfl (by decide +kernel) rfl ?_
  refine j_get (f := 0) (T := TJ4) 0 (.ref h) 4 rfl (by decide +kernel) (j_C hG) rfl (by decide) rfl tw_2_65 ?_
  refine j_alen (t := 6) (nI m) 1 5 rfl (by decide +kernel) rfl hG.2.2.2.1 rfl ?_
  refine j_istore_n 2 2 6 rfl [(2, .int (nI m)), (0, .ref a), (1, .int (nI q))] (by decide +kernel) rfl (Nat.le_of_ble_eq_true rfl) rfl ?_
  refine j_iload_n 2 1 7 rfl (by decide +kernel) rfl ?_
  refine j_aload_n 1 0 8 rfl (by decide +kernel) rfl ?_
  refine j_get (f := 1) (T := TJ4) 0 (.int 0) 11 rfl (by decide +kernel) (j_C hG) rfl (by decide) rfl tw_2_66 ?_
  refine j_ishl 12 rfl (by decide +kernel) ?_
  have hc := jx_cap_le hm hq
  refine j_eqi (x' := (nI q)) (jx_shl _) ?_
  refine j_istore_n 3 3 13 rfl [(3, .int (nI q)), (2, .int (nI m)), (0, .ref a), (1, .int (nI q))] (by decide +kernel) rfl (Nat.le_of_ble_eq_true rfl) rfl ?_
  refine j_iload_n 0 3 14 rfl (by decide +kernel) rfl ?_
  refine j_iload_n 1 2 15 rfl (by decide +kernel) rfl ?_
  refine j_isub 16 rfl (by decide +kernel) ?_
  refine j_eqi (x' := (nI (q - m))) (pk_sub (by omega)) ?_
  refine j_istore 4 18 rfl [(4, .int (nI (q - m))), (3, .int (nI q)), (2, .int (nI m)), (0, .ref a), (1, .int (nI q))] (by decide +kernel) (Nat.le_of_ble_eq_true rfl) rfl ?_
  refine j_iload_n 2 2 19 rfl (by decide +kernel) rfl ?_
  refine j_iload 0 4 21 rfl (by decide +kernel) rfl ?_
  refine j_iload_n 2 2 22 rfl (by decide +kernel) rfl ?_
  refine j_iconst 2 (c := 2) 23 rfl (by decide +kernel) rfl ?_
  refine j_aload_n 3 0 24 rfl (by decide +kernel) rfl ?_
  refine j_get (f := 1) (T := TJ4) 0 (.int 0) 27 rfl (by decide +kernel) (j_C hG) rfl (by decide) rfl tw_2_66 ?_
  refine j_ishl 28 rfl (by decide +kernel) ?_
  refine j_eqi (x' := (2)) (jx_shl 2) ?_
  refine j_iadd 29 rfl (by decide +kernel) ?_
  refine j_eqi (x' := (nI (m + 2))) (nI_add m 2) ?_
  refine j_callS (M' := m_newL) 32 rfl (av := [.int (nI m), .int (nI (q - m)), .int (nI (m + 2))]) (st := []) (np := 3) (jc_newL _ G ad hG _ hm hq) yv_newL tw_5_4 tw_5_5 rfl (Nat.le_of_ble_eq_true rfl) (by decide +kernel) ⟨(Nat.le_of_ble_eq_true rfl), (Nat.le_of_ble_eq_true rfl)⟩ ⟨(Nat.le_of_ble_eq_true rfl), (Nat.le_of_ble_eq_true rfl)⟩ rfl rfl ?_
  rintro _ _ ⟨rfl, rfl⟩
  refine j_istore 5 34 rfl [(5, .int (nI (jx_cap q m))), (4, .int (nI (q - m))), (3, .int (nI q)), (2, .int (nI m)), (0, .ref a), (1, .int (nI q))] (by decide +kernel) (Nat.le_of_ble_eq_true rfl) rfl ?_
  refine j_iload 0 5 36 rfl (by decide +kernel) rfl ?_
  refine j_ldc (v := 2147483647) 38 rfl (by decide +kernel) tw_5_12 ?_
  refine j_icmp_ne (off := 13) 41 rfl 51 (by decide +kernel) rfl (fun _ => ?_) (fun h => absurd h (fun e => absurd ((nI_eq (a := jx_cap q m) (b := 2147483647) (by omega) (by decide)).mp e) (by omega)))
  refine j_iload 0 5 53 rfl (by decide +kernel) rfl ?_
  refine j_aload_n 4 0 54 rfl (by decide +kernel) rfl ?_
  refine j_get (f := 1) (T := TJ4) 0 (.int 0) 57 rfl (by decide +kernel) (j_C hG) rfl (by decide) rfl tw_2_66 ?_
  refine j_ishr 58 rfl (by decide +kernel) ?_
  refine j_eqi (x' := (nI (jx_cap q m))) (jx_shr _) ?_
  exact j_iret (by decide +kernel) rfl ⟨rfl, rfl⟩ (Nat.le_of_ble_eq_true rfl) (Nat.le_of_ble_eq_true rfl)
def y_cpO : MethodName := ⟨"java/util/Arrays", "copyOf", "([BI)[B"⟩
def m_cpO : q_M := (prog_22_method_121_code, 3, "java/util/Arrays", { frames := 4, cells := 1, slots := 200, locals := 400 }, (some (FieldType.array FieldType.byte)))
theorem yv_cpO : q_Y y_cpO m_cpO 2 := ⟨rfl, ⟨by decide, by decide⟩, by decide +kernel, tw_5_15, tw_1_21⟩
set_option maxRecDepth 100000 in
set_option maxHeartbeats 4000000 in
theorem jc_cpO (l : Launch) (G : q_G) (ad : Nat → Nat) (hG : j_G G ad) (a h m n : Nat) (f : Nat → Int32) (ml : Int32) {c : Nat} (hc : m < c ∧ c ≤ 200) (hf : ∀ j, fits .byte (.int (f j)) = true) : j_Ct l G y_cpO m_cpO [.ref h, .int (nI c)] (j_2 G a h m f ml n) (fun v W => ∃ q0, q_A G q0 ∧ v = some (.ref q0) ∧ W = j_2 G a h m f ml n ++ [(q0, .inl (q_tc G 6, c, .inl (va_cpy f (fun _ => 0) 0 0 m)))]) := by
  refine j_Ct_of hG.1 (by decide) rfl (Nat.le_of_ble_eq_true rfl) rfl (fun X hX => ?_)
  subst hX
  refine j_iload_n 1 1 1 rfl (by decide +kernel) rfl ?_
  refine j_aload_n 0 0 2 rfl (by decide +kernel) rfl ?_
  refine j_alen (t := 6) (nI m) 1 3 rfl (by decide +kernel) rfl hG.2.2.2.1 rfl ?_
  refine j_icmp_ne (off := 11) 6 rfl 14 (by decide +kernel) rfl (fun _ => ?_) (fun h => absurd h (fun e => absurd ((nI_eq (by omega) (by omega)).mp e) (by omega)))
  refine j_iload_n 1 1 15 rfl (by decide +kernel) rfl ?_
  refine j_newb (t := 6) (N := c) 17 rfl (by decide +kernel) hG.2.2.2.1 hG.2.2.2.2 tw_2_78 (nI_pos (by omega)) (nI_clamp (by omega)) (by omega) (by decide) (by show 0 + c ≤ 200; omega) (fun q0 hq0 => ?_)
  refine j_astore_n 2 2 18 rfl [(2, .ref q0), (0, .ref h), (1, .int (nI c))] (by decide +kernel) rfl (Nat.le_of_ble_eq_true rfl) rfl ?_
  refine j_aload_n 1 0 19 rfl (by decide +kernel) rfl ?_
  refine j_iconst 0 (c := 0) 20 rfl (by decide +kernel) rfl ?_
  refine j_aload_n 0 2 21 rfl (by decide +kernel) rfl ?_
  refine j_iconst 0 (c := 0) 22 rfl (by decide +kernel) rfl ?_
  refine j_aload_n 1 0 23 rfl (by decide +kernel) rfl ?_
  refine j_alen (t := 6) (nI m) 1 24 rfl (by decide +kernel) rfl hG.2.2.2.1 rfl ?_
  refine j_iload_n 2 1 25 rfl (by decide +kernel) rfl ?_
  refine j_mmin 28 rfl (by decide +kernel) tw_5_23 tw_2_207 tw_1_5 tw_2_208 (Nat.le_of_ble_eq_true rfl) (Nat.le_of_ble_eq_true rfl) (Nat.le_of_ble_eq_true rfl) (by show 0 + c ≤ 200; omega) ?_
  rw [if_neg (nI_nlt (by omega) (by omega))]
  refine j_copyi (t := 6) (n0 := m) (n1 := c) (f := f) (g := fun _ => 0) 1 2 31 rfl (by decide +kernel) tw_5_24 tw_5_26 tw_5_25 tw_1_22 rfl rfl hG.2.2.2.1 (by decide) (by decide) (nI_pos (by omega)) (by rw [nI_clamp (by omega)]; show 0 + m ≤ m; omega) (by rw [nI_clamp (by omega)]; show 0 + m ≤ c; omega) (fun i _ => hf _) (by decide) (by decide) ?_
  rw [nI_clamp (show m < 2 ^ 31 by omega)]
  refine j_aload_n 0 2 32 rfl (by decide +kernel) rfl ?_
  exact j_aret (by decide +kernel) rfl (Or.inr ⟨_, rfl⟩) ⟨q0, hq0, rfl, rfl⟩ (Nat.le_of_ble_eq_true rfl) (by show 0 + c ≤ 200; omega)
