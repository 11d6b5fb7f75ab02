/-! the law's start: two objects, two constructors -/
section LZ
variable {G : q_G} {B n pc : Nat} {c : Nat → va_E}
theorem L_zpre {av : List Value} {s : State} {H : Heap} (hK : z_K G B s) (hB : B ≤ H.size) (hkp : ∀ q, q < s.heap.size → ¬ z_A B q → H[q]? = s.heap[q]?) (hP : z_P G B n c H) : PreS s H (va_Pc av (fun U => z_P G B n c U.heap ∧ z_K G B U ∧ B ≤ U.heap.size)) av :=
  ⟨fun a U g mk q => ⟨q.1, q.2.1, ⟨⟨va_K.moved (u := U) (U := U.calling g mk a) (Vm.Alike.refl U.vm) q.2.2.1.1.1, fun a i y h hm => va_Nw.same (u := U) rfl rfl (q.2.2.1.1.2 a i y h hm)⟩, va_AO.moved (u := U) (U := U.calling g mk a) (Vm.Alike.refl U.vm) q.2.2.1.2.1, va_AO.moved (u := U) (U := U.calling g mk a) (Vm.Alike.refl U.vm) q.2.2.1.2.2.1, va_AO.moved (u := U) (U := U.calling g mk a) (Vm.Alike.refl U.vm) q.2.2.1.2.2.2.1, z_Z.kept (u := U) (U := U.calling g mk a) q.2.2.1.2.2.2.2 (Vm.Alike.refl U.vm) (fun _ _ _ => rfl)⟩, q.2.2.2⟩, fun U hU hw => ⟨rfl, by rw [hU]; exact hP, ⟨hK.1.moved hw, hK.2.1.moved hw.alike, hK.2.2.1.moved hw.alike, hK.2.2.2.1.moved hw.alike, z_Z.kept hK.2.2.2.2 hw.alike (fun q h1 h2 => by rw [hU]; exact hkp q h1 h2)⟩, by rw [hU]; exact hB⟩⟩
theorem L_zrun {p : Program} {l : Launch} {e : Env} {R : Room} {s : State} {mi : MethodId} {args : Array Value} {below : List Frame} {meth : Method} {cd : Code} {H : Heap} {locs : List Loc} {cells slots : Nat} {Q : State → Prop} {a : Array Value} {ls : Array Slot} {st0 rest : List Value} {mc ms : Nat} (hr : va_Run p l e R s mi args below meth cd H locs cells slots mc ms (F0 mi pc ls st0) rest (z_Q G B n c a) (z_A B))
    (kk : ∀ (H1 : Heap) (locs1 : List Loc), z_P G B n c H1 → H.size ≤ H1.size → (∀ q, q < H.size → ¬ z_A B q → H1[q]? = H[q]?) → (∀ t ∈ locs1, t ∈ locs ∨ z_A B t.base) → W p l e R s mi args below meth cd H1 locs1 (cells + mc) (slots + ms) Q (F0 mi (pc + 3) ls rest)) : W p l e R s mi args below meth cd H locs cells slots Q (F0 mi pc ls st0) := by
  intro T hT X
  obtain ⟨v, st₀, t, T', Lc, h0, X', hL, e1, e2, ⟨hv, hw, hz, hk⟩, st⟩ := hr T hT X
  cases hv
  rw [h0] at hz hk
  obtain ⟨t2, a1, b1⟩ := kk T'.heap (locs ++ Lc) (by rw [e1]; exact hw) (by rw [e1]; exact hz) (fun q h1 h2 => by rw [e1]; exact hk q h1 h2) (fun q hq => by
      rcases List.mem_append.mp hq with h | h
      · exact Or.inl h
      · exact Or.inr (hL q h)) T' rfl X'
  exact ⟨t2, st t2 a1, b1⟩
end LZ
theorem L_d_0 : decode code 0 = .ok (.new 7, 3) := by decide +kernel
theorem L_d_3 : decode code 3 = .ok (.dup, 1) := by decide +kernel
theorem L_d_4 : decode code 4 = .ok (.invokespecial 9, 3) := by decide +kernel
theorem L_d_7 : decode code 7 = .ok (.astore_n 1, 1) := by decide +kernel
theorem L_d_8 : decode code 8 = .ok (.new 10, 3) := by decide +kernel
theorem L_d_11 : decode code 11 = .ok (.dup, 1) := by decide +kernel
theorem L_d_12 : decode code 12 = .ok (.invokespecial 12, 3) := by decide +kernel
theorem L_d_15 : decode code 15 = .ok (.astore_n 2, 1) := by decide +kernel
theorem L_d_16 : decode code 16 = .ok (.iconst 0, 1) := by decide +kernel
theorem L_d_17 : decode code 17 = .ok (.istore_n 3, 1) := by decide +kernel
set_option maxHeartbeats 4000000 in
theorem whole_start {p : Program} {e : Env} {s : State} {m : MethodId} {below : List Frame} {meth : Method} {c : Code} (l : Launch) (hflags : l.flags = flags0) {b L : Nat} {xs : Nat → Int32} (hL : L ≤ 3584) (C0 : lw_At p s m meth c b L xs) : W p l e room_1 s m #[Value.ref b] below meth c s.heap [] 0 0 (lw_Z below #[Value.ref b] s) (entryFrame m ([Value.ref b] : List Value).toArray 4) := by
  obtain ⟨hx, hb, hr, hml, hown, hts, hX, hbl, hlocks, hgv⟩ := id C0
  have hq : ∀ w ∈ q_gw, w.before #[Value.ref b] s = true := fun w h => hts w (List.mem_filter.mp h).1
  obtain ⟨D, D2, tc, hKK⟩ := L_known hts
  obtain ⟨ad, hsp⟩ := L_sp hts hgv
  have hl := lv_entry ([.ref b]) (n := 4) (Nat.le_of_ble_eq_true rfl)
  rw [lg_entry_eq]
  generalize (lg_sl ([.ref b]) ++ List.replicate (4 - (lg_sl ([.ref b])).length) Slot.unset).toArray = ls at hl ⊢
  have hl : lv_has ls 4 [(0, .ref b)] := hl
  have hKC := (hKK s.heap.size (s.heap.size + 230) (s.heap.size + 219) (s.heap.size + 230) ad).1
  have hKM := (hKK s.heap.size (s.heap.size + 230) (s.heap.size + 219) (s.heap.size + 230) ad).2
  have hKnC := hKC.1.1 8 _ rfl
  have hKnM := hKM.1.1 0 _ rfl
  refine W.newcK (index := 7) (C := "CalendarReplicas") hx hb hown (hq _ tw_1_23) (hq _ tw_1_24) (hq _ tw_1_1) rfl L_d_0 (Nat.le_of_ble_eq_true rfl) (Nat.le_of_ble_eq_true rfl) hKnC.2.1 rfl fun H1 kC hkC e1 z1 o1 => ?_
  have hP1 : z_P (L_G D tc ad s) s.heap.size 1 (fun _ => .inr (8, [.null, .null, .null, .null, .null, .null, .null, .null, .null])) H1 := by
    refine ⟨z1, fun j hj => ?_⟩
    have hj0 : j = 0 := by omega
    subst hj0
    exact ⟨_, rfl, (u_born tyX8 hq uwCR hKnC hkC e1 tyX8_ok).to (fun k hk => by
      match k, hk with
      | 0, _ => rfl
      | 1, _ => rfl
      | 2, _ => rfl
      | 3, _ => rfl
      | 4, _ => rfl
      | 5, _ => rfl
      | 6, _ => rfl
      | 7, _ => rfl
      | 8, _ => rfl
      | k + 9, hk => exact absurd hk (by show ¬ k + 9 < 9; omega))⟩
  have hzC := L_zK (B := s.heap.size) hts hKC hsp (Nat.le_refl _)
  have hC := c_CR_init l D tc s.heap.size (s.heap.size + 230) ad s.heap.size 1 (fun _ => .inr (8, [.null, .null, .null, .null, .null, .null, .null, .null, .null])) (i := 0) Nat.one_pos rfl
  show W p l e room_1 s m #[Value.ref b] below meth c H1 [] (0 + 1) (0 + 9) (lw_Z below #[Value.ref b] s) (F0 m 3 ls [.ref s.heap.size])
  refine lv_dup hx hb L_d_3 rfl ?_
  show W p l e room_1 s m #[Value.ref b] below meth c H1 [] (0 + 1) (0 + 9) (lw_Z below #[Value.ref b] s) (F0 m 4 ls (([] : List Value).reverse ++ .ref (s.heap.size + 0) :: [.ref s.heap.size]))
  refine L_zrun (va_runI (As := []) (rest := [.ref s.heap.size]) (Ts := q_gw) (bytes := m_CR_init.1) (maxL := m_CR_init.2.1) ⟨hx, hb, hml, hown, hq⟩ hC (cwI 0 hq (q_goodIn yv_CR_init) rfl rfl rfl (hq _ yv_CR_init.2.2.2.2) (hq _ tw_1_25) (hq _ tw_1_26) rfl ⟨yv_CR_init.2.1.1, yv_CR_init.2.1.2, yv_CR_init.2.2.1⟩ ⟨Nat.le_of_ble_eq_true rfl, Nat.le_of_ble_eq_true rfl⟩) (L_zpre (av := [.ref (s.heap.size + 0)]) hzC (by rw [z1]; exact Nat.le_succ _) (fun q h1 _ => o1 q h1) hP1) rfl rfl hl.1 rfl (lv_room (show 1 ≤ 8 by decide)) L_d_4 ⟨Nat.le_of_ble_eq_true rfl, Nat.le_of_ble_eq_true rfl⟩) (fun H2 locs2 hP2 z2 o2 hlo2 => ?_)
  have s2 : H2.size = s.heap.size + 219 := hP2.1
  have o12 : ∀ q, q < s.heap.size → H2[q]? = s.heap[q]? := fun q h => by
    rw [o2 q (by rw [z1]; exact Nat.lt_succ_of_lt h) (fun h2 => Nat.not_le.mpr h h2)]
    exact o1 q h
  have W2 : q_W (L_G D tc ad s) (L_IC, L_J0, L_P0) H2 := L_W0C hP2
  refine lv_astore_n (lv' := [(1, .ref s.heap.size), (0, .ref b)]) hx hb L_d_7 rfl hl (by decide) rfl (fun ls hl => ?_)
  refine W.newcK (index := 10) (C := "CalendarReplicasModel") hx hb hown (hq _ tw_5_206) (hq _ tw_5_207) (hq _ tw_1_15) rfl L_d_8 (Nat.le_of_ble_eq_true rfl) (Nat.le_of_ble_eq_true rfl) hKnM.2.1 s2 fun H3 kM hkM e3 z3 o3 => ?_
  rw [← s2] at z3 o3
  have hP3 : z_P (L_M D2 tc s) (s.heap.size + 219) 1 (fun _ => .inr (0, [.null, .null, .null, .null, .int 0, .null, .int 0, .int 0, .null, .null, .null, .int 0, .int 0, .int 0, .int 0, .int 0, .int 0, .int 0, .int 0, .null, .null])) H3 := by
    refine ⟨by rw [z3, s2], fun j hj => ?_⟩
    have hj0 : j = 0 := by omega
    subst hj0
    exact ⟨_, rfl, (u_born tyX9 hq uwMo hKnM hkM e3 tyX9_ok).to (fun k hk => by
      match k, hk with
      | 0, _ => rfl
      | 1, _ => rfl
      | 2, _ => rfl
      | 3, _ => rfl
      | 4, _ => rfl
      | 5, _ => rfl
      | 6, _ => rfl
      | 7, _ => rfl
      | 8, _ => rfl
      | 9, _ => rfl
      | 10, _ => rfl
      | 11, _ => rfl
      | 12, _ => rfl
      | 13, _ => rfl
      | 14, _ => rfl
      | 15, _ => rfl
      | 16, _ => rfl
      | 17, _ => rfl
      | 18, _ => rfl
      | 19, _ => rfl
      | 20, _ => rfl
      | k + 21, hk => exact absurd hk (by show ¬ k + 21 < 21; omega))⟩
  have hzM := L_zK (B := s.heap.size + 219) hts hKM hsp (by omega)
  have hM := c_Mo_init l D2 tc (s.heap.size + 219) (s.heap.size + 230) (s.heap.size + 219) 1 (fun _ => .inr (0, [.null, .null, .null, .null, .int 0, .null, .int 0, .int 0, .null, .null, .null, .int 0, .int 0, .int 0, .int 0, .int 0, .int 0, .int 0, .int 0, .null, .null])) (i := 0) Nat.one_pos rfl
  have o23 : ∀ q, q < s.heap.size → H3[q]? = s.heap[q]? := fun q h => by
    rw [o3 q (by omega)]
    exact o12 q h
  show W p l e room_1 s m #[Value.ref b] below meth c H3 locs2 (0 + 1 + 218 + 1) (0 + 9 + 1565 + 21) (lw_Z below #[Value.ref b] s) (F0 m 11 ls [.ref (s.heap.size + 219)])
  refine lv_dup hx hb L_d_11 rfl ?_
  show W p l e room_1 s m #[Value.ref b] below meth c H3 locs2 (0 + 1 + 218 + 1) (0 + 9 + 1565 + 21) (lw_Z below #[Value.ref b] s) (F0 m 12 ls (([] : List Value).reverse ++ .ref (s.heap.size + 219 + 0) :: [.ref (s.heap.size + 219)]))
  refine L_zrun (va_runI (As := []) (rest := [.ref (s.heap.size + 219)]) (Ts := q_gw) (bytes := m_Mo_init.1) (maxL := m_Mo_init.2.1) ⟨hx, hb, hml, hown, hq⟩ hM (cwI 0 hq (q_goodIn yv_Mo_init) rfl rfl rfl (hq _ yv_Mo_init.2.2.2.2) (hq _ tw_5_208) (hq _ tw_5_209) rfl ⟨yv_Mo_init.2.1.1, yv_Mo_init.2.1.2, yv_Mo_init.2.2.1⟩ ⟨Nat.le_of_ble_eq_true rfl, Nat.le_of_ble_eq_true rfl⟩) (L_zpre (av := [.ref (s.heap.size + 219 + 0)]) hzM (by omega) (fun q h1 _ => o23 q h1) hP3) rfl rfl hl.1 rfl (lv_room (show 1 ≤ 8 by decide)) L_d_12 ⟨Nat.le_of_ble_eq_true rfl, Nat.le_of_ble_eq_true rfl⟩) (fun H4 locs4 hP4 z4 o4 hlo4 => ?_)
  have s4 : H4.size = s.heap.size + 219 + 11 := hP4.1
  have W4M : q_W (L_M D2 tc s) (L_IM, L_J0, L_P0) H4 := L_W0M hP4
  have W4C : q_W (L_G D tc ad s) (L_IC, L_J0, L_P0) H4 := L_keep W2 (fun q h1 _ => by
    rw [o4 q (by omega) (fun (h2 : s.heap.size + 219 ≤ q) => by omega)]
    exact o3 q h1)
  have o34 : ∀ q, q < s.heap.size → H4[q]? = s.heap[q]? := fun q h => by
    rw [o4 q (by omega) (fun (h2 : s.heap.size + 219 ≤ q) => by omega)]
    exact o23 q h
  have hS4 : va_S (fun q => s.heap.size ≤ q) s.heap H4 locs4 := ⟨by omega, fun q h1 _ => o34 q h1, fun t ht => by
    rcases hlo4 t ht with h | (h : s.heap.size + 219 ≤ t.base)
    · rcases hlo2 t h with h | h
      · exact absurd h List.not_mem_nil
      · exact h
    · show s.heap.size ≤ t.base
      omega⟩
  refine lv_astore_n (lv' := [(2, .ref (s.heap.size + 219)), (1, .ref s.heap.size), (0, .ref b)]) hx hb L_d_15 rfl hl (by decide) rfl (fun ls hl => ?_)
  refine lv_iconst (v := nI 0) hx hb L_d_16 (by decide) ?_
  refine lv_istore_n (lv' := [(3, .int (nI 0)), (2, .ref (s.heap.size + 219)), (1, .ref s.heap.size), (0, .ref b)]) hx hb L_d_17 rfl hl (by decide) rfl (fun ls hl => ?_)
  have hsC : q_sp (L_G D tc ad s) s := cSp_narrow (fun q (h : cA s.heap.size (s.heap.size + 230) q) => by
    rcases h with h | h
    · exact h.1
    · show s.heap.size ≤ q
      omega) hsp
  exact L_loop (D := D) (D2 := D2) (tc := tc) (tc2 := tc) (ad := ad) ⟨hx, hb, hml, hown, hq, hKC, hKM, hsC, hbl⟩ hr hlocks hL (L + 1) 0 L_IC L_J0 L_P0 L_IM L_J0 L_P0 _ _ (by omega) (Nat.zero_le _) L_Z0 (Nat.le_of_ble_eq_true rfl) (Nat.le_of_ble_eq_true rfl) H4 locs4 ls ⟨W4C, W4M, by omega⟩ (hX.kept (o34 b hbl)) hS4 hl
