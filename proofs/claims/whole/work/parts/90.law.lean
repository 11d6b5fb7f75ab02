/-! calls out of the law: two worlds in one heap -/
section LQ
variable {p : Program} {l : Launch} {e : Env} {R : Room} {s : State} {m : MethodId} {args : Array Value} {below : List Frame} {meth : Method} {c : Code} {H : Heap} {locs : List Loc} {cells slots : Nat} {Q : State → Prop}
/-- behind a call: the callee's world in its new state, all cells that are not the callee's as they were -/
theorem L_run {G : q_G} {z : Option Value × q_S} {a : Array Value} {pc : Nat} {ls : Array Slot} {st0 rest : List Value} {mc ms : Nat} (hr : va_Run p l e R s m args below meth c H locs cells slots mc ms (F0 m pc ls st0) rest (q_Q G z a) (q_A G))
    (kk : ∀ (H1 : Heap) (locs1 : List Loc), q_W G z.2 H1 → H.size ≤ H1.size → (∀ q, q < H.size → ¬ q_A G q → H1[q]? = H[q]?) → (∀ t ∈ locs1, t ∈ locs ∨ q_A G t.base) → W p l e R s m args below meth c H1 locs1 (cells + mc) (slots + ms) Q (F0 m (pc + 3) ls (z.1.toList ++ rest))) : W p l e R s m args below meth c H locs cells slots Q (F0 m pc ls st0) := by
  intro T hT X
  obtain ⟨v, st₀, t, T', Lc, h0, X', hL, e1, e2, ⟨hv, hw, hz, hk⟩, st⟩ := hr T hT X
  cases hv
  rw [h0] at hz hk
  obtain ⟨t2, a1, b1⟩ := kk T'.heap (locs ++ Lc) (by rw [e1]; exact hw) (by rw [e1]; exact hz) (fun q h1 h2 => by rw [e1]; exact hk q h1 h2) (fun q hq => by
      rcases List.mem_append.mp hq with h | h
      · exact Or.inl h
      · exact Or.inr (hL q h)) T' rfl X'
  exact ⟨t2, st t2 a1, b1⟩
/-- the callee's world stands, whatever the start's heap was smaller -/
theorem L_pre {G : q_G} {av : List Value} {S : q_S} (hi : q_in G) (hK : q_KK G s) (hy : q_y G ≤ H.size) (hsp : q_sp G s) (hH : ∀ q, q < s.heap.size → ¬ q_A G q → H[q]? = s.heap[q]?) (hW : q_W G S H) : PreS s H (va_Pc av (fun U => q_W G S U.heap ∧ q_KK G U ∧ q_y G ≤ U.heap.size ∧ q_sp G U)) av :=
  ⟨fun a U g mk q => ⟨q.1, q.2.1, ⟨va_K.moved (u := U) (U := U.calling g mk a) (Vm.Alike.refl U.vm) q.2.2.1.1, fun a i y h hm => va_Nw.same (u := U) rfl rfl (q.2.2.1.2 a i y h hm)⟩, q.2.2.2.1, hi.2.2 U _ rfl rfl q.2.2.2.2⟩, fun U hU hw => ⟨rfl, by rw [hU]; exact hW, hK.moved hw, by rw [hU]; exact hy, hi.2.1 s U hw (fun q h1 h2 => by rw [hU]; exact hH q h1 h2) hsp⟩⟩
end LQ
theorem L_keep {G : q_G} {S : q_S} {H H1 : Heap} (h : q_W G S H) (hk : ∀ q, q < H.size → q_A G q → H1[q]? = H[q]?) : q_W G S H1 := by
  obtain ⟨h1, hd, h2, h3, h4⟩ := h
  exact ⟨h1, hd, h2.kept (fun k q hq => hk q.1 ((h2 k q hq).lt) (h3.2 k q hq)), h3, h4⟩
abbrev L_G (D : va_G) (tc : Nat → ClassId) (ad : Nat → Nat) (s : State) : q_G := cG D tc s.heap.size (s.heap.size + 230) ad
abbrev L_M (D : va_G) (tc : Nat → ClassId) (s : State) : q_G := mG D tc (s.heap.size + 219) (s.heap.size + 230)
/-- both worlds, in one heap -/
def L_W (D : va_G) (D2 : va_G) (tc tc2 : Nat → ClassId) (ad : Nat → Nat) (s : State) (S S2 : q_S) (H : Heap) : Prop := q_W (L_G D tc ad s) S H ∧ q_W (L_M D2 tc2 s) S2 H ∧ s.heap.size + 230 ≤ H.size
theorem L_Wc {D D2 : va_G} {tc tc2 : Nat → ClassId} {ad : Nat → Nat} {s : State} {S S' S2 : q_S} {H H1 : Heap} (h : L_W D D2 tc tc2 ad s S S2 H) (hw : q_W (L_G D tc ad s) S' H1) (hz : H.size ≤ H1.size) (hk : ∀ q, q < H.size → ¬ q_A (L_G D tc ad s) q → H1[q]? = H[q]?) : L_W D D2 tc tc2 ad s S' S2 H1 := by
  refine ⟨hw, L_keep h.2.1 (fun q h1 h2 => hk q h1 (fun h3 => ?_)), Nat.le_trans h.2.2 hz⟩
  have h2' : s.heap.size + 219 ≤ q ∧ q < s.heap.size + 219 + 11 := h2
  have h3' : (s.heap.size ≤ q ∧ q < s.heap.size + 219) ∨ s.heap.size + 230 ≤ q := h3
  omega
theorem L_Wm {D D2 : va_G} {tc tc2 : Nat → ClassId} {ad : Nat → Nat} {s : State} {S S2 S2' : q_S} {H H1 : Heap} (h : L_W D D2 tc tc2 ad s S S2 H) (hw : q_W (L_M D2 tc2 s) S2' H1) (hz : H.size ≤ H1.size) (hk : ∀ q, q < H.size → ¬ q_A (L_M D2 tc2 s) q → H1[q]? = H[q]?) : L_W D D2 tc tc2 ad s S S2' H1 := by
  refine ⟨L_keep h.1 (fun q h1 h2 => hk q h1 (fun h3 => ?_)), hw, Nat.le_trans h.2.2 hz⟩
  have h3' : s.heap.size + 219 ≤ q ∧ q < s.heap.size + 219 + 11 := h3
  have h2' : (s.heap.size ≤ q ∧ q < s.heap.size + 219) ∨ s.heap.size + 230 ≤ q := h2
  omega
/-- what the law's frame has of its surroundings -/
def L_C (D D2 : va_G) (tc tc2 : Nat → ClassId) (ad : Nat → Nat) (p : Program) (s : State) (m : MethodId) (meth : Method) (c : Code) (b : Nat) : Prop :=
  p.tables.exec = Jvm.exec ∧ c.code = code ∧ c.maxLocals = 4 ∧ s.vm.findClass "CalendarReplicasLaw" = some m.cls ∧ (∀ w ∈ q_gw, w.before #[Value.ref b] s = true) ∧ q_KK (L_G D tc ad s) s ∧ q_KK (L_M D2 tc2 s) s ∧ q_sp (L_G D tc ad s) s ∧ b < s.heap.size
/-- the law, at pc with locals L and stack st over both worlds, comes to Q -/
def L_V (D D2 : va_G) (tc tc2 : Nat → ClassId) (ad : Nat → Nat) (p : Program) (l : Launch) (e : Env) (s : State) (m : MethodId) (below : List Frame) (meth : Method) (c : Code) (b Lx : Nat) (xs : Nat → Int32) (Q : State → Prop) (k n pc : Nat) (L : List (Nat × Value)) (st : List Value) (S S2 : q_S) : Prop :=
  ∀ (H : Heap) (locs : List Loc) (ls : Array Slot), L_W D D2 tc tc2 ad s S S2 H → va_X b Lx xs s H → va_S (fun q => s.heap.size ≤ q) s.heap H locs → lv_has ls 4 L → W p l e room_1 s m #[Value.ref b] below meth c H locs k n Q (F0 m pc ls st)
section LV
variable {D D2 : va_G} {tc tc2 : Nat → ClassId} {ad : Nat → Nat} {p : Program} {l : Launch} {e : Env} {s : State} {m : MethodId} {below : List Frame} {meth : Method} {c : Code} {b Lx : Nat} {xs : Nat → Int32} {Q : State → Prop} {k n pc : Nat} {L : List (Nat × Value)} {st : List Value} {S S2 : q_S} {ρ' : Type} {M' : q_M} {em' : ρ' → Option Value × q_S} {y : MethodName} {np idx : Nat} {g : Option ρ'} {x : ρ'}
/-- a call of the class -/
theorem L_callC (K : L_C D D2 tc tc2 ad p s m meth c b) {av : List Value} (Ct : q_Ct l (L_G D tc ad s) y M' (q_r (L_G D tc ad s) 0 :: av) S g em') (hg : g = some x) (hY : q_Y y M' np) (hl : (Cond.methodLink "CalendarReplicasLaw" idx y).before #[Value.ref b] s = true) (hi : (Cond.instanceMethod y).before #[Value.ref b] s = true) (hsel : (Cond.selects "CalendarReplicas" y y).before #[Value.ref b] s = true) (hn : av.length = np) (hst : (st.map fun v => v.category).sum ≤ 8) (d : decode code pc = .ok (.invokevirtual idx, 3)) (hR : M'.2.2.2.1.frames + 1 ≤ room_1.frames ∧ 8 + (M'.2.1 + 11) + M'.2.2.2.1.locals ≤ room_1.locals) (hf : k + M'.2.2.2.1.cells ≤ room_1.cells ∧ n + M'.2.2.2.1.slots ≤ room_1.slots)
    (kk : L_V D D2 tc tc2 ad p l e s m below meth c b Lx xs Q (k + M'.2.2.2.1.cells) (n + M'.2.2.2.1.slots) (pc + 3) L ((em' x).1.toList ++ st) (em' x).2 S2) : L_V D D2 tc tc2 ad p l e s m below meth c b Lx xs Q k n pc L (av.reverse ++ q_r (L_G D tc ad s) 0 :: st) S S2 := by
  intro H locs ls hW hX hS hl0
  have hW0 := hW.1
  obtain ⟨-, hd, hP, -, -⟩ := hW0
  have hat : (q_wl (L_G D tc ad s) hd S)[0]? = some (s.heap.size + 0, .inr (8, (List.range 9).map (q_fv (L_G D tc ad s) hd 0 8 (S.1 0)))) := q_at (cIn D tc s.heap.size (s.heap.size + 230) ad) (o := 0) rfl (show (1 : Nat) ≠ 0 by decide) (show (1 : Nat) ≠ 7 by decide) rfl
  have hcA : ∀ q, q < s.heap.size → ¬ q_A (L_G D tc ad s) q := fun q h1 h2 => by
    have h2' : (s.heap.size ≤ q ∧ q < s.heap.size + 219) ∨ s.heap.size + 230 ≤ q := h2
    omega
  have hp := L_pre (av := q_r (L_G D tc ad s) 0 :: av) (cIn D tc s.heap.size (s.heap.size + 230) ad) K.2.2.2.2.2.1 hW.2.2 K.2.2.2.2.2.2.2.1 (fun q h1 _ => hS.2.1 q h1 (fun h => Nat.not_le.mpr h1 h)) hW.1
  exact L_run (va_runV (As := av) (rest := st) ⟨K.1, K.2.1, K.2.2.1, K.2.2.2.1, K.2.2.2.2.1⟩ (Ct x hg) ⟨callB_of np K.2.2.2.2.1 (q_goodIn hY) rfl rfl rfl (K.2.2.2.2.1 _ hY.2.2.2.2) hl ⟨hY.2.1.1, hY.2.1.2, hY.2.2.1⟩ hR, hi, hsel⟩ ⟨hp.1, va_recv K.2.2.2.2.2.1.1 hP (by rfl) hat, hp.2⟩ rfl hn hl0.1 rfl (lv_room hst) d hf) (fun H1 locs1 hw hz hk hlo => kk H1 locs1 ls (L_Wc hW hw hz hk) (hX.kept (hk b (Nat.lt_of_lt_of_le K.2.2.2.2.2.2.2.2 hS.1) (hcA b K.2.2.2.2.2.2.2.2))) ⟨Nat.le_trans hS.1 hz, fun q h1 h2 => by rw [hk q (Nat.lt_of_lt_of_le h1 hS.1) (hcA q h1)]; exact hS.2.1 q h1 h2, fun t ht => by
    rcases hlo t ht with z | z
    · exact hS.2.2 t z
    · have z' : (s.heap.size ≤ t.base ∧ t.base < s.heap.size + 219) ∨ s.heap.size + 230 ≤ t.base := z
      show s.heap.size ≤ t.base
      omega⟩ hl0)
/-- a call of the reference -/
theorem L_callR (K : L_C D D2 tc tc2 ad p s m meth c b) {av : List Value} (Ct : q_Ct l (L_M D2 tc2 s) y M' (q_r (L_M D2 tc2 s) 0 :: av) S2 g em') (hg : g = some x) (hY : q_Y y M' np) (hl : (Cond.methodLink "CalendarReplicasLaw" idx y).before #[Value.ref b] s = true) (hi : (Cond.instanceMethod y).before #[Value.ref b] s = true) (hsel : (Cond.selects "CalendarReplicasModel" y y).before #[Value.ref b] s = true) (hn : av.length = np) (hst : (st.map fun v => v.category).sum ≤ 8) (d : decode code pc = .ok (.invokevirtual idx, 3)) (hR : M'.2.2.2.1.frames + 1 ≤ room_1.frames ∧ 8 + (M'.2.1 + 11) + M'.2.2.2.1.locals ≤ room_1.locals) (hf : k + M'.2.2.2.1.cells ≤ room_1.cells ∧ n + M'.2.2.2.1.slots ≤ room_1.slots)
    (kk : L_V D D2 tc tc2 ad p l e s m below meth c b Lx xs Q (k + M'.2.2.2.1.cells) (n + M'.2.2.2.1.slots) (pc + 3) L ((em' x).1.toList ++ st) S (em' x).2) : L_V D D2 tc tc2 ad p l e s m below meth c b Lx xs Q k n pc L (av.reverse ++ q_r (L_M D2 tc2 s) 0 :: st) S S2 := by
  intro H locs ls hW hX hS hl0
  have hW0 := hW.2.1
  obtain ⟨-, hd, hP, -, -⟩ := hW0
  have hat : (q_wl (L_M D2 tc2 s) hd S2)[0]? = some (s.heap.size + 219 + 0, .inr (0, (List.range 21).map (q_fv (L_M D2 tc2 s) hd 0 0 (S2.1 0)))) := q_at (mIn D2 tc2 (s.heap.size + 219) (s.heap.size + 230)) (o := 0) rfl (show (1 : Nat) ≠ 0 by decide) (show (1 : Nat) ≠ 7 by decide) rfl
  have hcA : ∀ q, q < s.heap.size → ¬ q_A (L_M D2 tc2 s) q := fun q h1 h2 => by
    have h2' : s.heap.size + 219 ≤ q ∧ q < s.heap.size + 219 + 11 := h2
    omega
  have hp := L_pre (av := q_r (L_M D2 tc2 s) 0 :: av) (mIn D2 tc2 (s.heap.size + 219) (s.heap.size + 230)) K.2.2.2.2.2.2.1 hW.2.2 trivial (fun q h1 _ => hS.2.1 q h1 (fun h => Nat.not_le.mpr h1 h)) hW.2.1
  exact L_run (va_runV (As := av) (rest := st) ⟨K.1, K.2.1, K.2.2.1, K.2.2.2.1, K.2.2.2.2.1⟩ (Ct x hg) ⟨callB_of np K.2.2.2.2.1 (q_goodIn hY) rfl rfl rfl (K.2.2.2.2.1 _ hY.2.2.2.2) hl ⟨hY.2.1.1, hY.2.1.2, hY.2.2.1⟩ hR, hi, hsel⟩ ⟨hp.1, va_recv K.2.2.2.2.2.2.1.1 hP (by rfl) hat, hp.2⟩ rfl hn hl0.1 rfl (lv_room hst) d hf) (fun H1 locs1 hw hz hk hlo => kk H1 locs1 ls (L_Wm hW hw hz hk) (hX.kept (hk b (Nat.lt_of_lt_of_le K.2.2.2.2.2.2.2.2 hS.1) (hcA b K.2.2.2.2.2.2.2.2))) ⟨Nat.le_trans hS.1 hz, fun q h1 h2 => by rw [hk q (Nat.lt_of_lt_of_le h1 hS.1) (hcA q h1)]; exact hS.2.1 q h1 h2, fun t ht => by
    rcases hlo t ht with z | z
    · exact hS.2.2 t z
    · have z' : s.heap.size + 219 ≤ t.base ∧ t.base < s.heap.size + 219 + 11 := z
      show s.heap.size ≤ t.base
      omega⟩ hl0)
end LV
