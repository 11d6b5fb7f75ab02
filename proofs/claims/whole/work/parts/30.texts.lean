/-! text buffers: at s the count and a flag, at s + 1 the bytes -/
def f_SB_length (I : q_I) (s : Nat) : Option Int32 := some (I s 0)
def f_SB_charAt (I : q_I) (s : Nat) (i : Int32) : Option Int32 := if 0 ≤ i ∧ i < I s 0 then some (I (s + 1) i.toNatClampNeg &&& 255) else none
def f_SB_setLength (I : q_I) (s : Nat) (n : Int32) : Option q_I := if n = 0 then some (q_ui (if 0 < I s 0 then q_ui I s 1 1 else I) s 0 0) else none
def q_sp1 (I : q_I) (s : Nat) (c : Int32) : q_I := q_ui (q_ui I (s + 1) (I s 0).toNatClampNeg c.toInt8.toInt32) s 0 (I s 0 + 1)
def f_SB_appC (I : q_I) (s : Nat) (c : Int32) : Option q_I := if (0 ≤ c ∧ c ≤ 255) ∧ 0 ≤ I s 0 ∧ I s 0 ≤ 80 then some (q_sp1 I s c) else none
def f_SB_appS (I : q_I) (s : Nat) (c d : Int32) : Option q_I := if 0 ≤ I s 0 ∧ I s 0 ≤ 80 then some (q_sp1 (q_sp1 I s c) s d) else none
def f_SB_appI (I : q_I) (s : Nat) (v : Int32) : Option q_I := if (0 ≤ v ∧ v ≤ 99) ∧ 0 ≤ I s 0 ∧ I s 0 ≤ 80 then some (if v < 10 then q_sp1 I s (48 + v) else q_sp1 (q_sp1 I s (48 + v / 10)) s (48 + (v - v / 10 * 10))) else none
def f_JS_length : Option Int32 := some 4
def f_JS_indexOf (c : Int32) : Option Int32 := if c = 114 then some 0 else if c = 112 then some 1 else if c = 119 then some 2 else if c = 101 then some 3 else some (-1)
section QN
variable {ρ : Type} {G : q_G} {M M' : q_M} {X : q_X} {em : ρ → Option Value × q_S} {k n pc : Nat} {L : List (Nat × Value)} {st : List Value} {I : q_I} {J : q_J} {P : q_P} {y : MethodName} {np idx : Nat}
theorem q_getB {O : Option ρ} {o ci f N dd : Nat} {C : String} {T : u_T} {ty : Nat → FieldType} (o' : Nat) (q : Nat) (e : pc + 3 = q) (d : decode M.1 pc = .ok (.getfield idx, 3)) (hc : q_C G ci C T N ty) (hk : q_kd G o = (1, ci, N, 0, 0)) (hf : f < N) (hfd : q_fd G ci f = dd + 1) (ho : o + dd = o') (hw : Cond.fieldLink M.2.2.1 idx (T f).1 (T f).2.1 (T f).2.2.1 ∈ q_gw) (kk : q_V G M X em k n q L (q_r G o' :: st) I J P O) : q_V G M X em k n pc L (q_r G o :: st) I J P O := q_getr o' q e d hc hk hf hfd ho hw kk
/-- the cell of a text buffer is one of the class StringBuilder -/
theorem q_recvB {s : State} {H : Heap} {hd : Nat → Nat} {o ci b c d : Nat} {C : String} {T : u_T} {N : Nat} (hK : q_KK G s) (hi : q_in G) (hP : va_P (q_D G) (q_cl G) (q_wl G hd (I, J, P)) H) (hc : (q_cl G)[ci]? = some (C, T, N)) (hk : q_kd G o = (6, ci, b, c, d)) : ∃ cell : Cell, H[q_x G + o]? = some cell ∧ cell.vm.isStatics = false ∧ s.vm.findClass C = some cell.cls :=
  va_recv hK.1 hP hc (q_at (hd := hd) (I := I) (J := J) (P := P) (e := .inr (ci, [.ref (hd o), .int 0, .int (I o 1), .int (I o 0)])) hi hk (by simp) (by simp) (by simp only [q_cell, hk]))
theorem q_callB {ρ' : Type} {em' : ρ' → Option Value × q_S} {g : Option ρ'} {B : ρ' → Option ρ} {av : List Value} {o ci b c d2 N : Nat} {C : String} {T : u_T} (Ct : q_Ct X.1 G y M' (q_r G o :: av) (I, J, P) g em') (hY : q_Y y M' np) (hl : Cond.methodLink M.2.2.1 idx y ∈ q_gw) (hi : Cond.instanceMethod y ∈ q_gw) (hsel : Cond.selects C y y ∈ q_gw) (hc : (q_cl G)[ci]? = some (C, T, N)) (hk : q_kd G o = (6, ci, b, c, d2)) (hn : av.length = np) (hst : (st.map fun v => v.category).sum ≤ 8) (d : decode M.1 pc = .ok (.invokevirtual idx, 3)) (hR : M'.2.2.2.1.frames + 1 ≤ M.2.2.2.1.frames ∧ 8 + (M'.2.1 + 11) + M'.2.2.2.1.locals ≤ M.2.2.2.1.locals) (hf : k + M'.2.2.2.1.cells ≤ M.2.2.2.1.cells ∧ n + M'.2.2.2.1.slots ≤ M.2.2.2.1.slots)
    (kk : ∀ x, q_V G M X em (k + M'.2.2.2.1.cells) (n + M'.2.2.2.1.slots) (pc + 3) L ((em' x).1.toList ++ st) (em' x).2.1 (em' x).2.2.1 (em' x).2.2.2 (B x)) : q_V G M X em k n pc L (av.reverse ++ q_r G o :: st) I J P (q_b1 g B) := by
  intro K r hr H locs ls hW hS hl0
  obtain ⟨x, hx, hr⟩ := q_b1_some hr
  have hW0 := hW
  obtain ⟨-, hd, hP, -, -⟩ := hW0
  have hp := q_pre (l := X.1) (av := q_r G o :: av) K.2.2.2.2.2.2.2.2.1 K.2.2.2.2.2.1 K.2.2.2.2.2.2.2.2.2 hS hW
  exact q_run (va_runV (As := av) (rest := st) ⟨K.1, K.2.1, K.2.2.1, K.2.2.2.1, K.2.2.2.2.1⟩ (Ct x hx) ⟨q_cb hY K.2.2.2.2.1 hl hR, K.2.2.2.2.1 _ hi, K.2.2.2.2.1 _ hsel⟩ ⟨hp.1, q_recvB K.2.2.2.2.2.1 K.2.2.2.2.2.2.2.2.1 hP hc hk, hp.2⟩ rfl hn hl0.1 rfl (lv_room hst) d hf) hS (fun H1 locs1 hw h1 => kk x K r hr H1 locs1 ls hw h1 hl0)
theorem q_callB_i {g : Option Int32} {K : Int32 → Option ρ} (q : Nat) (e : pc + 3 = q) {av : List Value} {o ci b c d2 N : Nat} {C : String} {T : u_T} (Ct : q_Ct X.1 G y M' (q_r G o :: av) (I, J, P) g (fun r : Int32 => (some (.int r), (I, J, P)))) (hY : q_Y y M' np) (hl : Cond.methodLink M.2.2.1 idx y ∈ q_gw) (hi : Cond.instanceMethod y ∈ q_gw) (hsel : Cond.selects C y y ∈ q_gw) (hc : (q_cl G)[ci]? = some (C, T, N)) (hk : q_kd G o = (6, ci, b, c, d2)) (hn : av.length = np) (hst : (st.map fun v => v.category).sum ≤ 8) (d : decode M.1 pc = .ok (.invokevirtual idx, 3)) (hR : M'.2.2.2.1.frames + 1 ≤ M.2.2.2.1.frames ∧ 8 + (M'.2.1 + 11) + M'.2.2.2.1.locals ≤ M.2.2.2.1.locals) (hf : k + M'.2.2.2.1.cells ≤ M.2.2.2.1.cells ∧ n + M'.2.2.2.1.slots ≤ M.2.2.2.1.slots) {k' n' : Nat} (hk' : k + M'.2.2.2.1.cells = k') (hn' : n + M'.2.2.2.1.slots = n') (kk : ∀ v, q_V G M X em k' n' q L (.int v :: st) I J P (K v)) : q_V G M X em k n pc L (av.reverse ++ q_r G o :: st) I J P (q_b1 g K) := by
  subst e hk' hn'
  exact q_callB Ct hY hl hi hsel hc hk hn hst d hR hf kk
theorem q_callB_vI {g : Option q_I} {K : q_I → Option ρ} (q : Nat) (e : pc + 3 = q) {av : List Value} {o ci b c d2 N : Nat} {C : String} {T : u_T} (Ct : q_Ct X.1 G y M' (q_r G o :: av) (I, J, P) g (fun r : q_I => (none, (r, J, P)))) (hY : q_Y y M' np) (hl : Cond.methodLink M.2.2.1 idx y ∈ q_gw) (hi : Cond.instanceMethod y ∈ q_gw) (hsel : Cond.selects C y y ∈ q_gw) (hc : (q_cl G)[ci]? = some (C, T, N)) (hk : q_kd G o = (6, ci, b, c, d2)) (hn : av.length = np) (hst : (st.map fun v => v.category).sum ≤ 8) (d : decode M.1 pc = .ok (.invokevirtual idx, 3)) (hR : M'.2.2.2.1.frames + 1 ≤ M.2.2.2.1.frames ∧ 8 + (M'.2.1 + 11) + M'.2.2.2.1.locals ≤ M.2.2.2.1.locals) (hf : k + M'.2.2.2.1.cells ≤ M.2.2.2.1.cells ∧ n + M'.2.2.2.1.slots ≤ M.2.2.2.1.slots) {k' n' : Nat} (hk' : k + M'.2.2.2.1.cells = k') (hn' : n + M'.2.2.2.1.slots = n') (kk : ∀ I', q_V G M X em k' n' q L (st) I' J P (K I')) : q_V G M X em k n pc L (av.reverse ++ q_r G o :: st) I J P (q_b1 g K) := by
  subst e hk' hn'
  exact q_callB Ct hY hl hi hsel hc hk hn hst d hR hf kk
theorem q_callB_rI {g : Option q_I} {K : q_I → Option ρ} (q : Nat) (e : pc + 3 = q) {av : List Value} {o ci b c d2 N : Nat} {C : String} {T : u_T} (Ct : q_Ct X.1 G y M' (q_r G o :: av) (I, J, P) g (fun r : q_I => (some (q_r G o), (r, J, P)))) (hY : q_Y y M' np) (hl : Cond.methodLink M.2.2.1 idx y ∈ q_gw) (hi : Cond.instanceMethod y ∈ q_gw) (hsel : Cond.selects C y y ∈ q_gw) (hc : (q_cl G)[ci]? = some (C, T, N)) (hk : q_kd G o = (6, ci, b, c, d2)) (hn : av.length = np) (hst : (st.map fun v => v.category).sum ≤ 8) (d : decode M.1 pc = .ok (.invokevirtual idx, 3)) (hR : M'.2.2.2.1.frames + 1 ≤ M.2.2.2.1.frames ∧ 8 + (M'.2.1 + 11) + M'.2.2.2.1.locals ≤ M.2.2.2.1.locals) (hf : k + M'.2.2.2.1.cells ≤ M.2.2.2.1.cells ∧ n + M'.2.2.2.1.slots ≤ M.2.2.2.1.slots) {k' n' : Nat} (hk' : k + M'.2.2.2.1.cells = k') (hn' : n + M'.2.2.2.1.slots = n') (kk : ∀ I', q_V G M X em k' n' q L (q_r G o :: st) I' J P (K I')) : q_V G M X em k n pc L (av.reverse ++ q_r G o :: st) I J P (q_b1 g K) := by
  subst e hk' hn'
  exact q_callB Ct hY hl hi hsel hc hk hn hst d hR hf kk
/-- a method of the text number i of the start -/
theorem q_callT_i {g : Option Int32} {K : Int32 → Option ρ} (q : Nat) (e : pc + 3 = q) {av : List Value} {ad adV : Nat → Nat} {NN : Nat} {len : List Nat} {byt : List (List Int32)} (i : Nat) (hs : ∀ U, q_sp G U → vk_S NN len byt ad adV (q_A G) U U.heap) (hiN : i < NN) (Ct : q_Ct X.1 G y M' (.ref (ad i) :: av) (I, J, P) g (fun r : Int32 => (some (.int r), (I, J, P)))) (hY : q_Y y M' np) (hl : Cond.methodLink M.2.2.1 idx y ∈ q_gw) (hi : Cond.instanceMethod y ∈ q_gw) (hsel : Cond.selects "java/lang/String" y y ∈ q_gw) (hn : av.length = np) (hst : (st.map fun v => v.category).sum ≤ 8) (d : decode M.1 pc = .ok (.invokevirtual idx, 3)) (hR : M'.2.2.2.1.frames + 1 ≤ M.2.2.2.1.frames ∧ 8 + (M'.2.1 + 11) + M'.2.2.2.1.locals ≤ M.2.2.2.1.locals) (hf : k + M'.2.2.2.1.cells ≤ M.2.2.2.1.cells ∧ n + M'.2.2.2.1.slots ≤ M.2.2.2.1.slots) {k' n' : Nat} (hk' : k + M'.2.2.2.1.cells = k') (hn' : n + M'.2.2.2.1.slots = n') (kk : ∀ v, q_V G M X em k' n' q L (.int v :: st) I J P (K v)) : q_V G M X em k n pc L (av.reverse ++ .ref (ad i) :: st) I J P (q_b1 g K) := by
  subst e hk' hn'
  intro K0 r hr H locs ls hW hS hl0
  obtain ⟨x, hx, hr⟩ := q_b1_some hr
  have hp := q_pre (l := X.1) (av := .ref (ad i) :: av) K0.2.2.2.2.2.2.2.2.1 K0.2.2.2.2.2.1 K0.2.2.2.2.2.2.2.2.2 hS hW
  exact q_run (va_runV (As := av) (rest := st) ⟨K0.1, K0.2.1, K0.2.2.1, K0.2.2.2.1, K0.2.2.2.2.1⟩ (Ct x hx) ⟨q_cb hY K0.2.2.2.2.1 hl hR, K0.2.2.2.2.1 _ hi, K0.2.2.2.2.1 _ hsel⟩ ⟨hp.1, vk_recv (hs _ K0.2.2.2.2.2.2.2.2.2.2) hiN hS, hp.2⟩ rfl hn hl0.1 rfl (lv_room hst) d hf) hS (fun H1 locs1 hw h1 => kk x K0 r hr H1 locs1 ls hw h1 hl0)
theorem q_ldcS {O : Option ρ} {a : Nat} {tx : String} (q : Nat) (e : pc + 2 = q) (d : decode M.1 pc = .ok (.ldc idx, 2)) (h : ∀ U, q_sp G U → vk_R M.2.2.1 idx tx a U) (kk : q_V G M X em k n q L (.ref a :: st) I J P O) : q_V G M X em k n pc L st I J P O := by
  subst e
  intro K r hr H locs ls hW hS hl
  exact va_ldcS K.1 K.2.1 K.2.2.2.1 (h _ K.2.2.2.2.2.2.2.2.2.2) d (kk K r hr H locs ls hW hS hl)
theorem q_ldcWS0 {p : Program} {l : Launch} {e : Env} {R : Room} {s : State} {m : MethodId} {args : Array Value} {below : List Frame} {meth : Method} {c : Code} {T : State} {locs : List Loc} {cells slots : Nat} (X : Stand p l e R s m args below meth c T locs cells slots) (hexec : p.tables.exec = Jvm.exec) {own text : String} {index : Nat} {a : Addr} (hown : s.vm.findClass own = some m.cls)
    (hconst : (Cond.stringRef own index text).before args s = true) (hev : (Term.string own index).eval args s none [] s = some (.ref a)) {g : JFrame} (hg : g.method = m) (hdg : decode c.code g.pc = .ok (.ldc_w index, 3)) :
    ∀ target, Steps p.tables e below (T.setTop { g with pc := g.pc + 3, stack := .ref a :: g.stack }) target → Steps p.tables e below (T.setTop g) target := by
  obtain ⟨k, cf, i, a', hk, hcf, hcp, -, hr, hev'⟩ := Cond.stringRef_spec hown hconst
  cases hev.symm.trans hev'
  obtain ⟨k', hk', he⟩ := X.warmed.alike.2.2 _ _ hk
  have hr' : k'.resolved[index]? = some (some (.string a)) := by
    rcases X.warmed.entry hk hk' index with h | ⟨h, -⟩
    · rw [h]; exact hr
    · rw [hr] at h; cases h
  intro target hrest
  subst hg
  jvm_step X.here [hexec, hdg, ldc_w.wp_string (e := e) (s := T) (f := g) X.here.top hk' (by rw [he]; exact hcf) hcp hr']
  exact hrest
theorem q_ldcWS {O : Option ρ} {a : Nat} {tx : String} (q : Nat) (e : pc + 3 = q) (d : decode M.1 pc = .ok (.ldc_w idx, 3)) (h : ∀ U, q_sp G U → vk_R M.2.2.1 idx tx a U) (kk : q_V G M X em k n q L (.ref a :: st) I J P O) : q_V G M X em k n pc L st I J P O := by
  subst e
  intro K r hr H locs ls hW hS hl T hT Y
  obtain ⟨t, a1, b1⟩ := kk K r hr H locs ls hW hS hl T hT Y
  have hz := h _ K.2.2.2.2.2.2.2.2.2.2
  exact ⟨t, q_ldcWS0 Y K.1 K.2.2.2.1 (text := tx) (a := a) hz.1 hz.2 (g := F0 X.2.2.2.2.1 pc ls st) rfl (by rw [K.2.1]; exact d) t a1, b1⟩
end QN
def y_SB_length : MethodName := ⟨"java/lang/StringBuilde\x72", "length", "()I"⟩
def m_SB_length : q_M := (prog_18_method_93_code, 1, "java/lang/StringBuilde\x72", { frames := 8, cells := 0, slots := 0, locals := 800 }, (some FieldType.int))
theorem yv_SB_length : q_Y y_SB_length m_SB_length 0 := ⟨rfl, ⟨by decide, by decide⟩, by decide +kernel, tw_3_134, tw_1_12⟩
def y_SB_charAt : MethodName := ⟨"java/lang/StringBuilde\x72", "charAt", "(I)C"⟩
def m_SB_charAt : q_M := (prog_18_method_88_code, 2, "java/lang/StringBuilde\x72", { frames := 8, cells := 0, slots := 0, locals := 800 }, (some FieldType.char))
theorem yv_SB_charAt : q_Y y_SB_charAt m_SB_charAt 1 := ⟨rfl, ⟨by decide, by decide⟩, by decide +kernel, tw_3_141, tw_1_12⟩
def y_SB_setLength : MethodName := ⟨"java/lang/StringBuilde\x72", "setLength", "(I)V"⟩
def m_SB_setLength : q_M := (prog_18_method_89_code, 2, "java/lang/StringBuilde\x72", { frames := 8, cells := 0, slots := 0, locals := 800 }, (none : Option FieldType))
theorem yv_SB_setLength : q_Y y_SB_setLength m_SB_setLength 1 := ⟨rfl, ⟨by decide, by decide⟩, by decide +kernel, tw_5_71, tw_1_12⟩
def y_SB_appC : MethodName := ⟨"java/lang/StringBuilde\x72", "append", "(C)Ljava/lang/StringBuilder;"⟩
def m_SB_appC : q_M := (prog_18_method_14_code, 2, "java/lang/StringBuilde\x72", { frames := 8, cells := 1, slots := 200, locals := 800 }, (some (FieldType.object "java/lang/StringBuilde\x72")))
theorem yv_SB_appC : q_Y y_SB_appC m_SB_appC 1 := ⟨rfl, ⟨by decide, by decide⟩, by decide +kernel, tw_4_232, tw_1_12⟩
def y_SB_appS : MethodName := ⟨"java/lang/StringBuilde\x72", "append", "(Ljava/lang/String;)Ljava/lang/StringBuilder;"⟩
def m_SB_appS : q_M := (prog_18_method_7_code, 2, "java/lang/StringBuilde\x72", { frames := 8, cells := 1, slots := 200, locals := 800 }, (some (FieldType.object "java/lang/StringBuilde\x72")))
theorem yv_SB_appS : q_Y y_SB_appS m_SB_appS 1 := ⟨rfl, ⟨by decide, by decide⟩, by decide +kernel, tw_5_125, tw_1_12⟩
def y_SB_appI : MethodName := ⟨"java/lang/StringBuilde\x72", "append", "(I)Ljava/lang/StringBuilder;"⟩
def m_SB_appI : q_M := (prog_18_method_15_code, 2, "java/lang/StringBuilde\x72", { frames := 8, cells := 1, slots := 200, locals := 800 }, (some (FieldType.object "java/lang/StringBuilde\x72")))
theorem yv_SB_appI : q_Y y_SB_appI m_SB_appI 1 := ⟨rfl, ⟨by decide, by decide⟩, by decide +kernel, tw_5_99, tw_1_12⟩
def y_JS_length : MethodName := ⟨"java/lang/String", "length", "()I"⟩
def m_JS_length : q_M := (prog_17_method_54_code, 1, "java/lang/String", { frames := 8, cells := 0, slots := 0, locals := 800 }, (some FieldType.int))
theorem yv_JS_length : q_Y y_JS_length m_JS_length 0 := ⟨rfl, ⟨by decide, by decide⟩, by decide +kernel, tw_3_108, tw_1_13⟩
def y_JS_indexOf : MethodName := ⟨"java/lang/String", "indexOf", "(I)I"⟩
def m_JS_indexOf : q_M := (prog_17_method_79_code, 2, "java/lang/String", { frames := 8, cells := 0, slots := 0, locals := 800 }, (some FieldType.int))
theorem yv_JS_indexOf : q_Y y_JS_indexOf m_JS_indexOf 1 := ⟨rfl, ⟨by decide, by decide⟩, by decide +kernel, tw_3_186, tw_1_13⟩
theorem cSp_S {D : va_G} {tc : Nat → ClassId} {x0 y : Nat} {ad : Nat → Nat} : ∀ U, q_sp (cG D tc x0 y ad) U → vk_S 4 [4, 2, 2, 2] [[114, 112, 119, 101], [32, 114], [32, 112], [32, 101]] ad (fun i => ad (i + 4)) (q_A (cG D tc x0 y ad)) U U.heap := fun _ h => h.2.2.2.2.2.2.1
theorem cSp_0 {D : va_G} {tc : Nat → ClassId} {x0 y : Nat} {ad : Nat → Nat} : ∀ U, q_sp (cG D tc x0 y ad) U → vk_R "CalendarReplicas$Description" 29 "rpwe" (ad 0) U := fun _ h => h.2.2.2.2.2.2.2.1
theorem cSp_1 {D : va_G} {tc : Nat → ClassId} {x0 y : Nat} {ad : Nat → Nat} : ∀ U, q_sp (cG D tc x0 y ad) U → vk_R "CalendarReplicas" 330 " \x72" (ad 1) U := fun _ h => h.2.2.2.2.2.2.2.2.1
theorem cSp_2 {D : va_G} {tc : Nat → ClassId} {x0 y : Nat} {ad : Nat → Nat} : ∀ U, q_sp (cG D tc x0 y ad) U → vk_R "CalendarReplicas" 335 " p" (ad 2) U := fun _ h => h.2.2.2.2.2.2.2.2.2.1
theorem cSp_3 {D : va_G} {tc : Nat → ClassId} {x0 y : Nat} {ad : Nat → Nat} : ∀ U, q_sp (cG D tc x0 y ad) U → vk_R "CalendarReplicas" 337 " e" (ad 3) U := fun _ h => h.2.2.2.2.2.2.2.2.2.2
