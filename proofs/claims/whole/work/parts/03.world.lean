/-! A world: cells at x0, x0 + 1, .., of kinds that do not change; its state is three tables: ints, longs, places of references. -/
abbrev q_I : Type := Nat → Nat → Int32
abbrev q_J : Type := Nat → Nat → Int64
abbrev q_P : Type := Nat → Nat → Nat
abbrev q_S : Type := q_I × q_J × q_P
/-- a kind: 1 object (class, fields), 2 array of ints and their like (length, type), 3 of longs, 4 of references that stay (length, type, first, step), 5 of references that move (length, type, first), 6 a text buffer, 7 its bytes -/
abbrev q_K : Type := Nat × Nat × Nat × Nat × Nat
/-- D, classes of arrays, x0, A, y, types of arrays, classes, how many cells, kinds, kinds of fields -/
abbrev q_G : Type := va_G × (Nat → ClassId) × Nat × (Nat → Prop) × Nat × List FieldType × List vw_C × Nat × (Nat → q_K) × (Nat → Nat → Nat) × (State → Prop)
abbrev q_D (G : q_G) : va_G := G.1
abbrev q_tc (G : q_G) : Nat → ClassId := G.2.1
abbrev q_x (G : q_G) : Nat := G.2.2.1
abbrev q_A (G : q_G) : Nat → Prop := G.2.2.2.1
abbrev q_y (G : q_G) : Nat := G.2.2.2.2.1
abbrev q_tl (G : q_G) : List FieldType := G.2.2.2.2.2.1
abbrev q_cl (G : q_G) : List vw_C := G.2.2.2.2.2.2.1
abbrev q_N (G : q_G) : Nat := G.2.2.2.2.2.2.2.1
abbrev q_kd (G : q_G) : Nat → q_K := G.2.2.2.2.2.2.2.2.1
abbrev q_fd (G : q_G) : Nat → Nat → Nat := G.2.2.2.2.2.2.2.2.2.1
abbrev q_sp (G : q_G) : State → Prop := G.2.2.2.2.2.2.2.2.2.2
/-- what is said of the start stays, whatever the world's own cells do -/
def q_spk (A : Nat → Prop) (sp : State → Prop) : Prop := (∀ u U : State, u.WarmedH U.vm → (∀ q, q < u.heap.size → ¬ A q → U.heap[q]? = u.heap[q]?) → sp u → sp U) ∧ ∀ u U : State, U.vm = u.vm → U.heap = u.heap → sp u → sp U
def q_tys (G : q_G) : List (ClassId × FieldType) := (q_tl G).zipIdx.map (fun t => (q_tc G t.2, t.1))
theorem q_tys_at {G : q_G} {t : Nat} {ty : FieldType} (h : (q_tl G)[t]? = some ty) : (q_tys G)[t]? = some (q_tc G t, ty) := by
  simp [q_tys, h]
-- changes of a state
def q_ui (I : q_I) (o k : Nat) (v : Int32) : q_I := fun a => if a = o then upd (I o) k v else I a
def q_uj (J : q_J) (o k : Nat) (v : Int64) : q_J := fun a => if a = o then vp_updL (J o) k v else J a
def q_up (P : q_P) (o k : Nat) (v : Nat) : q_P := fun a => if a = o then va_up (P o) k v else P a
def q_uI (I : q_I) (o : Nat) (f : Nat → Int32) : q_I := fun a => if a = o then f else I a
def q_fv (G : q_G) (hd : Nat → Nat) (o ci : Nat) (f : Nat → Int32) (k : Nat) : Value := match q_fd G ci k with
  | 0 => .int (f k)
  | d + 1 => .ref (q_x G + (o + d))
def q_ad (G : q_G) (hd : Nat → Nat) (o : Nat) : Nat := if (q_kd G o).1 = 7 then hd (q_kd G o).2.1 else q_x G + o
def q_cell (G : q_G) (hd : Nat → Nat) (o : Nat) (f : Nat → Int32) (g : Nat → Int64) (r : Nat → Nat) : va_E := match q_kd G o with
  | (1, ci, n, _, _) => .inr (ci, (List.range n).map (q_fv G hd o ci f))
  | (2, n, t, _, _) => .inl (q_tc G t, n, .inl f)
  | (3, n, t, _, _) => .inl (q_tc G t, n, .inr (.inl g))
  | (4, n, t, c, d) => .inl (q_tc G t, n, .inr (.inr (.inr (.inr (fun i => some (q_x G + (c + d * i)))))))
  | (5, n, t, c, _) => .inl (q_tc G t, n, .inr (.inr (.inr (.inr (fun i => some (q_x G + (c + r i)))))))
  | (6, ci, _, _, _) => .inr (ci, [.ref (hd o), .int 0, .int (f 1), .int (f 0)])
  | (7, s, t, _, _) => .inl (q_tc G t, hd (s + 1000), .inl f)
  | _ => .inr (1000, [])
def q_wl (G : q_G) (hd : Nat → Nat) (S : q_S) : va_W := (List.range (q_N G)).map (fun o => (q_ad G hd o, q_cell G hd o (S.1 o) (S.2.1 o) (S.2.2 o)))
theorem q_wl_get {G : q_G} {hd : Nat → Nat} {S : q_S} {o : Nat} (h : o < q_N G) : (q_wl G hd S)[o]? = some (q_ad G hd o, q_cell G hd o (S.1 o) (S.2.1 o) (S.2.2 o)) := by
  simp [q_wl, h]
theorem q_wl_set {G : q_G} {hd : Nat → Nat} {S S' : q_S} {o : Nat} {e : va_E} (he : q_cell G hd o (S'.1 o) (S'.2.1 o) (S'.2.2 o) = e) (h1 : ∀ a, a ≠ o → S'.1 a = S.1 a) (h2 : ∀ a, a ≠ o → S'.2.1 a = S.2.1 a) (h3 : ∀ a, a ≠ o → S'.2.2 a = S.2.2 a) : (q_wl G hd S).set o (q_ad G hd o, e) = q_wl G hd S' := by
  apply List.ext_getElem?
  intro i
  rw [List.getElem?_set]
  by_cases hio : o = i
  · subst hio
    rw [if_pos rfl]
    by_cases hl : o < q_N G
    · rw [if_pos (by simpa [q_wl] using hl), q_wl_get hl, he]
    · rw [if_neg (by simpa [q_wl] using hl)]
      simp [q_wl, hl]
  · rw [if_neg hio]
    simp only [q_wl, List.getElem?_map]
    cases hr : (List.range (q_N G))[i]? with
    | none => rfl
    | some j =>
      have hj : j = i := by
        have := (List.getElem?_eq_some_iff.mp hr).2
        simpa using this.symm
      subst hj
      simp only [Option.map_some]
      rw [h1 _ (Ne.symm hio), h2 _ (Ne.symm hio), h3 _ (Ne.symm hio)]
/-- where references that move may point -/
def q_pb (G : q_G) (P : q_P) : Prop := ∀ o n t c d, q_kd G o = (5, n, t, c, d) → ∀ i, i < n → P o i < n
/-- a text buffer holds no more than its bytes have room for; behind them the table says 0; what it says are bytes -/
def q_sb (G : q_G) (I : q_I) (hd : Nat → Nat) : Prop := (∀ o a b c d, q_kd G o = (6, a, b, c, d) → ∃ n, I o 0 = nI n ∧ n ≤ hd (o + 1000) ∧ hd (o + 1000) ≤ 200) ∧ ∀ o a b c d, q_kd G o = (7, a, b, c, d) → ∀ j, (hd (a + 1000) ≤ j → I o j = 0) ∧ fits .byte (.int (I o j)) = true
def q_W (G : q_G) (S : q_S) (H : Heap) : Prop := q_pb G S.2.2 ∧ ∃ hd : Nat → Nat, va_P (q_D G) (q_cl G) (q_wl G hd S) H ∧ va_D (q_A G) (q_wl G hd S) ∧ q_sb G S.1 hd
/-- what holds of the machine's tables, whatever the heap is -/
def q_KK (G : q_G) (U : State) : Prop := va_K (q_D G) (q_cl G) (q_tys G) U ∧ (∀ a i y h, Cond.methodLinkNest a i y h ∈ lw_tbl → va_Nw (.methodLinkNest a i y h) U)
theorem q_KK.moved {G : q_G} {s U : State} (hW : s.WarmedH U.vm) (h : q_KK G s) : q_KK G U := ⟨va_K.moved hW.alike h.1, fun a i y hh hm => (h.2 a i y hh hm).warmM hW⟩
/-- a class: its number, its fields -/
def q_C (G : q_G) (ci : Nat) (C : String) (T : u_T) (N : Nat) (ty : Nat → FieldType) : Prop := (q_cl G)[ci]? = some (C, T, N) ∧ (∀ w ∈ u_ws C T N, w ∈ q_gw) ∧ (∀ k, k < N → parseFieldDescriptor (T k).2.2.1 = some (ty k)) ∧ (∀ a, a < N → ∀ b, b < N → a ≠ b → (T a).2.1 ≠ (T b).2.1)
/-- the machine around a method: launch, program, .., code -/
abbrev q_X : Type := Launch × Program × Env × State × MethodId × Array Value × List Frame × Method × Code
/-- a method: bytes, locals, own class, room, what it returns -/
abbrev q_M : Type := ByteArray × Nat × String × Room × Option FieldType
/-- every kind but 0 is in the world -/
def q_in (G : q_G) : Prop := (∀ o, (q_kd G o).1 ≠ 0 → o < q_N G) ∧ q_spk (q_A G) (q_sp G)
def q_ok (G : q_G) (M : q_M) (X : q_X) : Prop := X.2.1.tables.exec = Jvm.exec ∧ X.2.2.2.2.2.2.2.2.code = M.1 ∧ X.2.2.2.2.2.2.2.2.maxLocals = M.2.1 ∧ X.2.2.2.1.vm.findClass M.2.2.1 = some X.2.2.2.2.1.cls ∧ (∀ w ∈ q_gw, w.before X.2.2.2.2.2.1 X.2.2.2.1 = true) ∧ q_KK G X.2.2.2.1 ∧ X.2.2.2.2.2.2.2.1.sig.returnType = M.2.2.2.2 ∧ X.2.2.2.2.2.2.2.1.locks = false ∧ q_in G ∧ q_y G ≤ X.2.2.2.1.heap.size ∧ q_sp G X.2.2.2.1
def q_Q (G : q_G) (r : Option Value × q_S) : Array Value → State → Outcome → State → Prop := fun _ s0 oc t => oc = .returned r.1 ∧ q_W G r.2 t.heap ∧ va_F (q_A G) s0 t
/-- the machine, at pc with locals L and stack st over the state I, J, P, computes o (if o is an answer: it comes to it) -/
def q_V {ρ : Type} (G : q_G) (M : q_M) (X : q_X) (em : ρ → Option Value × q_S) (k n pc : Nat) (L : List (Nat × Value)) (st : List Value) (I : q_I) (J : q_J) (P : q_P) (o : Option ρ) : Prop :=
  q_ok G M X → ∀ r, o = some r → ∀ (H : Heap) (locs : List Loc) (ls : Array Slot), q_W G (I, J, P) H → va_S (q_A G) X.2.2.2.1.heap H locs → lv_has ls M.2.1 L → W X.2.1 X.1 X.2.2.1 M.2.2.2.1 X.2.2.2.1 X.2.2.2.2.1 X.2.2.2.2.2.1 X.2.2.2.2.2.2.1 X.2.2.2.2.2.2.2.1 X.2.2.2.2.2.2.2.2 H locs k n (MQ X.2.2.2.2.2.2.1 (q_Q G (em r)) X.2.2.2.2.2.1 X.2.2.2.1 M.2.2.2.1.cells M.2.2.2.1.slots (q_A G)) (F0 X.2.2.2.2.1 pc ls st)
abbrev q_r (G : q_G) (o : Nat) : Value := .ref (q_x G + o)
def q_rn (G : q_G) (r : Option Nat) : Value := match r with
  | none => .null
  | some o => q_r G o
/-- an index -/
def q_ix {ρ : Type} (i : Int32) (n : Nat) (K : Nat → Option ρ) : Option ρ := if i < 0 ∨ n ≤ i.toNatClampNeg then none else K i.toNatClampNeg
def q_b1 {α ρ : Type} (o : Option α) (K : α → Option ρ) : Option ρ := o.bind K
def q_b2 {α β ρ : Type} (o : Option (α × β)) (K : α → β → Option ρ) : Option ρ := o.bind (fun r => K r.1 r.2)
def q_b3 {α β γ ρ : Type} (o : Option (α × β × γ)) (K : α → β → γ → Option ρ) : Option ρ := o.bind (fun r => K r.1 r.2.1 r.2.2)
def q_b4 {α β γ δ ρ : Type} (o : Option (α × β × γ × δ)) (K : α → β → γ → δ → Option ρ) : Option ρ := o.bind (fun r => K r.1 r.2.1 r.2.2.1 r.2.2.2)
/-- a contract: from a world in the state I, J, P, where o is an answer, the method y with the arguments av returns it -/
def q_wsM (y : MethodName) (M : q_M) : List Cond := .code y M.1 M.2.1 M.2.2.2.2 :: q_gw
def q_Ct (l : Launch) (G : q_G) {ρ : Type} (y : MethodName) (M : q_M) (av : List Value) (S : q_S) (o : Option ρ) (em : ρ → Option Value × q_S) : Prop := ∀ r, o = some r → Met l y (q_wsM y M) M.2.2.2.1 (va_Pc av (fun U => q_W G S U.heap ∧ q_KK G U ∧ q_y G ≤ U.heap.size ∧ q_sp G U)) (q_Q G (em r)) M.2.2.2.1.cells M.2.2.2.1.slots (q_A G)
theorem q_Ct_of {l : Launch} {G : q_G} {ρ : Type} {y : MethodName} {M : q_M} {av : List Value} {I : q_I} {J : q_J} {P : q_P} {o : Option ρ} {em : ρ → Option Value × q_S} {L : List (Nat × Value)} (hin : q_in G) (hy : plainName y.cls = true) (hown : y.cls = M.2.2.1) (hn : (lg_sl av).length ≤ M.2.1) (hL : lv_args 0 av = L)
    (body : ∀ X : q_X, X.1 = l → q_V G M X em 0 0 0 L [] I J P o) : q_Ct l G y M av (I, J, P) o em := by
  intro r hr
  refine Met.ofW (cc := M.1) (maxL := M.2.1) (ret := M.2.2.2.2) hy rfl ?_
  intro p e s m args below meth c s₁ B hml hv
  obtain ⟨rfl, hW, hK, hy0, hsp⟩ := hv
  have hts := atoms_spec (ws := q_wsM y M) B.pre
  have hV := body (l, p, e, s, m, av.toArray, below, meth, c) rfl ⟨B.exec, B.bytes, hml, by rw [← hown]; exact findClass_of_methodNamed B.named, fun w hw => hts w (List.mem_cons_of_mem _ hw), hK, B.returns, B.notSynchronized, hin, hy0, hsp⟩ r hr s.heap [] _ hW va_S.rf (by rw [← hL]; exact lv_entry av hn)
  rw [lg_entry_eq]
  exact hV
