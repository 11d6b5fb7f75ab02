/-! cells from B on, one behind another: n of them, as c says -/
def z_P (G : q_G) (B n : Nat) (c : Nat → va_E) (H : Heap) : Prop := H.size = B + n ∧ ∀ j, j < n → va_at (q_D G) (q_cl G) (B + j, c j) H
/-- one cell says no more than the other -/
def z_eqv (e e' : va_E) : Prop := ∀ (D : va_G) (cl : List vw_C) (a : Nat) (H : Heap), va_at D cl (a, e) H → va_at D cl (a, e') H
theorem z_eqv_rf {e e' : va_E} (h : e = e') : z_eqv e e' := fun _ _ _ _ q => by rw [← h]; exact q
theorem z_eqv_q {cA : ClassId} {N : Nat} {f f' : Nat → Option Nat} (h : ∀ t, t < N → f t = f' t) : z_eqv (.inl (cA, N, .inr (.inr (.inr (.inr f))))) (.inl (cA, N, .inr (.inr (.inr (.inr f'))))) := by
  intro D cl a H q
  have q' : H[a]? = some (vp_cell _ _) := q
  show H[a]? = some (vp_cell _ _)
  rw [q', vp_cell_q, vp_cell_q]
  unfold arrV
  congr 2
  apply Array.ext
  · simp
  · intro i h1 h2
    simp only [Array.getElem_ofFn]
    rw [h i (by simpa using h1)]
def z_A (B : Nat) : Nat → Prop := fun q => B ≤ q
def z_Z (B : Nat) (U : State) : Prop := va_Z "java/lang/String" "COMPACT_STRINGS" "Z" (.int 1) (z_A B) U U.heap
def z_K (G : q_G) (B : Nat) (U : State) : Prop := q_KK G U ∧ va_AO "CalendarReplicas$Meeting" U ∧ va_AO "CalendarReplicas$Edit" U ∧ va_AO "CalendarReplicas$World" U ∧ z_Z B U
def z_ok (G : q_G) (B : Nat) (M : q_M) (X : q_X) : Prop := X.2.1.tables.exec = Jvm.exec ∧ X.2.2.2.2.2.2.2.2.code = M.1 ∧ X.2.2.2.2.2.2.2.2.maxLocals = M.2.1 ∧ X.2.2.2.1.vm.findClass M.2.2.1 = some X.2.2.2.2.1.cls ∧ (∀ w ∈ q_gw, w.before X.2.2.2.2.2.1 X.2.2.2.1 = true) ∧ z_K G B X.2.2.2.1 ∧ X.2.2.2.2.2.2.2.1.sig.returnType = M.2.2.2.2 ∧ X.2.2.2.2.2.2.2.1.locks = false ∧ X.2.2.2.2.2.2.2.1.name = "<init>" ∧ B ≤ X.2.2.2.1.heap.size
def z_Q (G : q_G) (B n : Nat) (c : Nat → va_E) : Array Value → State → Outcome → State → Prop := fun _ s0 oc t => oc = .returned none ∧ z_P G B n c t.heap ∧ va_F (z_A B) s0 t
def z_V (G : q_G) (B : Nat) (M : q_M) (X : q_X) (k m pc : Nat) (L : List (Nat × Value)) (st : List Value) (n : Nat) (c : Nat → va_E) (n' : Nat) (c' : Nat → va_E) : Prop :=
  z_ok G B M X → ∀ (H : Heap) (locs : List Loc) (ls : Array Slot), z_P G B n c H → va_S (z_A B) X.2.2.2.1.heap H locs → lv_has ls M.2.1 L → W X.2.1 X.1 X.2.2.1 M.2.2.2.1 X.2.2.2.1 X.2.2.2.2.1 X.2.2.2.2.2.1 X.2.2.2.2.2.2.1 X.2.2.2.2.2.2.2.1 X.2.2.2.2.2.2.2.2 H locs k m (MQ X.2.2.2.2.2.2.1 (z_Q G B n' c') X.2.2.2.2.2.1 X.2.2.2.1 M.2.2.2.1.cells M.2.2.2.1.slots (z_A B)) (F0 X.2.2.2.2.1 pc ls st)
def z_Ct (l : Launch) (G : q_G) (B : Nat) (y : MethodName) (M : q_M) (av : List Value) (n : Nat) (c : Nat → va_E) (n' : Nat) (c' : Nat → va_E) : Prop := Met l y (q_wsM y M) M.2.2.2.1 (va_Pc av (fun U => z_P G B n c U.heap ∧ z_K G B U ∧ B ≤ U.heap.size)) (z_Q G B n' c') M.2.2.2.1.cells M.2.2.2.1.slots (z_A B)
theorem z_Z.kept {B : Nat} {u U : State} (h : z_Z B u) (hW : u.vm.Alike U.vm) (hq : ∀ q, q < u.heap.size → ¬ z_A B q → U.heap[q]? = u.heap[q]?) : z_Z B U := (va_Z.kept h hq).moved hW
theorem z_Ct_of {l : Launch} {G : q_G} {B : Nat} {y : MethodName} {M : q_M} {av : List Value} {n n' : Nat} {c c' : Nat → va_E} {L : List (Nat × Value)} (hy : plainName y.cls = true) (hown : y.cls = M.2.2.1) (hn : (lg_sl av).length ≤ M.2.1) (hL : lv_args 0 av = L) (hi : y.name = "<init>")
    (body : ∀ X : q_X, X.1 = l → z_V G B M X 0 0 0 L [] n c n' c') : z_Ct l G B y M av n c n' c' := by
  refine Met.ofW (cc := M.1) (maxL := M.2.1) (ret := M.2.2.2.2) hy rfl ?_
  intro p e s m args below meth cd s₁ Bd hml hv
  obtain ⟨rfl, hP, hK, hB⟩ := hv
  have hts := atoms_spec (ws := q_wsM y M) Bd.pre
  have hV := body (l, p, e, s, m, av.toArray, below, meth, cd) rfl ⟨Bd.exec, Bd.bytes, hml, by rw [← hown]; exact findClass_of_methodNamed Bd.named, fun w hw => hts w (List.mem_cons_of_mem _ hw), hK, Bd.returns, Bd.notSynchronized, by rw [← hi]; exact (name_of_methodNamed Bd.named Bd.method).1, hB⟩ s.heap [] _ hP va_S.rf (by rw [← hL]; exact lv_entry av hn)
  rw [lg_entry_eq]
  exact hV
section ZR
variable {G : q_G} {B : Nat} {M : q_M} {X : q_X} {k m pc : Nat} {L : List (Nat × Value)} {st : List Value} {n n' : Nat} {c c' : Nat → va_E}
theorem z_iconst (v : Int32) {x : Int} (q : Nat) (e : pc + 1 = q) (d : decode M.1 pc = .ok (.iconst x, 1)) (h : Int32.ofInt x = v) (kk : z_V G B M X k m q L (.int v :: st) n c n' c') : z_V G B M X k m pc L (st) n c n' c' := by
  subst e
  intro K H locs ls hP hS hl
  exact lv_iconst K.1 K.2.1 d h (kk K H locs ls hP hS hl)
theorem z_bipush (v : Int32) {x : Int} (q : Nat) (e : pc + 2 = q) (d : decode M.1 pc = .ok (.bipush x, 2)) (h : (Int8.ofInt x).toInt32 = v) (kk : z_V G B M X k m q L (.int v :: st) n c n' c') : z_V G B M X k m pc L (st) n c n' c' := by
  subst e
  intro K H locs ls hP hS hl
  exact lv_bipush K.1 K.2.1 d h (kk K H locs ls hP hS hl)
theorem z_sipush (v : Int32) {x : Int} (q : Nat) (e : pc + 3 = q) (d : decode M.1 pc = .ok (.sipush x, 3)) (h : (Int16.ofInt x).toInt32 = v) (kk : z_V G B M X k m q L (.int v :: st) n c n' c') : z_V G B M X k m pc L (st) n c n' c' := by
  subst e
  intro K H locs ls hP hS hl
  exact lv_sipush K.1 K.2.1 d h (kk K H locs ls hP hS hl)
theorem z_iload_n {x : Int32} (t : Nat) (j : Fin 4) (q : Nat) (e : pc + 1 = q) (d : decode M.1 pc = .ok (.iload_n j, 1)) (hl0 : L[t]? = some ((j : Nat), .int x)) (kk : z_V G B M X k m q L (.int x :: st) n c n' c') : z_V G B M X k m pc L (st) n c n' c' := by
  subst e
  intro K H locs ls hP hS hl
  exact lv_iload_n K.1 K.2.1 d rfl (lv_at hl t hl0) (kk K H locs ls hP hS hl)
theorem z_aload_n {x : Nat} (t : Nat) (j : Fin 4) (q : Nat) (e : pc + 1 = q) (d : decode M.1 pc = .ok (.aload_n j, 1)) (hl0 : L[t]? = some ((j : Nat), .ref x)) (kk : z_V G B M X k m q L (.ref x :: st) n c n' c') : z_V G B M X k m pc L (st) n c n' c' := by
  subst e
  intro K H locs ls hP hS hl
  exact lv_aload_n K.1 K.2.1 d rfl (lv_at hl t hl0) (kk K H locs ls hP hS hl)
theorem z_dup {va : Value} (q : Nat) (e : pc + 1 = q) (d : decode M.1 pc = .ok (.dup, 1)) (ha : va.category = 1) (kk : z_V G B M X k m q L (va :: va :: st) n c n' c') : z_V G B M X k m pc L (va :: st) n c n' c' := by
  subst e
  intro K H locs ls hP hS hl
  exact lv_dup K.1 K.2.1 d ha (kk K H locs ls hP hS hl)
theorem z_iadd {x y : Int32} (q : Nat) (e : pc + 1 = q) (d : decode M.1 pc = .ok (.iadd, 1)) (kk : z_V G B M X k m q L (.int (x + y) :: st) n c n' c') : z_V G B M X k m pc L (.int y :: .int x :: st) n c n' c' := by
  subst e
  intro K H locs ls hP hS hl
  exact lv_iadd K.1 K.2.1 d (kk K H locs ls hP hS hl)
theorem z_istore_n {x : Int32} (i : Nat) (j : Fin 4) (q : Nat) (e : pc + 1 = q) (L' : List (Nat × Value)) (d : decode M.1 pc = .ok (.istore_n j, 1)) (hj : (j : Nat) = i) (hn : i < M.2.1) (hl0 : (i, Value.int x) :: L.filter (fun q => !(q.1 == i) && !(q.1 + 1 == i && q.2.category == 2)) = L') (kk : z_V G B M X k m q L' st n c n' c') : z_V G B M X k m pc L (.int x :: st) n c n' c' := by
  subst e
  intro K H locs ls hP hS hl
  exact lv_istore_n K.1 K.2.1 d hj hl hn hl0 (fun ls' hl' => kk K H locs ls' hP hS hl')
theorem z_iinc {x : Int32} (v : Int32) {z : Int} (i t : Nat) (q : Nat) (e : pc + 3 = q) (L' : List (Nat × Value)) (d : decode M.1 pc = .ok (.iinc i z, 3)) (ht : L[t]? = some (i, .int x)) (hv : x + Int32.ofInt z = v) (hn : i < M.2.1) (hl0 : (i, Value.int v) :: L.filter (fun q => !(q.1 == i) && !(q.1 + 1 == i && q.2.category == 2)) = L') (kk : z_V G B M X k m q L' st n c n' c') : z_V G B M X k m pc L st n c n' c' := by
  subst e
  intro K H locs ls hP hS hl
  exact lv_iinc K.1 K.2.1 d hl ht hv hn hl0 (fun ls' hl' => kk K H locs ls' hP hS hl')
theorem z_icmp_ge {x y : Int32} {off : Int} (q : Nat) (e : pc + 3 = q) (tgt : Nat) (d : decode M.1 pc = .ok (.if_icmp .ge off, 3)) (ht : (pc : Int) + off = (tgt : Int)) (kt : y ≤ x → z_V G B M X k m tgt L st n c n' c') (kf : ¬ y ≤ x → z_V G B M X k m q L st n c n' c') : z_V G B M X k m pc L (.int y :: .int x :: st) n c n' c' := by
  subst e
  intro K H locs ls hP hS hl
  exact lv_icmp_ge K.1 K.2.1 d ht (fun h => kt h K H locs ls hP hS hl) (fun h => kf h K H locs ls hP hS hl)
theorem z_if_eq {x : Int32} {off : Int} (q : Nat) (e : pc + 3 = q) (tgt : Nat) (d : decode M.1 pc = .ok (.ifCond .eq off, 3)) (ht : (pc : Int) + off = (tgt : Int)) (kt : x = 0 → z_V G B M X k m tgt L st n c n' c') (kf : ¬ x = 0 → z_V G B M X k m q L st n c n' c') : z_V G B M X k m pc L (.int x :: st) n c n' c' := by
  subst e
  intro K H locs ls hP hS hl
  exact lv_if_eq K.1 K.2.1 d ht (fun h => kt h K H locs ls hP hS hl) (fun h => kf h K H locs ls hP hS hl)
theorem z_goto {off : Int} (tgt : Nat) (d : decode M.1 pc = .ok (.goto off, 3)) (ht : (pc : Int) + off = (tgt : Int)) (kk : z_V G B M X k m tgt L st n c n' c') : z_V G B M X k m pc L st n c n' c' := by
  intro K H locs ls hP hS hl
  exact lv_goto K.1 K.2.1 d ht (kk K H locs ls hP hS hl)
theorem z_sub {L' : List (Nat × Value)} (ks : List Nat) (hl : lv_pick L ks = L') (kk : z_V G B M X k m pc L' st n c n' c') : z_V G B M X k m pc L st n c n' c' := fun K H locs ls hP hS h => kk K H locs ls hP hS (lv_sub h ks hl)
theorem z_widen {k' m' : Nat} (h1 : k ≤ k') (h2 : m ≤ m') (kk : z_V G B M X k' m' pc L st n c n' c') : z_V G B M X k m pc L st n c n' c' := fun K H locs ls hP hS hl => W.widen h1 h2 (kk K H locs ls hP hS hl)
theorem z_vret (d : decode M.1 pc = .ok (.return_, 1)) (hr0 : M.2.2.2.2 = none) (hn : n = n') (hc : ∀ j, j < n' → z_eqv (c j) (c' j)) (hk : k ≤ M.2.2.2.1.cells) (hm : m ≤ M.2.2.2.1.slots) : z_V G B M X k m pc L [] n c n' c' := by
  subst hn
  intro K H locs ls hP hS hl
  refine W.widen hk hm ?_
  exact W.vret (hlocks := K.2.2.2.2.2.2.2.1) K.1 K.2.1 (K.2.2.2.2.2.2.1.trans hr0) (fun t ht hw => ⟨rfl, ⟨by rw [ht]; exact hP.1, fun j hj => by rw [ht]; exact hc j hj _ _ _ _ (hP.2 j hj)⟩, hS.F ht⟩) hS.2.2 d
theorem z_objInit {idx : Nat} {a : Nat} (q : Nat) (e : pc + 3 = q) (d : decode M.1 pc = .ok (.invokespecial idx, 3)) (h1 : Cond.methodLink M.2.2.1 idx Lib.objectInit ∈ q_gw) (h2 : Cond.instanceMethod Lib.objectInit ∈ q_gw) (h3 : Cond.code Lib.objectInit ⟨#[0xb1]⟩ 1 none ∈ q_gw) (hf : 1 ≤ M.2.2.2.1.frames) (hlo : (st.map fun v => v.category).sum + 12 ≤ M.2.2.2.1.locals) (kk : z_V G B M X k m q L st n c n' c') : z_V G B M X k m pc L (.ref a :: st) n c n' c' := by
  subst e
  intro K H locs ls hP hS hl
  exact W.objInit K.1 K.2.1 K.2.2.2.1 (K.2.2.2.2.1 _ h1) (K.2.2.2.2.1 _ h2) (K.2.2.2.2.1 _ h3) rfl (by rw [K.2.2.1]; exact hl.1) rfl d hf (by show 2 * 0 + _ + 12 ≤ _; omega) (kk K H locs ls hP hS hl)
theorem z_put {c : Nat → va_E} {H H1 : Heap} {i : Nat} {e : va_E} (hP : z_P G B n c H) (hz : H1.size = H.size) (hat : va_at (q_D G) (q_cl G) (B + i, e) H1) (ho : ∀ q, q ≠ B + i → H1[q]? = H[q]?) : z_P G B n (va_up c i e) H1 := by
  refine ⟨hz.trans hP.1, fun j hj => ?_⟩
  unfold va_up
  split
  · next h => rw [h]; exact hat
  · next h => exact (hP.2 j hj).kept (ho _ (fun e => h (by simpa using e)))
theorem z_grow {c : Nat → va_E} {H H1 : Heap} {e : va_E} (hP : z_P G B n c H) (hz : H1.size = H.size + 1) (hat : va_at (q_D G) (q_cl G) (B + n, e) H1) (ho : ∀ q, q < H.size → H1[q]? = H[q]?) : z_P G B (n + 1) (va_up c n e) H1 := by
  refine ⟨by rw [hz, hP.1, Nat.add_assoc], fun j hj => ?_⟩
  unfold va_up
  split
  · next h => rw [h]; exact hat
  · next h => exact (hP.2 j (by omega)).kept (ho _ (by show B + j < _; rw [hP.1]; omega))
theorem z_S {A : Nat → Prop} {H0 H H1 : Heap} {locs : List Loc} (h : va_S A H0 H locs) (hz : H1.size = H.size + 1) (ho : ∀ q, q < H.size → H1[q]? = H[q]?) : va_S A H0 H1 locs := ⟨Nat.le_trans h.1 (by omega), fun x h1 h2 => (ho x (Nat.lt_of_lt_of_le h1 h.1)).trans (h.2.1 x h1 h2), h.2.2⟩
theorem z_new {idx ci N : Nat} {C : String} {T : u_T} {ty : Nat → FieldType} (fs : List Value) (q : Nat) (e : pc + 3 = q) (d : decode M.1 pc = .ok (.new idx, 3)) (hc : q_C G ci C T N ty) (h1 : Cond.classLink M.2.2.1 idx C ∈ q_gw) (h2 : Cond.instantiable C N ∈ q_gw) (h3 : Cond.initialized C ∈ q_gw) (hfs : ∀ j, j < N → defaultValue (ty j) = vp_V fs j) (hk : k + 1 ≤ M.2.2.2.1.cells) (hm : m + N ≤ M.2.2.2.1.slots) (kk : z_V G B M X (k + 1) (m + N) q L (.ref (B + n) :: st) (n + 1) (va_up c n (.inr (ci, fs))) n' c') : z_V G B M X k m pc L st n c n' c' := by
  subst e
  intro K H locs ls hP hS hl
  have hKn := K.2.2.2.2.2.1.1.1.1 ci _ hc.1
  refine W.newcK K.1 K.2.1 K.2.2.2.1 (K.2.2.2.2.1 _ h1) (K.2.2.2.2.1 _ h2) (K.2.2.2.2.1 _ h3) rfl d hk hm hKn.2.1 hP.1 fun H1 kC hkC e1 z1 o1 => ?_
  rw [← hP.1] at z1 o1
  refine kk K H1 locs ls (z_grow hP z1 ⟨_, hc.1, ?_⟩ o1) (z_S hS z1 o1) hl
  exact (u_born ty K.2.2.2.2.1 hc.2.1 hKn hkC e1 hc.2.2.1).to hfs
theorem z_newa {atype : ArrayType} {t N : Nat} {x : Int32} (a0 : vp_A) (q : Nat) (e : pc + 2 = q) (d : decode M.1 pc = .ok (.newarray atype, 2)) (ht : (q_tl G)[t]? = some (newarray.typeOf atype)) (hobj : ∀ C, newarray.typeOf atype ≠ .object C) (h1 : Cond.arrayClass (newarray.typeOf atype) ∈ q_gw) (ha : ∀ cA : ClassId, vp_cell cA a0 = arrV cA N (fun _ => defaultValue (newarray.typeOf atype))) (hx0 : ¬ x < 0) (hx : x.toNatClampNeg = N) (hb : N * componentBytes (newarray.typeOf atype) ≤ 536870912) (hk : k + 1 ≤ M.2.2.2.1.cells) (hm : m + N ≤ M.2.2.2.1.slots) (kk : z_V G B M X (k + 1) (m + N) q L (.ref (B + n) :: st) (n + 1) (va_up c n (.inl (q_tc G t, a0))) n' c') : z_V G B M X k m pc L (.int x :: st) n c n' c' := by
  subst e
  intro K H locs ls hP hS hl
  have hra := (K.2.2.2.2.2.1.1.1.2 t _ (q_tys_at ht)).2
  refine va_newaK K.1 K.2.1 (K.2.2.2.2.1 _ h1) rfl d rfl hx0 hx hb hk hm hP.1 fun H1 cA e1 z1 o1 _ hNm => ?_
  rw [← hP.1] at z1 o1
  have hcA : cA = q_tc G t := by
    have h2 : X.2.2.2.1.vm.findClass ("[" ++ (newarray.typeOf atype).toString) = some (q_tc G t) := by
      cases atype <;> exact hra
    exact Option.some.inj (hNm.symm.trans h2)
  subst hcA
  refine kk K H1 locs ls (z_grow hP z1 ?_ o1) (z_S hS z1 o1) hl
  show H1[B + n]? = some (vp_cell _ _)
  rw [ha]
  exact e1
theorem z_newq {idx t N : Nat} {C : String} {x : Int32} (q : Nat) (e : pc + 3 = q) (d : decode M.1 pc = .ok (.anewarray idx, 3)) (ht : (q_tl G)[t]? = some (.object C)) (h1 : Cond.classLink M.2.2.1 idx C ∈ q_gw) (h2 : ∀ U, z_K G B U → va_AO C U) (hx0 : ¬ x < 0) (hx : x.toNatClampNeg = N) (hb : N * 4 ≤ 536870912) (hk : k + 1 ≤ M.2.2.2.1.cells) (hm : m + N ≤ M.2.2.2.1.slots) (kk : z_V G B M X (k + 1) (m + N) q L (.ref (B + n) :: st) (n + 1) (va_up c n (.inl (q_tc G t, N, .inr (.inr (.inr (.inr (fun _ => none))))))) n' c') : z_V G B M X k m pc L (.int x :: st) n c n' c' := by
  subst e
  subst hx
  intro K H locs ls hP hS hl
  obtain ⟨kA0, comp0, -, -, -, hra⟩ := (K.2.2.2.2.2.1.1.1.2 t _ (q_tys_at ht)).2
  refine W.anew K.1 K.2.1 K.2.2.2.1 (K.2.2.2.2.1 _ h1) ((h2 _ K.2.2.2.2.2.1).use) rfl d rfl hx0 hb hk hm fun cA kA comp f1 f2 f3 f4 => ?_
  have hcA : cA = q_tc G t := Option.some.inj (f1.symm.trans hra)
  subst hcA
  have z1 : (H.push ({ cls := q_tc G t, slots := Array.replicate x.toNatClampNeg .null, vm := .none } : Cell)).size = H.size + 1 := Array.size_push ..
  have o1 : ∀ q : Nat, q < H.size → (H.push ({ cls := q_tc G t, slots := Array.replicate x.toNatClampNeg .null, vm := .none } : Cell))[q]? = H[q]? := fun q hq => by rw [Array.getElem?_push, if_neg (Nat.ne_of_lt hq)]
  have e1 : (H.push ({ cls := q_tc G t, slots := Array.replicate x.toNatClampNeg .null, vm := .none } : Cell))[B + n]? = some (arrV (q_tc G t) x.toNatClampNeg (fun _ => .null)) := by rw [← hP.1, Array.getElem?_push_size, ← arrV_new]
  have hsz : Value.ref (Array.size H) = .ref (B + n) := by rw [hP.1]
  rw [hsz]
  refine kk K _ locs ls (z_grow hP z1 ?_ o1) (z_S hS z1 o1) hl
  show _ = some (vp_cell _ _)
  rw [vp_cell_q]
  exact e1
theorem z_getf {idx i ci f N : Nat} {C : String} {T : u_T} {ty : Nat → FieldType} {fs : List Value} (v : Value) (q : Nat) (e : pc + 3 = q) (d : decode M.1 pc = .ok (.getfield idx, 3)) (hc : q_C G ci C T N ty) (hi : i < n) (hci : c i = .inr (ci, fs)) (hf : f < N) (hv : fs[f]? = some v) (hw : Cond.fieldLink M.2.2.1 idx (T f).1 (T f).2.1 (T f).2.2.1 ∈ q_gw) (kk : z_V G B M X k m q L (v :: st) n c n' c') : z_V G B M X k m pc L (.ref (B + i) :: st) n c n' c' := by
  subst e
  intro K H locs ls hP hS hl
  have hP1 : va_P (q_D G) (q_cl G) [(B + i, .inr (ci, fs))] H := by
    intro z q hq
    have hz : z = 0 := by have := (List.getElem?_eq_some_iff.mp hq).1; simp at this; exact this
    subst hz
    cases hq
    rw [← hci]
    exact hP.2 i hi
  exact va_get (D := q_D G) (cl := q_cl G) (ci := ci) (v := v) (fs := fs) (C := C) (T := T) (N := N) K.1 K.2.1 K.2.2.2.2.1 hc.2.1 K.2.2.2.1 K.2.2.2.2.2.1.1.1 hP1 0 rfl hc.1 f hf (K.2.2.2.2.1 _ hw) (fun _ h => h) hv d (kk K H locs ls hP hS hl)
theorem z_putF {idx i ci f N : Nat} {C : String} {T : u_T} {ty : Nat → FieldType} {fs : List Value} {v : Value} (q : Nat) (e : pc + 3 = q) (d : decode M.1 pc = .ok (.putfield idx, 3)) (hc : q_C G ci C T N ty) (hi : i < n) (hci : c i = .inr (ci, fs)) (hf : f < N) (hl9 : f < fs.length) (hfin : (T f).2.2.2 = true) (hown : (T f).1 = M.2.2.1) (hn : narrow (ty f) v = v) (hfit : fits (ty f) v = true) (hw : Cond.fieldLink M.2.2.1 idx (T f).1 (T f).2.1 (T f).2.2.1 ∈ q_gw) (kk : z_V G B M X k m q L st n (va_up c i (.inr (ci, fs.set f v))) n' c') : z_V G B M X k m pc L (v :: .ref (B + i) :: st) n c n' c' := by
  subst e
  intro K H locs ls hP hS hl
  have hap := va_apart (own := M.2.2.1) K.2.2.2.2.1 hc.2.1 ty hc.2.2.1 hc.2.2.2 K.2.2.2.2.2.1.1.1 hc.1
  have h0 := hP.2 i hi
  rw [hci] at h0
  obtain ⟨r, g1, cell, q1, q2, q3, q4⟩ := h0
  have hr : r = (C, T, N) := Option.some.inj (g1.symm.trans hc.1)
  subst hr
  obtain ⟨hS0, hfc, kC, hkC, hkind⟩ := K.2.2.2.2.2.1.1.1.1 ci _ hc.1
  obtain ⟨cf, kf, fi, fd, hi0, hsl⟩ := hS0 f hf
  have hlay := K.2.2.2.2.1 _ (hc.2.1 _ (u_in_lay hf))
  unfold u_lay at hlay
  rw [if_pos hfin] at hlay
  have hst := (u_facts hfc hkC (u_lays K.2.2.2.2.1 hc.2.1 hf) hi0).1
  have hcf : X.2.2.2.2.1.cls = cf := by
    obtain ⟨_, _, c2, _, _, _, -, -, hf', -, -, -, hown2, -⟩ := Cond.laysFinal_spec hlay
    have e1 : c2 = cf := by have := hi0.symm.trans hf'; simp at this; exact this.1.symm
    rw [hown] at hown2
    rw [← e1]; exact Option.some.inj (K.2.2.2.1.symm.trans hown2)
  have h6 := u_fits hfc hkC hkind (Or.inr hlay) hi0 (hc.2.2.1 f hf) hn hfit
  refine W.putFinK K.1 K.2.1 K.2.2.2.1 (K.2.2.2.2.1 _ hw) hi0 hst hcf K.2.2.2.2.2.2.2.2.1 (by rw [q2]; exact h6) q1 q3 (by rw [hsl]; exact k2_hasslot (q4 f hf)) rfl rfl d fun H' e1 e2 e3 => ?_
  rw [hsl] at e1 ⊢
  exact kk K H' _ ls (z_put hP e2 ⟨_, hc.1, t_OB.to (V := updV (vp_V fs) f v) ⟨_, e1, q2, q3, t_set q4 hap hf v⟩ (fun j _ => vp_updV_set hl9 v j)⟩ e3) (hS.put e2 e3 (by show B ≤ B + i; omega)) hl
theorem z_putN {idx i ci f N : Nat} {C : String} {T : u_T} {ty : Nat → FieldType} {fs : List Value} {v : Value} (q : Nat) (e : pc + 3 = q) (d : decode M.1 pc = .ok (.putfield idx, 3)) (hc : q_C G ci C T N ty) (hi : i < n) (hci : c i = .inr (ci, fs)) (hf : f < N) (hl9 : f < fs.length) (hfin : (T f).2.2.2 = false) (hn : narrow (ty f) v = v) (hfit : fits (ty f) v = true) (hw : Cond.fieldLink M.2.2.1 idx (T f).1 (T f).2.1 (T f).2.2.1 ∈ q_gw) (kk : z_V G B M X k m q L st n (va_up c i (.inr (ci, fs.set f v))) n' c') : z_V G B M X k m pc L (v :: .ref (B + i) :: st) n c n' c' := by
  subst e
  intro K H locs ls hP hS hl
  have hap := va_apart (own := M.2.2.1) K.2.2.2.2.1 hc.2.1 ty hc.2.2.1 hc.2.2.2 K.2.2.2.2.2.1.1.1 hc.1
  have h0 := hP.2 i hi
  rw [hci] at h0
  obtain ⟨r, g1, cell, q1, q2, q3, q4⟩ := h0
  have hr : r = (C, T, N) := Option.some.inj (g1.symm.trans hc.1)
  subst hr
  obtain ⟨hS0, hfc, kC, hkC, hkind⟩ := K.2.2.2.2.2.1.1.1.1 ci _ hc.1
  obtain ⟨cf, kf, fi, fd, hi0, hsl⟩ := hS0 f hf
  have hlay := K.2.2.2.2.1 _ (hc.2.1 _ (u_in_lay hf))
  unfold u_lay at hlay
  rw [if_neg (by rw [hfin]; decide)] at hlay
  have hst := (u_facts hfc hkC (u_lays K.2.2.2.2.1 hc.2.1 hf) hi0).1
  have h6 := u_store hfc hkC hkind hlay hi0 (hc.2.2.1 f hf) hn hfit
  refine W.putK K.1 K.2.1 (f := fd) ⟨K.2.2.2.1, K.2.2.2.2.1 _ hw, ⟨_, _, _, hi0⟩, hst⟩ (by rw [q2]; exact h6) q1 q3 (by rw [hsl]; exact k2_hasslot (q4 f hf)) rfl rfl d fun H' e1 e2 e3 => ?_
  rw [hsl] at e1 ⊢
  exact kk K H' _ ls (z_put hP e2 ⟨_, hc.1, t_OB.to (V := updV (vp_V fs) f v) ⟨_, e1, q2, q3, t_set q4 hap hf v⟩ (fun j _ => vp_updV_set hl9 v j)⟩ e3) (hS.put e2 e3 (by show B ≤ B + i; omega)) hl
theorem z_iast {i t N : Nat} {f : Nat → Int32} {j x : Int32} (q : Nat) (e : pc + 1 = q) (d : decode M.1 pc = .ok (.iastore, 1)) (hi : i < n) (hci : c i = .inl (q_tc G t, N, .inl f)) (ht : (q_tl G)[t]? = some .int) (hin : vp_in j N) (kk : z_V G B M X k m q L st n (va_up c i (.inl (q_tc G t, N, .inl (upd f j.toNatClampNeg x)))) n' c') : z_V G B M X k m pc L (.int x :: .int j :: .ref (B + i) :: st) n c n' c' := by
  subst e
  intro K H locs ls hP hS hl
  have h0 := hP.2 i hi
  rw [hci] at h0
  refine W.iast K.1 K.2.1 h0 ((K.2.2.2.2.2.1.1.1.2 t _ (q_tys_at ht)).1 N (fun j => .int (f j))) (fun q => by cases q) (by show ¬ (j < 0 ∨ (arrV _ _ _).slots.size ≤ _); rw [arrV_size]; exact hin) rfl rfl d fun H1 e z oq => ?_
  refine kk K H1 _ ls (z_put hP z ?_ oq) (hS.put z oq (by show B ≤ B + i; omega)) hl
  show H1[B + i]? = some (vp_cell _ _)
  rw [e]
  rw [vp_cell_i, vp_cell_i, arrV_store]
  congr 2
  funext q
  by_cases hq : q = j.toNatClampNeg
  · subst hq
    simp [updV, upd]
  · simp [updV, upd, hq]
theorem z_aast {i t N v ci NN : Nat} {C : String} {T : u_T} {ty : Nat → FieldType} {fs : List Value} {f : Nat → Option Nat} {j : Int32} (q : Nat) (e : pc + 1 = q) (d : decode M.1 pc = .ok (.aastore, 1)) (hi : i < n) (hci : c i = .inl (q_tc G t, N, .inr (.inr (.inr (.inr f))))) (ht : (q_tl G)[t]? = some (.object C)) (hc : q_C G ci C T NN ty) (hv : v < n) (hcv : c v = .inr (ci, fs)) (hin : vp_in j N) (kk : z_V G B M X k m q L st n (va_up c i (.inl (q_tc G t, N, .inr (.inr (.inr (.inr (va_up f j.toNatClampNeg (some (B + v))))))))) n' c') : z_V G B M X k m pc L (.ref (B + v) :: .int j :: .ref (B + i) :: st) n c n' c' := by
  subst e
  intro K H locs ls hP hS hl
  have h0 := hP.2 i hi
  rw [hci] at h0
  have hv0 := hP.2 v hv
  rw [hcv] at hv0
  have hlt : j.toNatClampNeg < N := Nat.not_le.mp fun q => hin (Or.inr q)
  have hj0 : ¬ j < 0 := fun q => hin (Or.inl q)
  obtain ⟨r', hr', cellV, g1, g2, g3, -⟩ := hv0
  have hcls := (K.2.2.2.2.2.1.1.1.1 ci _ hc.1).2
  obtain ⟨kA, comp, k1, k2, k3, -⟩ := (K.2.2.2.2.2.1.1.1.2 t _ (q_tys_at ht)).2
  have hcomp : comp = (q_D G).1 ci := Option.some.inj (k3.symm.trans hcls.1)
  subst hcomp
  obtain ⟨kC, hkC, -⟩ := hcls.2
  refine W.aast K.1 K.2.1 h0 (fun q h => by cases h) (fun h => by cases h) k1 k2 rfl hkC ⟨hj0, by show _ < (arrV _ _ _).slots.size; rw [arrV_size]; exact hlt⟩ g1 (fun q h => by rw [g3] at h; cases h) (by rw [g2]; exact hkC) (by rw [g2]; exact va_assign hcls) rfl rfl d fun H1 e z oq => ?_
  refine kk K H1 _ ls (z_put hP z ?_ oq) (hS.put z oq (by show B ≤ B + i; omega)) hl
  show H1[B + i]? = some (vp_cell _ _)
  rw [e]
  rw [vp_cell_q, vp_cell_q, arrV_store]
  congr 2
  funext q
  by_cases hq : q = j.toNatClampNeg
  · subst hq
    simp [updV, va_up, va_rf]
  · simp [updV, va_up, hq]
theorem z_alen {i t N : Nat} {x : Nat → Option Nat} {ty : FieldType} (v : Int32) (q : Nat) (e : pc + 1 = q) (d : decode M.1 pc = .ok (.arraylength, 1)) (hi : i < n) (hci : c i = .inl (q_tc G t, N, .inr (.inr (.inr (.inr x))))) (ht : (q_tl G)[t]? = some ty) (hv : Int32.ofNat N = v) (kk : z_V G B M X k m q L (.int v :: st) n c n' c') : z_V G B M X k m pc L (.ref (B + i) :: st) n c n' c' := by
  subst e
  intro K H locs ls hP hS hl
  have h0 := hP.2 i hi
  rw [hci] at h0
  subst hv
  exact W.alen (n := Int32.ofNat N) K.1 K.2.1 h0 ((K.2.2.2.2.2.1.1.1.2 t _ (q_tys_at ht)).1 N (fun j => va_rf (x j))) (by rw [vp_cell_q, arrV_size] <;> rfl) rfl rfl d (kk K H locs ls hP hS hl)
theorem z_mmax {x y : Int32} {idx : Nat} (q : Nat) (e : pc + 3 = q) (d : decode M.1 pc = .ok (.invokestatic idx, 3)) (h1 : Cond.methodLink M.2.2.1 idx Lib.Math.max.name ∈ q_gw) (h2 : Cond.static Lib.Math.max.name ∈ q_gw) (h3 : Cond.initialized "java/lang/Math" ∈ q_gw) (h4 : Cond.code Lib.Math.max.name Lib.Math.max.code 2 (some .int) ∈ q_gw) (hf : 1 ≤ M.2.2.2.1.frames) (hlo : (st.map fun v => v.category).sum + 13 ≤ M.2.2.2.1.locals) (hc : k ≤ M.2.2.2.1.cells) (hs : m ≤ M.2.2.2.1.slots) (kk : z_V G B M X k m q L (.int (if x < y then y else x) :: st) n c n' c') : z_V G B M X k m pc L (.int y :: .int x :: st) n c n' c' := by
  subst e
  intro K H locs ls hP hS hl
  exact va_mmax K.1 K.2.1 (by rw [K.2.2.1]; exact hl.1.symm) K.2.2.2.1 (K.2.2.2.2.1 _ h1) (K.2.2.2.2.1 _ h2) (K.2.2.2.2.1 _ h3) (K.2.2.2.2.1 _ h4) hf hlo hc hs d (kk K H locs ls hP hS hl)
theorem z_gets {idx : Nat} (q : Nat) (e : pc + 3 = q) (d : decode M.1 pc = .ok (.getstatic idx, 3)) (hw : Cond.fieldLink M.2.2.1 idx "java/lang/String" "COMPACT_STRINGS" "Z" ∈ q_gw) (kk : z_V G B M X k m q L (.int 1 :: st) n c n' c') : z_V G B M X k m pc L st n c n' c' := by
  subst e
  intro K H locs ls hP hS hl
  exact va_gets K.1 K.2.1 K.2.2.2.2.2.1.2.2.2.2 hS K.2.2.2.1 (K.2.2.2.2.1 _ hw) (fun _ h => h) d (kk K H locs ls hP hS hl)
/-- calls of constructors -/
theorem z_pre {av : List Value} {s : State} {H : Heap} {locs : List Loc} (hK : z_K G B s) (hB : B ≤ s.heap.size) (hS : va_S (z_A B) s.heap H locs) (hP : z_P G B n c H) : PreS s H (va_Pc av (fun U => z_P G B n c U.heap ∧ z_K G B U ∧ B ≤ U.heap.size)) av :=
  ⟨fun a U g mk q => ⟨q.1, q.2.1, ⟨⟨va_K.moved (u := U) (U := U.calling g mk a) (Vm.Alike.refl U.vm) q.2.2.1.1.1, fun a i y h hm => va_Nw.same (u := U) rfl rfl (q.2.2.1.1.2 a i y h hm)⟩, va_AO.moved (u := U) (U := U.calling g mk a) (Vm.Alike.refl U.vm) q.2.2.1.2.1, va_AO.moved (u := U) (U := U.calling g mk a) (Vm.Alike.refl U.vm) q.2.2.1.2.2.1, va_AO.moved (u := U) (U := U.calling g mk a) (Vm.Alike.refl U.vm) q.2.2.1.2.2.2.1, z_Z.kept (u := U) (U := U.calling g mk a) q.2.2.1.2.2.2.2 (Vm.Alike.refl U.vm) (fun _ _ _ => rfl)⟩, q.2.2.2⟩, fun U hU hw => ⟨rfl, by rw [hU]; exact hP, ⟨hK.1.moved hw, hK.2.1.moved hw.alike, hK.2.2.1.moved hw.alike, hK.2.2.2.1.moved hw.alike, z_Z.kept hK.2.2.2.2 hw.alike (fun q h1 h2 => by rw [hU]; exact hS.2.1 q h1 h2)⟩, by rw [hU]; exact Nat.le_trans hB hS.1⟩⟩
theorem z_run {p : Program} {l : Launch} {e : Env} {R : Room} {s : State} {mi : MethodId} {args : Array Value} {below : List Frame} {meth : Method} {cd : Code} {H : Heap} {locs : List Loc} {cells slots : Nat} {Q : State → Prop} {a : Array Value} {ls : Array Slot} {st0 rest : List Value} {mc ms : Nat} (hr : va_Run p l e R s mi args below meth cd H locs cells slots mc ms (F0 mi pc ls st0) rest (z_Q G B n c a) (z_A B)) (hS : va_S (z_A B) s.heap H locs)
    (kk : ∀ (H1 : Heap) (locs1 : List Loc), z_P G B n c H1 → va_S (z_A B) s.heap H1 locs1 → W p l e R s mi args below meth cd H1 locs1 (cells + mc) (slots + ms) Q (F0 mi (pc + 3) ls rest)) : W p l e R s mi args below meth cd H locs cells slots Q (F0 mi pc ls st0) := by
  intro T hT X
  obtain ⟨v, st₀, t, T', Lc, h0, X', hL, e1, e2, ⟨hv, hw, hz, hk⟩, st⟩ := hr T hT X
  cases hv
  rw [h0] at hz hk
  obtain ⟨t2, a1, b1⟩ := kk T'.heap (locs ++ Lc) (by rw [e1]; exact hw) ⟨Nat.le_trans hS.1 (by rw [e1]; exact hz), fun q h1 h2 => by rw [e1, hk q (Nat.lt_of_lt_of_le h1 hS.1) h2]; exact hS.2.1 q h1 h2, fun q hq => by
      rcases List.mem_append.mp hq with h | h
      · exact hS.2.2 q h
      · exact hL q h⟩ T' rfl X'
  exact ⟨t2, st t2 a1, b1⟩
theorem z_callI {M' : q_M} {y : MethodName} {np idx i n1 : Nat} {c1 : Nat → va_E} {av : List Value} (q : Nat) (e : pc + 3 = q) (C : z_Ct X.1 G B y M' (.ref (B + i) :: av) n c n1 c1) (hY : q_Y y M' np) (hret : M'.2.2.2.2 = none) (hnm : y.name = "<init>") (hl : Cond.methodLink M.2.2.1 idx y ∈ q_gw) (hi : Cond.instanceMethod y ∈ q_gw) (hn : av.length = np) (hst : (st.map fun v => v.category).sum ≤ 8) (d : decode M.1 pc = .ok (.invokespecial idx, 3)) (hR : M'.2.2.2.1.frames + 1 ≤ M.2.2.2.1.frames ∧ 8 + (M'.2.1 + 11) + M'.2.2.2.1.locals ≤ M.2.2.2.1.locals) (hf : k + M'.2.2.2.1.cells ≤ M.2.2.2.1.cells ∧ m + M'.2.2.2.1.slots ≤ M.2.2.2.1.slots) {k' m' : Nat} (hk' : k + M'.2.2.2.1.cells = k') (hm' : m + M'.2.2.2.1.slots = m')
    (kk : z_V G B M X k' m' q L st n1 c1 n' c') : z_V G B M X k m pc L (av.reverse ++ .ref (B + i) :: st) n c n' c' := by
  subst e hk' hm'
  intro K H locs ls hP hS hl0
  have hp := z_pre (av := .ref (B + i) :: av) K.2.2.2.2.2.1 K.2.2.2.2.2.2.2.2.2 hS hP
  have hw : q_wsM y M' = .code y M'.1 M'.2.1 none :: q_gw := by unfold q_wsM; rw [hret]
  exact z_run (va_runI (As := av) (rest := st) (Ts := q_gw) (bytes := M'.1) (maxL := M'.2.1) ⟨K.1, K.2.1, K.2.2.1, K.2.2.2.1, K.2.2.2.2.1⟩ C (cwI np K.2.2.2.2.1 (q_goodIn hY) hw rfl rfl (K.2.2.2.2.1 _ hY.2.2.2.2) (K.2.2.2.2.1 _ hl) (K.2.2.2.2.1 _ hi) hnm ⟨hY.2.1.1, hY.2.1.2, hY.2.2.1⟩ hR) hp rfl hn hl0.1 rfl (lv_room hst) d hf) hS (fun H1 locs1 hw h1 => kk K H1 locs1 ls hw h1 hl0)
theorem z_callIN {M' : q_M} {y : MethodName} {host : String} {np idx i n1 : Nat} {c1 : Nat → va_E} {av : List Value} (q : Nat) (e : pc + 3 = q) (C : z_Ct X.1 G B y M' (.ref (B + i) :: av) n c n1 c1) (hY : q_Y y M' np) (hret : M'.2.2.2.2 = none) (hnm : y.name = "<init>") (hl : Cond.methodLinkNest M.2.2.1 idx y host ∈ lw_tbl) (hi : Cond.instanceMethod y ∈ q_gw) (hn : av.length = np) (hst : (st.map fun v => v.category).sum ≤ 8) (d : decode M.1 pc = .ok (.invokespecial idx, 3)) (hR : M'.2.2.2.1.frames + 1 ≤ M.2.2.2.1.frames ∧ 8 + (M'.2.1 + 11) + M'.2.2.2.1.locals ≤ M.2.2.2.1.locals) (hf : k + M'.2.2.2.1.cells ≤ M.2.2.2.1.cells ∧ m + M'.2.2.2.1.slots ≤ M.2.2.2.1.slots) {k' m' : Nat} (hk' : k + M'.2.2.2.1.cells = k') (hm' : m + M'.2.2.2.1.slots = m')
    (kk : z_V G B M X k' m' q L st n1 c1 n' c') : z_V G B M X k m pc L (av.reverse ++ .ref (B + i) :: st) n c n' c' := by
  subst e hk' hm'
  intro K H locs ls hP hS hl0
  have hp := z_pre (av := .ref (B + i) :: av) K.2.2.2.2.2.1 K.2.2.2.2.2.2.2.2.2 hS hP
  have hcn := q_cn hY K.2.2.2.2.1 (K.2.2.2.2.2.1.1.2 _ _ _ _ hl) hR
  rw [hret] at hcn
  exact z_run (va_runIN (As := av) (rest := st) (Ts := q_gw) ⟨K.1, K.2.1, K.2.2.1, K.2.2.2.1, K.2.2.2.2.1⟩ C ⟨hcn, hnm, K.2.2.2.2.1 _ hi⟩ hp rfl hn hl0.1 rfl (lv_room hst) d hf) hS (fun H1 locs1 hw h1 => kk K H1 locs1 ls hw h1 hl0)
end ZR
