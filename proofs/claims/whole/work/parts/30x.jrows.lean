/-! text buffers from within: a world as a list of cells -/
def j_Pc (G : q_G) (av : List Value) (WL : va_W) : Array Value → State → Prop := va_Pc av (fun U => (va_P (q_D G) (q_cl G) WL U.heap ∧ va_D (q_A G) WL) ∧ q_KK G U ∧ q_y G ≤ U.heap.size ∧ q_sp G U)
def j_Q (G : q_G) (R : Option Value → va_W → Prop) : Array Value → State → Outcome → State → Prop := fun _ s0 oc t => (∃ v WL, R v WL ∧ oc = .returned v ∧ va_P (q_D G) (q_cl G) WL t.heap ∧ va_D (q_A G) WL) ∧ va_F (q_A G) s0 t
def j_V (G : q_G) (M : q_M) (X : q_X) (R : Option Value → va_W → Prop) (k n pc : Nat) (L : List (Nat × Value)) (st : List Value) (WL : va_W) : Prop :=
  q_ok G M X → ∀ (H : Heap) (locs : List Loc) (ls : Array Slot), (va_P (q_D G) (q_cl G) WL H ∧ va_D (q_A G) WL) → va_S (q_A G) X.2.2.2.1.heap H locs → lv_has ls M.2.1 L → W X.2.1 X.1 X.2.2.1 M.2.2.2.1 X.2.2.2.1 X.2.2.2.2.1 X.2.2.2.2.2.1 X.2.2.2.2.2.2.1 X.2.2.2.2.2.2.2.1 X.2.2.2.2.2.2.2.2 H locs k n (MQ X.2.2.2.2.2.2.1 (j_Q G R) X.2.2.2.2.2.1 X.2.2.2.1 M.2.2.2.1.cells M.2.2.2.1.slots (q_A G)) (F0 X.2.2.2.2.1 pc ls st)
def j_Ct (l : Launch) (G : q_G) (y : MethodName) (M : q_M) (av : List Value) (WL : va_W) (R : Option Value → va_W → Prop) : Prop := Met l y (q_wsM y M) M.2.2.2.1 (j_Pc G av WL) (j_Q G R) M.2.2.2.1.cells M.2.2.2.1.slots (q_A G)
def j_G (G : q_G) (ad : Nat → Nat) : Prop := q_in G ∧ (∀ U, q_sp G U → cSp (q_A G) ad U) ∧ (q_cl G)[9]? = some (RJ4, TJ4, 4) ∧ (q_tl G)[6]? = some .byte ∧ ∀ q, q_y G ≤ q → q_A G q
theorem j_C {G : q_G} {ad : Nat → Nat} (h : j_G G ad) : q_C G 9 RJ4 TJ4 4 tyJ4 := ⟨h.2.2.1, uwSB, tyJ4_ok, nmJ4⟩
theorem j_Ct_of {l : Launch} {G : q_G} {y : MethodName} {M : q_M} {av : List Value} {WL : va_W} {R : Option Value → va_W → Prop} {L : List (Nat × Value)} (hin : q_in G) (hy : plainName y.cls = true) (hown : y.cls = M.2.2.1) (hn : (lg_sl av).length ≤ M.2.1) (hL : lv_args 0 av = L)
    (body : ∀ X : q_X, X.1 = l → j_V G M X R 0 0 0 L [] WL) : j_Ct l G y M av WL R := by
  refine Met.ofW (cc := M.1) (maxL := M.2.1) (ret := M.2.2.2.2) hy rfl ?_
  intro p e s m args below meth c s₁ B hml hv
  obtain ⟨rfl, hW, hK, hy0, hsp⟩ := hv
  have hts := atoms_spec (ws := q_wsM y M) B.pre
  have hV := body (l, p, e, s, m, av.toArray, below, meth, c) rfl ⟨B.exec, B.bytes, hml, by rw [← hown]; exact findClass_of_methodNamed B.named, fun w hw => hts w (List.mem_cons_of_mem _ hw), hK, B.returns, B.notSynchronized, hin, hy0, hsp⟩ s.heap [] _ hW va_S.rf (by rw [← hL]; exact lv_entry av hn)
  rw [lg_entry_eq]
  exact hV
/-- a contract says less -/
theorem j_imp {l : Launch} {y : MethodName} {ws : List Cond} {rm : Room} {ι : Type} {P : ι → Array Value → State → Prop} {Q : ι → Array Value → State → Outcome → State → Prop} {Pc : Array Value → State → Prop} {Qc : Array Value → State → Outcome → State → Prop} {mc ms : Nat} {A : ι → Addr → Prop} {A' : Addr → Prop} (hM : ∀ i, Met l y ws rm (P i) (Q i) mc ms (A i))
    (h : ∀ a s, Pc a s → ∃ i, P i a s ∧ (∀ q, A i q → A' q) ∧ ∀ oc t, Q i a s oc t → Qc a s oc t) : Met l y ws rm Pc Qc mc ms A' := by
  intro p e h1 h2 h3 s m args below h4 h5 hp hk
  obtain ⟨i, hpi, hA, hq⟩ := h args s hp
  obtain ⟨n, oc, g1, g2, g3, g4, Lf, g5, g6⟩ := hM i p e h1 h2 h3 s m args below h4 h5 hpi trivial
  exact ⟨n, oc, g1, g2, g3, hq _ _ g4, Lf, g5, fun q hq => hA _ (g6 q hq)⟩
section JR
variable {G : q_G} {M : q_M} {X : q_X} {R : Option Value → va_W → Prop} {k n pc : Nat} {L : List (Nat × Value)} {st : List Value} {WL : va_W}
theorem j_sub {L' : List (Nat × Value)} (ks : List Nat) (hl : lv_pick L ks = L') (kk : j_V G M X R k n pc L' st WL) : j_V G M X R k n pc L st WL := fun K H locs ls hW hS h => kk K H locs ls hW hS (lv_sub h ks hl)
theorem j_eqi {x x' : Int32} (h : x = x') (kk : j_V G M X R k n pc L (.int x' :: st) WL) : j_V G M X R k n pc L (.int x :: st) WL := by subst h; exact kk
theorem j_eqW {WL' : va_W} (h : WL = WL') (kk : j_V G M X R k n pc L st WL') : j_V G M X R k n pc L st WL := by subst h; exact kk
theorem j_iadd {x y : Int32} (q : Nat) (e : pc + 1 = q) (d : decode M.1 pc = .ok (.iadd, 1)) (kk : j_V G M X R k n q L (.int (x + y) :: st) WL) : j_V G M X R k n pc L (.int y :: .int x :: st) WL := by
  subst e
  intro K H locs ls hW hS hl
  exact lv_iadd K.1 K.2.1 d (kk K H locs ls hW hS hl)
theorem j_isub {x y : Int32} (q : Nat) (e : pc + 1 = q) (d : decode M.1 pc = .ok (.isub, 1)) (kk : j_V G M X R k n q L (.int (x - y) :: st) WL) : j_V G M X R k n pc L (.int y :: .int x :: st) WL := by
  subst e
  intro K H locs ls hW hS hl
  exact lv_isub K.1 K.2.1 d (kk K H locs ls hW hS hl)
theorem j_imul {x y : Int32} (q : Nat) (e : pc + 1 = q) (d : decode M.1 pc = .ok (.imul, 1)) (kk : j_V G M X R k n q L (.int (x * y) :: st) WL) : j_V G M X R k n pc L (.int y :: .int x :: st) WL := by
  subst e
  intro K H locs ls hW hS hl
  exact lv_imul K.1 K.2.1 d (kk K H locs ls hW hS hl)
theorem j_iand {x y : Int32} (q : Nat) (e : pc + 1 = q) (d : decode M.1 pc = .ok (.iand, 1)) (kk : j_V G M X R k n q L (.int (x &&& y) :: st) WL) : j_V G M X R k n pc L (.int y :: .int x :: st) WL := by
  subst e
  intro K H locs ls hW hS hl
  exact lv_iand K.1 K.2.1 d (kk K H locs ls hW hS hl)
theorem j_ishl {x y : Int32} (q : Nat) (e : pc + 1 = q) (d : decode M.1 pc = .ok (.ishl, 1)) (kk : j_V G M X R k n q L (.int (x <<< (y &&& 31)) :: st) WL) : j_V G M X R k n pc L (.int y :: .int x :: st) WL := by
  subst e
  intro K H locs ls hW hS hl
  exact lv_ishl K.1 K.2.1 d (kk K H locs ls hW hS hl)
theorem j_ishr {x y : Int32} (q : Nat) (e : pc + 1 = q) (d : decode M.1 pc = .ok (.ishr, 1)) (kk : j_V G M X R k n q L (.int (x >>> (y &&& 31)) :: st) WL) : j_V G M X R k n pc L (.int y :: .int x :: st) WL := by
  subst e
  intro K H locs ls hW hS hl
  exact lv_ishr K.1 K.2.1 d (kk K H locs ls hW hS hl)
theorem j_idiv {x y : Int32} (q : Nat) (e : pc + 1 = q) (d : decode M.1 pc = .ok (.idiv, 1)) (h : ¬ y = 0) (kk : j_V G M X R k n q L (.int (x / y) :: st) WL) : j_V G M X R k n pc L (.int y :: .int x :: st) WL := by
  subst e
  intro K H locs ls hW hS hl
  exact lv_idiv K.1 K.2.1 d h (kk K H locs ls hW hS hl)
theorem j_ineg {x : Int32} (q : Nat) (e : pc + 1 = q) (d : decode M.1 pc = .ok (.ineg, 1)) (kk : j_V G M X R k n q L (.int (-x) :: st) WL) : j_V G M X R k n pc L (.int x :: st) WL := by
  subst e
  intro K H locs ls hW hS hl
  exact lv_ineg K.1 K.2.1 d (kk K H locs ls hW hS hl)
theorem j_i2c {x : Int32} (q : Nat) (e : pc + 1 = q) (d : decode M.1 pc = .ok (.i2c, 1)) (kk : j_V G M X R k n q L (.int ((x.toUInt32 % 65536).toInt32) :: st) WL) : j_V G M X R k n pc L (.int x :: st) WL := by
  subst e
  intro K H locs ls hW hS hl
  exact lv_i2c K.1 K.2.1 d rfl (kk K H locs ls hW hS hl)
theorem j_i2b {x : Int32} (q : Nat) (e : pc + 1 = q) (d : decode M.1 pc = .ok (.i2b, 1)) (kk : j_V G M X R k n q L (.int (x.toInt8.toInt32) :: st) WL) : j_V G M X R k n pc L (.int x :: st) WL := by
  subst e
  intro K H locs ls hW hS hl
  exact lv_i2b K.1 K.2.1 d rfl (kk K H locs ls hW hS hl)
theorem j_iconst (v : Int32) {c : Int} (q : Nat) (e : pc + 1 = q) (d : decode M.1 pc = .ok (.iconst c, 1)) (h : Int32.ofInt c = v) (kk : j_V G M X R k n q L (.int v :: st) WL) : j_V G M X R k n pc L (st) WL := by
  subst e
  intro K H locs ls hW hS hl
  exact lv_iconst K.1 K.2.1 d h (kk K H locs ls hW hS hl)
theorem j_bipush (v : Int32) {c : Int} (q : Nat) (e : pc + 2 = q) (d : decode M.1 pc = .ok (.bipush c, 2)) (h : (Int8.ofInt c).toInt32 = v) (kk : j_V G M X R k n q L (.int v :: st) WL) : j_V G M X R k n pc L (st) WL := by
  subst e
  intro K H locs ls hW hS hl
  exact lv_bipush K.1 K.2.1 d h (kk K H locs ls hW hS hl)
theorem j_sipush (v : Int32) {c : Int} (q : Nat) (e : pc + 3 = q) (d : decode M.1 pc = .ok (.sipush c, 3)) (h : (Int16.ofInt c).toInt32 = v) (kk : j_V G M X R k n q L (.int v :: st) WL) : j_V G M X R k n pc L (st) WL := by
  subst e
  intro K H locs ls hW hS hl
  exact lv_sipush K.1 K.2.1 d h (kk K H locs ls hW hS hl)
theorem j_ldc {v : Int32} {i : Nat} (q : Nat) (e : pc + 2 = q) (d : decode M.1 pc = .ok (.ldc i, 2)) (h : Cond.constant M.2.2.1 i v ∈ q_gw) (kk : j_V G M X R k n q L (.int v :: st) WL) : j_V G M X R k n pc L (st) WL := by
  subst e
  intro K H locs ls hW hS hl
  exact lv_ldc K.1 K.2.1 K.2.2.2.1 (K.2.2.2.2.1 _ h) d (kk K H locs ls hW hS hl)
theorem j_iload_n {x : Int32} (t : Nat) (j : Fin 4) (q : Nat) (e : pc + 1 = q) (d : decode M.1 pc = .ok (.iload_n j, 1)) (hl0 : L[t]? = some ((j : Nat), .int x)) (kk : j_V G M X R k n q L (.int x :: st) WL) : j_V G M X R k n pc L (st) WL := by
  subst e
  intro K H locs ls hW hS hl
  exact lv_iload_n K.1 K.2.1 d rfl (lv_at hl t hl0) (kk K H locs ls hW hS hl)
theorem j_iload {x : Int32} (t i : Nat) (q : Nat) (e : pc + 2 = q) (d : decode M.1 pc = .ok (.iload i, 2)) (hl0 : L[t]? = some (i, .int x)) (kk : j_V G M X R k n q L (.int x :: st) WL) : j_V G M X R k n pc L (st) WL := by
  subst e
  intro K H locs ls hW hS hl
  exact lv_iload K.1 K.2.1 d (lv_at hl t hl0) (kk K H locs ls hW hS hl)
theorem j_istore_n {x : Int32} (i : Nat) (j : Fin 4) (q : Nat) (e : pc + 1 = q) (L' : List (Nat × Value)) (d : decode M.1 pc = .ok (.istore_n j, 1)) (hj : (j : Nat) = i) (hn : i < M.2.1) (hl0 : (i, Value.int x) :: L.filter (fun q => !(q.1 == i) && !(q.1 + 1 == i && q.2.category == 2)) = L') (kk : j_V G M X R k n q L' st WL) : j_V G M X R k n pc L (.int x :: st) WL := by
  subst e
  intro K H locs ls hW hS hl
  exact lv_istore_n K.1 K.2.1 d hj hl hn hl0 (fun ls' hl' => kk K H locs ls' hW hS hl')
theorem j_istore {x : Int32} (i : Nat)  (q : Nat) (e : pc + 2 = q) (L' : List (Nat × Value)) (d : decode M.1 pc = .ok (.istore i, 2)) (hn : i < M.2.1) (hl0 : (i, Value.int x) :: L.filter (fun q => !(q.1 == i) && !(q.1 + 1 == i && q.2.category == 2)) = L') (kk : j_V G M X R k n q L' st WL) : j_V G M X R k n pc L (.int x :: st) WL := by
  subst e
  intro K H locs ls hW hS hl
  exact lv_istore K.1 K.2.1 d hl hn hl0 (fun ls' hl' => kk K H locs ls' hW hS hl')
theorem j_aload_n {x : Nat} (t : Nat) (j : Fin 4) (q : Nat) (e : pc + 1 = q) (d : decode M.1 pc = .ok (.aload_n j, 1)) (hl0 : L[t]? = some ((j : Nat), .ref x)) (kk : j_V G M X R k n q L (.ref x :: st) WL) : j_V G M X R k n pc L (st) WL := by
  subst e
  intro K H locs ls hW hS hl
  exact lv_aload_n K.1 K.2.1 d rfl (lv_at hl t hl0) (kk K H locs ls hW hS hl)
theorem j_aload {x : Nat} (t i : Nat) (q : Nat) (e : pc + 2 = q) (d : decode M.1 pc = .ok (.aload i, 2)) (hl0 : L[t]? = some (i, .ref x)) (kk : j_V G M X R k n q L (.ref x :: st) WL) : j_V G M X R k n pc L (st) WL := by
  subst e
  intro K H locs ls hW hS hl
  exact lv_aload K.1 K.2.1 d (lv_at hl t hl0) (kk K H locs ls hW hS hl)
theorem j_astore_n {x : Nat} (i : Nat) (j : Fin 4) (q : Nat) (e : pc + 1 = q) (L' : List (Nat × Value)) (d : decode M.1 pc = .ok (.astore_n j, 1)) (hj : (j : Nat) = i) (hn : i < M.2.1) (hl0 : (i, Value.ref x) :: L.filter (fun q => !(q.1 == i) && !(q.1 + 1 == i && q.2.category == 2)) = L') (kk : j_V G M X R k n q L' st WL) : j_V G M X R k n pc L (.ref x :: st) WL := by
  subst e
  intro K H locs ls hW hS hl
  exact lv_astore_n K.1 K.2.1 d hj hl hn hl0 (fun ls' hl' => kk K H locs ls' hW hS hl')
theorem j_astore {x : Nat} (i : Nat)  (q : Nat) (e : pc + 2 = q) (L' : List (Nat × Value)) (d : decode M.1 pc = .ok (.astore i, 2)) (hn : i < M.2.1) (hl0 : (i, Value.ref x) :: L.filter (fun q => !(q.1 == i) && !(q.1 + 1 == i && q.2.category == 2)) = L') (kk : j_V G M X R k n q L' st WL) : j_V G M X R k n pc L (.ref x :: st) WL := by
  subst e
  intro K H locs ls hW hS hl
  exact lv_astore K.1 K.2.1 d hl hn hl0 (fun ls' hl' => kk K H locs ls' hW hS hl')
theorem j_iinc {x : Int32} (v : Int32) {c : Int} (i t : Nat) (q : Nat) (e : pc + 3 = q) (L' : List (Nat × Value)) (d : decode M.1 pc = .ok (.iinc i c, 3)) (ht : L[t]? = some (i, .int x)) (hv : x + Int32.ofInt c = v) (hn : i < M.2.1) (hl0 : (i, Value.int v) :: L.filter (fun q => !(q.1 == i) && !(q.1 + 1 == i && q.2.category == 2)) = L') (kk : j_V G M X R k n q L' st WL) : j_V G M X R k n pc L st WL := by
  subst e
  intro K H locs ls hW hS hl
  exact lv_iinc K.1 K.2.1 d hl ht hv hn hl0 (fun ls' hl' => kk K H locs ls' hW hS hl')
theorem j_dup {va : Value} (q : Nat) (e : pc + 1 = q) (d : decode M.1 pc = .ok (.dup, 1)) (ha : va.category = 1) (kk : j_V G M X R k n q L (va :: va :: st) WL) : j_V G M X R k n pc L (va :: st) WL := by
  subst e
  intro K H locs ls hW hS hl
  exact lv_dup K.1 K.2.1 d ha (kk K H locs ls hW hS hl)
theorem j_pop {va : Value} (q : Nat) (e : pc + 1 = q) (d : decode M.1 pc = .ok (.pop, 1)) (ha : va.category = 1) (kk : j_V G M X R k n q L (st) WL) : j_V G M X R k n pc L (va :: st) WL := by
  subst e
  intro K H locs ls hW hS hl
  exact lv_pop K.1 K.2.1 d ha (kk K H locs ls hW hS hl)
theorem j_dup_x1 {va vb : Value} (q : Nat) (e : pc + 1 = q) (d : decode M.1 pc = .ok (.dup_x1, 1)) (ha : va.category = 1) (hb : vb.category = 1) (kk : j_V G M X R k n q L (va :: vb :: va :: st) WL) : j_V G M X R k n pc L (va :: vb :: st) WL := by
  subst e
  intro K H locs ls hW hS hl
  exact lv_dup_x1 K.1 K.2.1 d ha hb (kk K H locs ls hW hS hl)
theorem j_goto {off : Int} (tgt : Nat) (d : decode M.1 pc = .ok (.goto off, 3)) (ht : (pc : Int) + off = (tgt : Int)) (kk : j_V G M X R k n tgt L st WL) : j_V G M X R k n pc L st WL := by
  intro K H locs ls hW hS hl
  exact lv_goto K.1 K.2.1 d ht (kk K H locs ls hW hS hl)
theorem j_if_eq {x : Int32} {off : Int} (q : Nat) (e : pc + 3 = q) (tgt : Nat) (d : decode M.1 pc = .ok (.ifCond .eq off, 3)) (ht : (pc : Int) + off = (tgt : Int)) (kt : x = 0 → j_V G M X R k n tgt L st WL) (kf : ¬ x = 0 → j_V G M X R k n q L st WL) : j_V G M X R k n pc L (.int x :: st) WL := by
  subst e
  intro K H locs ls hW hS hl
  exact lv_if_eq K.1 K.2.1 d ht (fun h => kt h K H locs ls hW hS hl) (fun h => kf h K H locs ls hW hS hl)
theorem j_if_ne {x : Int32} {off : Int} (q : Nat) (e : pc + 3 = q) (tgt : Nat) (d : decode M.1 pc = .ok (.ifCond .ne off, 3)) (ht : (pc : Int) + off = (tgt : Int)) (kt : ¬ x = 0 → j_V G M X R k n tgt L st WL) (kf : x = 0 → j_V G M X R k n q L st WL) : j_V G M X R k n pc L (.int x :: st) WL := by
  subst e
  intro K H locs ls hW hS hl
  exact lv_if_ne K.1 K.2.1 d ht (fun h => kt h K H locs ls hW hS hl) (fun h => kf h K H locs ls hW hS hl)
theorem j_if_lt {x : Int32} {off : Int} (q : Nat) (e : pc + 3 = q) (tgt : Nat) (d : decode M.1 pc = .ok (.ifCond .lt off, 3)) (ht : (pc : Int) + off = (tgt : Int)) (kt : x < 0 → j_V G M X R k n tgt L st WL) (kf : ¬ x < 0 → j_V G M X R k n q L st WL) : j_V G M X R k n pc L (.int x :: st) WL := by
  subst e
  intro K H locs ls hW hS hl
  exact lv_if_lt K.1 K.2.1 d ht (fun h => kt h K H locs ls hW hS hl) (fun h => kf h K H locs ls hW hS hl)
theorem j_if_ge {x : Int32} {off : Int} (q : Nat) (e : pc + 3 = q) (tgt : Nat) (d : decode M.1 pc = .ok (.ifCond .ge off, 3)) (ht : (pc : Int) + off = (tgt : Int)) (kt : 0 ≤ x → j_V G M X R k n tgt L st WL) (kf : ¬ 0 ≤ x → j_V G M X R k n q L st WL) : j_V G M X R k n pc L (.int x :: st) WL := by
  subst e
  intro K H locs ls hW hS hl
  exact lv_if_ge K.1 K.2.1 d ht (fun h => kt h K H locs ls hW hS hl) (fun h => kf h K H locs ls hW hS hl)
theorem j_if_gt {x : Int32} {off : Int} (q : Nat) (e : pc + 3 = q) (tgt : Nat) (d : decode M.1 pc = .ok (.ifCond .gt off, 3)) (ht : (pc : Int) + off = (tgt : Int)) (kt : 0 < x → j_V G M X R k n tgt L st WL) (kf : ¬ 0 < x → j_V G M X R k n q L st WL) : j_V G M X R k n pc L (.int x :: st) WL := by
  subst e
  intro K H locs ls hW hS hl
  exact lv_if_gt K.1 K.2.1 d ht (fun h => kt h K H locs ls hW hS hl) (fun h => kf h K H locs ls hW hS hl)
theorem j_if_le {x : Int32} {off : Int} (q : Nat) (e : pc + 3 = q) (tgt : Nat) (d : decode M.1 pc = .ok (.ifCond .le off, 3)) (ht : (pc : Int) + off = (tgt : Int)) (kt : x ≤ 0 → j_V G M X R k n tgt L st WL) (kf : ¬ x ≤ 0 → j_V G M X R k n q L st WL) : j_V G M X R k n pc L (.int x :: st) WL := by
  subst e
  intro K H locs ls hW hS hl
  exact lv_if_le K.1 K.2.1 d ht (fun h => kt h K H locs ls hW hS hl) (fun h => kf h K H locs ls hW hS hl)
theorem j_icmp_eq {x y : Int32} {off : Int} (q : Nat) (e : pc + 3 = q) (tgt : Nat) (d : decode M.1 pc = .ok (.if_icmp .eq off, 3)) (ht : (pc : Int) + off = (tgt : Int)) (kt : x = y → j_V G M X R k n tgt L st WL) (kf : ¬ x = y → j_V G M X R k n q L st WL) : j_V G M X R k n pc L (.int y :: .int x :: st) WL := by
  subst e
  intro K H locs ls hW hS hl
  exact lv_icmp_eq K.1 K.2.1 d ht (fun h => kt h K H locs ls hW hS hl) (fun h => kf h K H locs ls hW hS hl)
theorem j_icmp_ne {x y : Int32} {off : Int} (q : Nat) (e : pc + 3 = q) (tgt : Nat) (d : decode M.1 pc = .ok (.if_icmp .ne off, 3)) (ht : (pc : Int) + off = (tgt : Int)) (kt : ¬ x = y → j_V G M X R k n tgt L st WL) (kf : x = y → j_V G M X R k n q L st WL) : j_V G M X R k n pc L (.int y :: .int x :: st) WL := by
  subst e
  intro K H locs ls hW hS hl
  exact lv_icmp_ne K.1 K.2.1 d ht (fun h => kt h K H locs ls hW hS hl) (fun h => kf h K H locs ls hW hS hl)
theorem j_icmp_lt {x y : Int32} {off : Int} (q : Nat) (e : pc + 3 = q) (tgt : Nat) (d : decode M.1 pc = .ok (.if_icmp .lt off, 3)) (ht : (pc : Int) + off = (tgt : Int)) (kt : x < y → j_V G M X R k n tgt L st WL) (kf : ¬ x < y → j_V G M X R k n q L st WL) : j_V G M X R k n pc L (.int y :: .int x :: st) WL := by
  subst e
  intro K H locs ls hW hS hl
  exact lv_icmp_lt K.1 K.2.1 d ht (fun h => kt h K H locs ls hW hS hl) (fun h => kf h K H locs ls hW hS hl)
theorem j_icmp_ge {x y : Int32} {off : Int} (q : Nat) (e : pc + 3 = q) (tgt : Nat) (d : decode M.1 pc = .ok (.if_icmp .ge off, 3)) (ht : (pc : Int) + off = (tgt : Int)) (kt : y ≤ x → j_V G M X R k n tgt L st WL) (kf : ¬ y ≤ x → j_V G M X R k n q L st WL) : j_V G M X R k n pc L (.int y :: .int x :: st) WL := by
  subst e
  intro K H locs ls hW hS hl
  exact lv_icmp_ge K.1 K.2.1 d ht (fun h => kt h K H locs ls hW hS hl) (fun h => kf h K H locs ls hW hS hl)
theorem j_icmp_gt {x y : Int32} {off : Int} (q : Nat) (e : pc + 3 = q) (tgt : Nat) (d : decode M.1 pc = .ok (.if_icmp .gt off, 3)) (ht : (pc : Int) + off = (tgt : Int)) (kt : y < x → j_V G M X R k n tgt L st WL) (kf : ¬ y < x → j_V G M X R k n q L st WL) : j_V G M X R k n pc L (.int y :: .int x :: st) WL := by
  subst e
  intro K H locs ls hW hS hl
  exact lv_icmp_gt K.1 K.2.1 d ht (fun h => kt h K H locs ls hW hS hl) (fun h => kf h K H locs ls hW hS hl)
theorem j_icmp_le {x y : Int32} {off : Int} (q : Nat) (e : pc + 3 = q) (tgt : Nat) (d : decode M.1 pc = .ok (.if_icmp .le off, 3)) (ht : (pc : Int) + off = (tgt : Int)) (kt : x ≤ y → j_V G M X R k n tgt L st WL) (kf : ¬ x ≤ y → j_V G M X R k n q L st WL) : j_V G M X R k n pc L (.int y :: .int x :: st) WL := by
  subst e
  intro K H locs ls hW hS hl
  exact lv_icmp_le K.1 K.2.1 d ht (fun h => kt h K H locs ls hW hS hl) (fun h => kf h K H locs ls hW hS hl)
theorem j_get {idx a ci f N : Nat} {C : String} {T : u_T} {ty : Nat → FieldType} {fs : List Value} (q0 : Nat) (v : Value) (q : Nat) (e : pc + 3 = q) (d : decode M.1 pc = .ok (.getfield idx, 3)) (hc : q_C G ci C T N ty) (hat : WL[q0]? = some (a, .inr (ci, fs))) (hf : f < N) (hv : fs[f]? = some v) (hw : Cond.fieldLink M.2.2.1 idx (T f).1 (T f).2.1 (T f).2.2.1 ∈ q_gw) (kk : j_V G M X R k n q L (v :: st) WL) : j_V G M X R k n pc L (.ref a :: st) WL := by
  subst e
  intro K H locs ls hW hS hl
  exact va_get (D := q_D G) (cl := q_cl G) (ci := ci) (v := v) (fs := fs) (C := C) (T := T) (N := N) K.1 K.2.1 K.2.2.2.2.1 hc.2.1 K.2.2.2.1 K.2.2.2.2.2.1.1 hW.1 q0 hat hc.1 f hf (K.2.2.2.2.1 _ hw) (fun _ h => h) hv d (kk K H locs ls hW hS hl)
theorem j_put {idx a ci f N : Nat} {C : String} {T : u_T} {ty : Nat → FieldType} {fs : List Value} {v : Value} (q0 : Nat) (q : Nat) (e : pc + 3 = q) (d : decode M.1 pc = .ok (.putfield idx, 3)) (hc : q_C G ci C T N ty) (hat : WL[q0]? = some (a, .inr (ci, fs))) (hf : f < N) (hl9 : f < fs.length) (hfin : (T f).2.2.2 = false) (hn : narrow (ty f) v = v) (hfit : fits (ty f) v = true) (hw : Cond.fieldLink M.2.2.1 idx (T f).1 (T f).2.1 (T f).2.2.1 ∈ q_gw) (kk : j_V G M X R k n q L st (WL.set q0 (a, .inr (ci, fs.set f v)))) : j_V G M X R k n pc L (v :: .ref a :: st) WL := by
  subst e
  intro K H locs ls hW hS hl
  exact va_put (D := q_D G) (cl := q_cl G) (ci := ci) (v := v) (ty := ty f) (C := C) (T := T) (N := N) K.1 K.2.1 K.2.2.2.2.1 hc.2.1 ty hc.2.2.1 hc.2.2.2 K.2.2.2.1 K.2.2.2.2.2.1.1 hW.1 hW.2 hS q0 hat hc.1 f hf (K.2.2.2.2.1 _ hw) (fun _ h => h) hfin (hc.2.2.1 f hf) hn hfit hl9 d (fun H1 locs1 hP1 hD1 hS1 => kk K H1 locs1 ls ⟨hP1, hD1⟩ hS1 hl)
theorem j_alen {a t : Nat} {x : vp_A} {ty : FieldType} (v : Int32) (q0 : Nat) (q : Nat) (e : pc + 1 = q) (d : decode M.1 pc = .ok (.arraylength, 1)) (hat : WL[q0]? = some (a, .inl (q_tc G t, x))) (ht : (q_tl G)[t]? = some ty) (hv : Int32.ofNat x.1 = v) (kk : j_V G M X R k n q L (.int v :: st) WL) : j_V G M X R k n pc L (.ref a :: st) WL := by
  subst e
  intro K H locs ls hW hS hl
  exact va_alen K.1 K.2.1 K.2.2.2.2.2.1.1 hW.1 q0 t hat (q_tys_at ht) hv d (kk K H locs ls hW hS hl)
theorem j_bald {a t N : Nat} {f : Nat → Int32} {i : Int32} (q0 : Nat) (q : Nat) (e : pc + 1 = q) (d : decode M.1 pc = .ok (.baload, 1)) (hat : WL[q0]? = some (a, .inl (q_tc G t, N, .inl f))) (ht : (q_tl G)[t]? = some .byte) (hin : vp_in i N) (kk : j_V G M X R k n q L (.int (f i.toNatClampNeg) :: st) WL) : j_V G M X R k n pc L (.int i :: .ref a :: st) WL := by
  subst e
  intro K H locs ls hW hS hl
  exact va_bald K.1 K.2.1 K.2.2.2.2.2.1.1 hW.1 q0 t hat (q_tys_at ht) hin d (kk K H locs ls hW hS hl)
theorem j_bast {a t N : Nat} {f : Nat → Int32} {i x : Int32} (q0 : Nat) (q : Nat) (e : pc + 1 = q) (d : decode M.1 pc = .ok (.bastore, 1)) (hat : WL[q0]? = some (a, .inl (q_tc G t, N, .inl f))) (ht : (q_tl G)[t]? = some .byte) (hin : vp_in i N) (kk : j_V G M X R k n q L st (WL.set q0 (a, .inl (q_tc G t, N, .inl (upd f i.toNatClampNeg (vp_nar .byte x)))))) : j_V G M X R k n pc L (.int x :: .int i :: .ref a :: st) WL := by
  subst e
  intro K H locs ls hW hS hl
  exact va_bast K.1 K.2.1 K.2.2.2.2.2.1.1 hW.1 hW.2 hS q0 t hat (q_tys_at ht) hin d (fun H1 locs1 hP1 hD1 hS1 => kk K H1 locs1 ls ⟨hP1, hD1⟩ hS1 hl)
theorem j_newb {t N : Nat} {x : Int32} (q : Nat) (e : pc + 2 = q) (d : decode M.1 pc = .ok (.newarray .byte, 2)) (ht : (q_tl G)[t]? = some .byte) (hyA : ∀ q, q_y G ≤ q → q_A G q) (h1 : Cond.arrayClass .byte ∈ q_gw) (hx0 : ¬ x < 0) (hx : x.toNatClampNeg = N) (hb : N ≤ 536870912) (hk : k + 1 ≤ M.2.2.2.1.cells) (hm : n + N ≤ M.2.2.2.1.slots) (kk : ∀ q0, q_A G q0 → j_V G M X R (k + 1) (n + N) q L (.ref q0 :: st) (WL ++ [(q0, .inl (q_tc G t, N, .inl (fun _ => 0)))])) : j_V G M X R k n pc L (.int x :: st) WL := by
  subst e
  intro K H locs ls hW hS hl
  have hra := (K.2.2.2.2.2.1.1.2 t _ (q_tys_at ht)).2
  refine va_newaK K.1 K.2.1 (atype := .byte) (K.2.2.2.2.1 _ h1) rfl d rfl hx0 hx (by show N * 1 ≤ _; omega) hk hm rfl fun H1 cA e1 z1 o1 _ hNm => ?_
  have hcA : cA = q_tc G t := Option.some.inj (hNm.symm.trans hra)
  subst hcA
  have hA : q_A G H.size := hyA _ (Nat.le_trans K.2.2.2.2.2.2.2.2.2.1 hS.1)
  refine kk H.size hA K H1 locs ls ⟨va_P.app (hW.1.kept (fun k q hk => o1 _ (hW.1 k q hk).lt)) ?_, hW.2.push hW.1 rfl hA⟩ ⟨Nat.le_trans hS.1 (by omega), fun x h1 h2 => (o1 x (Nat.lt_of_lt_of_le h1 hS.1)).trans (hS.2.1 x h1 h2), hS.2.2⟩ hl
  intro z q hz
  cases z with
  | zero =>
    cases hz
    show H1[H.size]? = some (vp_cell _ _)
    rw [vp_cell_i]
    exact e1
  | succ z => cases hz
theorem j_copyi {idx a a0 t n0 n1 : Nat} {f g : Nat → Int32} {sp dp c : Int32} (q0 q1 : Nat) (q : Nat) (e : pc + 3 = q) (d : decode M.1 pc = .ok (.invokestatic idx, 3)) (h1 : Cond.methodLink M.2.2.1 idx arraycopyName ∈ q_gw) (h2 : Cond.native arraycopyName ∈ q_gw) (h3 : Cond.static arraycopyName ∈ q_gw) (h4 : Cond.initialized "java/lang/System" ∈ q_gw) (ha0 : WL[q0]? = some (a0, .inl (q_tc G t, n0, .inl f))) (ha1 : WL[q1]? = some (a, .inl (q_tc G t, n1, .inl g))) (ht : (q_tl G)[t]? = some .byte) (hs : ¬ sp < 0) (hd : ¬ dp < 0) (hc : ¬ c < 0) (hs2 : sp.toNatClampNeg + c.toNatClampNeg ≤ n0) (hd2 : dp.toNatClampNeg + c.toNatClampNeg ≤ n1) (hfit : ∀ i, i < c.toNatClampNeg → fits .byte (.int (f (sp.toNatClampNeg + i))) = true) (hfr : 1 ≤ M.2.2.2.1.frames) (hlo : (st.map fun v => v.category).sum + (nativeFrameWords "java/lang/System" "arraycopy" 5 + 11) ≤ M.2.2.2.1.locals) (kk : j_V G M X R k n q L st (WL.set q1 (a, .inl (q_tc G t, n1, .inl (va_cpy f g sp.toNatClampNeg dp.toNatClampNeg c.toNatClampNeg))))) : j_V G M X R k n pc L (.int c :: .int dp :: .ref a :: .int sp :: .ref a0 :: st) WL := by
  subst e
  intro K H locs ls hW hS hl
  exact va_copyi K.1 K.2.1 (K.2.2.1.trans hl.1.symm) K.2.2.2.1 (K.2.2.2.2.1 _ h1) (K.2.2.2.2.1 _ h2) (K.2.2.2.2.1 _ h3) (K.2.2.2.2.1 _ h4) K.2.2.2.2.2.1.1 hW.1 hW.2 hS q0 q1 t t ha0 ha1 (q_tys_at ht) (q_tys_at ht) rfl hs hd hc hs2 hd2 hfit hfr hlo d (fun H1 locs1 hP1 hD1 hS1 => kk K H1 locs1 ls ⟨hP1, hD1⟩ hS1 hl)
theorem j_copyt {idx a b0 t n0 n1 : Nat} {f g : Nat → Int32} {sp dp c : Int32} (q1 : Nat) (q : Nat) (e : pc + 3 = q) (d : decode M.1 pc = .ok (.invokestatic idx, 3)) (h1 : Cond.methodLink M.2.2.1 idx arraycopyName ∈ q_gw) (h2 : Cond.native arraycopyName ∈ q_gw) (h3 : Cond.static arraycopyName ∈ q_gw) (h4 : Cond.initialized "java/lang/System" ∈ q_gw) (hT : ∀ U, q_sp G U → va_T .byte b0 n0 (fun j => .int (f j)) (q_A G) U U.heap) (ha1 : WL[q1]? = some (a, .inl (q_tc G t, n1, .inl g))) (ht : (q_tl G)[t]? = some .byte) (hs : ¬ sp < 0) (hd : ¬ dp < 0) (hc : ¬ c < 0) (hs2 : sp.toNatClampNeg + c.toNatClampNeg ≤ n0) (hd2 : dp.toNatClampNeg + c.toNatClampNeg ≤ n1) (hfit : ∀ i, i < c.toNatClampNeg → fits .byte (.int (f (sp.toNatClampNeg + i))) = true) (hfr : 1 ≤ M.2.2.2.1.frames) (hlo : (st.map fun v => v.category).sum + (nativeFrameWords "java/lang/System" "arraycopy" 5 + 11) ≤ M.2.2.2.1.locals) (kk : j_V G M X R k n q L st (WL.set q1 (a, .inl (q_tc G t, n1, .inl (va_cpy f g sp.toNatClampNeg dp.toNatClampNeg c.toNatClampNeg))))) : j_V G M X R k n pc L (.int c :: .int dp :: .ref a :: .int sp :: .ref b0 :: st) WL := by
  subst e
  intro K H locs ls hW hS hl
  exact vk_copyt K.1 K.2.1 (K.2.2.1.trans hl.1.symm) K.2.2.2.1 (K.2.2.2.2.1 _ h1) (K.2.2.2.2.1 _ h2) (K.2.2.2.2.1 _ h3) (K.2.2.2.2.1 _ h4) K.2.2.2.2.2.1.1 hW.1 hW.2 hS (hT _ K.2.2.2.2.2.2.2.2.2.2) q1 t ha1 (q_tys_at ht) hs hd hc hs2 hd2 hfit hfr hlo d (fun H1 locs1 hP1 hD1 hS1 => kk K H1 locs1 ls ⟨hP1, hD1⟩ hS1 hl)
theorem j_gets {idx : Nat} {C f dd : String} (v : Value) (q : Nat) (e : pc + 3 = q) (d : decode M.1 pc = .ok (.getstatic idx, 3)) (hZ : ∀ U, q_sp G U → va_Z C f dd v (q_A G) U U.heap) (hw : Cond.fieldLink M.2.2.1 idx C f dd ∈ q_gw) (kk : j_V G M X R k n q L (v :: st) WL) : j_V G M X R k n pc L st WL := by
  subst e
  intro K H locs ls hW hS hl
  exact va_gets K.1 K.2.1 (hZ _ K.2.2.2.2.2.2.2.2.2.2) hS K.2.2.2.1 (K.2.2.2.2.1 _ hw) (fun _ h => h) d (kk K H locs ls hW hS hl)
theorem j_getsq {idx : Nat} {C f dd : String} (q : Nat) (e : pc + 3 = q) (d : decode M.1 pc = .ok (.getstatic idx, 3)) (hZ : ∀ U, q_sp G U → va_Zq C f dd (q_A G) U U.heap) (hw : Cond.fieldLink M.2.2.1 idx C f dd ∈ q_gw) (kk : ∀ v : Value, (v = .null ∨ ∃ t, v = .ref t) → j_V G M X R k n q L (v :: st) WL) : j_V G M X R k n pc L st WL := by
  subst e
  intro K H locs ls hW hS hl
  rcases hZ _ K.2.2.2.2.2.2.2.2.2.2 with h | ⟨t, h⟩
  · exact va_gets K.1 K.2.1 h hS K.2.2.2.1 (K.2.2.2.2.1 _ hw) (fun _ h => h) d (kk _ (Or.inl rfl) K H locs ls hW hS hl)
  · exact va_gets K.1 K.2.1 h hS K.2.2.2.1 (K.2.2.2.2.1 _ hw) (fun _ h => h) d (kk _ (Or.inr ⟨t, rfl⟩) K H locs ls hW hS hl)
theorem j_tb {b0 N : Nat} {f : Nat → Value} {i : Int32} (v : Value) (q : Nat) (e : pc + 1 = q) (d : decode M.1 pc = .ok (.baload, 1)) (hT : ∀ U, q_sp G U → va_T .byte b0 N f (q_A G) U U.heap) (hin : vp_in i N) (hv : f i.toNatClampNeg = v) (kk : j_V G M X R k n q L (v :: st) WL) : j_V G M X R k n pc L (.int i :: .ref b0 :: st) WL := by
  subst e
  intro K H locs ls hW hS hl
  exact va_tb K.1 K.2.1 (hT _ K.2.2.2.2.2.2.2.2.2.2) hS hin hv d (kk K H locs ls hW hS hl)
theorem j_tlen {b0 N : Nat} {f : Nat → Value} (v : Int32) (q : Nat) (e : pc + 1 = q) (d : decode M.1 pc = .ok (.arraylength, 1)) (hT : ∀ U, q_sp G U → va_T .byte b0 N f (q_A G) U U.heap) (hv : Int32.ofNat N = v) (kk : j_V G M X R k n q L (.int v :: st) WL) : j_V G M X R k n pc L (.ref b0 :: st) WL := by
  subst e
  intro K H locs ls hW hS hl
  obtain ⟨cell, h1, h2, h3, h4, h5, h6, h7⟩ := (hT _ K.2.2.2.2.2.2.2.2.2.2).kept hS.2.1
  exact W.alen K.1 K.2.1 h1 h2 (by rw [h5, hv]) rfl rfl d (kk K H locs ls hW hS hl)
theorem j_getF {idx a : Nat} {C f dd : String} (v : Value) (q : Nat) (e : pc + 3 = q) (d : decode M.1 pc = .ok (.getfield idx, 3)) (hE : ∀ U, q_sp G U → va_OF C f dd v a (q_A G) U U.heap) (hw : Cond.fieldLink M.2.2.1 idx C f dd ∈ q_gw) (kk : j_V G M X R k n q L (v :: st) WL) : j_V G M X R k n pc L (.ref a :: st) WL := by
  subst e
  intro K H locs ls hW hS hl
  exact vk_getf K.1 K.2.1 (hE _ K.2.2.2.2.2.2.2.2.2.2) hS K.2.2.2.1 (K.2.2.2.2.1 _ hw) (fun _ h => h) d (kk K H locs ls hW hS hl)
theorem j_ifnonnull {a : Nat} {off : Int} (tgt : Nat) (d : decode M.1 pc = .ok (.ifnonnull off, 3)) (ht : (pc : Int) + off = (tgt : Int)) (kk : j_V G M X R k n tgt L st WL) : j_V G M X R k n pc L (.ref a :: st) WL := by
  intro K H locs ls hW hS hl
  exact lv_ifnonnull K.1 K.2.1 d ht (kk K H locs ls hW hS hl)
theorem j_iret {v : Int32} (d : decode M.1 pc = .ok (.ireturn, 1)) (hr0 : M.2.2.2.2 = some .int) (hR : R (some (.int v)) WL) (hk : k ≤ M.2.2.2.1.cells) (hn : n ≤ M.2.2.2.1.slots) : j_V G M X R k n pc L [.int v] WL := by
  intro K H locs ls hW hS hl
  refine W.widen hk hn ?_
  exact W.iret (v := v) (hlocks := K.2.2.2.2.2.2.2.1) K.1 K.2.1 (K.2.2.2.2.2.2.1.trans hr0) (fun t ht hw => ⟨⟨_, _, hR, rfl, by rw [ht]; exact hW.1, hW.2⟩, hS.F ht⟩) hS.2.2 d
theorem j_zret {v w : Int32} {ty : FieldType} (d : decode M.1 pc = .ok (.ireturn, 1)) (hr0 : M.2.2.2.2 = some ty) (hnw : narrow ty (.int v) = .int w) (hR : R (some (.int w)) WL) (hk : k ≤ M.2.2.2.1.cells) (hn : n ≤ M.2.2.2.1.slots) : j_V G M X R k n pc L [.int v] WL := by
  intro K H locs ls hW hS hl
  refine W.widen hk hn ?_
  exact q_zret0 (w := w) K.1 K.2.1 (K.2.2.2.2.2.2.1.trans hr0) hnw (fun t ht hw => ⟨⟨_, _, hR, rfl, by rw [ht]; exact hW.1, hW.2⟩, hS.F ht⟩) hS.2.2 d K.2.2.2.2.2.2.2.1
theorem j_vret (d : decode M.1 pc = .ok (.return_, 1)) (hr0 : M.2.2.2.2 = none) (hR : R none WL) (hk : k ≤ M.2.2.2.1.cells) (hn : n ≤ M.2.2.2.1.slots) : j_V G M X R k n pc L [] WL := by
  intro K H locs ls hW hS hl
  refine W.widen hk hn ?_
  exact W.vret (hlocks := K.2.2.2.2.2.2.2.1) K.1 K.2.1 (K.2.2.2.2.2.2.1.trans hr0) (fun t ht hw => ⟨⟨_, _, hR, rfl, by rw [ht]; exact hW.1, hW.2⟩, hS.F ht⟩) hS.2.2 d
theorem j_aret {a : Nat} {ty : FieldType} (d : decode M.1 pc = .ok (.areturn, 1)) (hr0 : M.2.2.2.2 = some ty) (hty : (∃ C, ty = .object C) ∨ (∃ t, ty = .array t)) (hR : R (some (.ref a)) WL) (hk : k ≤ M.2.2.2.1.cells) (hn : n ≤ M.2.2.2.1.slots) : j_V G M X R k n pc L [.ref a] WL := by
  intro K H locs ls hW hS hl
  refine W.widen hk hn ?_
  exact W.aret (hlocks := K.2.2.2.2.2.2.2.1) (v := .ref a) K.1 K.2.1 (K.2.2.2.2.2.2.1.trans hr0) hty (Or.inr ⟨_, rfl⟩) (fun t ht hw => ⟨⟨_, _, hR, rfl, by rw [ht]; exact hW.1, hW.2⟩, hS.F ht⟩) hS.2.2 d
end JR
section JC
variable {p : Program} {l : Launch} {e : Env} {Rm : Room} {s : State} {m : MethodId} {args : Array Value} {below : List Frame} {meth : Method} {c : Code} {H : Heap} {locs : List Loc} {cells slots : Nat} {Q : State → Prop}
theorem j_run {G : q_G} {R : Option Value → va_W → Prop} {a : Array Value} {pc : Nat} {ls : Array Slot} {st0 rest : List Value} {mc ms : Nat} (hr : va_Run p l e Rm s m args below meth c H locs cells slots mc ms (F0 m pc ls st0) rest (j_Q G R a) (q_A G)) (hS : va_S (q_A G) s.heap H locs)
    (kk : ∀ (v : Option Value) (WL : va_W) (H1 : Heap) (locs1 : List Loc), R v WL → (va_P (q_D G) (q_cl G) WL H1 ∧ va_D (q_A G) WL) → va_S (q_A G) s.heap H1 locs1 → W p l e Rm s m args below meth c H1 locs1 (cells + mc) (slots + ms) Q (F0 m (pc + 3) ls (v.toList ++ rest))) : W p l e Rm s m args below meth c H locs cells slots Q (F0 m pc ls st0) := by
  intro T hT X
  obtain ⟨v, st₀, t, T', Lc, h0, X', hL, e1, e2, ⟨⟨v', WL, hR, hv, hP, hD⟩, hz, hk⟩, st⟩ := hr T hT X
  cases hv
  rw [h0] at hz hk
  obtain ⟨t2, a1, b1⟩ := kk v WL T'.heap (locs ++ Lc) hR ⟨by rw [e1]; exact hP, hD⟩ ⟨Nat.le_trans hS.1 (by rw [e1]; exact hz), fun q h1 h2 => by rw [e1, hk q (Nat.lt_of_lt_of_le h1 hS.1) h2]; exact hS.2.1 q h1 h2, fun q hq => by
      rcases List.mem_append.mp hq with h | h
      · exact hS.2.2 q h
      · exact hL q h⟩ T' rfl X'
  exact ⟨t2, st t2 a1, b1⟩
theorem j_pre {G : q_G} {av : List Value} {WL : va_W} (hi : q_in G) (hK : q_KK G s) (hy : q_y G ≤ s.heap.size ∧ q_sp G s) (hS : va_S (q_A G) s.heap H locs) (hW : va_P (q_D G) (q_cl G) WL H ∧ va_D (q_A G) WL) : PreS s H (j_Pc G av WL) av :=
  ⟨fun a U g mk q => ⟨q.1, q.2.1, ⟨va_K.moved (u := U) (U := U.calling g mk a) (Vm.Alike.refl U.vm) q.2.2.1.1, fun a i y h hm => va_Nw.same (u := U) rfl rfl (q.2.2.1.2 a i y h hm)⟩, q.2.2.2.1, hi.2.2 U _ rfl rfl q.2.2.2.2⟩, fun U hU hw => ⟨rfl, by rw [hU]; exact hW, hK.moved hw, by rw [hU]; exact Nat.le_trans hy.1 hS.1, hi.2.1 s U hw (fun q h1 h2 => by rw [hU]; exact hS.2.1 q h1 h2) hy.2⟩⟩
end JC
section JD
variable {G : q_G} {M M' : q_M} {X : q_X} {R R' : Option Value → va_W → Prop} {k n pc : Nat} {L : List (Nat × Value)} {st : List Value} {WL : va_W} {y : MethodName} {np idx : Nat}
theorem j_callS {av : List Value} (q : Nat) (e : pc + 3 = q) (C : j_Ct X.1 G y M' av WL R') (hY : q_Y y M' np) (hl : Cond.methodLink M.2.2.1 idx y ∈ q_gw) (hs : Cond.static y ∈ q_gw) (hn : av.length = np) (hst : (st.map fun v => v.category).sum ≤ 8) (d : decode M.1 pc = .ok (.invokestatic idx, 3)) (hR : M'.2.2.2.1.frames + 1 ≤ M.2.2.2.1.frames ∧ 8 + (M'.2.1 + 11) + M'.2.2.2.1.locals ≤ M.2.2.2.1.locals) (hf : k + M'.2.2.2.1.cells ≤ M.2.2.2.1.cells ∧ n + M'.2.2.2.1.slots ≤ M.2.2.2.1.slots) {k' n' : Nat} (hk' : k + M'.2.2.2.1.cells = k') (hn' : n + M'.2.2.2.1.slots = n') (kk : ∀ v WL', R' v WL' → j_V G M X R k' n' q L (v.toList ++ st) WL') : j_V G M X R k n pc L (av.reverse ++ st) WL := by
  subst e hk' hn'
  intro K H locs ls hW hS hl0
  exact j_run (va_runS (As := av) (rest := st) ⟨K.1, K.2.1, K.2.2.1, K.2.2.2.1, K.2.2.2.2.1⟩ C ⟨q_cb hY K.2.2.2.2.1 hl hR, K.2.2.2.2.1 _ hs⟩ (j_pre (av := av) K.2.2.2.2.2.2.2.2.1 K.2.2.2.2.2.1 K.2.2.2.2.2.2.2.2.2 hS hW) rfl hn hl0.1 rfl (lv_room hst) d hf) hS (fun v WL' H1 locs1 hv hw h1 => kk v WL' hv K H1 locs1 ls hw h1 hl0)
theorem j_callV {av : List Value} {a ci N : Nat} {Cn : String} {T : u_T} {ty : Nat → FieldType} {fs : List Value} (q0 : Nat) (q : Nat) (e : pc + 3 = q) (C : j_Ct X.1 G y M' (.ref a :: av) WL R') (hY : q_Y y M' np) (hl : Cond.methodLink M.2.2.1 idx y ∈ q_gw) (hi : Cond.instanceMethod y ∈ q_gw) (hsel : Cond.selects Cn y y ∈ q_gw) (hc : q_C G ci Cn T N ty) (hat : WL[q0]? = some (a, .inr (ci, fs))) (hn : av.length = np) (hst : (st.map fun v => v.category).sum ≤ 8) (d : decode M.1 pc = .ok (.invokevirtual idx, 3)) (hR : M'.2.2.2.1.frames + 1 ≤ M.2.2.2.1.frames ∧ 8 + (M'.2.1 + 11) + M'.2.2.2.1.locals ≤ M.2.2.2.1.locals) (hf : k + M'.2.2.2.1.cells ≤ M.2.2.2.1.cells ∧ n + M'.2.2.2.1.slots ≤ M.2.2.2.1.slots) {k' n' : Nat} (hk' : k + M'.2.2.2.1.cells = k') (hn' : n + M'.2.2.2.1.slots = n') (kk : ∀ v WL', R' v WL' → j_V G M X R k' n' q L (v.toList ++ st) WL') : j_V G M X R k n pc L (av.reverse ++ .ref a :: st) WL := by
  subst e hk' hn'
  intro K H locs ls hW hS hl0
  have hp := j_pre (av := .ref a :: av) K.2.2.2.2.2.2.2.2.1 K.2.2.2.2.2.1 K.2.2.2.2.2.2.2.2.2 hS hW
  exact j_run (va_runV (As := av) (rest := st) ⟨K.1, K.2.1, K.2.2.1, K.2.2.2.1, K.2.2.2.2.1⟩ C ⟨q_cb hY K.2.2.2.2.1 hl hR, K.2.2.2.2.1 _ hi, K.2.2.2.2.1 _ hsel⟩ ⟨hp.1, va_recv K.2.2.2.2.2.1.1 hW.1 hc.1 hat, hp.2⟩ rfl hn hl0.1 rfl (lv_room hst) d hf) hS (fun v WL' H1 locs1 hv hw h1 => kk v WL' hv K H1 locs1 ls hw h1 hl0)
theorem j_callT {av : List Value} {ad adV : Nat → Nat} {NN : Nat} {len : List Nat} {byt : List (List Int32)} (i : Nat) (hs : ∀ U, q_sp G U → vk_S NN len byt ad adV (q_A G) U U.heap) (hiN : i < NN) (q : Nat) (e : pc + 3 = q) (C : j_Ct X.1 G y M' (.ref (ad i) :: av) WL R') (hY : q_Y y M' np) (hl : Cond.methodLink M.2.2.1 idx y ∈ q_gw) (hi : Cond.instanceMethod y ∈ q_gw) (hsel : Cond.selects "java/lang/String" y y ∈ q_gw) (hn : av.length = np) (hst : (st.map fun v => v.category).sum ≤ 8) (d : decode M.1 pc = .ok (.invokevirtual idx, 3)) (hR : M'.2.2.2.1.frames + 1 ≤ M.2.2.2.1.frames ∧ 8 + (M'.2.1 + 11) + M'.2.2.2.1.locals ≤ M.2.2.2.1.locals) (hf : k + M'.2.2.2.1.cells ≤ M.2.2.2.1.cells ∧ n + M'.2.2.2.1.slots ≤ M.2.2.2.1.slots) {k' n' : Nat} (hk' : k + M'.2.2.2.1.cells = k') (hn' : n + M'.2.2.2.1.slots = n') (kk : ∀ v WL', R' v WL' → j_V G M X R k' n' q L (v.toList ++ st) WL') : j_V G M X R k n pc L (av.reverse ++ .ref (ad i) :: st) WL := by
  subst e hk' hn'
  intro K H locs ls hW hS hl0
  have hp := j_pre (av := .ref (ad i) :: av) K.2.2.2.2.2.2.2.2.1 K.2.2.2.2.2.1 K.2.2.2.2.2.2.2.2.2 hS hW
  exact j_run (va_runV (As := av) (rest := st) ⟨K.1, K.2.1, K.2.2.1, K.2.2.2.1, K.2.2.2.2.1⟩ C ⟨q_cb hY K.2.2.2.2.1 hl hR, K.2.2.2.2.1 _ hi, K.2.2.2.2.1 _ hsel⟩ ⟨hp.1, vk_recv (hs _ K.2.2.2.2.2.2.2.2.2.2) hiN hS, hp.2⟩ rfl hn hl0.1 rfl (lv_room hst) d hf) hS (fun v WL' H1 locs1 hv hw h1 => kk v WL' hv K H1 locs1 ls hw h1 hl0)
theorem j_callSU {av : List Value} {a ci N : Nat} {Cn : String} {T : u_T} {ty : Nat → FieldType} {fs : List Value} (q0 : Nat) (q : Nat) (e : pc + 3 = q) (C : j_Ct X.1 G y M' (.ref a :: av) WL R') (hY : q_Y y M' np) (hl : Cond.methodLink M.2.2.1 idx y ∈ q_gw) (hsm : Cond.sameMethod y.cls y.cls y.name y.desc ∈ q_gw) (hsu : Cond.superclass M.2.2.1 y.cls ∈ q_gw) (hi : Cond.instanceMethod y ∈ q_gw) (hne : y.name ≠ "<init>") (hc : q_C G ci Cn T N ty) (hat : WL[q0]? = some (a, .inr (ci, fs))) (hn : av.length = np) (hst : (st.map fun v => v.category).sum ≤ 8) (d : decode M.1 pc = .ok (.invokespecial idx, 3)) (hR : M'.2.2.2.1.frames + 1 ≤ M.2.2.2.1.frames ∧ 8 + (M'.2.1 + 11) + M'.2.2.2.1.locals ≤ M.2.2.2.1.locals) (hf : k + M'.2.2.2.1.cells ≤ M.2.2.2.1.cells ∧ n + M'.2.2.2.1.slots ≤ M.2.2.2.1.slots) {k' n' : Nat} (hk' : k + M'.2.2.2.1.cells = k') (hn' : n + M'.2.2.2.1.slots = n') (kk : ∀ v WL', R' v WL' → j_V G M X R k' n' q L (v.toList ++ st) WL') : j_V G M X R k n pc L (av.reverse ++ .ref a :: st) WL := by
  subst e hk' hn'
  intro K H locs ls hW hS hl0
  have hp := j_pre (av := .ref a :: av) K.2.2.2.2.2.2.2.2.1 K.2.2.2.2.2.1 K.2.2.2.2.2.2.2.2.2 hS hW
  have hG : GoodIn q_gw (va_wsSU M.2.2.1 idx y (q_wsM y M')) := by
    intro w hw
    have h5 : w ∈ q_gw ∨ w ∈ q_wsM y M' := by
      rcases List.mem_append.mp hw with h | h
      · simp only [List.mem_cons, List.not_mem_nil, or_false] at h
        rcases h with rfl | rfl | rfl | rfl | rfl
        · exact Or.inl hl
        · exact Or.inl hsm
        · exact Or.inl hsu
        · exact Or.inl hi
        · exact Or.inl hY.2.2.2.2
      · exact Or.inr h
    rcases h5 with h | h
    · exact ⟨h, q_gw_good _ h⟩
    · exact q_goodIn hY w h
  exact j_run (va_runSU (As := av) (rest := st) (K.2.2.2.2.2.1.1.1 ci _ hc.1).2 ⟨K.1, K.2.1, K.2.2.1, K.2.2.2.1, K.2.2.2.2.1⟩ C (va_cwSU np K.2.2.2.2.1 hG rfl rfl rfl ⟨hne, hY.2.2.1⟩ hR) ⟨hp.1, va_recv K.2.2.2.2.2.1.1 hW.1 hc.1 hat, hp.2⟩ rfl hn hl0.1 rfl (lv_room hst) d hf) hS (fun v WL' H1 locs1 hv hw h1 => kk v WL' hv K H1 locs1 ls hw h1 hl0)
end JD
