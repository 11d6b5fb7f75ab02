section QR
variable {ρ : Type} {G : q_G} {M : q_M} {X : q_X} {em : ρ → Option Value × q_S} {k n pc : Nat} {L : List (Nat × Value)} {st : List Value} {I : q_I} {J : q_J} {P : q_P}
theorem q_none : q_V G M X em k n pc L st I J P (none : Option ρ) := fun _ _ h => by cases h
theorem q_widen {O : Option ρ} {k' n' : Nat} (h1 : k ≤ k') (h2 : n ≤ n') (kk : q_V G M X em k' n' pc L st I J P O) : q_V G M X em k n pc L st I J P O := fun K r hr H locs ls hW hS hl => W.widen h1 h2 (kk K r hr H locs ls hW hS hl)
theorem q_sub {O : Option ρ} {L' : List (Nat × Value)} (ks : List Nat) (hl : lv_pick L ks = L') (kk : q_V G M X em k n pc L' st I J P O) : q_V G M X em k n pc L st I J P O := fun K r hr H locs ls hW hS h => kk K r hr H locs ls hW hS (lv_sub h ks hl)

theorem q_iadd {O : Option ρ} {x y : Int32} (q : Nat) (e : pc + 1 = q) (d : decode M.1 pc = .ok (.iadd, 1)) (kk : q_V G M X em k n q L (.int (x + y) :: st) I J P O) : q_V G M X em k n pc L (.int y :: .int x :: st) I J P O := by
  subst e
  intro K r hr H locs ls hW hS hl
  exact lv_iadd K.1 K.2.1 d (kk K r hr H locs ls hW hS hl)
theorem q_isub {O : Option ρ} {x y : Int32} (q : Nat) (e : pc + 1 = q) (d : decode M.1 pc = .ok (.isub, 1)) (kk : q_V G M X em k n q L (.int (x - y) :: st) I J P O) : q_V G M X em k n pc L (.int y :: .int x :: st) I J P O := by
  subst e
  intro K r hr H locs ls hW hS hl
  exact lv_isub K.1 K.2.1 d (kk K r hr H locs ls hW hS hl)
theorem q_imul {O : Option ρ} {x y : Int32} (q : Nat) (e : pc + 1 = q) (d : decode M.1 pc = .ok (.imul, 1)) (kk : q_V G M X em k n q L (.int (x * y) :: st) I J P O) : q_V G M X em k n pc L (.int y :: .int x :: st) I J P O := by
  subst e
  intro K r hr H locs ls hW hS hl
  exact lv_imul K.1 K.2.1 d (kk K r hr H locs ls hW hS hl)
theorem q_iand {O : Option ρ} {x y : Int32} (q : Nat) (e : pc + 1 = q) (d : decode M.1 pc = .ok (.iand, 1)) (kk : q_V G M X em k n q L (.int (x &&& y) :: st) I J P O) : q_V G M X em k n pc L (.int y :: .int x :: st) I J P O := by
  subst e
  intro K r hr H locs ls hW hS hl
  exact lv_iand K.1 K.2.1 d (kk K r hr H locs ls hW hS hl)
theorem q_ior {O : Option ρ} {x y : Int32} (q : Nat) (e : pc + 1 = q) (d : decode M.1 pc = .ok (.ior, 1)) (kk : q_V G M X em k n q L (.int (x ||| y) :: st) I J P O) : q_V G M X em k n pc L (.int y :: .int x :: st) I J P O := by
  subst e
  intro K r hr H locs ls hW hS hl
  exact lv_ior K.1 K.2.1 d (kk K r hr H locs ls hW hS hl)
theorem q_ixor {O : Option ρ} {x y : Int32} (q : Nat) (e : pc + 1 = q) (d : decode M.1 pc = .ok (.ixor, 1)) (kk : q_V G M X em k n q L (.int (x ^^^ y) :: st) I J P O) : q_V G M X em k n pc L (.int y :: .int x :: st) I J P O := by
  subst e
  intro K r hr H locs ls hW hS hl
  exact lv_ixor K.1 K.2.1 d (kk K r hr H locs ls hW hS hl)
theorem q_ishl {O : Option ρ} {x y : Int32} (q : Nat) (e : pc + 1 = q) (d : decode M.1 pc = .ok (.ishl, 1)) (kk : q_V G M X em k n q L (.int (x <<< (y &&& 31)) :: st) I J P O) : q_V G M X em k n pc L (.int y :: .int x :: st) I J P O := by
  subst e
  intro K r hr H locs ls hW hS hl
  exact lv_ishl K.1 K.2.1 d (kk K r hr H locs ls hW hS hl)
theorem q_ishr {O : Option ρ} {x y : Int32} (q : Nat) (e : pc + 1 = q) (d : decode M.1 pc = .ok (.ishr, 1)) (kk : q_V G M X em k n q L (.int (x >>> (y &&& 31)) :: st) I J P O) : q_V G M X em k n pc L (.int y :: .int x :: st) I J P O := by
  subst e
  intro K r hr H locs ls hW hS hl
  exact lv_ishr K.1 K.2.1 d (kk K r hr H locs ls hW hS hl)
theorem q_ladd {O : Option ρ} {x y : Int64} (q : Nat) (e : pc + 1 = q) (d : decode M.1 pc = .ok (.ladd, 1)) (kk : q_V G M X em k n q L (.long (x + y) :: st) I J P O) : q_V G M X em k n pc L (.long y :: .long x :: st) I J P O := by
  subst e
  intro K r hr H locs ls hW hS hl
  exact lv_ladd K.1 K.2.1 d (kk K r hr H locs ls hW hS hl)
theorem q_lsub {O : Option ρ} {x y : Int64} (q : Nat) (e : pc + 1 = q) (d : decode M.1 pc = .ok (.lsub, 1)) (kk : q_V G M X em k n q L (.long (x - y) :: st) I J P O) : q_V G M X em k n pc L (.long y :: .long x :: st) I J P O := by
  subst e
  intro K r hr H locs ls hW hS hl
  exact lv_lsub K.1 K.2.1 d (kk K r hr H locs ls hW hS hl)
theorem q_lmul {O : Option ρ} {x y : Int64} (q : Nat) (e : pc + 1 = q) (d : decode M.1 pc = .ok (.lmul, 1)) (kk : q_V G M X em k n q L (.long (x * y) :: st) I J P O) : q_V G M X em k n pc L (.long y :: .long x :: st) I J P O := by
  subst e
  intro K r hr H locs ls hW hS hl
  exact lv_lmul K.1 K.2.1 d (kk K r hr H locs ls hW hS hl)
theorem q_land {O : Option ρ} {x y : Int64} (q : Nat) (e : pc + 1 = q) (d : decode M.1 pc = .ok (.land, 1)) (kk : q_V G M X em k n q L (.long (x &&& y) :: st) I J P O) : q_V G M X em k n pc L (.long y :: .long x :: st) I J P O := by
  subst e
  intro K r hr H locs ls hW hS hl
  exact lv_land K.1 K.2.1 d (kk K r hr H locs ls hW hS hl)
theorem q_lor {O : Option ρ} {x y : Int64} (q : Nat) (e : pc + 1 = q) (d : decode M.1 pc = .ok (.lor, 1)) (kk : q_V G M X em k n q L (.long (x ||| y) :: st) I J P O) : q_V G M X em k n pc L (.long y :: .long x :: st) I J P O := by
  subst e
  intro K r hr H locs ls hW hS hl
  exact lv_lor K.1 K.2.1 d (kk K r hr H locs ls hW hS hl)
theorem q_lxor {O : Option ρ} {x y : Int64} (q : Nat) (e : pc + 1 = q) (d : decode M.1 pc = .ok (.lxor, 1)) (kk : q_V G M X em k n q L (.long (x ^^^ y) :: st) I J P O) : q_V G M X em k n pc L (.long y :: .long x :: st) I J P O := by
  subst e
  intro K r hr H locs ls hW hS hl
  exact lv_lxor K.1 K.2.1 d (kk K r hr H locs ls hW hS hl)
theorem q_iushr {O : Option ρ} {x y : Int32} (q : Nat) (e : pc + 1 = q) (d : decode M.1 pc = .ok (.iushr, 1)) (kk : q_V G M X em k n q L (.int ((x.toUInt32 >>> (y.toUInt32 &&& Int32.toUInt32 31)).toInt32) :: st) I J P O) : q_V G M X em k n pc L (.int y :: .int x :: st) I J P O := by
  subst e
  intro K r hr H locs ls hW hS hl
  exact lv_iushr K.1 K.2.1 d rfl (kk K r hr H locs ls hW hS hl)
theorem q_idiv {O : Option ρ} {x y : Int32} (q : Nat) (e : pc + 1 = q) (d : decode M.1 pc = .ok (.idiv, 1)) (h : ¬ y = 0) (kk : q_V G M X em k n q L (.int (x / y) :: st) I J P O) : q_V G M X em k n pc L (.int y :: .int x :: st) I J P O := by
  subst e
  intro K r hr H locs ls hW hS hl
  exact lv_idiv K.1 K.2.1 d h (kk K r hr H locs ls hW hS hl)
theorem q_irem {O : Option ρ} {x y : Int32} (q : Nat) (e : pc + 1 = q) (d : decode M.1 pc = .ok (.irem, 1)) (h : ¬ y = 0) (kk : q_V G M X em k n q L (.int (x - x / y * y) :: st) I J P O) : q_V G M X em k n pc L (.int y :: .int x :: st) I J P O := by
  subst e
  intro K r hr H locs ls hW hS hl
  exact lv_irem K.1 K.2.1 d h (kk K r hr H locs ls hW hS hl)
theorem q_ineg {O : Option ρ} {x : Int32} (q : Nat) (e : pc + 1 = q) (d : decode M.1 pc = .ok (.ineg, 1)) (kk : q_V G M X em k n q L (.int (-x) :: st) I J P O) : q_V G M X em k n pc L (.int x :: st) I J P O := by
  subst e
  intro K r hr H locs ls hW hS hl
  exact lv_ineg K.1 K.2.1 d (kk K r hr H locs ls hW hS hl)
theorem q_i2l {O : Option ρ} {x : Int32} (q : Nat) (e : pc + 1 = q) (d : decode M.1 pc = .ok (.i2l, 1)) (kk : q_V G M X em k n q L (.long x.toInt64 :: st) I J P O) : q_V G M X em k n pc L (.int x :: st) I J P O := by
  subst e
  intro K r hr H locs ls hW hS hl
  exact lv_i2l K.1 K.2.1 d rfl (kk K r hr H locs ls hW hS hl)
theorem q_i2c {O : Option ρ} {x : Int32} (q : Nat) (e : pc + 1 = q) (d : decode M.1 pc = .ok (.i2c, 1)) (kk : q_V G M X em k n q L (.int ((x.toUInt32 % 65536).toInt32) :: st) I J P O) : q_V G M X em k n pc L (.int x :: st) I J P O := by
  subst e
  intro K r hr H locs ls hW hS hl
  exact lv_i2c K.1 K.2.1 d rfl (kk K r hr H locs ls hW hS hl)
theorem q_i2b {O : Option ρ} {x : Int32} (q : Nat) (e : pc + 1 = q) (d : decode M.1 pc = .ok (.i2b, 1)) (kk : q_V G M X em k n q L (.int (x.toInt8.toInt32) :: st) I J P O) : q_V G M X em k n pc L (.int x :: st) I J P O := by
  subst e
  intro K r hr H locs ls hW hS hl
  exact lv_i2b K.1 K.2.1 d rfl (kk K r hr H locs ls hW hS hl)
theorem q_lshl {O : Option ρ} {x : Int64} {y : Int32} (q : Nat) (e : pc + 1 = q) (d : decode M.1 pc = .ok (.lshl, 1)) (kk : q_V G M X em k n q L (.long (x <<< (y.toInt64 &&& 63)) :: st) I J P O) : q_V G M X em k n pc L (.int y :: .long x :: st) I J P O := by
  subst e
  intro K r hr H locs ls hW hS hl
  exact lv_lshl K.1 K.2.1 d rfl (kk K r hr H locs ls hW hS hl)
theorem q_lcmp {O : Option ρ} {x y : Int64} (q : Nat) (e : pc + 1 = q) (d : decode M.1 pc = .ok (.lcmp, 1)) (kk : q_V G M X em k n q L (.int (lg_cmp x y) :: st) I J P O) : q_V G M X em k n pc L (.long y :: .long x :: st) I J P O := by
  subst e
  intro K r hr H locs ls hW hS hl
  exact W.lcmp K.1 K.2.1 d (kk K r hr H locs ls hW hS hl)
theorem q_iconst {O : Option ρ} (v : Int32) {c : Int} (q : Nat) (e : pc + 1 = q) (d : decode M.1 pc = .ok (.iconst c, 1)) (h : Int32.ofInt c = v) (kk : q_V G M X em k n q L (.int v :: st) I J P O) : q_V G M X em k n pc L (st) I J P O := by
  subst e
  intro K r hr H locs ls hW hS hl
  exact lv_iconst K.1 K.2.1 d h (kk K r hr H locs ls hW hS hl)
theorem q_bipush {O : Option ρ} (v : Int32) {c : Int} (q : Nat) (e : pc + 2 = q) (d : decode M.1 pc = .ok (.bipush c, 2)) (h : (Int8.ofInt c).toInt32 = v) (kk : q_V G M X em k n q L (.int v :: st) I J P O) : q_V G M X em k n pc L (st) I J P O := by
  subst e
  intro K r hr H locs ls hW hS hl
  exact lv_bipush K.1 K.2.1 d h (kk K r hr H locs ls hW hS hl)
theorem q_sipush {O : Option ρ} (v : Int32) {c : Int} (q : Nat) (e : pc + 3 = q) (d : decode M.1 pc = .ok (.sipush c, 3)) (h : (Int16.ofInt c).toInt32 = v) (kk : q_V G M X em k n q L (.int v :: st) I J P O) : q_V G M X em k n pc L (st) I J P O := by
  subst e
  intro K r hr H locs ls hW hS hl
  exact lv_sipush K.1 K.2.1 d h (kk K r hr H locs ls hW hS hl)
theorem q_lconst {O : Option ρ} (v : Int64) {c : Fin 2} (q : Nat) (e : pc + 1 = q) (d : decode M.1 pc = .ok (.lconst c, 1)) (h : Int64.ofNat (c : Nat) = v) (kk : q_V G M X em k n q L (.long v :: st) I J P O) : q_V G M X em k n pc L (st) I J P O := by
  subst e
  intro K r hr H locs ls hW hS hl
  exact lv_lconst K.1 K.2.1 d h (kk K r hr H locs ls hW hS hl)
theorem q_null {O : Option ρ}  (q : Nat) (e : pc + 1 = q) (d : decode M.1 pc = .ok (.aconst_null, 1)) (kk : q_V G M X em k n q L (.null :: st) I J P O) : q_V G M X em k n pc L (st) I J P O := by
  subst e
  intro K r hr H locs ls hW hS hl
  exact lv_null K.1 K.2.1 d (kk K r hr H locs ls hW hS hl)
theorem q_ldc {O : Option ρ} {v : Int32} {i : Nat} (q : Nat) (e : pc + 2 = q) (d : decode M.1 pc = .ok (.ldc i, 2)) (h : Cond.constant M.2.2.1 i v ∈ q_gw) (kk : q_V G M X em k n q L (.int v :: st) I J P O) : q_V G M X em k n pc L (st) I J P O := by
  subst e
  intro K r hr H locs ls hW hS hl
  exact lv_ldc K.1 K.2.1 K.2.2.2.1 (K.2.2.2.2.1 _ h) d (kk K r hr H locs ls hW hS hl)
theorem q_ldc2 {O : Option ρ} {v : Int64} {i : Nat} (q : Nat) (e : pc + 3 = q) (d : decode M.1 pc = .ok (.ldc2_w i, 3)) (h : Cond.constantLong M.2.2.1 i v ∈ q_gw) (kk : q_V G M X em k n q L (.long v :: st) I J P O) : q_V G M X em k n pc L (st) I J P O := by
  subst e
  intro K r hr H locs ls hW hS hl
  exact lv_ldc2 K.1 K.2.1 K.2.2.2.1 (K.2.2.2.2.1 _ h) d (kk K r hr H locs ls hW hS hl)
theorem q_iload_n {O : Option ρ} {x : Int32} (t : Nat) (j : Fin 4) (q : Nat) (e : pc + 1 = q) (d : decode M.1 pc = .ok (.iload_n j, 1)) (hl0 : L[t]? = some ((j : Nat), .int x)) (kk : q_V G M X em k n q L (.int x :: st) I J P O) : q_V G M X em k n pc L (st) I J P O := by
  subst e
  intro K r hr H locs ls hW hS hl
  exact lv_iload_n K.1 K.2.1 d rfl (lv_at hl t hl0) (kk K r hr H locs ls hW hS hl)
theorem q_iload {O : Option ρ} {x : Int32} (t i : Nat) (q : Nat) (e : pc + 2 = q) (d : decode M.1 pc = .ok (.iload i, 2)) (hl0 : L[t]? = some (i, .int x)) (kk : q_V G M X em k n q L (.int x :: st) I J P O) : q_V G M X em k n pc L (st) I J P O := by
  subst e
  intro K r hr H locs ls hW hS hl
  exact lv_iload K.1 K.2.1 d (lv_at hl t hl0) (kk K r hr H locs ls hW hS hl)
theorem q_istore_n {O : Option ρ} {x : Int32} (i : Nat) (j : Fin 4) (q : Nat) (e : pc + 1 = q) (L' : List (Nat × Value)) (d : decode M.1 pc = .ok (.istore_n j, 1)) (hj : (j : Nat) = i) (hn : i < M.2.1) (hl0 : (i, Value.int x) :: L.filter (fun q => !(q.1 == i) && !(q.1 + 1 == i && q.2.category == 2)) = L') (kk : q_V G M X em k n q L' st I J P O) : q_V G M X em k n pc L (.int x :: st) I J P O := by
  subst e
  intro K r hr H locs ls hW hS hl
  exact lv_istore_n K.1 K.2.1 d hj hl hn hl0 (fun ls' hl' => kk K r hr H locs ls' hW hS hl')
theorem q_istore {O : Option ρ} {x : Int32} (i : Nat)  (q : Nat) (e : pc + 2 = q) (L' : List (Nat × Value)) (d : decode M.1 pc = .ok (.istore i, 2)) (hn : i < M.2.1) (hl0 : (i, Value.int x) :: L.filter (fun q => !(q.1 == i) && !(q.1 + 1 == i && q.2.category == 2)) = L') (kk : q_V G M X em k n q L' st I J P O) : q_V G M X em k n pc L (.int x :: st) I J P O := by
  subst e
  intro K r hr H locs ls hW hS hl
  exact lv_istore K.1 K.2.1 d hl hn hl0 (fun ls' hl' => kk K r hr H locs ls' hW hS hl')
theorem q_lload_n {O : Option ρ} {x : Int64} (t : Nat) (j : Fin 4) (q : Nat) (e : pc + 1 = q) (d : decode M.1 pc = .ok (.lload_n j, 1)) (hl0 : L[t]? = some ((j : Nat), .long x)) (kk : q_V G M X em k n q L (.long x :: st) I J P O) : q_V G M X em k n pc L (st) I J P O := by
  subst e
  intro K r hr H locs ls hW hS hl
  exact lv_lload_n K.1 K.2.1 d rfl (lv_at hl t hl0) (kk K r hr H locs ls hW hS hl)
theorem q_lload {O : Option ρ} {x : Int64} (t i : Nat) (q : Nat) (e : pc + 2 = q) (d : decode M.1 pc = .ok (.lload i, 2)) (hl0 : L[t]? = some (i, .long x)) (kk : q_V G M X em k n q L (.long x :: st) I J P O) : q_V G M X em k n pc L (st) I J P O := by
  subst e
  intro K r hr H locs ls hW hS hl
  exact lv_lload K.1 K.2.1 d (lv_at hl t hl0) (kk K r hr H locs ls hW hS hl)
theorem q_lstore_n {O : Option ρ} {x : Int64} (i : Nat) (j : Fin 4) (q : Nat) (e : pc + 1 = q) (L' : List (Nat × Value)) (d : decode M.1 pc = .ok (.lstore_n j, 1)) (hj : (j : Nat) = i) (hn : i + 1 < M.2.1) (hl0 : (i, Value.long x) :: L.filter (fun q => !(q.1 == i) && (!(q.1 == i + 1) && !(q.1 + 1 == i && q.2.category == 2))) = L') (kk : q_V G M X em k n q L' st I J P O) : q_V G M X em k n pc L (.long x :: st) I J P O := by
  subst e
  intro K r hr H locs ls hW hS hl
  exact lv_lstore_n K.1 K.2.1 d hj hl hn hl0 (fun ls' hl' => kk K r hr H locs ls' hW hS hl')
theorem q_lstore {O : Option ρ} {x : Int64} (i : Nat)  (q : Nat) (e : pc + 2 = q) (L' : List (Nat × Value)) (d : decode M.1 pc = .ok (.lstore i, 2)) (hn : i + 1 < M.2.1) (hl0 : (i, Value.long x) :: L.filter (fun q => !(q.1 == i) && (!(q.1 == i + 1) && !(q.1 + 1 == i && q.2.category == 2))) = L') (kk : q_V G M X em k n q L' st I J P O) : q_V G M X em k n pc L (.long x :: st) I J P O := by
  subst e
  intro K r hr H locs ls hW hS hl
  exact lv_lstore K.1 K.2.1 d hl hn hl0 (fun ls' hl' => kk K r hr H locs ls' hW hS hl')
theorem q_aload_n {O : Option ρ} {x : Nat} (t : Nat) (j : Fin 4) (q : Nat) (e : pc + 1 = q) (d : decode M.1 pc = .ok (.aload_n j, 1)) (hl0 : L[t]? = some ((j : Nat), .ref x)) (kk : q_V G M X em k n q L (.ref x :: st) I J P O) : q_V G M X em k n pc L (st) I J P O := by
  subst e
  intro K r hr H locs ls hW hS hl
  exact lv_aload_n K.1 K.2.1 d rfl (lv_at hl t hl0) (kk K r hr H locs ls hW hS hl)
theorem q_aload {O : Option ρ} {x : Nat} (t i : Nat) (q : Nat) (e : pc + 2 = q) (d : decode M.1 pc = .ok (.aload i, 2)) (hl0 : L[t]? = some (i, .ref x)) (kk : q_V G M X em k n q L (.ref x :: st) I J P O) : q_V G M X em k n pc L (st) I J P O := by
  subst e
  intro K r hr H locs ls hW hS hl
  exact lv_aload K.1 K.2.1 d (lv_at hl t hl0) (kk K r hr H locs ls hW hS hl)
theorem q_astore_n {O : Option ρ} {x : Nat} (i : Nat) (j : Fin 4) (q : Nat) (e : pc + 1 = q) (L' : List (Nat × Value)) (d : decode M.1 pc = .ok (.astore_n j, 1)) (hj : (j : Nat) = i) (hn : i < M.2.1) (hl0 : (i, Value.ref x) :: L.filter (fun q => !(q.1 == i) && !(q.1 + 1 == i && q.2.category == 2)) = L') (kk : q_V G M X em k n q L' st I J P O) : q_V G M X em k n pc L (.ref x :: st) I J P O := by
  subst e
  intro K r hr H locs ls hW hS hl
  exact lv_astore_n K.1 K.2.1 d hj hl hn hl0 (fun ls' hl' => kk K r hr H locs ls' hW hS hl')
theorem q_astore {O : Option ρ} {x : Nat} (i : Nat)  (q : Nat) (e : pc + 2 = q) (L' : List (Nat × Value)) (d : decode M.1 pc = .ok (.astore i, 2)) (hn : i < M.2.1) (hl0 : (i, Value.ref x) :: L.filter (fun q => !(q.1 == i) && !(q.1 + 1 == i && q.2.category == 2)) = L') (kk : q_V G M X em k n q L' st I J P O) : q_V G M X em k n pc L (.ref x :: st) I J P O := by
  subst e
  intro K r hr H locs ls hW hS hl
  exact lv_astore K.1 K.2.1 d hl hn hl0 (fun ls' hl' => kk K r hr H locs ls' hW hS hl')
theorem q_iinc {O : Option ρ} {x : Int32} (v : Int32) {c : Int} (i t : Nat) (q : Nat) (e : pc + 3 = q) (L' : List (Nat × Value)) (d : decode M.1 pc = .ok (.iinc i c, 3)) (ht : L[t]? = some (i, .int x)) (hv : x + Int32.ofInt c = v) (hn : i < M.2.1) (hl0 : (i, Value.int v) :: L.filter (fun q => !(q.1 == i) && !(q.1 + 1 == i && q.2.category == 2)) = L') (kk : q_V G M X em k n q L' st I J P O) : q_V G M X em k n pc L st I J P O := by
  subst e
  intro K r hr H locs ls hW hS hl
  exact lv_iinc K.1 K.2.1 d hl ht hv hn hl0 (fun ls' hl' => kk K r hr H locs ls' hW hS hl')
theorem q_aloadq_n {O : Option ρ} {x : Option Nat} (t : Nat) (j : Fin 4) (q : Nat) (e : pc + 1 = q) (d : decode M.1 pc = .ok (.aload_n j, 1)) (hl0 : L[t]? = some ((j : Nat), q_rn G x)) (kk : q_V G M X em k n q L (q_rn G x :: st) I J P O) : q_V G M X em k n pc L st I J P O := by
  subst e
  intro K r hr H locs ls hW hS hl
  cases x with
  | none => exact lv_aload_nN K.1 K.2.1 d rfl (lv_at hl t hl0) (kk K r hr H locs ls hW hS hl)
  | some a => exact lv_aload_n K.1 K.2.1 d rfl (lv_at hl t hl0) (kk K r hr H locs ls hW hS hl)
theorem q_aloadq {O : Option ρ} {x : Option Nat} (t i : Nat) (q : Nat) (e : pc + 2 = q) (d : decode M.1 pc = .ok (.aload i, 2)) (hl0 : L[t]? = some (i, q_rn G x)) (kk : q_V G M X em k n q L (q_rn G x :: st) I J P O) : q_V G M X em k n pc L st I J P O := by
  subst e
  intro K r hr H locs ls hW hS hl
  cases x with
  | none => exact lv_aloadN K.1 K.2.1 d (lv_at hl t hl0) (kk K r hr H locs ls hW hS hl)
  | some a => exact lv_aload K.1 K.2.1 d (lv_at hl t hl0) (kk K r hr H locs ls hW hS hl)
theorem q_astoreq_n {O : Option ρ} {x : Option Nat} (i : Nat) (j : Fin 4) (q : Nat) (e : pc + 1 = q) (L' : List (Nat × Value)) (d : decode M.1 pc = .ok (.astore_n j, 1)) (hj : (j : Nat) = i) (hn : i < M.2.1) (hl0 : (i, q_rn G x) :: L.filter (fun q => !(q.1 == i) && !(q.1 + 1 == i && q.2.category == 2)) = L') (kk : q_V G M X em k n q L' st I J P O) : q_V G M X em k n pc L (q_rn G x :: st) I J P O := by
  subst e
  intro K r hr H locs ls hW hS hl
  cases x with
  | none => exact lv_astore_nN K.1 K.2.1 d hj hl hn hl0 (fun ls' hl' => kk K r hr H locs ls' hW hS hl')
  | some a => exact lv_astore_n K.1 K.2.1 d hj hl hn hl0 (fun ls' hl' => kk K r hr H locs ls' hW hS hl')
theorem q_astoreq {O : Option ρ} {x : Option Nat} (i : Nat) (q : Nat) (e : pc + 2 = q) (L' : List (Nat × Value)) (d : decode M.1 pc = .ok (.astore i, 2)) (hn : i < M.2.1) (hl0 : (i, q_rn G x) :: L.filter (fun q => !(q.1 == i) && !(q.1 + 1 == i && q.2.category == 2)) = L') (kk : q_V G M X em k n q L' st I J P O) : q_V G M X em k n pc L (q_rn G x :: st) I J P O := by
  subst e
  intro K r hr H locs ls hW hS hl
  cases x with
  | none => exact lv_astoreN K.1 K.2.1 d hl hn hl0 (fun ls' hl' => kk K r hr H locs ls' hW hS hl')
  | some a => exact lv_astore K.1 K.2.1 d hl hn hl0 (fun ls' hl' => kk K r hr H locs ls' hW hS hl')
theorem q_ifnull {B : Nat → Option ρ} {A : Option ρ} {x : Option Nat} {off : Int} (q : Nat) (e : pc + 3 = q) (tgt : Nat) (d : decode M.1 pc = .ok (.ifnull off, 3)) (ht : (pc : Int) + off = (tgt : Int)) (kn : x = none → q_V G M X em k n tgt L st I J P A) (ks : ∀ a, x = some a → q_V G M X em k n q L st I J P (B a)) : q_V G M X em k n pc L (q_rn G x :: st) I J P (x.elim A B) := by
  subst e
  intro K r hr H locs ls hW hS hl
  cases x with
  | none => exact lv_ifnullN K.1 K.2.1 d ht (kn rfl K r hr H locs ls hW hS hl)
  | some a => exact lv_ifnull K.1 K.2.1 d (ks a rfl K r hr H locs ls hW hS hl)
theorem q_ifnonnull {B : Nat → Option ρ} {A : Option ρ} {x : Option Nat} {off : Int} (q : Nat) (e : pc + 3 = q) (tgt : Nat) (d : decode M.1 pc = .ok (.ifnonnull off, 3)) (ht : (pc : Int) + off = (tgt : Int)) (kn : x = none → q_V G M X em k n q L st I J P A) (ks : ∀ a, x = some a → q_V G M X em k n tgt L st I J P (B a)) : q_V G M X em k n pc L (q_rn G x :: st) I J P (x.elim A B) := by
  subst e
  intro K r hr H locs ls hW hS hl
  cases x with
  | none => exact lv_ifnonnullN K.1 K.2.1 d (kn rfl K r hr H locs ls hW hS hl)
  | some a => exact lv_ifnonnull K.1 K.2.1 d ht (ks a rfl K r hr H locs ls hW hS hl)
theorem q_dup {O : Option ρ} {va : Value} (q : Nat) (e : pc + 1 = q) (d : decode M.1 pc = .ok (.dup, 1)) (ha : va.category = 1) (kk : q_V G M X em k n q L (va :: va :: st) I J P O) : q_V G M X em k n pc L (va :: st) I J P O := by
  subst e
  intro K r hr H locs ls hW hS hl
  exact lv_dup K.1 K.2.1 d ha (kk K r hr H locs ls hW hS hl)
theorem q_pop {O : Option ρ} {va : Value} (q : Nat) (e : pc + 1 = q) (d : decode M.1 pc = .ok (.pop, 1)) (ha : va.category = 1) (kk : q_V G M X em k n q L (st) I J P O) : q_V G M X em k n pc L (va :: st) I J P O := by
  subst e
  intro K r hr H locs ls hW hS hl
  exact lv_pop K.1 K.2.1 d ha (kk K r hr H locs ls hW hS hl)
theorem q_pop2 {O : Option ρ} {va : Value} (q : Nat) (e : pc + 1 = q) (d : decode M.1 pc = .ok (.pop2, 1)) (ha : va.category = 2) (kk : q_V G M X em k n q L (st) I J P O) : q_V G M X em k n pc L (va :: st) I J P O := by
  subst e
  intro K r hr H locs ls hW hS hl
  exact lv_pop2_2 K.1 K.2.1 d ha (kk K r hr H locs ls hW hS hl)
theorem q_dup_x1 {O : Option ρ} {va vb : Value} (q : Nat) (e : pc + 1 = q) (d : decode M.1 pc = .ok (.dup_x1, 1)) (ha : va.category = 1) (hb : vb.category = 1) (kk : q_V G M X em k n q L (va :: vb :: va :: st) I J P O) : q_V G M X em k n pc L (va :: vb :: st) I J P O := by
  subst e
  intro K r hr H locs ls hW hS hl
  exact lv_dup_x1 K.1 K.2.1 d ha hb (kk K r hr H locs ls hW hS hl)
theorem q_dup_x2 {O : Option ρ} {va vb vc : Value} (q : Nat) (e : pc + 1 = q) (d : decode M.1 pc = .ok (.dup_x2, 1)) (ha : va.category = 1) (hb : vb.category = 1) (hc : vc.category = 1) (kk : q_V G M X em k n q L (va :: vb :: vc :: va :: st) I J P O) : q_V G M X em k n pc L (va :: vb :: vc :: st) I J P O := by
  subst e
  intro K r hr H locs ls hW hS hl
  exact lv_dup_x2 K.1 K.2.1 d ha hb hc (kk K r hr H locs ls hW hS hl)
theorem q_dup2 {O : Option ρ} {va vb : Value} (q : Nat) (e : pc + 1 = q) (d : decode M.1 pc = .ok (.dup2, 1)) (ha : va.category = 1) (hb : vb.category = 1) (kk : q_V G M X em k n q L (va :: vb :: va :: vb :: st) I J P O) : q_V G M X em k n pc L (va :: vb :: st) I J P O := by
  subst e
  intro K r hr H locs ls hW hS hl
  exact lv_dup2_11 K.1 K.2.1 d ha hb (kk K r hr H locs ls hW hS hl)
theorem q_if_eq {A B : Option ρ} {x : Int32} {off : Int} (q : Nat) (e : pc + 3 = q) (tgt : Nat) (d : decode M.1 pc = .ok (.ifCond .eq off, 3)) (ht : (pc : Int) + off = (tgt : Int)) (kt : x = 0 → q_V G M X em k n tgt L st I J P A) (kf : ¬ x = 0 → q_V G M X em k n q L st I J P B) : q_V G M X em k n pc L (.int x :: st) I J P (if x = 0 then A else B) := by
  subst e
  intro K r hr H locs ls hW hS hl
  exact lv_if_eq K.1 K.2.1 d ht (fun h => kt h K r (by rw [if_pos h] at hr; exact hr) H locs ls hW hS hl) (fun h => kf h K r (by rw [if_neg h] at hr; exact hr) H locs ls hW hS hl)
theorem q_icmp_eq {A B : Option ρ} {x y : Int32} {off : Int} (q : Nat) (e : pc + 3 = q) (tgt : Nat) (d : decode M.1 pc = .ok (.if_icmp .eq off, 3)) (ht : (pc : Int) + off = (tgt : Int)) (kt : x = y → q_V G M X em k n tgt L st I J P A) (kf : ¬ x = y → q_V G M X em k n q L st I J P B) : q_V G M X em k n pc L (.int y :: .int x :: st) I J P (if x = y then A else B) := by
  subst e
  intro K r hr H locs ls hW hS hl
  exact lv_icmp_eq K.1 K.2.1 d ht (fun h => kt h K r (by rw [if_pos h] at hr; exact hr) H locs ls hW hS hl) (fun h => kf h K r (by rw [if_neg h] at hr; exact hr) H locs ls hW hS hl)
theorem q_if_ne {A B : Option ρ} {x : Int32} {off : Int} (q : Nat) (e : pc + 3 = q) (tgt : Nat) (d : decode M.1 pc = .ok (.ifCond .ne off, 3)) (ht : (pc : Int) + off = (tgt : Int)) (kt : ¬ x = 0 → q_V G M X em k n tgt L st I J P A) (kf : x = 0 → q_V G M X em k n q L st I J P B) : q_V G M X em k n pc L (.int x :: st) I J P (if x = 0 then B else A) := by
  subst e
  intro K r hr H locs ls hW hS hl
  exact lv_if_ne K.1 K.2.1 d ht (fun h => kt h K r (by rw [if_neg h] at hr; exact hr) H locs ls hW hS hl) (fun h => kf h K r (by rw [if_pos h] at hr; exact hr) H locs ls hW hS hl)
theorem q_icmp_ne {A B : Option ρ} {x y : Int32} {off : Int} (q : Nat) (e : pc + 3 = q) (tgt : Nat) (d : decode M.1 pc = .ok (.if_icmp .ne off, 3)) (ht : (pc : Int) + off = (tgt : Int)) (kt : ¬ x = y → q_V G M X em k n tgt L st I J P A) (kf : x = y → q_V G M X em k n q L st I J P B) : q_V G M X em k n pc L (.int y :: .int x :: st) I J P (if x = y then B else A) := by
  subst e
  intro K r hr H locs ls hW hS hl
  exact lv_icmp_ne K.1 K.2.1 d ht (fun h => kt h K r (by rw [if_neg h] at hr; exact hr) H locs ls hW hS hl) (fun h => kf h K r (by rw [if_pos h] at hr; exact hr) H locs ls hW hS hl)
theorem q_if_lt {A B : Option ρ} {x : Int32} {off : Int} (q : Nat) (e : pc + 3 = q) (tgt : Nat) (d : decode M.1 pc = .ok (.ifCond .lt off, 3)) (ht : (pc : Int) + off = (tgt : Int)) (kt : x < 0 → q_V G M X em k n tgt L st I J P A) (kf : ¬ x < 0 → q_V G M X em k n q L st I J P B) : q_V G M X em k n pc L (.int x :: st) I J P (if x < 0 then A else B) := by
  subst e
  intro K r hr H locs ls hW hS hl
  exact lv_if_lt K.1 K.2.1 d ht (fun h => kt h K r (by rw [if_pos h] at hr; exact hr) H locs ls hW hS hl) (fun h => kf h K r (by rw [if_neg h] at hr; exact hr) H locs ls hW hS hl)
theorem q_icmp_lt {A B : Option ρ} {x y : Int32} {off : Int} (q : Nat) (e : pc + 3 = q) (tgt : Nat) (d : decode M.1 pc = .ok (.if_icmp .lt off, 3)) (ht : (pc : Int) + off = (tgt : Int)) (kt : x < y → q_V G M X em k n tgt L st I J P A) (kf : ¬ x < y → q_V G M X em k n q L st I J P B) : q_V G M X em k n pc L (.int y :: .int x :: st) I J P (if x < y then A else B) := by
  subst e
  intro K r hr H locs ls hW hS hl
  exact lv_icmp_lt K.1 K.2.1 d ht (fun h => kt h K r (by rw [if_pos h] at hr; exact hr) H locs ls hW hS hl) (fun h => kf h K r (by rw [if_neg h] at hr; exact hr) H locs ls hW hS hl)
theorem q_if_ge {A B : Option ρ} {x : Int32} {off : Int} (q : Nat) (e : pc + 3 = q) (tgt : Nat) (d : decode M.1 pc = .ok (.ifCond .ge off, 3)) (ht : (pc : Int) + off = (tgt : Int)) (kt : 0 ≤ x → q_V G M X em k n tgt L st I J P A) (kf : ¬ 0 ≤ x → q_V G M X em k n q L st I J P B) : q_V G M X em k n pc L (.int x :: st) I J P (if 0 ≤ x then A else B) := by
  subst e
  intro K r hr H locs ls hW hS hl
  exact lv_if_ge K.1 K.2.1 d ht (fun h => kt h K r (by rw [if_pos h] at hr; exact hr) H locs ls hW hS hl) (fun h => kf h K r (by rw [if_neg h] at hr; exact hr) H locs ls hW hS hl)
theorem q_icmp_ge {A B : Option ρ} {x y : Int32} {off : Int} (q : Nat) (e : pc + 3 = q) (tgt : Nat) (d : decode M.1 pc = .ok (.if_icmp .ge off, 3)) (ht : (pc : Int) + off = (tgt : Int)) (kt : y ≤ x → q_V G M X em k n tgt L st I J P A) (kf : ¬ y ≤ x → q_V G M X em k n q L st I J P B) : q_V G M X em k n pc L (.int y :: .int x :: st) I J P (if y ≤ x then A else B) := by
  subst e
  intro K r hr H locs ls hW hS hl
  exact lv_icmp_ge K.1 K.2.1 d ht (fun h => kt h K r (by rw [if_pos h] at hr; exact hr) H locs ls hW hS hl) (fun h => kf h K r (by rw [if_neg h] at hr; exact hr) H locs ls hW hS hl)
theorem q_if_gt {A B : Option ρ} {x : Int32} {off : Int} (q : Nat) (e : pc + 3 = q) (tgt : Nat) (d : decode M.1 pc = .ok (.ifCond .gt off, 3)) (ht : (pc : Int) + off = (tgt : Int)) (kt : 0 < x → q_V G M X em k n tgt L st I J P A) (kf : ¬ 0 < x → q_V G M X em k n q L st I J P B) : q_V G M X em k n pc L (.int x :: st) I J P (if 0 < x then A else B) := by
  subst e
  intro K r hr H locs ls hW hS hl
  exact lv_if_gt K.1 K.2.1 d ht (fun h => kt h K r (by rw [if_pos h] at hr; exact hr) H locs ls hW hS hl) (fun h => kf h K r (by rw [if_neg h] at hr; exact hr) H locs ls hW hS hl)
theorem q_icmp_gt {A B : Option ρ} {x y : Int32} {off : Int} (q : Nat) (e : pc + 3 = q) (tgt : Nat) (d : decode M.1 pc = .ok (.if_icmp .gt off, 3)) (ht : (pc : Int) + off = (tgt : Int)) (kt : y < x → q_V G M X em k n tgt L st I J P A) (kf : ¬ y < x → q_V G M X em k n q L st I J P B) : q_V G M X em k n pc L (.int y :: .int x :: st) I J P (if y < x then A else B) := by
  subst e
  intro K r hr H locs ls hW hS hl
  exact lv_icmp_gt K.1 K.2.1 d ht (fun h => kt h K r (by rw [if_pos h] at hr; exact hr) H locs ls hW hS hl) (fun h => kf h K r (by rw [if_neg h] at hr; exact hr) H locs ls hW hS hl)
theorem q_if_le {A B : Option ρ} {x : Int32} {off : Int} (q : Nat) (e : pc + 3 = q) (tgt : Nat) (d : decode M.1 pc = .ok (.ifCond .le off, 3)) (ht : (pc : Int) + off = (tgt : Int)) (kt : x ≤ 0 → q_V G M X em k n tgt L st I J P A) (kf : ¬ x ≤ 0 → q_V G M X em k n q L st I J P B) : q_V G M X em k n pc L (.int x :: st) I J P (if x ≤ 0 then A else B) := by
  subst e
  intro K r hr H locs ls hW hS hl
  exact lv_if_le K.1 K.2.1 d ht (fun h => kt h K r (by rw [if_pos h] at hr; exact hr) H locs ls hW hS hl) (fun h => kf h K r (by rw [if_neg h] at hr; exact hr) H locs ls hW hS hl)
theorem q_icmp_le {A B : Option ρ} {x y : Int32} {off : Int} (q : Nat) (e : pc + 3 = q) (tgt : Nat) (d : decode M.1 pc = .ok (.if_icmp .le off, 3)) (ht : (pc : Int) + off = (tgt : Int)) (kt : x ≤ y → q_V G M X em k n tgt L st I J P A) (kf : ¬ x ≤ y → q_V G M X em k n q L st I J P B) : q_V G M X em k n pc L (.int y :: .int x :: st) I J P (if x ≤ y then A else B) := by
  subst e
  intro K r hr H locs ls hW hS hl
  exact lv_icmp_le K.1 K.2.1 d ht (fun h => kt h K r (by rw [if_pos h] at hr; exact hr) H locs ls hW hS hl) (fun h => kf h K r (by rw [if_neg h] at hr; exact hr) H locs ls hW hS hl)
theorem q_goto {O : Option ρ} {off : Int} (tgt : Nat) (d : decode M.1 pc = .ok (.goto off, 3)) (ht : (pc : Int) + off = (tgt : Int)) (kk : q_V G M X em k n tgt L st I J P O) : q_V G M X em k n pc L st I J P O := by
  intro K r hr H locs ls hW hS hl
  exact lv_goto K.1 K.2.1 d ht (kk K r hr H locs ls hW hS hl)
/-- a switch by cases: one of its rows, or none -/
theorem q_tableIn {O : Option ρ} {dflt lo hi : Int} {offs : Array Int} {len : Nat} {x : Int32} {off : Int} (tgt : Nat) (d : decode M.1 pc = .ok (.tableswitch dflt lo hi offs, len)) (h1 : ¬ x.toInt < lo) (h2 : ¬ hi < x.toInt) (ho : offs[(x.toInt - lo).toNat]? = some off) (ht : (pc : Int) + off = (tgt : Int)) (kk : q_V G M X em k n tgt L st I J P O) : q_V G M X em k n pc L (.int x :: st) I J P O := by
  intro K r hr H locs ls hW hS hl
  exact lv_tableIn K.1 K.2.1 d h1 h2 ho ht (kk K r hr H locs ls hW hS hl)
theorem q_tableOut {O : Option ρ} {dflt lo hi : Int} {offs : Array Int} {len : Nat} {x : Int32} (tgt : Nat) (d : decode M.1 pc = .ok (.tableswitch dflt lo hi offs, len)) (h : x.toInt < lo ∨ hi < x.toInt) (ht : (pc : Int) + dflt = (tgt : Int)) (kk : q_V G M X em k n tgt L st I J P O) : q_V G M X em k n pc L (.int x :: st) I J P O := by
  intro K r hr H locs ls hW hS hl
  exact lv_tableOut K.1 K.2.1 d h ht (kk K r hr H locs ls hW hS hl)
theorem q_lookup {O : Option ρ} {dflt : Int} {ps : Array (Int × Int)} {len : Nat} {x : Int32} {off : Int} (tgt : Nat) (d : decode M.1 pc = .ok (.lookupswitch dflt ps, len)) (hp : (ps.toList.zip (ps.toList.drop 1)).all (fun (a, next) => a.1 < next.1) = true) (ho : Op.lookupswitch.offset ps.toList dflt x.toInt = off) (ht : (pc : Int) + off = (tgt : Int)) (kk : q_V G M X em k n tgt L st I J P O) : q_V G M X em k n pc L (.int x :: st) I J P O := by
  intro K r hr H locs ls hW hS hl
  exact lv_lookup K.1 K.2.1 d hp ho ht (kk K r hr H locs ls hW hS hl)

theorem q_iret {v : Int32} {r0 : ρ} (d : decode M.1 pc = .ok (.ireturn, 1)) (hr0 : M.2.2.2.2 = some .int) (he : em r0 = (some (.int v), (I, J, P))) (hk : k ≤ M.2.2.2.1.cells) (hn : n ≤ M.2.2.2.1.slots) : q_V G M X em k n pc L [.int v] I J P (some r0) := by
  intro K r hr H locs ls hW hS hl
  cases hr
  rw [he]
  refine W.widen hk hn ?_
  exact W.iret (v := v) (hlocks := K.2.2.2.2.2.2.2.1) K.1 K.2.1 (K.2.2.2.2.2.2.1.trans hr0) (fun t ht hw => ⟨rfl, by rw [ht]; exact hW, hS.F ht⟩) hS.2.2 d
theorem q_lret {v : Int64} {r0 : ρ} (d : decode M.1 pc = .ok (.lreturn, 1)) (hr0 : M.2.2.2.2 = some .long) (he : em r0 = (some (.long v), (I, J, P))) (hk : k ≤ M.2.2.2.1.cells) (hn : n ≤ M.2.2.2.1.slots) : q_V G M X em k n pc L [.long v] I J P (some r0) := by
  intro K r hr H locs ls hW hS hl
  cases hr
  rw [he]
  refine W.widen hk hn ?_
  exact W.lret (v := v) (hlocks := K.2.2.2.2.2.2.2.1) K.1 K.2.1 (K.2.2.2.2.2.2.1.trans hr0) (fun t ht hw => ⟨rfl, by rw [ht]; exact hW, hS.F ht⟩) hS.2.2 d
/-- an answer of a type narrower than int -/
theorem q_zret0 {p : Program} {l : Launch} {e : Env} {R : Room} {s : State} {m : MethodId} {args : Array Value} {below : List Frame} {meth : Method} {c : Code} {H : Heap} {locs : List Loc} {cells slots : Nat} {cc : ByteArray} {Qc : Array Value → State → Outcome → State → Prop} {free : Addr → Prop} {v w : Int32} {ty : FieldType} (hexec : p.tables.exec = Jvm.exec) (hb : c.code = cc) (hr : meth.sig.returnType = some ty) (hn : narrow ty (.int v) = .int w)
    (hq : ∀ t : State, t.heap = H → s.WarmedH t.vm → Qc args s (.returned (some (.int w))) t) (hf : ∀ q ∈ locs, free q.base)
    {pc : Nat} {ls : Array Slot} (hdg : decode cc pc = .ok (.ireturn, 1)) (hlocks : meth.locks = false) : W p l e R s m args below meth c H locs cells slots (MQ below Qc args s cells slots free) (F0 m pc ls [.int v]) := by
  intro T hT X
  obtain ⟨fs, hret, hrun, hended, hW, hframe⟩ := X.leave (v := some (.int w)) (fun h => by rw [hr] at h; cases h)
  have hmeth' : T.vm.method? m = some meth := X.method'
  refine ⟨T.setFrames fs, ?_, .returned (some (.int w)), hrun, hended, hq _ hT hW, locs, ⟨⟨_, rfl⟩, hW, hframe⟩, hf⟩
  jvm_step X.here [X.here.top, hexec, hb, hdg, hmeth', hr, hn]
  (try refine ⟨rfl, ?_⟩); (try refine ⟨rfl, ?_⟩)
  first | (intro acts; rw [hret _ acts rfl rfl rfl]) | rw [hret _ _ rfl rfl rfl]
  exact Steps.refl _
theorem q_zret {v w : Int32} {r0 : ρ} {ty : FieldType} (d : decode M.1 pc = .ok (.ireturn, 1)) (hr0 : M.2.2.2.2 = some ty) (hnw : narrow ty (.int v) = .int w) (he : em r0 = (some (.int w), (I, J, P))) (hk : k ≤ M.2.2.2.1.cells) (hn : n ≤ M.2.2.2.1.slots) : q_V G M X em k n pc L [.int v] I J P (some r0) := by
  intro K r hr H locs ls hW hS hl
  cases hr
  rw [he]
  refine W.widen hk hn ?_
  exact q_zret0 (w := w) K.1 K.2.1 (K.2.2.2.2.2.2.1.trans hr0) hnw (fun t ht hw => ⟨rfl, by rw [ht]; exact hW, hS.F ht⟩) hS.2.2 d K.2.2.2.2.2.2.2.1
theorem q_vret {r0 : ρ} (d : decode M.1 pc = .ok (.return_, 1)) (hr0 : M.2.2.2.2 = none) (he : em r0 = (none, (I, J, P))) (hk : k ≤ M.2.2.2.1.cells) (hn : n ≤ M.2.2.2.1.slots) : q_V G M X em k n pc L [] I J P (some r0) := by
  intro K r hr H locs ls hW hS hl
  cases hr
  rw [he]
  refine W.widen hk hn ?_
  exact W.vret (hlocks := K.2.2.2.2.2.2.2.1) K.1 K.2.1 (K.2.2.2.2.2.2.1.trans hr0) (fun t ht hw => ⟨rfl, by rw [ht]; exact hW, hS.F ht⟩) hS.2.2 d
theorem q_aret {x : Option Nat} {r0 : ρ} {C : String} (d : decode M.1 pc = .ok (.areturn, 1)) (hr0 : M.2.2.2.2 = some (.object C)) (he : em r0 = (some (q_rn G x), (I, J, P))) (hk : k ≤ M.2.2.2.1.cells) (hn : n ≤ M.2.2.2.1.slots) : q_V G M X em k n pc L [q_rn G x] I J P (some r0) := by
  intro K r hr H locs ls hW hS hl
  cases hr
  rw [he]
  refine W.widen hk hn ?_
  exact W.aret (hlocks := K.2.2.2.2.2.2.2.1) (v := q_rn G x) K.1 K.2.1 (K.2.2.2.2.2.2.1.trans hr0) (Or.inl ⟨_, rfl⟩) (by cases x; exact Or.inl rfl; exact Or.inr ⟨_, rfl⟩) (fun t ht hw => ⟨rfl, by rw [ht]; exact hW, hS.F ht⟩) hS.2.2 d
theorem q_ad_x {G : q_G} {hd : Nat → Nat} {o : Nat} {a : q_K} (h : q_kd G o = a) (h7 : a.1 ≠ 7) : q_ad G hd o = q_x G + o := by
  subst h; exact if_neg h7
theorem q_lt {G : q_G} (hi : q_in G) {o : Nat} {a : q_K} (h : q_kd G o = a) (h0 : a.1 ≠ 0) : o < q_N G := hi.1 o (by rw [h]; exact h0)
theorem q_at {G : q_G} {hd : Nat → Nat} {I : q_I} {J : q_J} {P : q_P} {o : Nat} {a : q_K} {e : va_E} (hi : q_in G) (h : q_kd G o = a) (h0 : a.1 ≠ 0) (h7 : a.1 ≠ 7) (he : q_cell G hd o (I o) (J o) (P o) = e) : (q_wl G hd (I, J, P))[o]? = some (q_x G + o, e) := by
  rw [q_wl_get (q_lt hi h h0), q_ad_x h h7, ← he]
theorem q_geti {O : Option ρ} {idx o ci f N : Nat} {C : String} {T : u_T} {ty : Nat → FieldType} (q : Nat) (e : pc + 3 = q) (d : decode M.1 pc = .ok (.getfield idx, 3)) (hc : q_C G ci C T N ty) (hk : q_kd G o = (1, ci, N, 0, 0)) (hf : f < N) (hfd : q_fd G ci f = 0) (hw : Cond.fieldLink M.2.2.1 idx (T f).1 (T f).2.1 (T f).2.2.1 ∈ q_gw) (kk : q_V G M X em k n q L (.int (I o f) :: st) I J P O) : q_V G M X em k n pc L (q_r G o :: st) I J P O := by
  subst e
  intro K r hr H locs ls hW hS hl
  have hW0 := hW
  obtain ⟨-, hd, hP, -, -⟩ := hW0
  refine va_get (D := q_D G) (cl := q_cl G) (ci := ci) (v := .int (I o f)) (fs := (List.range N).map (q_fv G hd o ci (I o))) (C := C) (T := T) (N := N) K.1 K.2.1 K.2.2.2.2.1 hc.2.1 K.2.2.2.1 K.2.2.2.2.2.1.1 hP o (q_at K.2.2.2.2.2.2.2.2.1 hk (by simp) (by simp) (by simp only [q_cell, hk])) hc.1 f hf (K.2.2.2.2.1 _ hw) (fun _ h => h) (by simp [hf, q_fv, hfd]) d (kk K r hr H locs ls hW hS hl)
theorem q_getr {O : Option ρ} {idx o ci f N dd : Nat} {C : String} {T : u_T} {ty : Nat → FieldType} (o' : Nat) (q : Nat) (e : pc + 3 = q) (d : decode M.1 pc = .ok (.getfield idx, 3)) (hc : q_C G ci C T N ty) (hk : q_kd G o = (1, ci, N, 0, 0)) (hf : f < N) (hfd : q_fd G ci f = dd + 1) (ho : o + dd = o') (hw : Cond.fieldLink M.2.2.1 idx (T f).1 (T f).2.1 (T f).2.2.1 ∈ q_gw) (kk : q_V G M X em k n q L (q_r G o' :: st) I J P O) : q_V G M X em k n pc L (q_r G o :: st) I J P O := by
  subst e
  subst ho
  intro K r hr H locs ls hW hS hl
  have hW0 := hW
  obtain ⟨-, hd, hP, -, -⟩ := hW0
  refine va_get (D := q_D G) (cl := q_cl G) (ci := ci) (v := q_r G (o + dd)) (fs := (List.range N).map (q_fv G hd o ci (I o))) (C := C) (T := T) (N := N) K.1 K.2.1 K.2.2.2.2.1 hc.2.1 K.2.2.2.1 K.2.2.2.2.2.1.1 hP o (q_at K.2.2.2.2.2.2.2.2.1 hk (by simp) (by simp) (by simp only [q_cell, hk])) hc.1 f hf (K.2.2.2.2.1 _ hw) (fun _ h => h) (by simp [hf, q_fv, hfd]) d (kk K r hr H locs ls hW hS hl)
theorem q_sb_keep {G : q_G} {I I' : q_I} {hd : Nat → Nat} (h : q_sb G I hd) (hx : ∀ a, (q_kd G a).1 = 6 ∨ (q_kd G a).1 = 7 → I' a = I a) : q_sb G I' hd := by
  refine ⟨fun o a b c d hk => ?_, fun o a b c d hk j => ?_⟩
  · obtain ⟨m, h1, h2⟩ := h.1 o a b c d hk
    exact ⟨m, by rw [hx o (Or.inl (by rw [hk]))]; exact h1, h2⟩
  · rw [hx o (Or.inr (by rw [hk]))]
    exact h.2 o a b c d hk j
theorem q_puti {O : Option ρ} {idx o ci f N : Nat} {C : String} {T : u_T} {ty : Nat → FieldType} {v : Int32} (q : Nat) (e : pc + 3 = q) (d : decode M.1 pc = .ok (.putfield idx, 3)) (hc : q_C G ci C T N ty) (hk : q_kd G o = (1, ci, N, 0, 0)) (hf : f < N) (hfd : q_fd G ci f = 0) (hty : ty f = .int) (hfin : (T f).2.2.2 = false) (hw : Cond.fieldLink M.2.2.1 idx (T f).1 (T f).2.1 (T f).2.2.1 ∈ q_gw) (kk : q_V G M X em k n q L st (q_ui I o f v) J P O) : q_V G M X em k n pc L (.int v :: q_r G o :: st) I J P O := by
  subst e
  intro K r hr H locs ls hW hS hl
  obtain ⟨hpb, hd, hP, hD, hsb⟩ := hW
  have hat := q_at (hd := hd) (I := I) (J := J) (P := P) K.2.2.2.2.2.2.2.2.1 hk (by simp) (by simp) rfl
  have hat' : (q_wl G hd (I, J, P))[o]? = some (q_x G + o, .inr (ci, (List.range N).map (q_fv G hd o ci (I o)))) := by rw [hat]; simp only [q_cell, hk]
  refine va_put (D := q_D G) (cl := q_cl G) (ci := ci) (v := .int v) (ty := .int) (C := C) (T := T) (N := N) K.1 K.2.1 K.2.2.2.2.1 hc.2.1 ty hc.2.2.1 hc.2.2.2 K.2.2.2.1 K.2.2.2.2.2.1.1 hP hD hS o hat' hc.1 f hf (K.2.2.2.2.1 _ hw) (fun _ h => h) hfin (by rw [hc.2.2.1 f hf, hty]) rfl rfl (by simpa using hf) d (fun H1 locs1 hP1 hD1 hS1 => ?_)
  have e1 : (q_wl G hd (I, J, P)).set o (q_x G + o, .inr (ci, ((List.range N).map (q_fv G hd o ci (I o))).set f (.int v))) = q_wl G hd (q_ui I o f v, J, P) := by
    rw [← q_ad_x (hd := hd) hk (by simp)]
    refine q_wl_set ?_ (fun a ha => if_neg ha) (fun _ _ => rfl) (fun _ _ => rfl)
    simp only [q_cell, hk, q_ui, if_true]
    congr 2
    apply List.ext_getElem?
    intro i
    rw [List.getElem?_set]
    by_cases hi : f = i
    · subst hi
      simp [hf, q_fv, hfd, upd]
    · rw [if_neg hi]
      simp only [List.getElem?_map]
      cases hr2 : (List.range N)[i]? with
      | none => rfl
      | some j =>
        have hj : j = i := by
          have := (List.getElem?_eq_some_iff.mp hr2).2
          simpa using this.symm
        subst hj
        simp only [Option.map_some, q_fv, upd, if_neg (Ne.symm hi)]
  rw [e1] at hP1 hD1
  exact kk K r hr H1 locs1 ls ⟨hpb, hd, hP1, hD1, q_sb_keep hsb (fun a ha => if_neg (fun e => by rw [e, hk] at ha; simp at ha))⟩ hS1 hl

end QR
