/-! the law's plain steps -/
section LS
variable {D D2 : va_G} {tc tc2 : Nat → ClassId} {ad : Nat → Nat} {p : Program} {l : Launch} {e : Env} {s : State} {m : MethodId} {below : List Frame} {meth : Method} {c : Code} {b Lx : Nat} {xs : Nat → Int32} {Q : State → Prop} {k n pc : Nat} {L : List (Nat × Value)} {st : List Value} {S S2 : q_S}
theorem L_iadd (K : L_C D D2 tc tc2 ad p s m meth c b) {x y : Int32} (q : Nat) (e1 : pc + 1 = q) (d : decode code pc = .ok (.iadd, 1)) (kk : L_V D D2 tc tc2 ad p l e s m below meth c b Lx xs Q k n q L (.int (x + y) :: st) S S2) : L_V D D2 tc tc2 ad p l e s m below meth c b Lx xs Q k n pc L (.int y :: .int x :: st) S S2 := by
  subst e1
  intro H locs ls hW hX hS hl
  exact lv_iadd K.1 K.2.1 d (kk H locs ls hW hX hS hl)
theorem L_isub (K : L_C D D2 tc tc2 ad p s m meth c b) {x y : Int32} (q : Nat) (e1 : pc + 1 = q) (d : decode code pc = .ok (.isub, 1)) (kk : L_V D D2 tc tc2 ad p l e s m below meth c b Lx xs Q k n q L (.int (x - y) :: st) S S2) : L_V D D2 tc tc2 ad p l e s m below meth c b Lx xs Q k n pc L (.int y :: .int x :: st) S S2 := by
  subst e1
  intro H locs ls hW hX hS hl
  exact lv_isub K.1 K.2.1 d (kk H locs ls hW hX hS hl)
theorem L_iand (K : L_C D D2 tc tc2 ad p s m meth c b) {x y : Int32} (q : Nat) (e1 : pc + 1 = q) (d : decode code pc = .ok (.iand, 1)) (kk : L_V D D2 tc tc2 ad p l e s m below meth c b Lx xs Q k n q L (.int (x &&& y) :: st) S S2) : L_V D D2 tc tc2 ad p l e s m below meth c b Lx xs Q k n pc L (.int y :: .int x :: st) S S2 := by
  subst e1
  intro H locs ls hW hX hS hl
  exact lv_iand K.1 K.2.1 d (kk H locs ls hW hX hS hl)
theorem L_lcmp (K : L_C D D2 tc tc2 ad p s m meth c b) {x y : Int64} (q : Nat) (e1 : pc + 1 = q) (d : decode code pc = .ok (.lcmp, 1)) (kk : L_V D D2 tc tc2 ad p l e s m below meth c b Lx xs Q k n q L (.int (lg_cmp x y) :: st) S S2) : L_V D D2 tc tc2 ad p l e s m below meth c b Lx xs Q k n pc L (.long y :: .long x :: st) S S2 := by
  subst e1
  intro H locs ls hW hX hS hl
  exact W.lcmp K.1 K.2.1 d (kk H locs ls hW hX hS hl)
theorem L_iconst (K : L_C D D2 tc tc2 ad p s m meth c b) (v : Int32) {i : Int} (q : Nat) (e1 : pc + 1 = q) (d : decode code pc = .ok (.iconst i, 1)) (h : Int32.ofInt i = v) (kk : L_V D D2 tc tc2 ad p l e s m below meth c b Lx xs Q k n q L (.int v :: st) S S2) : L_V D D2 tc tc2 ad p l e s m below meth c b Lx xs Q k n pc L st S S2 := by
  subst e1
  intro H locs ls hW hX hS hl
  exact lv_iconst K.1 K.2.1 d h (kk H locs ls hW hX hS hl)
theorem L_bipush (K : L_C D D2 tc tc2 ad p s m meth c b) (v : Int32) {i : Int} (q : Nat) (e1 : pc + 2 = q) (d : decode code pc = .ok (.bipush i, 2)) (h : (Int8.ofInt i).toInt32 = v) (kk : L_V D D2 tc tc2 ad p l e s m below meth c b Lx xs Q k n q L (.int v :: st) S S2) : L_V D D2 tc tc2 ad p l e s m below meth c b Lx xs Q k n pc L st S S2 := by
  subst e1
  intro H locs ls hW hX hS hl
  exact lv_bipush K.1 K.2.1 d h (kk H locs ls hW hX hS hl)
theorem L_iload_n (K : L_C D D2 tc tc2 ad p s m meth c b) {x : Int32} (t : Nat) (j : Fin 4) (q : Nat) (e1 : pc + 1 = q) (d : decode code pc = .ok (.iload_n j, 1)) (hl0 : L[t]? = some ((j : Nat), .int x)) (kk : L_V D D2 tc tc2 ad p l e s m below meth c b Lx xs Q k n q L (.int x :: st) S S2) : L_V D D2 tc tc2 ad p l e s m below meth c b Lx xs Q k n pc L st S S2 := by
  subst e1
  intro H locs ls hW hX hS hl
  exact lv_iload_n K.1 K.2.1 d rfl (lv_at hl t hl0) (kk H locs ls hW hX hS hl)
theorem L_aload_n (K : L_C D D2 tc tc2 ad p s m meth c b) {x : Nat} (t : Nat) (j : Fin 4) (q : Nat) (e1 : pc + 1 = q) (d : decode code pc = .ok (.aload_n j, 1)) (hl0 : L[t]? = some ((j : Nat), .ref x)) (kk : L_V D D2 tc tc2 ad p l e s m below meth c b Lx xs Q k n q L (.ref x :: st) S S2) : L_V D D2 tc tc2 ad p l e s m below meth c b Lx xs Q k n pc L st S S2 := by
  subst e1
  intro H locs ls hW hX hS hl
  exact lv_aload_n K.1 K.2.1 d rfl (lv_at hl t hl0) (kk H locs ls hW hX hS hl)
theorem L_istore_n (K : L_C D D2 tc tc2 ad p s m meth c b) {x : Int32} (i : Nat) (j : Fin 4) (q : Nat) (e1 : pc + 1 = q) (L' : List (Nat × Value)) (d : decode code pc = .ok (.istore_n j, 1)) (hj : (j : Nat) = i) (hn : i < 4) (hl0 : (i, Value.int x) :: L.filter (fun q => !(q.1 == i) && !(q.1 + 1 == i && q.2.category == 2)) = L') (kk : L_V D D2 tc tc2 ad p l e s m below meth c b Lx xs Q k n q L' st S S2) : L_V D D2 tc tc2 ad p l e s m below meth c b Lx xs Q k n pc L (.int x :: st) S S2 := by
  subst e1
  intro H locs ls hW hX hS hl
  exact lv_istore_n K.1 K.2.1 d hj hl hn hl0 (fun ls' hl' => kk H locs ls' hW hX hS hl')
theorem L_iinc (K : L_C D D2 tc tc2 ad p s m meth c b) {x : Int32} (v : Int32) {i0 : Int} (i t : Nat) (q : Nat) (e1 : pc + 3 = q) (L' : List (Nat × Value)) (d : decode code pc = .ok (.iinc i i0, 3)) (ht : L[t]? = some (i, .int x)) (hv : x + Int32.ofInt i0 = v) (hn : i < 4) (hl0 : (i, Value.int v) :: L.filter (fun q => !(q.1 == i) && !(q.1 + 1 == i && q.2.category == 2)) = L') (kk : L_V D D2 tc tc2 ad p l e s m below meth c b Lx xs Q k n q L' st S S2) : L_V D D2 tc tc2 ad p l e s m below meth c b Lx xs Q k n pc L st S S2 := by
  subst e1
  intro H locs ls hW hX hS hl
  exact lv_iinc K.1 K.2.1 d hl ht hv hn hl0 (fun ls' hl' => kk H locs ls' hW hX hS hl')
theorem L_goto (K : L_C D D2 tc tc2 ad p s m meth c b) {off : Int} (tgt : Nat) (d : decode code pc = .ok (.goto off, 3)) (ht : (pc : Int) + off = (tgt : Int)) (kk : L_V D D2 tc tc2 ad p l e s m below meth c b Lx xs Q k n tgt L st S S2) : L_V D D2 tc tc2 ad p l e s m below meth c b Lx xs Q k n pc L st S S2 := by
  intro H locs ls hW hX hS hl
  exact lv_goto K.1 K.2.1 d ht (kk H locs ls hW hX hS hl)
theorem L_tableIn (K : L_C D D2 tc tc2 ad p s m meth c b) {dflt lo hi : Int} {offs : Array Int} {len : Nat} {x : Int32} {off : Int} (tgt : Nat) (d : decode code pc = .ok (.tableswitch dflt lo hi offs, len)) (h1 : ¬ x.toInt < lo) (h2 : ¬ hi < x.toInt) (ho : offs[(x.toInt - lo).toNat]? = some off) (ht : (pc : Int) + off = (tgt : Int)) (kk : L_V D D2 tc tc2 ad p l e s m below meth c b Lx xs Q k n tgt L st S S2) : L_V D D2 tc tc2 ad p l e s m below meth c b Lx xs Q k n pc L (.int x :: st) S S2 := by
  intro H locs ls hW hX hS hl
  exact lv_tableIn K.1 K.2.1 d h1 h2 ho ht (kk H locs ls hW hX hS hl)
theorem L_tableOut (K : L_C D D2 tc tc2 ad p s m meth c b) {dflt lo hi : Int} {offs : Array Int} {len : Nat} {x : Int32} (tgt : Nat) (d : decode code pc = .ok (.tableswitch dflt lo hi offs, len)) (h : x.toInt < lo ∨ hi < x.toInt) (ht : (pc : Int) + dflt = (tgt : Int)) (kk : L_V D D2 tc tc2 ad p l e s m below meth c b Lx xs Q k n tgt L st S S2) : L_V D D2 tc tc2 ad p l e s m below meth c b Lx xs Q k n pc L (.int x :: st) S S2 := by
  intro H locs ls hW hX hS hl
  exact lv_tableOut K.1 K.2.1 d h ht (kk H locs ls hW hX hS hl)
theorem L_icmp_eq (K : L_C D D2 tc tc2 ad p s m meth c b) {x y : Int32} {off : Int} (q : Nat) (e1 : pc + 3 = q) (tgt : Nat) (d : decode code pc = .ok (.if_icmp .eq off, 3)) (ht : (pc : Int) + off = (tgt : Int)) (kt : x = y → L_V D D2 tc tc2 ad p l e s m below meth c b Lx xs Q k n tgt L st S S2) (kf : ¬ x = y → L_V D D2 tc tc2 ad p l e s m below meth c b Lx xs Q k n q L st S S2) : L_V D D2 tc tc2 ad p l e s m below meth c b Lx xs Q k n pc L (.int y :: .int x :: st) S S2 := by
  subst e1
  intro H locs ls hW hX hS hl
  exact lv_icmp_eq K.1 K.2.1 d ht (fun h => kt h H locs ls hW hX hS hl) (fun h => kf h H locs ls hW hX hS hl)
theorem L_icmp_gt (K : L_C D D2 tc tc2 ad p s m meth c b) {x y : Int32} {off : Int} (q : Nat) (e1 : pc + 3 = q) (tgt : Nat) (d : decode code pc = .ok (.if_icmp .gt off, 3)) (ht : (pc : Int) + off = (tgt : Int)) (kt : y < x → L_V D D2 tc tc2 ad p l e s m below meth c b Lx xs Q k n tgt L st S S2) (kf : ¬ y < x → L_V D D2 tc tc2 ad p l e s m below meth c b Lx xs Q k n q L st S S2) : L_V D D2 tc tc2 ad p l e s m below meth c b Lx xs Q k n pc L (.int y :: .int x :: st) S S2 := by
  subst e1
  intro H locs ls hW hX hS hl
  exact lv_icmp_gt K.1 K.2.1 d ht (fun h => kt h H locs ls hW hX hS hl) (fun h => kf h H locs ls hW hX hS hl)
theorem L_sld (K : L_C D D2 tc tc2 ad p s m meth c b) {i : Int32} (q : Nat) (e1 : pc + 1 = q) (hin : vp_in i Lx) (d : decode code pc = .ok (.iaload, 1)) (kk : L_V D D2 tc tc2 ad p l e s m below meth c b Lx xs Q k n q L (.int (xs i.toNatClampNeg) :: st) S S2) : L_V D D2 tc tc2 ad p l e s m below meth c b Lx xs Q k n pc L (.int i :: .ref b :: st) S S2 := by
  subst e1
  intro H locs ls hW hX hS hl
  have hb := K.2.2.2.2.2.2.2.2
  exact va_sld (A := fun q => s.heap.size ≤ q) K.1 K.2.1 hX (Nat.lt_of_lt_of_le hb hS.1) (fun h => Nat.not_le.mpr hb h) ⟨Nat.le_refl _, fun _ _ _ => rfl, hS.2.2⟩ hin d (kk H locs ls hW hX hS hl)
theorem L_slen (K : L_C D D2 tc tc2 ad p s m meth c b) (q : Nat) (e1 : pc + 1 = q) (d : decode code pc = .ok (.arraylength, 1)) (kk : L_V D D2 tc tc2 ad p l e s m below meth c b Lx xs Q k n q L (.int (Int32.ofNat Lx) :: st) S S2) : L_V D D2 tc tc2 ad p l e s m below meth c b Lx xs Q k n pc L (.ref b :: st) S S2 := by
  subst e1
  intro H locs ls hW hX hS hl
  have hb := K.2.2.2.2.2.2.2.2
  exact va_slen (A := fun q => s.heap.size ≤ q) K.1 K.2.1 hX (Nat.lt_of_lt_of_le hb hS.1) (fun h => Nat.not_le.mpr hb h) ⟨Nat.le_refl _, fun _ _ _ => rfl, hS.2.2⟩ d (kk H locs ls hW hX hS hl)
theorem L_if_eq (K : L_C D D2 tc tc2 ad p s m meth c b) {x : Int32} {off : Int} (q : Nat) (e1 : pc + 3 = q) (tgt : Nat) (d : decode code pc = .ok (.ifCond .eq off, 3)) (ht : (pc : Int) + off = (tgt : Int)) (kt : x = 0 → L_V D D2 tc tc2 ad p l e s m below meth c b Lx xs Q k n tgt L st S S2) (kf : ¬ x = 0 → L_V D D2 tc tc2 ad p l e s m below meth c b Lx xs Q k n q L st S S2) : L_V D D2 tc tc2 ad p l e s m below meth c b Lx xs Q k n pc L (.int x :: st) S S2 := by
  subst e1
  intro H locs ls hW hX hS hl
  exact lv_if_eq K.1 K.2.1 d ht (fun h => kt h H locs ls hW hX hS hl) (fun h => kf h H locs ls hW hX hS hl)
end LS
