/-! the law's arguments -/
/-- the law's locals inside the loop -/
abbrev L_l (s : State) (b i : Nat) : List (Nat × Value) := [(3, .int (nI i)), (2, .ref (s.heap.size + 219)), (1, .ref s.heap.size), (0, .ref b)]
section LA
variable {D D2 : va_G} {tc tc2 : Nat → ClassId} {ad : Nat → Nat} {p : Program} {l : Launch} {e : Env} {s : State} {m : MethodId} {below : List Frame} {meth : Method} {c : Code} {b Lx : Nat} {xs : Nat → Int32} {Q : State → Prop} {k n pc : Nat} {st : List Value} {S S2 : q_S}
/-- an int of the script, k0 behind the place, k0 below 6 -/
theorem L_arg (K : L_C D D2 tc tc2 ad p s m meth c b) {i : Nat} (k0 : Nat) (q : Nat) (e1 : pc + 5 = q) (hi : i + k0 < Lx) (hLx : Lx ≤ 3584) (d0 : decode code pc = .ok (.aload_n 0, 1)) (d1 : decode code (pc + 1) = .ok (.iload_n 3, 1)) (d2 : decode code (pc + 2) = .ok (.iconst (k0 : Int), 1)) (d3 : decode code (pc + 3) = .ok (.iadd, 1)) (d4 : decode code (pc + 4) = .ok (.iaload, 1)) (hk : Int32.ofInt (k0 : Int) = nI k0)
    (kk : L_V D D2 tc tc2 ad p l e s m below meth c b Lx xs Q k n q (L_l s b i) (.int (xs (i + k0)) :: st) S S2) : L_V D D2 tc tc2 ad p l e s m below meth c b Lx xs Q k n pc (L_l s b i) st S S2 := by
  refine L_aload_n K 3 0 (pc + 1) rfl d0 rfl ?_
  refine L_iload_n K 0 3 (pc + 2) rfl d1 rfl ?_
  refine L_iconst K (nI k0) (pc + 3) rfl d2 hk ?_
  refine L_iadd K (pc + 4) rfl d3 ?_
  rw [nI_add]
  refine L_sld K q e1 (nI_in hi (by omega)) d4 ?_
  rw [nI_clamp (by omega)]
  exact kk
/-- the 6th -/
theorem L_arg6 (K : L_C D D2 tc tc2 ad p s m meth c b) {i : Nat} (q : Nat) (e1 : pc + 6 = q) (hi : i + 6 < Lx) (hLx : Lx ≤ 3584) (d0 : decode code pc = .ok (.aload_n 0, 1)) (d1 : decode code (pc + 1) = .ok (.iload_n 3, 1)) (d2 : decode code (pc + 2) = .ok (.bipush 6, 2)) (d3 : decode code (pc + 4) = .ok (.iadd, 1)) (d4 : decode code (pc + 5) = .ok (.iaload, 1))
    (kk : L_V D D2 tc tc2 ad p l e s m below meth c b Lx xs Q k n q (L_l s b i) (.int (xs (i + 6)) :: st) S S2) : L_V D D2 tc tc2 ad p l e s m below meth c b Lx xs Q k n pc (L_l s b i) st S S2 := by
  refine L_aload_n K 3 0 (pc + 1) rfl d0 rfl ?_
  refine L_iload_n K 0 3 (pc + 2) rfl d1 rfl ?_
  refine L_bipush K (nI 6) (pc + 4) rfl d2 (by decide) ?_
  refine L_iadd K (pc + 5) rfl d3 ?_
  rw [nI_add]
  refine L_sld K q e1 (nI_in hi (by omega)) d4 ?_
  rw [nI_clamp (by omega)]
  exact kk
/-- behind the comparison: the next seven -/
theorem L_next (K : L_C D D2 tc tc2 ad p s m meth c b) {i : Nat} (d0 : decode code 1807 = .ok (.iinc 3 7, 3)) (d1 : decode code 1810 = .ok (.goto (-1792), 3)) (kk : L_V D D2 tc tc2 ad p l e s m below meth c b Lx xs Q k n 18 (L_l s b (i + 7)) st S S2) : L_V D D2 tc tc2 ad p l e s m below meth c b Lx xs Q k n 1807 (L_l s b i) st S S2 := by
  refine L_iinc K (nI (i + 7)) 3 0 1810 rfl (L_l s b (i + 7)) d0 rfl (nI_add i 7) (by decide) rfl ?_
  exact L_goto K 18 d1 rfl kk
end LA
