/-! the law's cases: a first one, by hand -/
section LK
variable {D D2 : va_G} {tc tc2 : Nat → ClassId} {ad : Nat → Nat} {p : Program} {l : Launch} {e : Env} {s : State} {m : MethodId} {below : List Frame} {meth : Method} {c : Code} {b Lx : Nat} {xs : Nat → Int32} {Q : State → Prop} {k n : Nat}
theorem L_c23 (K : L_C D D2 tc tc2 ad p s m meth c b) (hts : ∀ w ∈ lw_tbl, w.before #[Value.ref b] s = true) {i t : Nat} {I : q_I} {J : q_J} {P : q_P} {M : q_I} {J2 : q_J} {P2 : q_P} (hz : d_Z t I P M) (hk : k + 20 ≤ 600000) (hn : n + 4000 ≤ 7302250)
    (kk : ∀ I' J' P' M' J2' P2' k' n', d_Z (t + 1) I' P' M' → k' ≤ k + 20 → n' ≤ n + 4000 → L_V D D2 tc tc2 ad p l e s m below meth c b Lx xs Q k' n' 1807 (L_l s b i) [] (I', J', P') (M', J2', P2')) : L_V D D2 tc tc2 ad p l e s m below meth c b Lx xs Q k n 1131 (L_l s b i) [] (I, J, P) (M, J2, P2) := by
  obtain ⟨v, eC, eM, hz'⟩ := y2_edits hz
  refine L_aload_n K 2 1 1132 rfl (by decide +kernel) rfl ?_
  refine L_callC (idx := 111) (st := []) (av := []) K (c_CR_edits l D tc s.heap.size (s.heap.size + 230) ad I J P) eC yv_CR_edits (hts _ (by decide +kernel)) (hts _ (by decide +kernel)) (hts _ (by decide +kernel)) rfl (by decide) (by decide +kernel) ⟨Nat.le_of_ble_eq_true rfl, Nat.le_of_ble_eq_true rfl⟩ ⟨?_, ?_⟩ ?_
  · exact Nat.le_trans (Nat.add_le_add_left (show m_CR_edits.2.2.2.1.cells ≤ 20 from Nat.le_of_ble_eq_true rfl) k) hk
  · exact Nat.le_trans (Nat.add_le_add_left (show m_CR_edits.2.2.2.1.slots ≤ 4000 from Nat.le_of_ble_eq_true rfl) n) hn
  refine L_aload_n K 1 2 1136 rfl (by decide +kernel) rfl ?_
  refine L_callR (idx := 114) (st := [.int v]) (av := []) K (c_Mo_edits l D2 tc2 (s.heap.size + 219) (s.heap.size + 230) M J2 P2) eM yv_Mo_edits (hts _ (by decide +kernel)) (hts _ (by decide +kernel)) (hts _ (by decide +kernel)) rfl (show 1 ≤ 8 by decide) (by decide +kernel) ⟨Nat.le_of_ble_eq_true rfl, Nat.le_of_ble_eq_true rfl⟩ ⟨?_, ?_⟩ ?_
  · show k + 0 + 0 ≤ 600000
    omega
  · show n + 0 + 0 ≤ 7302250
    omega
  refine L_icmp_eq (off := 668) K 1142 rfl 1807 (by decide +kernel) rfl (fun _ => ?_) (fun h => absurd rfl h)
  exact kk _ _ _ _ _ _ _ _ hz' (by show k + 0 + 0 ≤ k + 20; omega) (by show n + 0 + 0 ≤ n + 4000; omega)
end LK
