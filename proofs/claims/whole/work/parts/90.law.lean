/-! calls out of the law: two worlds in one heap -/
section LQ
variable {p : Program} {l : Launch} {e : Env} {R : Room} {s : State} {m : MethodId} {args : Array Value} {below : List Frame} {meth : Method} {c : Code} {H : Heap} {locs : List Loc} {cells slots : Nat} {Q : State → Prop}
/-- behind a call: the callee's world in its new state, all cells that are not the callee's as they were -/
theorem L_run {G : q_G} {z : Option Value × q_S} {a : Array Value} {pc : Nat} {ls : Array Slot} {st0 rest : List Value} {mc ms : Nat} (hr : va_Run p l e R s m args below meth c H locs cells slots mc ms (F0 m pc ls st0) rest (q_Q G z a) (q_A G))
    (kk : ∀ (H1 : Heap) (locs1 : List Loc), q_W G z.2 H1 → H.size ≤ H1.size → (∀ q, q < H.size → ¬ q_A G q → H1[q]? = H[q]?) → (∀ t ∈ locs1, t ∈ locs ∨ q_A G t.base) → W p l e R s m args below meth c H1 locs1 (cells + mc) (slots + ms) Q (F0 m (pc + 3) ls (z.1.toList ++ rest))) : W p l e R s m args below meth c H locs cells slots Q (F0 m pc ls st0) := by
  intro T hT X
  obtain ⟨v, st₀, t, T', Lc, h0, X', hL, e1, e2, ⟨hv, hw, hz, hk⟩, st⟩ := hr T hT X
  cases hv
  rw [h0] at hz hk
  obtain ⟨t2, a1, b1⟩ := kk T'.heap (locs ++ Lc) (by rw [e1]; exact hw) (by rw [e1]; exact hz) (fun q h1 h2 => by rw [e1]; exact hk q h1 h2) (fun q hq => by
      rcases List.mem_append.mp hq with h | h
      · exact Or.inl h
      · exact Or.inr (hL q h)) T' rfl X'
  exact ⟨t2, st t2 a1, b1⟩
/-- the callee's world stands, whatever the start's heap was smaller -/
theorem L_pre {G : q_G} {av : List Value} {S : q_S} (hi : q_in G) (hK : q_KK G s) (hy : q_y G ≤ H.size) (hsp : q_sp G s) (hH : ∀ q, q < s.heap.size → ¬ q_A G q → H[q]? = s.heap[q]?) (hW : q_W G S H) : PreS s H (va_Pc av (fun U => q_W G S U.heap ∧ q_KK G U ∧ q_y G ≤ U.heap.size ∧ q_sp G U)) av :=
  ⟨fun a U g mk q => ⟨q.1, q.2.1, ⟨va_K.moved (u := U) (U := U.calling g mk a) (Vm.Alike.refl U.vm) q.2.2.1.1, fun a i y h hm => va_Nw.same (u := U) rfl rfl (q.2.2.1.2 a i y h hm)⟩, q.2.2.2.1, hi.2.2 U _ rfl rfl q.2.2.2.2⟩, fun U hU hw => ⟨rfl, by rw [hU]; exact hW, hK.moved hw, by rw [hU]; exact hy, hi.2.1 s U hw (fun q h1 h2 => by rw [hU]; exact hH q h1 h2) hsp⟩⟩
end LQ
