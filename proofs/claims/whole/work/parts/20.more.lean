section QM0
variable {ρ : Type}
theorem q_b1_b4 {α β γ δ ε : Type} {o : Option (β × γ × δ × ε)} {F : β → γ → δ → ε → Option α} {K : α → Option ρ} : q_b1 (q_b4 o F) K = q_b4 o (fun x y z w => q_b1 (F x y z w) K) := by cases o <;> rfl
end QM0
section QM
variable {ρ : Type} {G : q_G} {M : q_M} {X : q_X} {em : ρ → Option Value × q_S} {k n pc : Nat} {L : List (Nat × Value)} {st : List Value} {I : q_I} {J : q_J} {P : q_P}
theorem q_ldcw {O : Option ρ} {v : Int32} {i : Nat} (q : Nat) (e : pc + 3 = q) (d : decode M.1 pc = .ok (.ldc_w i, 3)) (h : Cond.constant M.2.2.1 i v ∈ q_gw) (kk : q_V G M X em k n q L (.int v :: st) I J P O) : q_V G M X em k n pc L (st) I J P O := by
  subst e
  intro K r hr H locs ls hW hS hl
  exact lv_ldcw K.1 K.2.1 K.2.2.2.1 (K.2.2.2.2.1 _ h) d (kk K r hr H locs ls hW hS hl)
theorem q_mmax {O : Option ρ} {x y : Int32} {idx : Nat} (q : Nat) (e : pc + 3 = q) (d : decode M.1 pc = .ok (.invokestatic idx, 3)) (h1 : Cond.methodLink M.2.2.1 idx Lib.Math.max.name ∈ q_gw) (h2 : Cond.static Lib.Math.max.name ∈ q_gw) (h3 : Cond.initialized "java/lang/Math" ∈ q_gw) (h4 : Cond.code Lib.Math.max.name Lib.Math.max.code 2 (some .int) ∈ q_gw) (hf : 1 ≤ M.2.2.2.1.frames) (hlo : (st.map fun v => v.category).sum + 13 ≤ M.2.2.2.1.locals) (hc : k ≤ M.2.2.2.1.cells) (hs : n ≤ M.2.2.2.1.slots) (kk : q_V G M X em k n q L (.int (if x < y then y else x) :: st) I J P O) : q_V G M X em k n pc L (.int y :: .int x :: st) I J P O := by
  subst e
  intro K r hr H locs ls hW hS hl
  exact va_mmax K.1 K.2.1 (by rw [K.2.2.1]; exact hl.1.symm) K.2.2.2.1 (K.2.2.2.2.1 _ h1) (K.2.2.2.2.1 _ h2) (K.2.2.2.2.1 _ h3) (K.2.2.2.2.1 _ h4) hf hlo hc hs d (kk K r hr H locs ls hW hS hl)
theorem q_mmin {O : Option ρ} {x y : Int32} {idx : Nat} (q : Nat) (e : pc + 3 = q) (d : decode M.1 pc = .ok (.invokestatic idx, 3)) (h1 : Cond.methodLink M.2.2.1 idx Lib.Math.min.name ∈ q_gw) (h2 : Cond.static Lib.Math.min.name ∈ q_gw) (h3 : Cond.initialized "java/lang/Math" ∈ q_gw) (h4 : Cond.code Lib.Math.min.name Lib.Math.min.code 2 (some .int) ∈ q_gw) (hf : 1 ≤ M.2.2.2.1.frames) (hlo : (st.map fun v => v.category).sum + 13 ≤ M.2.2.2.1.locals) (hc : k ≤ M.2.2.2.1.cells) (hs : n ≤ M.2.2.2.1.slots) (kk : q_V G M X em k n q L (.int (if y < x then y else x) :: st) I J P O) : q_V G M X em k n pc L (.int y :: .int x :: st) I J P O := by
  subst e
  intro K r hr H locs ls hW hS hl
  exact va_mmin K.1 K.2.1 (by rw [K.2.2.1]; exact hl.1.symm) K.2.2.2.1 (K.2.2.2.2.1 _ h1) (K.2.2.2.2.1 _ h2) (K.2.2.2.2.1 _ h3) (K.2.2.2.2.1 _ h4) hf hlo hc hs d (kk K r hr H locs ls hW hS hl)
end QM
