section QA
variable {ρ : Type} {G : q_G} {M : q_M} {X : q_X} {em : ρ → Option Value × q_S} {k n pc : Nat} {L : List (Nat × Value)} {st : List Value} {I : q_I} {J : q_J} {P : q_P}
theorem q_ix_some {i : Int32} {N : Nat} {K : Nat → Option ρ} {r : ρ} (h : q_ix i N K = some r) : vp_in i N ∧ i.toNatClampNeg < N ∧ K i.toNatClampNeg = some r := by
  unfold q_ix at h
  split at h
  · cases h
  · next hn => exact ⟨hn, Nat.not_le.mp (fun q => hn (Or.inr q)), h⟩

theorem q_iald {B : Nat → Option ρ} {o N t : Nat} {i : Int32} (q : Nat) (e : pc + 1 = q) (d : decode M.1 pc = .ok (.iaload, 1)) (hk : q_kd G o = (2, N, t, 0, 0)) (ht : (q_tl G)[t]? = some .int) (kk : ∀ j, j < N → q_V G M X em k n q L (.int (I o j) :: st) I J P (B j)) : q_V G M X em k n pc L (.int i :: q_r G o :: st) I J P (q_ix i N B) := by
  subst e
  intro K r hr H locs ls hW hS hl
  obtain ⟨hin, hlt, hr⟩ := q_ix_some hr
  have hW0 := hW
  obtain ⟨-, hd, hP, -, -⟩ := hW0
  have hat : (q_wl G hd (I, J, P))[o]? = some (q_x G + o, .inl (q_tc G t, N, .inl (I o))) := q_at K.2.2.2.2.2.2.2.2.1 hk (by simp) (by simp) (by simp only [q_cell, hk])
  exact va_iald K.1 K.2.1 K.2.2.2.2.2.1.1 hP o t hat (q_tys_at ht) hin d (kk _ hlt K r hr H locs ls hW hS hl)
theorem q_zald {B : Nat → Option ρ} {o N t : Nat} {i : Int32} (q : Nat) (e : pc + 1 = q) (d : decode M.1 pc = .ok (.baload, 1)) (hk : q_kd G o = (2, N, t, 0, 0)) (ht : (q_tl G)[t]? = some .boolean) (kk : ∀ j, j < N → q_V G M X em k n q L (.int (I o j) :: st) I J P (B j)) : q_V G M X em k n pc L (.int i :: q_r G o :: st) I J P (q_ix i N B) := by
  subst e
  intro K r hr H locs ls hW hS hl
  obtain ⟨hin, hlt, hr⟩ := q_ix_some hr
  have hW0 := hW
  obtain ⟨-, hd, hP, -, -⟩ := hW0
  have hat : (q_wl G hd (I, J, P))[o]? = some (q_x G + o, .inl (q_tc G t, N, .inl (I o))) := q_at K.2.2.2.2.2.2.2.2.1 hk (by simp) (by simp) (by simp only [q_cell, hk])
  exact va_zald K.1 K.2.1 K.2.2.2.2.2.1.1 hP o t hat (q_tys_at ht) hin d (kk _ hlt K r hr H locs ls hW hS hl)
theorem q_lald {B : Nat → Option ρ} {o N t : Nat} {i : Int32} (q : Nat) (e : pc + 1 = q) (d : decode M.1 pc = .ok (.laload, 1)) (hk : q_kd G o = (3, N, t, 0, 0)) (ht : (q_tl G)[t]? = some .long) (kk : ∀ j, j < N → q_V G M X em k n q L (.long (J o j) :: st) I J P (B j)) : q_V G M X em k n pc L (.int i :: q_r G o :: st) I J P (q_ix i N B) := by
  subst e
  intro K r hr H locs ls hW hS hl
  obtain ⟨hin, hlt, hr⟩ := q_ix_some hr
  have hW0 := hW
  obtain ⟨-, hd, hP, -, -⟩ := hW0
  have hat : (q_wl G hd (I, J, P))[o]? = some (q_x G + o, .inl (q_tc G t, N, .inr (.inl (J o)))) := q_at K.2.2.2.2.2.2.2.2.1 hk (by simp) (by simp) (by simp only [q_cell, hk])
  exact va_lald K.1 K.2.1 K.2.2.2.2.2.1.1 hP o t hat (q_tys_at ht) hin d (kk _ hlt K r hr H locs ls hW hS hl)
theorem q_iast {B : Nat → Option ρ} {o N t : Nat} {i : Int32} {x : Int32} (q : Nat) (e : pc + 1 = q) (d : decode M.1 pc = .ok (.iastore, 1)) (hk : q_kd G o = (2, N, t, 0, 0)) (ht : (q_tl G)[t]? = some .int) (kk : ∀ j, j < N → q_V G M X em k n q L st (q_ui I o j x) J P (B j)) : q_V G M X em k n pc L (.int x :: .int i :: q_r G o :: st) I J P (q_ix i N B) := by
  subst e
  intro K r hr H locs ls hW hS hl
  obtain ⟨hin, hlt, hr⟩ := q_ix_some hr
  obtain ⟨hpb, hd, hP, hD, hsb⟩ := hW
  have hat : (q_wl G hd (I, J, P))[o]? = some (q_x G + o, .inl (q_tc G t, N, .inl (I o))) := q_at K.2.2.2.2.2.2.2.2.1 hk (by simp) (by simp) (by simp only [q_cell, hk])
  refine va_iast K.1 K.2.1 K.2.2.2.2.2.1.1 hP hD hS o t hat (q_tys_at ht) hin d (fun H1 locs1 hP1 hD1 hS1 => ?_)
  have e1 : (q_wl G hd (I, J, P)).set o (q_x G + o, .inl (q_tc G t, N, .inl (upd (I o) i.toNatClampNeg x))) = q_wl G hd (q_ui I o i.toNatClampNeg x, J, P) := by
    rw [← q_ad_x (hd := hd) hk (by simp)]
    refine q_wl_set ?_ (fun a ha => if_neg ha) (fun _ _ => rfl) (fun _ _ => rfl)
    simp only [q_cell, hk, q_ui, if_true]
  rw [e1] at hP1 hD1
  exact kk _ hlt K r hr H1 locs1 ls ⟨hpb, hd, hP1, hD1, q_sb_keep hsb (fun a ha => if_neg (fun e => by rw [e, hk] at ha; simp at ha))⟩ hS1 hl
theorem q_zast {B : Nat → Option ρ} {o N t : Nat} {i : Int32} {x : Int32} (q : Nat) (e : pc + 1 = q) (d : decode M.1 pc = .ok (.bastore, 1)) (hk : q_kd G o = (2, N, t, 0, 0)) (ht : (q_tl G)[t]? = some .boolean) (kk : ∀ j, j < N → q_V G M X em k n q L st (q_ui I o j (vp_nar .boolean x)) J P (B j)) : q_V G M X em k n pc L (.int x :: .int i :: q_r G o :: st) I J P (q_ix i N B) := by
  subst e
  intro K r hr H locs ls hW hS hl
  obtain ⟨hin, hlt, hr⟩ := q_ix_some hr
  obtain ⟨hpb, hd, hP, hD, hsb⟩ := hW
  have hat : (q_wl G hd (I, J, P))[o]? = some (q_x G + o, .inl (q_tc G t, N, .inl (I o))) := q_at K.2.2.2.2.2.2.2.2.1 hk (by simp) (by simp) (by simp only [q_cell, hk])
  refine va_zast K.1 K.2.1 K.2.2.2.2.2.1.1 hP hD hS o t hat (q_tys_at ht) hin d (fun H1 locs1 hP1 hD1 hS1 => ?_)
  have e1 : (q_wl G hd (I, J, P)).set o (q_x G + o, .inl (q_tc G t, N, .inl (upd (I o) i.toNatClampNeg (vp_nar .boolean x)))) = q_wl G hd (q_ui I o i.toNatClampNeg (vp_nar .boolean x), J, P) := by
    rw [← q_ad_x (hd := hd) hk (by simp)]
    refine q_wl_set ?_ (fun a ha => if_neg ha) (fun _ _ => rfl) (fun _ _ => rfl)
    simp only [q_cell, hk, q_ui, if_true]
  rw [e1] at hP1 hD1
  exact kk _ hlt K r hr H1 locs1 ls ⟨hpb, hd, hP1, hD1, q_sb_keep hsb (fun a ha => if_neg (fun e => by rw [e, hk] at ha; simp at ha))⟩ hS1 hl
theorem q_last {B : Nat → Option ρ} {o N t : Nat} {i : Int32} {x : Int64} (q : Nat) (e : pc + 1 = q) (d : decode M.1 pc = .ok (.lastore, 1)) (hk : q_kd G o = (3, N, t, 0, 0)) (ht : (q_tl G)[t]? = some .long) (kk : ∀ j, j < N → q_V G M X em k n q L st I (q_uj J o j x) P (B j)) : q_V G M X em k n pc L (.long x :: .int i :: q_r G o :: st) I J P (q_ix i N B) := by
  subst e
  intro K r hr H locs ls hW hS hl
  obtain ⟨hin, hlt, hr⟩ := q_ix_some hr
  obtain ⟨hpb, hd, hP, hD, hsb⟩ := hW
  have hat : (q_wl G hd (I, J, P))[o]? = some (q_x G + o, .inl (q_tc G t, N, .inr (.inl (J o)))) := q_at K.2.2.2.2.2.2.2.2.1 hk (by simp) (by simp) (by simp only [q_cell, hk])
  refine va_last K.1 K.2.1 K.2.2.2.2.2.1.1 hP hD hS o t hat (q_tys_at ht) hin d (fun H1 locs1 hP1 hD1 hS1 => ?_)
  have e1 : (q_wl G hd (I, J, P)).set o (q_x G + o, .inl (q_tc G t, N, .inr (.inl (vp_updL (J o) i.toNatClampNeg x)))) = q_wl G hd (I, q_uj J o i.toNatClampNeg x, P) := by
    rw [← q_ad_x (hd := hd) hk (by simp)]
    refine q_wl_set ?_ (fun _ _ => rfl) (fun a ha => if_neg ha) (fun _ _ => rfl)
    simp only [q_cell, hk, q_uj, if_true]
  rw [e1] at hP1 hD1
  exact kk _ hlt K r hr H1 locs1 ls ⟨hpb, hd, hP1, hD1, hsb⟩ hS1 hl
theorem q_aldc {B : Nat → Option ρ} {o N t c s : Nat} {i : Int32} {C : String} (q : Nat) (e : pc + 1 = q) (d : decode M.1 pc = .ok (.aaload, 1)) (hk : q_kd G o = (4, N, t, c, s)) (ht : (q_tl G)[t]? = some (.object C)) (kk : ∀ j, j < N → q_V G M X em k n q L (q_r G (c + s * j) :: st) I J P (B j)) : q_V G M X em k n pc L (.int i :: q_r G o :: st) I J P (q_ix i N B) := by
  subst e
  intro K r hr H locs ls hW hS hl
  obtain ⟨hin, hlt, hr⟩ := q_ix_some hr
  have hW0 := hW
  obtain ⟨-, hd, hP, -, -⟩ := hW0
  have hat : (q_wl G hd (I, J, P))[o]? = some (q_x G + o, .inl (q_tc G t, N, .inr (.inr (.inr (.inr (fun i => some (q_x G + (c + s * i)))))))) := q_at K.2.2.2.2.2.2.2.2.1 hk (by simp) (by simp) (by simp only [q_cell, hk])
  exact va_aldq K.1 K.2.1 K.2.2.2.2.2.1.1 hP o t hat (q_tys_at ht) hin d (kk _ hlt K r hr H locs ls hW hS hl)
theorem q_aldp {B : Nat → Option ρ} {o N t c : Nat} {i : Int32} {C : String} (q : Nat) (e : pc + 1 = q) (d : decode M.1 pc = .ok (.aaload, 1)) (hk : q_kd G o = (5, N, t, c, 0)) (ht : (q_tl G)[t]? = some (.object C)) (kk : ∀ j, j < N → P o j < N → q_V G M X em k n q L (q_r G (c + P o j) :: st) I J P (B j)) : q_V G M X em k n pc L (.int i :: q_r G o :: st) I J P (q_ix i N B) := by
  subst e
  intro K r hr H locs ls hW hS hl
  obtain ⟨hin, hlt, hr⟩ := q_ix_some hr
  have hW0 := hW
  obtain ⟨hpb, hd, hP, -, -⟩ := hW0
  have hat : (q_wl G hd (I, J, P))[o]? = some (q_x G + o, .inl (q_tc G t, N, .inr (.inr (.inr (.inr (fun i => some (q_x G + (c + P o i)))))))) := q_at K.2.2.2.2.2.2.2.2.1 hk (by simp) (by simp) (by simp only [q_cell, hk])
  exact va_aldq K.1 K.2.1 K.2.2.2.2.2.1.1 hP o t hat (q_tys_at ht) hin d (kk _ hlt (hpb o N t c 0 hk _ hlt) K r hr H locs ls hW hS hl)
theorem q_astp {B : Nat → Option ρ} {o N t c ci NN v : Nat} {i : Int32} {C : String} {T : u_T} {ty : Nat → FieldType} (q : Nat) (e : pc + 1 = q) (d : decode M.1 pc = .ok (.aastore, 1)) (hk : q_kd G o = (5, N, t, c, 0)) (ht : (q_tl G)[t]? = some (.object C)) (hc : q_C G ci C T NN ty) (hv : v < N) (hkv : q_kd G (c + v) = (1, ci, NN, 0, 0)) (kk : ∀ j, j < N → q_V G M X em k n q L st I J (q_up P o j v) (B j)) : q_V G M X em k n pc L (q_r G (c + v) :: .int i :: q_r G o :: st) I J P (q_ix i N B) := by
  subst e
  intro K r hr H locs ls hW hS hl
  obtain ⟨hin, hlt, hr⟩ := q_ix_some hr
  obtain ⟨hpb, hd, hP, hD, hsb⟩ := hW
  have hat : (q_wl G hd (I, J, P))[o]? = some (q_x G + o, .inl (q_tc G t, N, .inr (.inr (.inr (.inr (fun i => some (q_x G + (c + P o i)))))))) := q_at K.2.2.2.2.2.2.2.2.1 hk (by simp) (by simp) (by simp only [q_cell, hk])
  have hatv : (q_wl G hd (I, J, P))[c + v]? = some (q_x G + (c + v), .inr (ci, (List.range NN).map (q_fv G hd (c + v) ci (I (c + v))))) := q_at K.2.2.2.2.2.2.2.2.1 hkv (by simp) (by simp) (by simp only [q_cell, hkv])
  refine va_astq K.1 K.2.1 K.2.2.2.2.2.1.1 hP hD hS o t (c + v) ci hat (q_tys_at ht) hatv hc.1 hin d (fun H1 locs1 hP1 hD1 hS1 => ?_)
  have e1 : (q_wl G hd (I, J, P)).set o (q_x G + o, .inl (q_tc G t, N, .inr (.inr (.inr (.inr (va_up (fun i => some (q_x G + (c + P o i))) i.toNatClampNeg (some (q_x G + (c + v)))))))) ) = q_wl G hd (I, J, q_up P o i.toNatClampNeg v) := by
    rw [← q_ad_x (hd := hd) hk (by simp)]
    refine q_wl_set ?_ (fun _ _ => rfl) (fun _ _ => rfl) (fun a ha => if_neg ha)
    simp only [q_cell, hk, q_up, if_true]
    congr 7
    funext z
    simp only [va_up]
    split <;> rfl
  rw [e1] at hP1 hD1
  refine kk _ hlt K r hr H1 locs1 ls ⟨?_, hd, hP1, hD1, hsb⟩ hS1 hl
  intro o2 n2 t2 c2 d2 hk2 i2 hi2
  show q_up P o i.toNatClampNeg v o2 i2 < n2
  unfold q_up
  split
  · next he =>
    subst he
    rw [hk] at hk2
    cases hk2
    unfold va_up
    split
    · exact hv
    · exact hpb _ _ _ _ _ hk _ hi2
  · exact hpb _ _ _ _ _ hk2 _ hi2
theorem q_alen {O : Option ρ} {o N t tag c s : Nat} (v : Int32) {ty : FieldType} (q : Nat) (e : pc + 1 = q) (d : decode M.1 pc = .ok (.arraylength, 1)) (hk : q_kd G o = (tag, N, t, c, s)) (htag : tag = 2 ∨ tag = 3 ∨ tag = 4 ∨ tag = 5) (ht : (q_tl G)[t]? = some ty) (hv : Int32.ofNat N = v) (kk : q_V G M X em k n q L (.int v :: st) I J P O) : q_V G M X em k n pc L (q_r G o :: st) I J P O := by
  subst e
  intro K r hr H locs ls hW hS hl
  have hW0 := hW
  obtain ⟨-, hd, hP, -, -⟩ := hW0
  rcases htag with rfl | rfl | rfl | rfl
  · exact va_alen (x := (N, .inl (I o))) K.1 K.2.1 K.2.2.2.2.2.1.1 hP o t (q_at K.2.2.2.2.2.2.2.2.1 hk (by simp) (by simp) (by simp only [q_cell, hk])) (q_tys_at ht) hv d (kk K r hr H locs ls hW hS hl)
  · exact va_alen (x := (N, .inr (.inl (J o)))) K.1 K.2.1 K.2.2.2.2.2.1.1 hP o t (q_at K.2.2.2.2.2.2.2.2.1 hk (by simp) (by simp) (by simp only [q_cell, hk])) (q_tys_at ht) hv d (kk K r hr H locs ls hW hS hl)
  · exact va_alen (x := (N, .inr (.inr (.inr (.inr (fun i => some (q_x G + (c + s * i)))))))) K.1 K.2.1 K.2.2.2.2.2.1.1 hP o t (q_at K.2.2.2.2.2.2.2.2.1 hk (by simp) (by simp) (by simp only [q_cell, hk])) (q_tys_at ht) hv d (kk K r hr H locs ls hW hS hl)
  · exact va_alen (x := (N, .inr (.inr (.inr (.inr (fun i => some (q_x G + (c + P o i)))))))) K.1 K.2.1 K.2.2.2.2.2.1.1 hP o t (q_at K.2.2.2.2.2.2.2.2.1 hk (by simp) (by simp) (by simp only [q_cell, hk])) (q_tys_at ht) hv d (kk K r hr H locs ls hW hS hl)
/-- System.arraycopy over ints: whole rows from their first place on -/
theorem q_acopy {O : Option ρ} {idx o a N N2 t : Nat} {w : Int32} {W9 : Nat} (q : Nat) (e : pc + 3 = q) (d : decode M.1 pc = .ok (.invokestatic idx, 3)) (hk : q_kd G o = (2, N, t, 0, 0)) (hk2 : q_kd G a = (2, N2, t, 0, 0)) (ht : (q_tl G)[t]? = some .int) (hml : Cond.methodLink M.2.2.1 idx arraycopyName ∈ q_gw) (hn1 : Cond.native arraycopyName ∈ q_gw) (hn2 : Cond.static arraycopyName ∈ q_gw) (hn3 : Cond.initialized "java/lang/System" ∈ q_gw) (hw0 : ¬ w < 0) (h1 : w.toNatClampNeg ≤ N) (h2 : w.toNatClampNeg ≤ N2) (hf : 1 ≤ M.2.2.2.1.frames) (hst : (st.map fun v => v.category).sum ≤ W9) (hlo : W9 + (nativeFrameWords "java/lang/System" "arraycopy" 5 + 11) ≤ M.2.2.2.1.locals) (kk : q_V G M X em k n q L st (q_uI I a (va_cpy (I o) (I a) 0 0 w.toNatClampNeg)) J P O) : q_V G M X em k n pc L (.int w :: .int 0 :: q_r G a :: .int 0 :: q_r G o :: st) I J P O := by
  subst e
  intro K r hr H locs ls hW hS hl
  obtain ⟨hpb, hd, hP, hD, hsb⟩ := hW
  have hat : (q_wl G hd (I, J, P))[o]? = some (q_x G + o, .inl (q_tc G t, N, .inl (I o))) := q_at K.2.2.2.2.2.2.2.2.1 hk (by simp) (by simp) (by simp only [q_cell, hk])
  have hat2 : (q_wl G hd (I, J, P))[a]? = some (q_x G + a, .inl (q_tc G t, N2, .inl (I a))) := q_at K.2.2.2.2.2.2.2.2.1 hk2 (by simp) (by simp) (by simp only [q_cell, hk2])
  have z : (0 : Int32).toNatClampNeg = 0 := rfl
  refine va_copyi K.1 K.2.1 (by rw [K.2.2.1]; exact hl.1.symm) K.2.2.2.1 (K.2.2.2.2.1 _ hml) (K.2.2.2.2.1 _ hn1) (K.2.2.2.2.1 _ hn2) (K.2.2.2.2.1 _ hn3) K.2.2.2.2.2.1.1 hP hD hS o a t t hat hat2 (q_tys_at ht) (q_tys_at ht) rfl (by decide) (by decide) hw0 (by rw [z]; omega) (by rw [z]; omega) (fun _ _ => rfl) hf (Nat.le_trans (Nat.add_le_add_right hst _) hlo) d (fun H1 locs1 hP1 hD1 hS1 => ?_)
  rw [z] at hP1 hD1
  have e1 : (q_wl G hd (I, J, P)).set a (q_x G + a, .inl (q_tc G t, N2, .inl (va_cpy (I o) (I a) 0 0 w.toNatClampNeg))) = q_wl G hd (q_uI I a (va_cpy (I o) (I a) 0 0 w.toNatClampNeg), J, P) := by
    rw [← q_ad_x (hd := hd) hk2 (by simp)]
    refine q_wl_set ?_ (fun b hb => if_neg hb) (fun _ _ => rfl) (fun _ _ => rfl)
    simp only [q_cell, hk2, q_uI, if_true]
  rw [e1] at hP1 hD1
  exact kk K r hr H1 locs1 ls ⟨hpb, hd, hP1, hD1, q_sb_keep hsb (fun b hb => if_neg (fun e => by rw [e, hk2] at hb; simp at hb))⟩ hS1 hl
end QA
/-! calls -/
/-- a method that can be called: its code, its class, its parameters -/
def q_Y (y : MethodName) (M : q_M) (np : Nat) : Prop := y.cls = M.2.2.1 ∧ (y.cls ≠ "java/lang/invoke/MethodHandle" ∧ y.cls ≠ "java/lang/invoke/VarHandle") ∧ (parseMethodDescriptor y.desc).map (fun d => d.parameters.length) = some np ∧ Cond.code y M.1 M.2.1 M.2.2.2.2 ∈ q_gw ∧ Cond.initialized y.cls ∈ q_gw
theorem q_goodIn {y : MethodName} {M : q_M} {np : Nat} (h : q_Y y M np) : GoodIn q_gw (q_wsM y M) := by
  intro w hw
  rcases List.mem_cons.mp hw with rfl | hw
  · exact ⟨h.2.2.2.1, q_gw_good _ h.2.2.2.1⟩
  · exact ⟨hw, q_gw_good _ hw⟩
section QC
variable {p : Program} {l : Launch} {e : Env} {R : Room} {s : State} {m : MethodId} {args : Array Value} {below : List Frame} {meth : Method} {c : Code} {H : Heap} {locs : List Loc} {cells slots : Nat} {Q : State → Prop}
theorem q_cb {own : String} {idx np : Nat} {y : MethodName} {M' : q_M} (hY : q_Y y M' np) (hts : ∀ w ∈ q_gw, w.before args s = true) (hl : (Cond.methodLink own idx y) ∈ q_gw) (hR : M'.2.2.2.1.frames + 1 ≤ R.frames ∧ 8 + (M'.2.1 + 11) + M'.2.2.2.1.locals ≤ R.locals) : CallB R s args own idx y M'.1 M'.2.1 M'.2.2.2.2 (q_wsM y M') M'.2.2.2.1 M'.2.2.2.1.cells M'.2.2.2.1.slots np :=
  callB_of np hts (q_goodIn hY) rfl rfl rfl (hts _ hY.2.2.2.2) (hts _ hl) ⟨hY.2.1.1, hY.2.1.2, hY.2.2.1⟩ hR
theorem q_cn {own host : String} {idx np : Nat} {y : MethodName} {M' : q_M} (hY : q_Y y M' np) (hts : ∀ w ∈ q_gw, w.before args s = true) (hl : va_Nw (Cond.methodLinkNest own idx y host) s) (hR : M'.2.2.2.1.frames + 1 ≤ R.frames ∧ 8 + (M'.2.1 + 11) + M'.2.2.2.1.locals ≤ R.locals) : va_CN R s args own idx y host M'.1 M'.2.1 M'.2.2.2.2 (q_wsM y M') M'.2.2.2.1 M'.2.2.2.1.cells M'.2.2.2.1.slots np :=
  va_cnB np hts (q_goodIn hY) rfl rfl rfl hl (hts _ hY.2.2.2.2) ⟨hY.2.1.1, hY.2.1.2, hY.2.2.1⟩ hR
theorem q_run {G : q_G} {z : Option Value × q_S} {a : Array Value} {pc : Nat} {ls : Array Slot} {st0 rest : List Value} {mc ms : Nat} (hr : va_Run p l e R s m args below meth c H locs cells slots mc ms (F0 m pc ls st0) rest (q_Q G z a) (q_A G)) (hS : va_S (q_A G) s.heap H locs)
    (kk : ∀ (H1 : Heap) (locs1 : List Loc), q_W G z.2 H1 → va_S (q_A G) s.heap H1 locs1 → W p l e R s m args below meth c H1 locs1 (cells + mc) (slots + ms) Q (F0 m (pc + 3) ls (z.1.toList ++ rest))) : W p l e R s m args below meth c H locs cells slots Q (F0 m pc ls st0) := by
  intro T hT X
  obtain ⟨v, st₀, t, T', Lc, h0, X', hL, e1, e2, ⟨hv, hw, hz, hk⟩, st⟩ := hr T hT X
  cases hv
  rw [h0] at hz hk
  obtain ⟨t2, a1, b1⟩ := kk T'.heap (locs ++ Lc) (by rw [e1]; exact hw) ⟨Nat.le_trans hS.1 (by rw [e1]; exact hz), fun q h1 h2 => by rw [e1, hk q (Nat.lt_of_lt_of_le h1 hS.1) h2]; exact hS.2.1 q h1 h2, fun q hq => by
      rcases List.mem_append.mp hq with h | h
      · exact hS.2.2 q h
      · exact hL q h⟩ T' rfl X'
  exact ⟨t2, st t2 a1, b1⟩
theorem q_pre {G : q_G} {l : Launch} {av : List Value} {S : q_S} (hi : q_in G) (hK : q_KK G s) (hy : q_y G ≤ s.heap.size ∧ q_sp G s) (hS : va_S (q_A G) s.heap H locs) (hW : q_W G S H) : PreS s H (va_Pc av (fun U => q_W G S U.heap ∧ q_KK G U ∧ q_y G ≤ U.heap.size ∧ q_sp G U)) av :=
  ⟨fun a U g mk q => ⟨q.1, q.2.1, ⟨va_K.moved (u := U) (U := U.calling g mk a) (Vm.Alike.refl U.vm) q.2.2.1.1, fun a i y h hm => va_Nw.same (u := U) rfl rfl (q.2.2.1.2 a i y h hm)⟩, q.2.2.2.1, hi.2.2 U _ rfl rfl q.2.2.2.2⟩, fun U hU hw => ⟨rfl, by rw [hU]; exact hW, hK.moved hw, by rw [hU]; exact Nat.le_trans hy.1 hS.1, hi.2.1 s U hw (fun q h1 h2 => by rw [hU]; exact hS.2.1 q h1 h2) hy.2⟩⟩
end QC
section QD
variable {ρ ρ' : Type} {G : q_G} {M M' : q_M} {X : q_X} {em : ρ → Option Value × q_S} {em' : ρ' → Option Value × q_S} {k n pc : Nat} {L : List (Nat × Value)} {st : List Value} {I : q_I} {J : q_J} {P : q_P} {y : MethodName} {np idx : Nat} {g : Option ρ'} {B : ρ' → Option ρ}
theorem q_b1_some {α : Type} {o : Option α} {K : α → Option ρ} {r : ρ} (h : q_b1 o K = some r) : ∃ a, o = some a ∧ K a = some r := by
  cases o with
  | none => cases h
  | some a => exact ⟨a, rfl, h⟩
/-- a static method of the own class, or one that its link names -/
theorem q_callS {av : List Value} (C : q_Ct X.1 G y M' av (I, J, P) g em') (hY : q_Y y M' np) (hl : Cond.methodLink M.2.2.1 idx y ∈ q_gw) (hs : Cond.static y ∈ q_gw) (hn : av.length = np) (hst : (st.map fun v => v.category).sum ≤ 8) (d : decode M.1 pc = .ok (.invokestatic idx, 3)) (hR : M'.2.2.2.1.frames + 1 ≤ M.2.2.2.1.frames ∧ 8 + (M'.2.1 + 11) + M'.2.2.2.1.locals ≤ M.2.2.2.1.locals) (hf : k + M'.2.2.2.1.cells ≤ M.2.2.2.1.cells ∧ n + M'.2.2.2.1.slots ≤ M.2.2.2.1.slots)
    (kk : ∀ x, q_V G M X em (k + M'.2.2.2.1.cells) (n + M'.2.2.2.1.slots) (pc + 3) L ((em' x).1.toList ++ st) (em' x).2.1 (em' x).2.2.1 (em' x).2.2.2 (B x)) : q_V G M X em k n pc L (av.reverse ++ st) I J P (q_b1 g B) := by
  intro K r hr H locs ls hW hS hl0
  obtain ⟨x, hx, hr⟩ := q_b1_some hr
  exact q_run (va_runS (As := av) (rest := st) ⟨K.1, K.2.1, K.2.2.1, K.2.2.2.1, K.2.2.2.2.1⟩ (C x hx) ⟨q_cb hY K.2.2.2.2.1 hl hR, K.2.2.2.2.1 _ hs⟩ (q_pre (l := X.1) K.2.2.2.2.2.2.2.2.1 K.2.2.2.2.2.1 K.2.2.2.2.2.2.2.2.2 hS hW) rfl hn hl0.1 rfl (lv_room hst) d hf) hS (fun H1 locs1 hw h1 => kk x K r hr H1 locs1 ls hw h1 hl0)
/-- a static method of a nest mate -/
theorem q_callN {av : List Value} {host : String} (C : q_Ct X.1 G y M' av (I, J, P) g em') (hY : q_Y y M' np) (hl : Cond.methodLinkNest M.2.2.1 idx y host ∈ lw_tbl) (hs : Cond.static y ∈ q_gw) (hn : av.length = np) (hst : (st.map fun v => v.category).sum ≤ 8) (d : decode M.1 pc = .ok (.invokestatic idx, 3)) (hR : M'.2.2.2.1.frames + 1 ≤ M.2.2.2.1.frames ∧ 8 + (M'.2.1 + 11) + M'.2.2.2.1.locals ≤ M.2.2.2.1.locals) (hf : k + M'.2.2.2.1.cells ≤ M.2.2.2.1.cells ∧ n + M'.2.2.2.1.slots ≤ M.2.2.2.1.slots)
    (kk : ∀ x, q_V G M X em (k + M'.2.2.2.1.cells) (n + M'.2.2.2.1.slots) (pc + 3) L ((em' x).1.toList ++ st) (em' x).2.1 (em' x).2.2.1 (em' x).2.2.2 (B x)) : q_V G M X em k n pc L (av.reverse ++ st) I J P (q_b1 g B) := by
  intro K r hr H locs ls hW hS hl0
  obtain ⟨x, hx, hr⟩ := q_b1_some hr
  exact q_run (va_runSN (As := av) (rest := st) (Ts := q_gw) ⟨K.1, K.2.1, K.2.2.1, K.2.2.2.1, K.2.2.2.2.1⟩ (C x hx) ⟨q_cn hY K.2.2.2.2.1 (K.2.2.2.2.2.1.2 _ _ _ _ hl) hR, K.2.2.2.2.1 _ hs, trivial⟩ (q_pre (l := X.1) K.2.2.2.2.2.2.2.2.1 K.2.2.2.2.2.1 K.2.2.2.2.2.2.2.2.2 hS hW) rfl hn hl0.1 rfl (lv_room hst) d hf) hS (fun H1 locs1 hw h1 => kk x K r hr H1 locs1 ls hw h1 hl0)
/-- a method of an object of the world -/
theorem q_callV {av : List Value} {o ci N : Nat} {C : String} {T : u_T} {ty : Nat → FieldType} (Ct : q_Ct X.1 G y M' (q_r G o :: av) (I, J, P) g em') (hY : q_Y y M' np) (hl : Cond.methodLink M.2.2.1 idx y ∈ q_gw) (hi : Cond.instanceMethod y ∈ q_gw) (hsel : Cond.selects C y y ∈ q_gw) (hc : q_C G ci C T N ty) (hk : q_kd G o = (1, ci, N, 0, 0)) (hn : av.length = np) (hst : (st.map fun v => v.category).sum ≤ 8) (d : decode M.1 pc = .ok (.invokevirtual idx, 3)) (hR : M'.2.2.2.1.frames + 1 ≤ M.2.2.2.1.frames ∧ 8 + (M'.2.1 + 11) + M'.2.2.2.1.locals ≤ M.2.2.2.1.locals) (hf : k + M'.2.2.2.1.cells ≤ M.2.2.2.1.cells ∧ n + M'.2.2.2.1.slots ≤ M.2.2.2.1.slots)
    (kk : ∀ x, q_V G M X em (k + M'.2.2.2.1.cells) (n + M'.2.2.2.1.slots) (pc + 3) L ((em' x).1.toList ++ st) (em' x).2.1 (em' x).2.2.1 (em' x).2.2.2 (B x)) : q_V G M X em k n pc L (av.reverse ++ q_r G o :: st) I J P (q_b1 g B) := by
  intro K r hr H locs ls hW hS hl0
  obtain ⟨x, hx, hr⟩ := q_b1_some hr
  have hW0 := hW
  obtain ⟨-, hd, hP, -, -⟩ := hW0
  have hat : (q_wl G hd (I, J, P))[o]? = some (q_x G + o, .inr (ci, (List.range N).map (q_fv G hd o ci (I o)))) := q_at K.2.2.2.2.2.2.2.2.1 hk (by simp) (by simp) (by simp only [q_cell, hk])
  have hp := q_pre (l := X.1) (av := q_r G o :: av) K.2.2.2.2.2.2.2.2.1 K.2.2.2.2.2.1 K.2.2.2.2.2.2.2.2.2 hS hW
  exact q_run (va_runV (As := av) (rest := st) ⟨K.1, K.2.1, K.2.2.1, K.2.2.2.1, K.2.2.2.2.1⟩ (Ct x hx) ⟨q_cb hY K.2.2.2.2.1 hl hR, K.2.2.2.2.1 _ hi, K.2.2.2.2.1 _ hsel⟩ ⟨hp.1, va_recv K.2.2.2.2.2.1.1 hP hc.1 hat, hp.2⟩ rfl hn hl0.1 rfl (lv_room hst) d hf) hS (fun H1 locs1 hw h1 => kk x K r hr H1 locs1 ls hw h1 hl0)
end QD
