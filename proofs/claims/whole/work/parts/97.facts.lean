/-! what the Statement gives of the start -/
abbrev L_T : Jvm.Cond := Jvm.Cond.and given_1 narrow_1
theorem L_d1 : ∀ j, j < 100 → (flatC L_T)[12 + j]? = some (Cond.eq (.elem (.static "java/lang/Intege\x72" "DigitOnes" "[B") (.int (Int32.ofNat j))) (.int (nI (48 + j % 10)))) := by decide +kernel
theorem L_d10 : ∀ j, j < 100 → (flatC L_T)[115 + j]? = some (Cond.eq (.elem (.static "java/lang/Intege\x72" "DigitTens" "[B") (.int (Int32.ofNat j))) (.int (nI (48 + j / 10)))) := by decide +kernel
def L_tm (i : Nat) : Term := match i with
  | 0 => .string "CalendarReplicas$Description" 29
  | 1 => .string "CalendarReplicas" 330
  | 2 => .string "CalendarReplicas" 335
  | _ => .string "CalendarReplicas" 337
abbrev L_ln : List Nat := [4, 2, 2, 2]
abbrev L_by : List (List Int32) := [[114, 112, 119, 101], [32, 114], [32, 112], [32, 101]]
theorem L_s1 : ∀ i, i < 4 → Cond.exactly (L_tm i) "java/lang/String" ∈ flatC L_T := by decide +kernel
theorem L_s2 : ∀ i, i < 4 → Cond.eq (.field (L_tm i) "java/lang/String" "coder" "B") (.int 0) ∈ flatC L_T := by decide +kernel
theorem L_s3 : ∀ i, i < 4 → Cond.arrayOf (.field (L_tm i) "java/lang/String" "value" "[B") .byte ∈ flatC L_T := by decide +kernel
theorem L_s4 : ∀ i, i < 4 → Cond.eq (.length (.field (L_tm i) "java/lang/String" "value" "[B")) (.int (Int32.ofNat (L_ln.getD i 0))) ∈ flatC L_T := by decide +kernel
theorem L_s5 : ∀ i, i < 4 → ∀ j, j < L_ln.getD i 0 → Cond.eq (.elem (.field (L_tm i) "java/lang/String" "value" "[B") (.int (Int32.ofNat j))) (.int ((L_by.getD i []).getD j 0)) ∈ flatC L_T := by decide +kernel
theorem L_s6 : ∀ i, i < 4 → ∀ j, j < 4 → i ≠ j → Cond.not (Cond.eq (L_tm i) (L_tm j)) ∈ flatC L_T ∨ Cond.not (Cond.eq (L_tm j) (L_tm i)) ∈ flatC L_T := by decide +kernel
def L_ad (aK aV : Nat → Nat) (t1 t2 : Nat) (i : Nat) : Nat := match i with
  | 0 => aK 0
  | 1 => aK 1
  | 2 => aK 2
  | 3 => aK 3
  | 4 => aV 0
  | 5 => aV 1
  | 6 => aV 2
  | 7 => aV 3
  | 10 => t1
  | _ => t2
theorem L_sp {s : State} {b : Nat} (hts : ∀ w ∈ lw_tbl, w.before #[Value.ref b] s = true) (hgv : L_T.before #[Value.ref b] s = true) : ∃ ad : Nat → Nat, cSp (fun q => s.heap.size ≤ q) ad s := by
  have hq : ∀ w ∈ q_gw, w.before #[Value.ref b] s = true := fun w h => hts w (List.mem_filter.mp h).1
  have hA : ∀ a : Nat, a < s.heap.size → ¬ (fun q : Nat => s.heap.size ≤ q) a := fun a h => Nat.not_le.mpr h
  have hF := flat_of_before _ hgv
  have f : ∀ (i : Nat) (w : Cond), (flatC L_T)[i]? = some w → w.before #[Value.ref b] s = true := fun i w h => hF w (List.mem_of_getElem? h)
  have z1 := va_Zof (A := fun q : Nat => s.heap.size ≤ q) (hts _ tw_2_57) (hq _ tw_1_13) (va_eqt (f 4 (Cond.eq (.static "java/lang/String" "COMPACT_STRINGS" "Z") (.int 1)) (by decide +kernel))) hA
  have z2 := va_Zqof (A := fun q : Nat => s.heap.size ≤ q) (hts _ tw_3_150) (hq _ tw_1_17) (f 5 (Cond.isRef (.static "jdk/internal/util/Preconditions" "SIOOBE_FORMATTER" "Ljava/util/function/BiFunction;")) (by decide +kernel)) hA
  obtain ⟨t1, e1, T1⟩ := va_Tof (tm := .static "java/lang/Intege\x72" "DigitOnes" "[B") (ty := .byte) (N := 100) (f := fun j => .int (nI (48 + j % 10))) (A := fun q : Nat => s.heap.size ≤ q) (by decide) (f 10 (Cond.arrayOf (.static "java/lang/Intege\x72" "DigitOnes" "[B") .byte) (by decide +kernel)) (va_eqt (f 11 (Cond.eq (.length (.static "java/lang/Intege\x72" "DigitOnes" "[B")) (.int (Int32.ofNat 100))) (by decide +kernel))) (fun j hj => va_eqt (f (12 + j) _ (L_d1 j hj))) hA
  obtain ⟨t2, e2, T2⟩ := va_Tof (tm := .static "java/lang/Intege\x72" "DigitTens" "[B") (ty := .byte) (N := 100) (f := fun j => .int (nI (48 + j / 10))) (A := fun q : Nat => s.heap.size ≤ q) (by decide) (f 113 (Cond.arrayOf (.static "java/lang/Intege\x72" "DigitTens" "[B") .byte) (by decide +kernel)) (va_eqt (f 114 (Cond.eq (.length (.static "java/lang/Intege\x72" "DigitTens" "[B")) (.int (Int32.ofNat 100))) (by decide +kernel))) (fun j hj => va_eqt (f (115 + j) _ (L_d10 j hj))) hA
  have z3 := va_Zof (A := fun q : Nat => s.heap.size ≤ q) (hts _ tw_5_110) (hq _ tw_1_16) e1 hA
  have z4 := va_Zof (A := fun q : Nat => s.heap.size ≤ q) (hts _ tw_5_112) (hq _ tw_1_16) e2 hA
  obtain ⟨aK, aV, hS, eK⟩ := vk_Sof (N := 4) (tm := L_tm) (len := L_ln) (byt := L_by) (A := fun q : Nat => s.heap.size ≤ q) (by decide) (fun i hi => hF _ (L_s1 i hi)) (fun i hi => hF _ (L_s2 i hi)) (fun i hi => hF _ (L_s3 i hi)) (fun i hi => hF _ (L_s4 i hi)) (fun i hi j hj => hF _ (L_s5 i hi j hj)) (fun i j hi hj hij => (L_s6 i hi j hj hij).elim (fun h => Or.inl (hF _ h)) (fun h => Or.inr (hF _ h))) hA
  have ea : ∀ i, i < 4 → L_ad aK aV t1 t2 i = aK i := by
    intro i hi
    match i, hi with
    | 0, _ => rfl
    | 1, _ => rfl
    | 2, _ => rfl
    | 3, _ => rfl
  have ev : ∀ i, i < 4 → L_ad aK aV t1 t2 (i + 4) = aV i := by
    intro i hi
    match i, hi with
    | 0, _ => rfl
    | 1, _ => rfl
    | 2, _ => rfl
    | 3, _ => rfl
  refine ⟨L_ad aK aV t1 t2, z1, z2, z3, T1, z4, T2, ⟨fun i hi => ?_, fun i j hi hj e => ?_⟩, vk_R.of (hts _ tw_3_104) (eK 0 (by decide)), vk_R.of (hts _ tw_5_121) (eK 1 (by decide)), vk_R.of (hts _ tw_5_152) (eK 2 (by decide)), vk_R.of (hts _ tw_5_153) (eK 3 (by decide))⟩
  · have h := hS.1 i hi
    rw [← ea i hi, ← ev i hi] at h
    exact h
  · rw [ea i hi, ea j hj] at e
    exact hS.2 i j hi hj e
/-- an array's class -/
theorem L_ac {s : State} {A : Array Value} {ty : FieldType} (h : (Cond.arrayClass ty).before A s = true) (hra : ∀ cA, s.vm.findClass ("[" ++ ty.toString) = some cA → va_RA s cA ty) : ∃ cA : ClassId, ArrOfT s cA ty ∧ va_RA s cA ty := by
  obtain ⟨cA, kA, comp, h1, h2, h3⟩ := Cond.arrayClass_spec h
  exact ⟨cA, fun n z => ⟨fun k h => (by cases h), kA, h2, comp, h3⟩, hra cA h1⟩
theorem L_ao {s : State} {A : Array Value} {C : String} (h : (Cond.arrayOver (.object C)).before A s = true) : ∃ cA : ClassId, ArrOfT s cA (.object C) ∧ va_RA s cA (.object C) := by
  obtain ⟨comp, cA, kA, g1, g2, g3, g4, g5⟩ := Cond.arrayOver_spec h
  exact ⟨cA, fun n z => ⟨fun k h => (by cases h), kA, g3, comp, g4⟩, kA, comp, g3, g4, g1, g5⟩
theorem L_known {s : State} {b : Nat} (hts : ∀ w ∈ lw_tbl, w.before #[Value.ref b] s = true) : ∃ (D D2 : va_G) (tc : Nat → ClassId), ∀ (x0 y x1 y1 : Nat) (ad : Nat → Nat), q_KK (cG D tc x0 y ad) s ∧ q_KK (mG D2 tc x1 y1) s := by
  have hq : ∀ w ∈ q_gw, w.before #[Value.ref b] s = true := fun w h => hts w (List.mem_filter.mp h).1
  obtain ⟨c0, i0, k0⟩ := u_known (C := RX0) (T := TX0) (N := 2) (n := 2) hq uwCal (hq _ tw_1_80)
  obtain ⟨c1, i1, k1⟩ := u_known (C := RX1) (T := TX1) (N := 5) (n := 5) hq uwDes (hq _ tw_2_42)
  obtain ⟨c2, i2, k2⟩ := u_known (C := RX2) (T := TX2) (N := 9) (n := 9) hq uwEd (hq _ tw_1_158)
  obtain ⟨c3, i3, k3⟩ := u_known (C := RX3) (T := TX3) (N := 7) (n := 7) hq uwMe (hq _ tw_1_90)
  obtain ⟨c4, i4, k4⟩ := u_known (C := RX4) (T := TX4) (N := 5) (n := 5) hq uwMg (hq _ tw_1_237)
  obtain ⟨c5, i5, k5⟩ := u_known (C := RX5) (T := TX5) (N := 8) (n := 8) hq uwRu (hq _ tw_1_38)
  obtain ⟨c6, i6, k6⟩ := u_known (C := RX6) (T := TX6) (N := 2) (n := 2) hq uwTT (hq _ tw_2_5)
  obtain ⟨c7, i7, k7⟩ := u_known (C := RX7) (T := TX7) (N := 7) (n := 7) hq uwWo (hq _ tw_1_32)
  obtain ⟨c8, i8, k8⟩ := u_known (C := RX8) (T := TX8) (N := 9) (n := 9) hq uwCR (hq _ tw_1_24)
  obtain ⟨c9, i9, k9⟩ := u_known (C := RJ4) (T := TJ4) (N := 4) (n := 4) hq uwSB (hq _ tw_2_48)
  obtain ⟨cm, im, km⟩ := u_known (C := RX9) (T := TX9) (N := 21) (n := 21) hq uwMo (hq _ tw_5_207)
  obtain ⟨a0, r0⟩ := L_ac (hq _ tw_1_78) (fun _ h => h)
  obtain ⟨a1, r1⟩ := L_ac (hq _ tw_2_17) (fun _ h => h)
  obtain ⟨a2, r2⟩ := L_ac (hq _ tw_2_18) (fun _ h => h)
  obtain ⟨a3, r3⟩ := L_ao (hts _ tw_1_89)
  obtain ⟨a4, r4⟩ := L_ao (hts _ tw_1_157)
  obtain ⟨a5, r5⟩ := L_ao (hts _ tw_1_235)
  obtain ⟨a6, r6⟩ := L_ac (hq _ tw_2_78) (fun _ h => h)
  have hN : ∀ a i y h, Cond.methodLinkNest a i y h ∈ lw_tbl → va_Nw (.methodLinkNest a i y h) s := fun a i y h hm => va_Nw.of rfl (hts _ hm)
  refine ⟨(fun k => match k with | 0 => c0 | 1 => c1 | 2 => c2 | 3 => c3 | 4 => c4 | 5 => c5 | 6 => c6 | 7 => c7 | 8 => c8 | _ => c9, fun k => match k with | 0 => i0 | 1 => i1 | 2 => i2 | 3 => i3 | 4 => i4 | 5 => i5 | 6 => i6 | 7 => i7 | 8 => i8 | _ => i9), (fun _ => cm, fun _ => im), (fun k => match k with | 0 => a0 | 1 => a1 | 2 => a2 | 3 => a3 | 4 => a4 | 5 => a5 | _ => a6), fun x0 y x1 y1 ad => ⟨⟨⟨?_, ?_⟩, hN⟩, ⟨⟨?_, ?_⟩, hN⟩⟩⟩
  · intro k q hk
    match k, hk with
    | 0, hk => cases hk; exact k0
    | 1, hk => cases hk; exact k1
    | 2, hk => cases hk; exact k2
    | 3, hk => cases hk; exact k3
    | 4, hk => cases hk; exact k4
    | 5, hk => cases hk; exact k5
    | 6, hk => cases hk; exact k6
    | 7, hk => cases hk; exact k7
    | 8, hk => cases hk; exact k8
    | 9, hk => cases hk; exact k9
    | k + 10, hk => exact absurd (List.getElem?_eq_some_iff.mp hk).1 (Nat.not_lt.mpr (Nat.le_add_left 10 k))
  · intro k q hk
    match k, hk with
    | 0, hk => cases hk; exact r0
    | 1, hk => cases hk; exact r1
    | 2, hk => cases hk; exact r2
    | 3, hk => cases hk; exact r3
    | 4, hk => cases hk; exact r4
    | 5, hk => cases hk; exact r5
    | 6, hk => cases hk; exact r6
    | k + 7, hk => exact absurd (List.getElem?_eq_some_iff.mp hk).1 (Nat.not_lt.mpr (Nat.le_add_left 7 k))
  · intro k q hk
    match k, hk with
    | 0, hk => cases hk; exact km
    | k + 1, hk => exact absurd (List.getElem?_eq_some_iff.mp hk).1 (Nat.not_lt.mpr (Nat.le_add_left 1 k))
  · intro k q hk
    match k, hk with
    | 0, hk => cases hk; exact r0
    | 1, hk => cases hk; exact r1
    | 2, hk => cases hk; exact r2
    | k + 3, hk => exact absurd (List.getElem?_eq_some_iff.mp hk).1 (Nat.not_lt.mpr (Nat.le_add_left 3 k))
/-- a constructor's facts -/
theorem L_zK {G : q_G} {s : State} {b B : Nat} {ad : Nat → Nat} (hts : ∀ w ∈ lw_tbl, w.before #[Value.ref b] s = true) (hK : q_KK G s) (hsp : cSp (fun q => s.heap.size ≤ q) ad s) (hB : s.heap.size ≤ B) : z_K G B s := ⟨hK, va_AO.of (hts _ tw_1_89), va_AO.of (hts _ tw_1_157), va_AO.of (hts _ tw_1_235), hsp.1.narrow (fun q (h : B ≤ q) => Nat.le_trans hB h)⟩
/-- .. of the words of the JDK's private methods -/
theorem L_selx {s : State} {args : Array Value} {C : String} {y0 y : MethodName} (h0 : (Cond.selects C y0 y0).before args s = true) (hc : y.cls = y0.cls) (hy : y.cls ≠ "java/lang/invoke/MethodHandle" ∧ y.cls ≠ "java/lang/invoke/VarHandle") (hpriv : (Cond.privateMethod y).before args s = true) (hinst : (Cond.instanceMethod y).before args s = true) : (Cond.selects C y y).before args s = true := by
  obtain ⟨c, r0, m0, hcC, -, hm0, -, mk, hmk, hni⟩ := Cond.selects_spec h0
  obtain ⟨m1, methM, hnamed, hmethM, -, -⟩ := Cond.instanceMethod_spec hinst
  have hfound : s.methodFound? y.cls y.name y.desc = some m1 := State.methodFound?_of_named hnamed hy
  have e1 := findClass_of_methodNamed hnamed
  have e0 := findClass_of_methodNamed hm0
  rw [hc] at e1
  have hcls : m1.cls = m0.cls := Option.some.inj (e1.symm.trans e0)
  have hsel : selectMethod {} s.vm c m1 = .method m1 := selectMethod_private hmethM (Cond.privateMethod_at hpriv m1 methM hnamed hmethM)
  simp only [Cond.before, Cond.holds, Cond.value, hcC, hfound, hnamed, hsel, hcls, hmk]
  simp
  exact hni
theorem L_tbl {s : State} {args : Array Value} (h : ∀ w ∈ k2_sels lw_privs ++ tables_1, w.before args s = true) : ∀ w ∈ lw_tbl, w.before args s = true := by
  have ht : ∀ w ∈ tables_1, w.before args s = true := fun w hw => h w (List.mem_append_right _ hw)
  have h0 : (Cond.selects "java/lang/StringBuilde\x72" ⟨"java/lang/AbstractStringBuilde\x72", "isLatin1", "()Z"⟩ ⟨"java/lang/AbstractStringBuilde\x72", "isLatin1", "()Z"⟩).before args s = true := ht _ (q_t5 (List.mem_of_getElem? (i := 30) rfl))
  have hm : ∀ w ∈ lw_more, w.before args s = true := List.forall_mem_cons.mpr ⟨L_selx h0 rfl ⟨by decide +kernel, by decide +kernel⟩ (ht _ (q_t4 (List.mem_of_getElem? (i := 237) rfl))) (ht _ (q_t4 (List.mem_of_getElem? (i := 238) rfl))), List.forall_mem_cons.mpr ⟨L_selx h0 rfl ⟨by decide +kernel, by decide +kernel⟩ (ht _ (q_t5 (List.mem_of_getElem? (i := 1) rfl))) (ht _ (q_t5 (List.mem_of_getElem? (i := 2) rfl))), List.forall_mem_cons.mpr ⟨L_selx h0 rfl ⟨by decide +kernel, by decide +kernel⟩ (ht _ (q_t5 (List.mem_of_getElem? (i := 138) rfl))) (ht _ (q_t5 (List.mem_of_getElem? (i := 139) rfl))), List.forall_mem_cons.mpr ⟨L_selx h0 rfl ⟨by decide +kernel, by decide +kernel⟩ (ht _ (q_t5 (List.mem_of_getElem? (i := 142) rfl))) (ht _ (q_t5 (List.mem_of_getElem? (i := 143) rfl))), fun _ h => absurd h List.not_mem_nil⟩⟩⟩⟩
  exact List.forall_mem_append.mpr ⟨List.forall_mem_append.mpr ⟨fun w hw => h w (List.mem_append_left _ hw), hm⟩, ht⟩
