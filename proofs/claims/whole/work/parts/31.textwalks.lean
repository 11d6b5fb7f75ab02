/-! text buffers: from the walks over a short world to contracts over the class's world -/
theorem br_kd : ∀ o, o < 219 → ((cKd o).1 = 6 → o = 114 ∨ o = 117) ∧ ((cKd o).1 = 7 → (o = 115 ∧ (cKd o).2.1 = 114) ∨ (o = 118 ∧ (cKd o).2.1 = 117)) := by decide +kernel
theorem br_lt {o : Nat} (h : (cKd o).1 ≠ 0) : o < 219 := q_getD_in (l := cKl) h
theorem br_s {s : Nat} (hs : isSB s) : s = 114 ∨ s = 117 := (br_kd s (br_lt (by rw [hs.1]; decide))).1 (by rw [hs.1])
theorem br_hd {G : q_G} {hd hd' : Nat → Nat} {o : Nat} (h6 : (q_kd G o).1 = 6 → hd' o = hd o) (h7 : (q_kd G o).1 = 7 → hd' (q_kd G o).2.1 = hd (q_kd G o).2.1 ∧ hd' ((q_kd G o).2.1 + 1000) = hd ((q_kd G o).2.1 + 1000)) : q_ad G hd' o = q_ad G hd o ∧ ∀ f g r, q_cell G hd' o f g r = q_cell G hd o f g r := by
  have hK : ∃ K, q_kd G o = K := ⟨_, rfl⟩
  obtain ⟨⟨t, a, b, c, d⟩, hk⟩ := hK
  rw [hk] at h6 h7
  refine ⟨?_, fun f g r => ?_⟩
  · unfold q_ad
    rw [hk]
    split
    · next h => exact (h7 h).1
    · rfl
  · unfold q_cell
    rw [hk]
    rcases t with _ | _ | _ | _ | _ | _ | _ | _ | t
    · rfl
    · rfl
    · rfl
    · rfl
    · rfl
    · rfl
    · have := h6 rfl
      show (Sum.inr (a, [.ref (hd' o), .int 0, .int (f 1), .int (f 0)]) : va_E) = Sum.inr (a, [.ref (hd o), .int 0, .int (f 1), .int (f 0)])
      rw [this]
    · have := (h7 rfl).2
      show (Sum.inl (q_tc G b, hd' (a + 1000), .inl f) : va_E) = Sum.inl (q_tc G b, hd (a + 1000), .inl f)
      rw [this]
    · rfl
def bA (a h sz : Nat) : Nat → Prop := fun q => q = a ∨ q = h ∨ sz ≤ q
abbrev bG (D : va_G) (tc : Nat → ClassId) (x0 : Nat) (ad : Nat → Nat) (A : Nat → Prop) (sz : Nat) : q_G := (D, tc, x0, A, sz, cTl, cCl, 219, cKd, cFd, cSp A ad)
theorem br_jG {D : va_G} {tc : Nat → ClassId} {x0 : Nat} {ad : Nat → Nat} {A : Nat → Prop} {sz : Nat} (h : ∀ q, sz ≤ q → A q) : j_G (bG D tc x0 ad A sz) ad :=
  ⟨⟨fun o h => q_getD_in (l := cKl) h, cSp_k⟩, fun _ h => h, rfl, rfl, h⟩
theorem cSp_narrow {A B : Nat → Prop} {ad : Nat → Nat} {U : State} (hAB : ∀ q, B q → A q) (h : cSp A ad U) : cSp B ad U := by
  obtain ⟨h1, h2, h3, h4, h5, h6, h7, h8⟩ := h
  exact ⟨h1.narrow hAB, h2.narrow hAB, h3.narrow hAB, h4.narrow hAB, h5.narrow hAB, h6.narrow hAB, h7.narrow hAB, h8⟩
section BR
variable {D : va_G} {tc : Nat → ClassId} {x0 y : Nat} {ad : Nat → Nat}
theorem br_at {hd : Nat → Nat} {S : q_S} {k : Nat} {q : Nat × va_E} (h : (q_wl (cG D tc x0 y ad) hd S)[k]? = some q) : k < 219 ∧ q = (q_ad (cG D tc x0 y ad) hd k, q_cell (cG D tc x0 y ad) hd k (S.1 k) (S.2.1 k) (S.2.2 k)) := by
  have hk : k < 219 := by
    have := (List.getElem?_eq_some_iff.mp h).1
    simpa [q_wl] using this
  rw [q_wl_get (G := cG D tc x0 y ad) hk] at h
  exact ⟨hk, (Option.some.inj h).symm⟩
theorem br_pre {S : q_S} {U : State} {s : Nat} (hs : isSB s) (hW : q_W (cG D tc x0 y ad) S U.heap) (hK : q_KK (cG D tc x0 y ad) U) (hy : y ≤ U.heap.size) (hsp : cSp (cA x0 y) ad U) :
    ∃ h m n, (va_P D cCl (j_2 (bG D tc x0 ad (bA (x0 + s) h U.heap.size) U.heap.size) (x0 + s) h m (S.1 (s + 1)) (S.1 s 1) n) U.heap ∧ va_D (bA (x0 + s) h U.heap.size) (j_2 (bG D tc x0 ad (bA (x0 + s) h U.heap.size) U.heap.size) (x0 + s) h m (S.1 (s + 1)) (S.1 s 1) n)) ∧ q_KK (bG D tc x0 ad (bA (x0 + s) h U.heap.size) U.heap.size) U ∧ cSp (bA (x0 + s) h U.heap.size) ad U ∧
    S.1 s 0 = nI n ∧ n ≤ m ∧ m ≤ 200 ∧ (∀ j, m ≤ j → S.1 (s + 1) j = 0) ∧ (∀ j, fits .byte (.int (S.1 (s + 1) j)) = true) ∧ (∀ q, bA (x0 + s) h U.heap.size q → cA x0 y q) ∧
    ∀ (S' : q_S) (H' : Heap) (h' m' n' : Nat), (U.heap.size ≤ H'.size ∧ ∀ q, q < U.heap.size → ¬ bA (x0 + s) h U.heap.size q → H'[q]? = U.heap[q]?) → va_P D cCl (j_2 (bG D tc x0 ad (bA (x0 + s) h U.heap.size) U.heap.size) (x0 + s) h' m' (S'.1 (s + 1)) (S'.1 s 1) n') H' → va_D (bA (x0 + s) h U.heap.size) (j_2 (bG D tc x0 ad (bA (x0 + s) h U.heap.size) U.heap.size) (x0 + s) h' m' (S'.1 (s + 1)) (S'.1 s 1) n') →
      S'.1 s 0 = nI n' → n' ≤ m' → m' ≤ 200 → (∀ j, m' ≤ j → S'.1 (s + 1) j = 0) → (∀ j, fits .byte (.int (S'.1 (s + 1) j)) = true) → (∀ o, o ≠ s → o ≠ s + 1 → S'.1 o = S.1 o) → S'.2 = S.2 → q_W (cG D tc x0 y ad) S' H' := by
  obtain ⟨hpb, hd, hP, hD, hsb⟩ := hW
  obtain ⟨n, hn0, hnm, hm2⟩ := hsb.1 s _ _ _ _ hs.1
  have hz := hsb.2 (s + 1) _ _ _ _ hs.2
  have hls : s < 219 := br_lt (by rw [hs.1]; decide)
  have hls1 : s + 1 < 219 := br_lt (by rw [hs.2]; exact (show (7 : Nat) ≠ 0 by decide))
  have ecs : ∀ (hd : Nat → Nat) (S : q_S), (q_wl (cG D tc x0 y ad) hd S)[s]? = some (x0 + s, .inr (9, [.ref (hd s), .int 0, .int (S.1 s 1), .int (S.1 s 0)])) := by
    intro hd S
    rw [q_wl_get (G := cG D tc x0 y ad) hls]
    have hk : q_kd (cG D tc x0 y ad) s = (6, 9, 4, 0, 0) := hs.1
    simp only [q_ad, q_cell, hk]
    rfl
  have ecb : ∀ (hd : Nat → Nat) (S : q_S), (q_wl (cG D tc x0 y ad) hd S)[s + 1]? = some (hd s, .inl (tc 6, hd (s + 1000), .inl (S.1 (s + 1)))) := by
    intro hd S
    rw [q_wl_get (G := cG D tc x0 y ad) hls1]
    have hk : q_kd (cG D tc x0 y ad) (s + 1) = (7, s, 6, 0, 0) := hs.2
    simp only [q_ad, q_cell, hk]
    rfl
  have hcA : ∀ q, bA (x0 + s) (hd s) U.heap.size q → cA x0 y q := by
    intro q hq
    rcases hq with rfl | rfl | hq
    · exact hD.2 s _ (ecs hd S)
    · exact hD.2 (s + 1) _ (ecb hd S)
    · exact Or.inr (Nat.le_trans hy hq)
  have hne : x0 + s ≠ hd s := fun e => by
    have := hD.1 s (s + 1) _ _ (ecs hd S) (ecb hd S) e
    omega
  refine ⟨hd s, hd (s + 1000), n, ⟨?_, ?_⟩, hK, cSp_narrow hcA hsp, hn0, hnm, hm2, fun j hj => (hz j).1 hj, fun j => (hz j).2, hcA, ?_⟩
  · intro k q hq
    rcases k with _ | _ | k
    · cases hq
      have := hP s _ (ecs hd S)
      rw [hn0] at this
      exact this
    · cases hq
      exact hP (s + 1) _ (ecb hd S)
    · cases hq
  · refine ⟨?_, ?_⟩
    · intro i j p q hi hj hpq
      rcases i with _ | _ | i <;> rcases j with _ | _ | j <;> first | rfl | (cases hi; done) | (cases hj; done) | (cases hi; cases hj; first | exact absurd hpq hne | exact absurd hpq.symm hne)
    · intro k q hq
      rcases k with _ | _ | k
      · cases hq; exact Or.inl rfl
      · cases hq; exact Or.inr (Or.inl rfl)
      · cases hq
  · intro S' H' h' m' n' hF hP1 hD1 hn' hnm' hm2' hz' hf' hSI hS2
    have hh' : h' ≠ x0 + s ∧ (h' = hd s ∨ U.heap.size ≤ h') := by
      have hne1 : h' ≠ x0 + s := fun e => by
        have := hD1.1 0 1 _ _ rfl rfl e.symm
        omega
      rcases hD1.2 1 _ rfl with h | h | h
      · exact absurd h hne1
      · exact ⟨hne1, Or.inl h⟩
      · exact ⟨hne1, Or.inr h⟩
    refine ⟨by rw [hS2]; exact hpb, fun z => if z = s then h' else if z = s + 1000 then m' else hd z, ?_⟩
    have e0 : ((fun z => if z = s then h' else if z = s + 1000 then m' else hd z) : Nat → Nat) s = h' := if_pos rfl
    have e1 : ((fun z => if z = s then h' else if z = s + 1000 then m' else hd z) : Nat → Nat) (s + 1000) = m' := by
      show (if s + 1000 = s then h' else if s + 1000 = s + 1000 then m' else hd (s + 1000)) = m'
      rw [if_neg (by omega), if_pos rfl]
    have e2 : ∀ z, z ≠ s → z ≠ s + 1000 → ((fun z => if z = s then h' else if z = s + 1000 then m' else hd z) : Nat → Nat) z = hd z := by
      intro z h1 h2
      show (if z = s then h' else if z = s + 1000 then m' else hd z) = hd z
      rw [if_neg h1, if_neg h2]
    generalize ((fun z => if z = s then h' else if z = s + 1000 then m' else hd z) : Nat → Nat) = hd' at e0 e1 e2 ⊢
    have hsv := br_s hs
    have hoth : ∀ k, k < 219 → k ≠ s → k ≠ s + 1 → (q_wl (cG D tc x0 y ad) hd' S')[k]? = (q_wl (cG D tc x0 y ad) hd S)[k]? := by
      intro k hk h1 h2
      have hb := br_hd (G := cG D tc x0 y ad) (hd := hd) (hd' := hd') (o := k) (fun h6 => by
        rcases (br_kd k hk).1 h6 with rfl | rfl <;> exact e2 _ h1 (by omega)) (fun h7 => by
        rcases (br_kd k hk).2 h7 with ⟨rfl, ha⟩ | ⟨rfl, ha⟩
        · show hd' (cKd 115).2.1 = hd (cKd 115).2.1 ∧ hd' ((cKd 115).2.1 + 1000) = hd ((cKd 115).2.1 + 1000)
          rw [ha]
          exact ⟨e2 _ (by omega) (by omega), e2 _ (by omega) (by omega)⟩
        · show hd' (cKd 118).2.1 = hd (cKd 118).2.1 ∧ hd' ((cKd 118).2.1 + 1000) = hd ((cKd 118).2.1 + 1000)
          rw [ha]
          exact ⟨e2 _ (by omega) (by omega), e2 _ (by omega) (by omega)⟩)
      rw [q_wl_get (G := cG D tc x0 y ad) hk, q_wl_get (G := cG D tc x0 y ad) hk, hb.1, hb.2, hSI k h1 h2, hS2]
    have hold : ∀ k q, k ≠ s → k ≠ s + 1 → (q_wl (cG D tc x0 y ad) hd S)[k]? = some q → q.1 < U.heap.size ∧ ¬ bA (x0 + s) (hd s) U.heap.size q.1 := by
      intro k q h1 h2 hq
      have hl := (hP k q hq).lt
      refine ⟨hl, fun hA => ?_⟩
      rcases hA with h | h | h
      · exact h1 (hD.1 k s _ _ hq (ecs hd S) h)
      · exact h2 (hD.1 k (s + 1) _ _ hq (ecb hd S) h)
      · omega
    have key : ∀ k q, (q_wl (cG D tc x0 y ad) hd' S')[k]? = some q → (k = s ∧ q = (x0 + s, .inr (9, [.ref h', .int 0, .int (S'.1 s 1), .int (nI n')]))) ∨ (k = s + 1 ∧ q = (h', .inl (tc 6, m', .inl (S'.1 (s + 1))))) ∨ (k ≠ s ∧ k ≠ s + 1 ∧ (q_wl (cG D tc x0 y ad) hd S)[k]? = some q) := by
      intro k q hq
      have hk := (br_at hq).1
      by_cases h1 : k = s
      · subst h1
        rw [ecs hd' S', e0, hn'] at hq
        exact Or.inl ⟨rfl, (Option.some.inj hq).symm⟩
      · by_cases h2 : k = s + 1
        · subst h2
          rw [ecb hd' S', e0, e1] at hq
          exact Or.inr (Or.inl ⟨rfl, (Option.some.inj hq).symm⟩)
        · rw [hoth k hk h1 h2] at hq
          exact Or.inr (Or.inr ⟨h1, h2, hq⟩)
    refine ⟨?_, ⟨?_, ?_⟩, ?_, ?_⟩
    · intro k q hq
      rcases key k q hq with ⟨-, rfl⟩ | ⟨-, rfl⟩ | ⟨h1, h2, hq2⟩
      · exact hP1 0 _ rfl
      · exact hP1 1 _ rfl
      · obtain ⟨g1, g2⟩ := hold k q h1 h2 hq2
        exact (hP k q hq2).kept (hF.2 q.1 g1 g2)
    · intro i j p q hi hj hpq
      rcases key i p hi with ⟨hi1, rfl⟩ | ⟨hi1, rfl⟩ | ⟨hi1, hi2, hi3⟩ <;> rcases key j q hj with ⟨hj1, rfl⟩ | ⟨hj1, rfl⟩ | ⟨hj1, hj2, hj3⟩
      · rw [hi1, hj1]
      · exact absurd hpq.symm hh'.1
      · exact absurd (Or.inl hpq.symm) (hold j q hj1 hj2 hj3).2
      · exact absurd hpq hh'.1
      · rw [hi1, hj1]
      · refine absurd ?_ (hold j q hj1 hj2 hj3).2
        rw [← hpq]
        exact Or.inr hh'.2
      · exact absurd (Or.inl hpq) (hold i p hi1 hi2 hi3).2
      · refine absurd ?_ (hold i p hi1 hi2 hi3).2
        rw [hpq]
        exact Or.inr hh'.2
      · exact hD.1 i j p q hi3 hj3 hpq
    · intro k q hq
      rcases key k q hq with ⟨-, rfl⟩ | ⟨-, rfl⟩ | ⟨h1, h2, hq2⟩
      · exact hcA _ (Or.inl rfl)
      · exact hcA _ (Or.inr hh'.2)
      · exact hD.2 k q hq2
    · intro o a b c d hk
      have hk' : cKd o = (6, a, b, c, d) := hk
      by_cases h1 : o = s
      · subst h1
        exact ⟨n', hn', by rw [e1]; exact hnm', by rw [e1]; exact hm2'⟩
      · have ho : o < 219 := br_lt (by rw [hk']; exact (show (6 : Nat) ≠ 0 by decide))
        have h2 : o ≠ s + 1 := fun e => by
          subst e
          have := hs.2
          rw [hk'] at this
          cases this
        obtain ⟨z, z1, z2⟩ := hsb.1 o a b c d hk
        have hov : o = 114 ∨ o = 117 := (br_kd o ho).1 (by rw [hk'])
        exact ⟨z, by rw [hSI o h1 h2]; exact z1, by rw [e2 (o + 1000) (by omega) (by omega)]; exact z2⟩
    · intro o a b c d hk
      have hk' : cKd o = (7, a, b, c, d) := hk
      have ho : o < 219 := br_lt (by rw [hk']; exact (show (7 : Nat) ≠ 0 by decide))
      by_cases h2 : o = s + 1
      · subst h2
        have := hs.2
        rw [hk'] at this
        cases this
        intro j
        exact ⟨fun hj => hz' j (by rw [e1] at hj; exact hj), hf' j⟩
      · have h1 : o ≠ s := fun e => by
          subst e
          have := hs.1
          rw [hk'] at this
          cases this
        have ha := (br_kd o ho).2 (by rw [hk'])
        rw [hk'] at ha
        have ha' : (o = 115 ∧ a = 114) ∨ (o = 118 ∧ a = 117) := ha
        intro j
        have := hsb.2 o a b c d hk j
        rw [hSI o h1 h2, e2 (a + 1000) (by omega) (by omega)]
        exact this
theorem br_Ct {l : Launch} {ρ : Type} {y' : MethodName} {M : q_M} {av : List Value} {I : q_I} {J : q_J} {P : q_P} {s : Nat} {o : Option ρ} {em : ρ → Option Value × q_S} (hs : isSB s)
    (h : ∀ r, o = some r → (em r).2.2 = (J, P) ∧ (∀ q, q ≠ s → q ≠ s + 1 → (em r).2.1 q = I q) ∧ ∀ (G' : q_G), j_G G' ad → ∀ (h m n : Nat), I s 0 = nI n → n ≤ m → m ≤ 200 → (∀ j, m ≤ j → I (s + 1) j = 0) → (∀ j, fits .byte (.int (I (s + 1) j)) = true) → ∃ R : Option Value → va_W → Prop, j_Ct l G' y' M (.ref (x0 + s) :: av) (j_2 G' (x0 + s) h m (I (s + 1)) (I s 1) n) R ∧ ∀ v W, R v W → v = (em r).1 ∧ ∃ h' m' n', W = j_2 G' (x0 + s) h' m' ((em r).2.1 (s + 1)) ((em r).2.1 s 1) n' ∧ (em r).2.1 s 0 = nI n' ∧ n' ≤ m' ∧ m ≤ m' ∧ m' ≤ 200 ∧ (∀ j, n' ≤ j → (em r).2.1 (s + 1) j = I (s + 1) j) ∧ ∀ j, fits .byte (.int ((em r).2.1 (s + 1) j)) = true) : q_Ct l (cG D tc x0 y ad) y' M (q_r (cG D tc x0 y ad) s :: av) (I, J, P) o em := by
  intro r hr
  obtain ⟨hJP, hIo, hR⟩ := h r hr
  let ι : Type := { i : Nat × Nat × Nat × Nat // I s 0 = nI i.2.2.1 ∧ i.2.2.1 ≤ i.2.1 ∧ i.2.1 ≤ 200 ∧ (∀ j, i.2.1 ≤ j → I (s + 1) j = 0) ∧ (∀ j, fits .byte (.int (I (s + 1) j)) = true) }
  have hR' : ∀ i : ι, ∃ R : Option Value → va_W → Prop, j_Ct l (bG D tc x0 ad (bA (x0 + s) i.1.1 i.1.2.2.2) i.1.2.2.2) y' M (.ref (x0 + s) :: av) (j_2 (bG D tc x0 ad (bA (x0 + s) i.1.1 i.1.2.2.2) i.1.2.2.2) (x0 + s) i.1.1 i.1.2.1 (I (s + 1)) (I s 1) i.1.2.2.1) R ∧ ∀ v W, R v W → v = (em r).1 ∧ ∃ h' m' n', W = j_2 (bG D tc x0 ad (bA (x0 + s) i.1.1 i.1.2.2.2) i.1.2.2.2) (x0 + s) h' m' ((em r).2.1 (s + 1)) ((em r).2.1 s 1) n' ∧ (em r).2.1 s 0 = nI n' ∧ n' ≤ m' ∧ i.1.2.1 ≤ m' ∧ m' ≤ 200 ∧ (∀ j, n' ≤ j → (em r).2.1 (s + 1) j = I (s + 1) j) ∧ ∀ j, fits .byte (.int ((em r).2.1 (s + 1) j)) = true :=
    fun i => hR _ (br_jG (fun q hq => Or.inr (Or.inr hq))) i.1.1 i.1.2.1 i.1.2.2.1 i.2.1 i.2.2.1 i.2.2.2.1 i.2.2.2.2.1 i.2.2.2.2.2
  refine j_imp (ι := ι) (A := fun i => bA (x0 + s) i.1.1 i.1.2.2.2) (P := fun i => j_Pc (bG D tc x0 ad (bA (x0 + s) i.1.1 i.1.2.2.2) i.1.2.2.2) (.ref (x0 + s) :: av) (j_2 (bG D tc x0 ad (bA (x0 + s) i.1.1 i.1.2.2.2) i.1.2.2.2) (x0 + s) i.1.1 i.1.2.1 (I (s + 1)) (I s 1) i.1.2.2.1)) (Q := fun i => j_Q (bG D tc x0 ad (bA (x0 + s) i.1.1 i.1.2.2.2) i.1.2.2.2) (Classical.choose (hR' i))) (fun i => (Classical.choose_spec (hR' i)).1) ?_
  intro a U hU
  obtain ⟨hav, hW, hK, hy, hsp⟩ := hU
  obtain ⟨h, m, n, hW2, hK2, hsp2, hn0, hnm, hm2, hz, hf, hcA, post⟩ := br_pre (S := (I, J, P)) hs hW hK hy hsp
  refine ⟨⟨(h, m, n, U.heap.size), hn0, hnm, hm2, hz, hf⟩, ⟨hav, hW2, hK2, Nat.le_refl _, hsp2⟩, hcA, ?_⟩
  intro oc t hQ
  obtain ⟨⟨v, W, hRv, hoc, hP1, hD1⟩, hF⟩ := hQ
  obtain ⟨hv, h', m', n', rfl, hn', hnm', hmm, hm2', hsame, hfit⟩ := (Classical.choose_spec (hR' ⟨(h, m, n, U.heap.size), hn0, hnm, hm2, hz, hf⟩)).2 v W hRv
  refine ⟨by rw [hoc, hv], post (em r).2 t.heap h' m' n' hF hP1 hD1 hn' hnm' hm2' (fun j hj => ?_) hfit hIo hJP, hF.1, fun q h1 h2 => hF.2 q h1 (fun hb => h2 (hcA q hb))⟩
  rw [hsame j (Nat.le_trans hnm' hj)]
  exact hz j (Nat.le_trans hmm hj)
theorem br_T {l : Launch} {ρ : Type} {y' : MethodName} {M : q_M} {av : List Value} {S : q_S} {o : Option ρ} {em : ρ → Option Value × q_S}
    (h : ∀ r, o = some r → (em r).2 = S ∧ ∀ (G' : q_G), j_G G' ad → ∃ R : Option Value → va_W → Prop, j_Ct l G' y' M av [] R ∧ ∀ v W, R v W → v = (em r).1) : q_Ct l (cG D tc x0 y ad) y' M av S o em := by
  intro r hr
  obtain ⟨hS, hR⟩ := h r hr
  have hR' : ∀ sz : Nat, ∃ R : Option Value → va_W → Prop, j_Ct l (bG D tc x0 ad (fun q => sz ≤ q) sz) y' M av [] R ∧ ∀ v W, R v W → v = (em r).1 := fun sz => hR _ (br_jG (fun q hq => hq))
  refine j_imp (ι := Nat) (A := fun sz q => sz ≤ q) (P := fun sz => j_Pc (bG D tc x0 ad (fun q => sz ≤ q) sz) av []) (Q := fun sz => j_Q (bG D tc x0 ad (fun q => sz ≤ q) sz) (Classical.choose (hR' sz))) (fun i => (Classical.choose_spec (hR' i)).1) ?_
  intro a U hU
  obtain ⟨hav, hW, hK, hy, hsp⟩ := hU
  have hcA : ∀ q, U.heap.size ≤ q → cA x0 y q := fun q hq => Or.inr (Nat.le_trans hy hq)
  refine ⟨U.heap.size, ⟨hav, ⟨fun k q hq => by simp at hq, ⟨fun i j p q hi => by simp at hi, fun k q hq => by simp at hq⟩⟩, hK, Nat.le_refl _, cSp_narrow hcA hsp⟩, hcA, ?_⟩
  intro oc t hQ
  obtain ⟨⟨v, W, hRv, hoc, hP1, hD1⟩, hF⟩ := hQ
  have hv := (Classical.choose_spec (hR' U.heap.size)).2 v W hRv
  refine ⟨by rw [hoc, hv], ?_, hF.1, fun q h1 h2 => hF.2 q h1 (fun hb => h2 (hcA q hb))⟩
  rw [hS]
  obtain ⟨hpb, hd, hP, hD, hsb⟩ := hW
  refine ⟨hpb, hd, fun k q hq => (hP k q hq).kept (hF.2 q.1 (hP k q hq).lt (fun h => ?_)), hD, hsb⟩
  exact absurd (hP k q hq).lt (Nat.not_lt.mpr h)
end BR
theorem br_n {n m : Nat} (h1 : n ≤ m) (h2 : m ≤ 200) (h : nI n ≤ 80) : n ≤ 80 := by
  have : nI n ≤ nI 80 := h
  exact (nI_leI (by omega) (by omega)).mp this
theorem br_fu {f : Nat → Int32} {n : Nat} {c : Int32} (hf : ∀ j, fits .byte (.int (f j)) = true) (hc : fits .byte (.int c) = true) : ∀ j, fits .byte (.int (upd f n c j)) = true := by
  intro j
  unfold upd
  split
  · exact hc
  · exact hf j
theorem br_u {f : Nat → Int32} {n j : Nat} {c : Int32} (h : n + 1 ≤ j) : upd f n c j = f j := pk_un (by omega)
section BS
variable {I : q_I} {s : Nat} {c : Int32}
theorem sp1_o {q : Nat} (h1 : q ≠ s) (h2 : q ≠ s + 1) : q_sp1 I s c q = I q := by
  unfold q_sp1 q_ui
  simp only [if_neg h1, if_neg h2]
theorem sp1_b {n : Nat} (hn : I s 0 = nI n) (h : n < 2 ^ 31) : q_sp1 I s c (s + 1) = upd (I (s + 1)) n c.toInt8.toInt32 := by
  unfold q_sp1 q_ui
  simp only [if_neg (show s + 1 ≠ s by omega), if_true, hn, nI_clamp h]
theorem sp1_0 {n : Nat} (hn : I s 0 = nI n) : q_sp1 I s c s 0 = nI (n + 1) := by
  unfold q_sp1 q_ui
  simp only [if_true, hn, nI_1]
  rfl
theorem sp1_1 : q_sp1 I s c s 1 = I s 1 := by
  unfold q_sp1 q_ui
  simp only [if_true, if_neg (show s ≠ s + 1 by omega)]
  rfl
end BS
theorem br_pos {n m : Nat} (h1 : n ≤ m) (h2 : m ≤ 200) : (0 < nI n) ↔ n ≠ 0 := by
  have h := nI_ltI (a := 0) (b := n) (by omega) (by omega)
  rw [nI_0] at h
  rw [h]
  omega
theorem c_SB_length (l : Launch) (D : va_G) (tc : Nat → ClassId) (x0 y : Nat) (ad : Nat → Nat) (I : q_I) (J : q_J) (P : q_P) {s : Nat} (hs : isSB s) : q_Ct l (cG D tc x0 y ad) y_SB_length m_SB_length [q_r (cG D tc x0 y ad) s] (I, J, P) (f_SB_length I s) (fun r : Int32 => (some (.int r), (I, J, P))) := by
  refine br_Ct hs (fun r hr => ⟨rfl, fun _ _ _ => rfl, fun G' hG' h m n hn hnm hm hz hf => ⟨_, jc_SB_length l G' ad hG' (x0 + s) h m n (I (s + 1)) (I s 1), fun v W hv => ⟨?_, h, m, n, hv.2, hn, hnm, Nat.le_refl _, hm, fun _ _ => rfl, hf⟩⟩⟩)
  cases hr
  rw [hv.1, hn]
theorem c_SB_charAt (l : Launch) (D : va_G) (tc : Nat → ClassId) (x0 y : Nat) (ad : Nat → Nat) (I : q_I) (J : q_J) (P : q_P) {s : Nat} (hs : isSB s) (i : Int32) : q_Ct l (cG D tc x0 y ad) y_SB_charAt m_SB_charAt [q_r (cG D tc x0 y ad) s, .int i] (I, J, P) (f_SB_charAt I s i) (fun r : Int32 => (some (.int r), (I, J, P))) := by
  refine br_Ct hs (fun r hr => ⟨rfl, fun _ _ _ => rfl, fun G' hG' h m n hn hnm hm hz hf => ?_⟩)
  unfold f_SB_charAt at hr
  split at hr
  · next hc =>
    obtain ⟨k, hk, rfl⟩ := nI_of (Int32.not_lt.mpr hc.1)
    rw [hn] at hc
    have hkn : k < n := (nI_ltI hk (by omega)).mp hc.2
    rw [nI_clamp hk] at hr
    cases hr
    exact ⟨_, jc_SB_charAt l G' ad hG' (x0 + s) h m n (I (s + 1)) (I s 1) ⟨hnm, hm⟩ hkn, fun v W hv => ⟨hv.1, h, m, n, hv.2, hn, hnm, Nat.le_refl _, hm, fun _ _ => rfl, hf⟩⟩
  · cases hr
theorem c_SB_setLength (l : Launch) (D : va_G) (tc : Nat → ClassId) (x0 y : Nat) (ad : Nat → Nat) (I : q_I) (J : q_J) (P : q_P) {s : Nat} (hs : isSB s) (i : Int32) : q_Ct l (cG D tc x0 y ad) y_SB_setLength m_SB_setLength [q_r (cG D tc x0 y ad) s, .int i] (I, J, P) (f_SB_setLength I s i) (fun r : q_I => (none, (r, J, P))) := by
  refine br_Ct hs (fun r hr => ?_)
  unfold f_SB_setLength at hr
  split at hr
  · next hc =>
    subst hc
    cases hr
    refine ⟨rfl, fun q h1 h2 => ?_, fun G' hG' h m n hn hnm hm hz hf => ⟨_, jc_SB_setLength l G' ad hG' (x0 + s) h m n (I (s + 1)) (I s 1) (by omega) hm, fun v W hv => ⟨hv.1, h, m, 0, ?_, ?_, by omega, Nat.le_refl _, hm, fun j _ => ?_, fun j => ?_⟩⟩⟩
    · show q_ui (if 0 < I s 0 then q_ui I s 1 1 else I) s 0 0 q = I q
      unfold q_ui
      rw [if_neg h1]
      split
      · exact if_neg h1
      · rfl
    · rw [hv.2]
      have e1 : q_ui (if 0 < I s 0 then q_ui I s 1 1 else I) s 0 0 (s + 1) = I (s + 1) := by
        unfold q_ui
        rw [if_neg (by omega)]
        split
        · exact if_neg (by omega)
        · rfl
      have e2 : q_ui (if 0 < I s 0 then q_ui I s 1 1 else I) s 0 0 s 1 = if n = 0 then I s 1 else 1 := by
        rw [hn]
        unfold q_ui
        rw [if_pos rfl]
        by_cases h0 : n = 0
        · rw [if_neg (fun e => (br_pos hnm hm).mp e h0), if_pos h0]
          rfl
        · rw [if_pos ((br_pos hnm hm).mpr h0), if_neg h0, if_pos rfl]
          rfl
      show _ = j_2 G' (x0 + s) h m (q_ui (if 0 < I s 0 then q_ui I s 1 1 else I) s 0 0 (s + 1)) (q_ui (if 0 < I s 0 then q_ui I s 1 1 else I) s 0 0 s 1) 0
      rw [e1, e2]
    · show q_ui (if 0 < I s 0 then q_ui I s 1 1 else I) s 0 0 s 0 = nI 0
      unfold q_ui
      rw [if_pos rfl]
      rfl
    · show q_ui (if 0 < I s 0 then q_ui I s 1 1 else I) s 0 0 (s + 1) j = I (s + 1) j
      unfold q_ui
      rw [if_neg (by omega)]
      split
      · exact congrFun (if_neg (show s + 1 ≠ s by omega)) j
      · rfl
    · have e1 : q_ui (if 0 < I s 0 then q_ui I s 1 1 else I) s 0 0 (s + 1) = I (s + 1) := by
        unfold q_ui
        rw [if_neg (by omega)]
        split
        · exact if_neg (by omega)
        · rfl
      show fits .byte (.int (q_ui (if 0 < I s 0 then q_ui I s 1 1 else I) s 0 0 (s + 1) j)) = true
      rw [e1]
      exact hf j
  · cases hr
theorem c_SB_appC (l : Launch) (D : va_G) (tc : Nat → ClassId) (x0 y : Nat) (ad : Nat → Nat) (I : q_I) (J : q_J) (P : q_P) {s : Nat} (hs : isSB s) (i : Int32) : q_Ct l (cG D tc x0 y ad) y_SB_appC m_SB_appC [q_r (cG D tc x0 y ad) s, .int i] (I, J, P) (f_SB_appC I s i) (fun r : q_I => (some (q_r (cG D tc x0 y ad) s), (r, J, P))) := by
  refine br_Ct hs (fun r hr => ?_)
  unfold f_SB_appC at hr
  split at hr
  · next hc =>
    cases hr
    refine ⟨rfl, fun q h1 h2 => sp1_o h1 h2, fun G' hG' h m n hn hnm hm hz hf => ?_⟩
    have h80 : n ≤ 80 := br_n hnm hm (by rw [← hn]; exact hc.2.2)
    refine ⟨_, jc_SB_appC l G' ad hG' (x0 + s) h m n (I (s + 1)) (I s 1) hc.1.2 (by omega) ⟨hnm, hm⟩ hz hf, fun v W hv => ?_⟩
    obtain ⟨hv1, h', m', hW, hq, hmm, hm2⟩ := hv
    refine ⟨hv1, h', m', n + 1, ?_, sp1_0 hn, hq, hmm, hm2, fun j hj => ?_, fun j => ?_⟩
    · show W = j_2 G' (x0 + s) h' m' (q_sp1 I s i (s + 1)) (q_sp1 I s i s 1) (n + 1)
      rw [sp1_b hn (by omega), sp1_1, hW]
    · show q_sp1 I s i (s + 1) j = I (s + 1) j
      rw [sp1_b hn (by omega), br_u hj]
    · show fits .byte (.int (q_sp1 I s i (s + 1) j)) = true
      rw [sp1_b hn (by omega)]
      exact br_fu hf (pk_fb _) j
  · cases hr
theorem br_2 (I : q_I) (s n : Nat) (c d : Int32) (hn : I s 0 = nI n) (h : n < 200) : (∀ q, q ≠ s → q ≠ s + 1 → q_sp1 (q_sp1 I s c) s d q = I q) ∧ q_sp1 (q_sp1 I s c) s d (s + 1) = upd (upd (I (s + 1)) n c.toInt8.toInt32) (n + 1) d.toInt8.toInt32 ∧ q_sp1 (q_sp1 I s c) s d s 1 = I s 1 ∧ q_sp1 (q_sp1 I s c) s d s 0 = nI (n + 2) :=
  ⟨fun q h1 h2 => by rw [sp1_o h1 h2, sp1_o h1 h2], by rw [sp1_b (sp1_0 hn) (by omega), sp1_b hn (by omega)], by rw [sp1_1, sp1_1], sp1_0 (sp1_0 hn)⟩
theorem c_SB_appS (l : Launch) (D : va_G) (tc : Nat → ClassId) (x0 y : Nat) (ad : Nat → Nat) (I : q_I) (J : q_J) (P : q_P) {s : Nat} (hs : isSB s) {i : Nat} (h0 : 1 ≤ i) (hi : i < 4) : q_Ct l (cG D tc x0 y ad) y_SB_appS m_SB_appS [q_r (cG D tc x0 y ad) s, .ref (ad i)] (I, J, P) (f_SB_appS I s 32 (([[114, 112, 119, 101], [32, 114], [32, 112], [32, 101]] : List (List Int32)).getD i [] |>.getD 1 0)) (fun r : q_I => (some (q_r (cG D tc x0 y ad) s), (r, J, P))) := by
  refine br_Ct hs (fun r hr => ?_)
  unfold f_SB_appS at hr
  split at hr
  · next hc =>
    cases hr
    have hln : ([4, 2, 2, 2] : List Nat).getD i 0 = 2 := by rcases (by omega : i = 1 ∨ i = 2 ∨ i = 3) with rfl | rfl | rfl <;> rfl
    have hby : ∀ f : Nat → Int32, ∀ n : Nat, va_cpy (fun j => (([[114, 112, 119, 101], [32, 114], [32, 112], [32, 101]] : List (List Int32)).getD i []).getD j 0) f 0 n 2 = upd (upd f n (32 : Int32).toInt8.toInt32) (n + 1) ((([[114, 112, 119, 101], [32, 114], [32, 112], [32, 101]] : List (List Int32)).getD i [] |>.getD 1 0)).toInt8.toInt32 := by
      intro f n
      funext j
      unfold va_cpy upd
      by_cases h1 : j = n
      · subst h1
        rw [if_pos (by omega), if_neg (by omega), if_pos rfl]
        show (([[114, 112, 119, 101], [32, 114], [32, 112], [32, 101]] : List (List Int32)).getD i []).getD (0 + (j - j)) 0 = _
        rw [Nat.sub_self]
        rcases (by omega : i = 1 ∨ i = 2 ∨ i = 3) with rfl | rfl | rfl <;> decide
      · by_cases h2 : j = n + 1
        · subst h2
          rw [if_pos (by omega), if_pos rfl]
          show (([[114, 112, 119, 101], [32, 114], [32, 112], [32, 101]] : List (List Int32)).getD i []).getD (0 + (n + 1 - n)) 0 = _
          rw [Nat.add_sub_cancel_left]
          rcases (by omega : i = 1 ∨ i = 2 ∨ i = 3) with rfl | rfl | rfl <;> decide
        · rw [if_neg (by omega), if_neg h2, if_neg h1]
    refine ⟨rfl, fun q h1 h2 => ?_, fun G' hG' h m n hn hnm hm hz hf => ?_⟩
    · show q_sp1 (q_sp1 I s _) s _ q = I q
      rw [sp1_o h1 h2, sp1_o h1 h2]
    have h80 : n ≤ 80 := br_n hnm hm (by rw [← hn]; exact hc.2)
    have hb := br_2 I s n 32 ((([[114, 112, 119, 101], [32, 114], [32, 112], [32, 101]] : List (List Int32)).getD i [] |>.getD 1 0)) hn (by omega)
    refine ⟨_, jc_SB_appS l G' ad hG' (x0 + s) h m n (I (s + 1)) (I s 1) hi (by omega) ⟨hnm, hm⟩ hz hf, fun v W hv => ?_⟩
    obtain ⟨hv1, h', m', hW, hq, hmm, hm2⟩ := hv
    rw [hln] at hW hq
    rw [hby] at hW
    refine ⟨hv1, h', m', n + 2, ?_, hb.2.2.2, hq, hmm, hm2, fun j hj => ?_, fun j => ?_⟩
    · rw [hW]
      show _ = j_2 G' (x0 + s) h' m' (q_sp1 (q_sp1 I s 32) s _ (s + 1)) (q_sp1 (q_sp1 I s 32) s _ s 1) (n + 2)
      rw [hb.2.1, hb.2.2.1]
    · show q_sp1 (q_sp1 I s 32) s _ (s + 1) j = I (s + 1) j
      rw [hb.2.1, br_u (by omega), br_u (by omega)]
    · show fits .byte (.int (q_sp1 (q_sp1 I s 32) s _ (s + 1) j)) = true
      rw [hb.2.1]
      exact br_fu (br_fu hf (pk_fb _)) (pk_fb _) j
  · cases hr
theorem br_dg : ∀ v, v < 100 → 48 + nI v = nI (48 + v) ∧ 48 + nI v / 10 = nI (48 + v / 10) ∧ 48 + (nI v - nI v / 10 * 10) = nI (48 + v % 10) := by decide +kernel
theorem br_uu {f : Nat → Int32} {n : Nat} {c d : Int32} : upd (upd f (n + 1) d) n c = upd (upd f n c) (n + 1) d := by
  funext j
  unfold upd
  by_cases h1 : j = n
  · rw [if_pos h1, if_neg (by omega), if_pos h1]
  · rw [if_neg h1, if_neg h1]
theorem c_SB_appI (l : Launch) (D : va_G) (tc : Nat → ClassId) (x0 y : Nat) (ad : Nat → Nat) (I : q_I) (J : q_J) (P : q_P) {s : Nat} (hs : isSB s) (i : Int32) : q_Ct l (cG D tc x0 y ad) y_SB_appI m_SB_appI [q_r (cG D tc x0 y ad) s, .int i] (I, J, P) (f_SB_appI I s i) (fun r : q_I => (some (q_r (cG D tc x0 y ad) s), (r, J, P))) := by
  refine br_Ct hs (fun r hr => ?_)
  unfold f_SB_appI at hr
  split at hr
  · next hc =>
    cases hr
    obtain ⟨v, hv9, rfl⟩ := nI_of2 (M := 99) (n := 99) rfl (Int32.not_lt.mpr hc.1.1) hc.1.2
    have hdg := br_dg v (by omega)
    by_cases h10 : v < 10
    · have e0 : nI v < 10 := (nI_ltI (b := 10) (by omega) (by omega)).mpr h10
      rw [if_pos e0, hdg.1]
      have hm10 : v % 10 = v := Nat.mod_eq_of_lt h10
      refine ⟨rfl, fun q h1 h2 => sp1_o h1 h2, fun G' hG' h m n hn hnm hm hz hf => ?_⟩
      have h80 : n ≤ 80 := br_n hnm hm (by rw [← hn]; exact hc.2.2)
      refine ⟨_, jc_SB_appI1 l G' ad hG' (x0 + s) h m n (I (s + 1)) (I s 1) (v := v) (by omega) h10 (by omega) ⟨hnm, hm⟩ hz hf, fun v0 W hv => ?_⟩
      obtain ⟨hv1, h', m', hW, hq, hmm, hm2⟩ := hv
      rw [hm10] at hW
      refine ⟨hv1, h', m', n + 1, ?_, sp1_0 hn, hq, hmm, hm2, fun j hj => ?_, fun j => ?_⟩
      · show W = j_2 G' (x0 + s) h' m' (q_sp1 I s (nI (48 + v)) (s + 1)) (q_sp1 I s (nI (48 + v)) s 1) (n + 1)
        rw [sp1_b hn (by omega), sp1_1, hW]
      · show q_sp1 I s (nI (48 + v)) (s + 1) j = I (s + 1) j
        rw [sp1_b hn (by omega), br_u hj]
      · show fits .byte (.int (q_sp1 I s (nI (48 + v)) (s + 1) j)) = true
        rw [sp1_b hn (by omega)]
        exact br_fu hf (pk_fb _) j
    · have e0 : ¬ nI v < 10 := fun e => h10 ((nI_ltI (b := 10) (by omega) (by omega)).mp e)
      rw [if_neg e0, hdg.2.1, hdg.2.2]
      refine ⟨rfl, fun q h1 h2 => ?_, fun G' hG' h m n hn hnm hm hz hf => ?_⟩
      · show q_sp1 (q_sp1 I s _) s _ q = I q
        rw [sp1_o h1 h2, sp1_o h1 h2]
      have h80 : n ≤ 80 := br_n hnm hm (by rw [← hn]; exact hc.2.2)
      have hb := br_2 I s n (nI (48 + v / 10)) (nI (48 + v % 10)) hn (by omega)
      refine ⟨_, jc_SB_appI2 l G' ad hG' (x0 + s) h m n (I (s + 1)) (I s 1) (v := v) (by omega) (by omega) (by omega) ⟨hnm, hm⟩ hz hf, fun v0 W hv => ?_⟩
      obtain ⟨hv1, h', m', hW, hq, hmm, hm2⟩ := hv
      rw [br_uu] at hW
      refine ⟨hv1, h', m', n + 2, ?_, hb.2.2.2, hq, hmm, hm2, fun j hj => ?_, fun j => ?_⟩
      · rw [hW]
        show _ = j_2 G' (x0 + s) h' m' (q_sp1 (q_sp1 I s _) s _ (s + 1)) (q_sp1 (q_sp1 I s _) s _ s 1) (n + 2)
        rw [hb.2.1, hb.2.2.1]
      · show q_sp1 (q_sp1 I s _) s _ (s + 1) j = I (s + 1) j
        rw [hb.2.1, br_u (by omega), br_u (by omega)]
      · show fits .byte (.int (q_sp1 (q_sp1 I s _) s _ (s + 1) j)) = true
        rw [hb.2.1]
        exact br_fu (br_fu hf (pk_fb _)) (pk_fb _) j
  · cases hr
theorem c_JS_length (l : Launch) (D : va_G) (tc : Nat → ClassId) (x0 y : Nat) (ad : Nat → Nat) (I : q_I) (J : q_J) (P : q_P) : q_Ct l (cG D tc x0 y ad) y_JS_length m_JS_length [.ref (ad 0)] (I, J, P) f_JS_length (fun r : Int32 => (some (.int r), (I, J, P))) := by
  refine br_T (fun r hr => ⟨rfl, fun G' hG' => ⟨_, jc_JS_length l G' ad hG' [] (i := 0) (by decide), fun v W hv => ?_⟩⟩)
  cases hr
  rw [hv.1]
  rfl
theorem c_JS_indexOf (l : Launch) (D : va_G) (tc : Nat → ClassId) (x0 y : Nat) (ad : Nat → Nat) (I : q_I) (J : q_J) (P : q_P) (c : Int32) : q_Ct l (cG D tc x0 y ad) y_JS_indexOf m_JS_indexOf [.ref (ad 0), .int c] (I, J, P) (f_JS_indexOf c) (fun r : Int32 => (some (.int r), (I, J, P))) := by
  refine br_T (fun r hr => ⟨rfl, fun G' hG' => ⟨_, jc_JS_indexOf l G' ad hG' [] c, fun v W hv => ?_⟩⟩)
  have hp : f_JS_indexOf c = some (jx_pos c) := by
    unfold f_JS_indexOf jx_pos
    split
    · rfl
    · split
      · rfl
      · split
        · rfl
        · split <;> rfl
  rw [hp] at hr
  cases hr
  exact hv.1
