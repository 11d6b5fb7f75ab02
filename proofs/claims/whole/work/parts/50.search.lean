/-! sets of edits as numbers; the search by itself -/
abbrev w_in (s i : Nat) : Prop := s.testBit i = true
def w_nd (a b : Nat) : Nat := a ^^^ (a &&& b)
theorem w_nd_t (a b i : Nat) : (w_nd a b).testBit i = (a.testBit i && !b.testBit i) := by
  unfold w_nd
  rw [Nat.testBit_xor, Nat.testBit_and]
  cases a.testBit i <;> cases b.testBit i <;> rfl
theorem w_in_nd {a b i : Nat} : w_in (w_nd a b) i ↔ w_in a i ∧ ¬ w_in b i := by
  unfold w_in
  rw [w_nd_t]
  cases a.testBit i <;> cases b.testBit i <;> simp
theorem w_in_or {a b i : Nat} : w_in (a ||| b) i ↔ w_in a i ∨ w_in b i := by
  unfold w_in
  rw [Nat.testBit_or]
  cases a.testBit i <;> cases b.testBit i <;> simp
theorem w_in_and {a b i : Nat} : w_in (a &&& b) i ↔ w_in a i ∧ w_in b i := by
  unfold w_in
  rw [Nat.testBit_and]
  cases a.testBit i <;> cases b.testBit i <;> simp
theorem w_in_2 {k i : Nat} : w_in (2 ^ k) i ↔ i = k := by
  unfold w_in
  rw [Nat.testBit_two_pow]
  simp [eq_comm]
theorem w_in_0 {i : Nat} : ¬ w_in 0 i := by
  unfold w_in
  simp
theorem w_ext {a b : Nat} (h : ∀ i, w_in a i ↔ w_in b i) : a = b := by
  apply Nat.eq_of_testBit_eq
  intro i
  have := h i
  unfold w_in at this
  cases ha : a.testBit i <;> cases hb : b.testBit i <;> simp_all
theorem w_zero {a : Nat} : a = 0 ↔ ∀ i, ¬ w_in a i :=
  ⟨fun h i => by rw [h]; exact w_in_0, fun h => w_ext (fun i => ⟨fun q => absurd q (h i), fun q => absurd q w_in_0⟩)⟩
theorem w_lt {a n i : Nat} (h : a < 2 ^ n) (hi : w_in a i) : i < n := by
  refine Nat.lt_of_not_le (fun hn => ?_)
  have := Nat.testBit_lt_two_pow (Nat.lt_of_lt_of_le h (Nat.pow_le_pow_right (by decide) hn))
  unfold w_in at hi
  rw [this] at hi
  cases hi
theorem w_bound {a n : Nat} (h : ∀ i, w_in a i → i < n) : a < 2 ^ n := by
  apply Nat.lt_pow_two_of_testBit
  intro i hi
  cases hb : a.testBit i with
  | false => rfl
  | true => have := h i hb; omega
def w_sub (a b : Nat) : Prop := ∀ i, w_in a i → w_in b i
theorem w_nd0 {a b : Nat} : w_nd a b = 0 ↔ w_sub a b := by
  rw [w_zero]
  constructor
  · intro h i hi
    have := h i
    rw [w_in_nd] at this
    exact Classical.byContradiction (fun hn => this ⟨hi, hn⟩)
  · intro h i hi
    rw [w_in_nd] at hi
    exact hi.2 (h i hi.1)
theorem w_sub_lt {a b n : Nat} (h : w_sub a b) (hb : b < 2 ^ n) : a < 2 ^ n := w_bound (fun i hi => w_lt hb (h i hi))
def w_lex (s t : Nat) : Prop := ∃ k, w_in s k ∧ ¬ w_in t k ∧ ∀ j, j < k → (w_in s j ↔ w_in t j)
def w_bw (w : Nat → Nat) (b : Option Nat) : Int := match b with
  | none => -1
  | some s => (w s : Int)
def w_adm (K Nd : Nat → Nat → Bool) (val : Nat → Prop) (s : Nat) : Prop := (∀ i j, w_in s i → w_in s j → K i j = false) ∧ (∀ i n, w_in s i → Nd i n = true → w_in s n) ∧ val s
def w_srch (req : Nat) (w : Nat → Nat) (cl ne : Nat → Nat) (fit : Nat → Nat → Bool) (low : Nat → Nat) : Nat → Option Nat → Nat → Nat → Option Nat
  | 0, b, _, _ => b
  | n + 1, b, ch, op => if w_nd req (ch ||| op) ≠ 0 ∨ ¬ w_bw w b < (w (ch ||| op) : Int) then b else if fit ch op = false then b else if op = 0 then some ch else w_srch req w cl ne fit low n (w_srch req w cl ne fit low n b (ch ||| 2 ^ low op) (w_nd (w_nd op (2 ^ low op)) (cl (low op)))) ch (w_nd (w_nd op (2 ^ low op)) (ne (low op)))
def w_inv (U : Nat) (K Nd : Nat → Nat → Bool) (ch op : Nat) : Prop := w_sub (ch ||| op) U ∧ (∀ i j, w_in ch i → w_in op j → i < j) ∧ (∀ i j, w_in ch i → w_in ch j → K i j = false) ∧ (∀ i j, w_in ch i → w_in op j → K i j = false) ∧ ∀ i n, w_in ch i ∨ w_in op i → Nd i n = true → w_in ch n ∨ w_in op n
/-- what the search must know of the edits -/
def w_hyp (U req : Nat) (w : Nat → Nat) (K Nd : Nat → Nat → Bool) (cl ne : Nat → Nat) (fit : Nat → Nat → Bool) (val : Nat → Prop) (low : Nat → Nat) : Prop :=
  (∀ i j, K i j = K j i) ∧ (∀ i, K i i = false) ∧ (∀ i j, w_in U i → w_in U j → (cl i).testBit j = K i j) ∧ (∀ i j, w_in U i → w_in U j → (ne i).testBit j = Nd j i) ∧
  (∀ i n, w_in U i → Nd i n = true → n < i) ∧ (∀ i n j, w_in U i → Nd i n = true → w_in U j → K n j = false) ∧ (∀ i n m, w_in U i → Nd i n = true → Nd n m = false) ∧
  (∀ s t, w_sub s t → w_sub t U → w s ≤ w t) ∧ (∀ ch op s, w_adm K Nd val s → w_sub ch s → w_sub s (ch ||| op) → w_sub (ch ||| op) U → fit ch op = true) ∧
  (∀ ch, w_sub ch U → w_adm K Nd (fun _ => True) ch → fit ch 0 = true → val ch) ∧ (∀ op, op ≠ 0 → op < 4096 → w_in op (low op) ∧ ∀ j, w_in op j → low op ≤ j) ∧ U < 4096
def w_post (req : Nat) (w : Nat → Nat) (K Nd : Nat → Nat → Bool) (val : Nat → Prop) (b b' : Option Nat) (ch op : Nat) : Prop :=
  (b' = b ∨ ∃ s, b' = some s ∧ w_adm K Nd val s ∧ w_sub req s ∧ w_sub ch s ∧ w_sub s (ch ||| op) ∧ w_bw w b < (w s : Int)) ∧
  ∀ t, w_adm K Nd val t → w_sub req t → w_sub ch t → w_sub t (ch ||| op) → ∃ s, b' = some s ∧ (w t < w s ∨ (w t = w s ∧ (b' = b ∨ s = t ∨ w_lex s t)))
theorem w_srch_ok {U req : Nat} {w : Nat → Nat} {K Nd : Nat → Nat → Bool} {cl ne : Nat → Nat} {fit : Nat → Nat → Bool} {val : Nat → Prop} {low : Nat → Nat} (h : w_hyp U req w K Nd cl ne fit val low) :
    ∀ (n : Nat) (b : Option Nat) (ch op : Nat), 1 ≤ n → (∀ i, w_in op i → 12 < i + n) → w_inv U K Nd ch op → w_post req w K Nd val b (w_srch req w cl ne fit low n b ch op) ch op := by
  obtain ⟨hK, hKi, hcl, hne, hlt, hnd, hnd0, hw, hfit, hval, hlow, hU⟩ := h
  intro n
  induction n with
  | zero => intro b ch op h1; omega
  | succ n ih =>
    intro b ch op _ hfu hinv
    obtain ⟨hsub, hord, hcc, hco, hneed⟩ := hinv
    show w_post req w K Nd val b (if w_nd req (ch ||| op) ≠ 0 ∨ ¬ w_bw w b < (w (ch ||| op) : Int) then b else if fit ch op = false then b else if op = 0 then some ch else w_srch req w cl ne fit low n (w_srch req w cl ne fit low n b (ch ||| 2 ^ low op) (w_nd (w_nd op (2 ^ low op)) (cl (low op)))) ch (w_nd (w_nd op (2 ^ low op)) (ne (low op)))) ch op
    split
    · next hp =>
      refine ⟨Or.inl rfl, fun t ht hr hc hs => ?_⟩
      rcases hp with hp | hp
      · exact absurd (w_nd0.mpr (fun i hi => hs i (hr i hi))) hp
      · have hwt := hw t (ch ||| op) hs hsub
        cases b with
        | none => exact absurd (show (-1 : Int) < (w (ch ||| op) : Int) by omega) hp
        | some s =>
          have hp' : ¬ (w s : Int) < (w (ch ||| op) : Int) := hp
          refine ⟨s, rfl, ?_⟩
          by_cases he : w t = w s
          · exact Or.inr ⟨he, Or.inl rfl⟩
          · exact Or.inl (by omega)
    · next hp =>
      have hp1 : w_sub req (ch ||| op) := w_nd0.mp (Classical.byContradiction (fun q => hp (Or.inl q)))
      have hp2 : w_bw w b < (w (ch ||| op) : Int) := Classical.byContradiction (fun q => hp (Or.inr q))
      split
      · next hf =>
        refine ⟨Or.inl rfl, fun t ht hr hc hs => ?_⟩
        rw [hfit ch op t ht hc hs hsub] at hf
        cases hf
      · next hf =>
        split
        · next h0 =>
          subst h0
          rw [Nat.or_zero] at hp1 hp2 hsub
          have hadm0 : w_adm K Nd (fun _ => True) ch := ⟨hcc, fun i m hi hm => (hneed i m (Or.inl hi) hm).elim (fun q => q) (fun q => absurd q w_in_0), trivial⟩
          have hadm : w_adm K Nd val ch := ⟨hadm0.1, hadm0.2.1, hval ch hsub hadm0 (by cases hq : fit ch 0 with
            | true => rfl
            | false => exact absurd hq hf)⟩
          refine ⟨Or.inr ⟨ch, rfl, hadm, hp1, fun _ q => q, fun _ q => w_in_or.mpr (Or.inl q), hp2⟩, fun t ht hr hc hs => ⟨ch, rfl, Or.inr ?_⟩⟩
          rw [Nat.or_zero] at hs
          have : ch = t := w_ext (fun i => ⟨hc i, hs i⟩)
          rw [this]
          exact ⟨rfl, Or.inr (Or.inl rfl)⟩
        · next h0 =>
          have hop : w_sub op U := fun i hi => hsub i (w_in_or.mpr (Or.inr hi))
          have hch : w_sub ch U := fun i hi => hsub i (w_in_or.mpr (Or.inl hi))
          obtain ⟨hl1, hl2⟩ := hlow op h0 (w_sub_lt (n := 12) hop hU)
          generalize low op = i at hl1 hl2 ⊢
          have hi12 : i < 12 := w_lt (n := 12) hU (hop i hl1)
          have hn1 : 1 ≤ n := by have := hfu i hl1; omega
          have e1 : ∀ j, w_in (w_nd (w_nd op (2 ^ i)) (cl i)) j ↔ (w_in op j ∧ j ≠ i) ∧ ¬ w_in (cl i) j := fun j => by rw [w_in_nd, w_in_nd, w_in_2]
          have e2 : ∀ j, w_in (w_nd (w_nd op (2 ^ i)) (ne i)) j ↔ (w_in op j ∧ j ≠ i) ∧ ¬ w_in (ne i) j := fun j => by rw [w_in_nd, w_in_nd, w_in_2]
          generalize w_nd (w_nd op (2 ^ i)) (cl i) = op1 at e1 ⊢
          generalize w_nd (w_nd op (2 ^ i)) (ne i) = op2 at e2 ⊢
          have ec : ∀ j, w_in (ch ||| 2 ^ i) j ↔ w_in ch j ∨ j = i := fun j => by rw [w_in_or, w_in_2]
          generalize ch ||| 2 ^ i = ch1 at ec ⊢
          have hic : ¬ w_in ch i := fun q => Nat.lt_irrefl i (hord i i q hl1)
          have inv1 : w_inv U K Nd ch1 op1 := by
            refine ⟨?_, ?_, ?_, ?_, ?_⟩
            · intro j hj
              rcases w_in_or.mp hj with hj | hj
              · rcases (ec j).mp hj with hj | rfl
                · exact hch j hj
                · exact hop _ hl1
              · exact hop j ((e1 j).mp hj).1.1
            · intro a j ha hj
              have hj' := (e1 j).mp hj
              rcases (ec a).mp ha with ha | rfl
              · exact hord a j ha hj'.1.1
              · have := hl2 j hj'.1.1
                omega
            · intro a c ha hc
              rcases (ec a).mp ha with ha | rfl <;> rcases (ec c).mp hc with hc | rfl
              · exact hcc a c ha hc
              · exact hco _ _ ha hl1
              · rw [hK]; exact hco _ _ hc hl1
              · exact hKi _
            · intro a j ha hj
              have hj' := (e1 j).mp hj
              rcases (ec a).mp ha with ha | rfl
              · exact hco a j ha hj'.1.1
              · have := hcl a j (hop a hl1) (hop j hj'.1.1)
                rw [← this]
                cases hq : (cl a).testBit j with
                | false => rfl
                | true => exact absurd hq hj'.2
            · intro e m he hm
              have heo : w_in ch e ∨ w_in op e := by
                rcases he with he | he
                · rcases (ec e).mp he with he | rfl
                  · exact Or.inl he
                  · exact Or.inr hl1
                · exact Or.inr ((e1 e).mp he).1.1
              have heU : w_in U e := heo.elim (hch e) (hop e)
              rcases hneed e m heo hm with h1 | h1
              · exact Or.inl ((ec m).mpr (Or.inl h1))
              · by_cases hmi : m = i
                · exact Or.inl ((ec m).mpr (Or.inr hmi))
                · refine Or.inr ((e1 m).mpr ⟨⟨h1, hmi⟩, fun q => ?_⟩)
                  have q1 := hcl i m (hop i hl1) (hop m h1)
                  have q2 := hnd e m i heU hm (hop i hl1)
                  rw [hK] at q2
                  rw [q2] at q1
                  unfold w_in at q
                  rw [q1] at q
                  cases q
          have inv2 : w_inv U K Nd ch op2 := by
            refine ⟨?_, ?_, hcc, ?_, ?_⟩
            · intro j hj
              rcases w_in_or.mp hj with hj | hj
              · exact hch j hj
              · exact hop j ((e2 j).mp hj).1.1
            · intro a j ha hj
              exact hord a j ha ((e2 j).mp hj).1.1
            · intro a j ha hj
              exact hco a j ha ((e2 j).mp hj).1.1
            · intro e m he hm
              have heo : w_in ch e ∨ w_in op e := by
                rcases he with he | he
                · exact Or.inl he
                · exact Or.inr ((e2 e).mp he).1.1
              have heU : w_in U e := heo.elim (hch e) (hop e)
              rcases hneed e m heo hm with h1 | h1
              · exact Or.inl h1
              · refine Or.inr ((e2 m).mpr ⟨⟨h1, fun hmi => ?_⟩, fun q => ?_⟩)
                · subst hmi
                  rcases he with he | he
                  · have q1 := hord e m he hl1
                    have q2 := hlt e m heU hm
                    omega
                  · have q1 := ((e2 e).mp he).2
                    have q2 := hne m e (hop m hl1) heU
                    rw [hm] at q2
                    exact q1 q2
                · have q1 := hne i m (hop i hl1) (hop m h1)
                  rw [hnd0 e m i heU hm] at q1
                  unfold w_in at q
                  rw [q1] at q
                  cases q
          have p1 := ih b ch1 op1 hn1 (fun j hj => by
            have hj' := (e1 j).mp hj
            have := hl2 j hj'.1.1
            have := hfu i hl1
            omega) inv1
          have p2 := ih (w_srch req w cl ne fit low n b ch1 op1) ch op2 hn1 (fun j hj => by
            have hj' := (e2 j).mp hj
            have := hl2 j hj'.1.1
            have := hfu i hl1
            omega) inv2
          generalize w_srch req w cl ne fit low n b ch1 op1 = b1 at p1 p2 ⊢
          generalize w_srch req w cl ne fit low n b1 ch op2 = b2 at p2 ⊢
          have s1 : ∀ s, w_sub ch1 s → w_sub s (ch1 ||| op1) → w_sub ch s ∧ w_sub s (ch ||| op) ∧ w_in s i ∧ ∀ j, j < i → (w_in s j ↔ w_in ch j) := by
            intro s ha hb
            refine ⟨fun j hj => ha j ((ec j).mpr (Or.inl hj)), fun j hj => ?_, ha i ((ec i).mpr (Or.inr rfl)), fun j hj => ⟨fun q => ?_, fun q => ha j ((ec j).mpr (Or.inl q))⟩⟩
            · rcases w_in_or.mp (hb j hj) with q | q
              · rcases (ec j).mp q with q | rfl
                · exact w_in_or.mpr (Or.inl q)
                · exact w_in_or.mpr (Or.inr hl1)
              · exact w_in_or.mpr (Or.inr ((e1 j).mp q).1.1)
            · rcases w_in_or.mp (hb j q) with q | q
              · rcases (ec j).mp q with q | rfl
                · exact q
                · omega
              · have := hl2 j ((e1 j).mp q).1.1
                omega
          have s2 : ∀ s, w_sub ch s → w_sub s (ch ||| op2) → w_sub s (ch ||| op) ∧ ¬ w_in s i ∧ ∀ j, j < i → (w_in s j ↔ w_in ch j) := by
            intro s ha hb
            refine ⟨fun j hj => ?_, fun q => ?_, fun j hj => ⟨fun q => ?_, fun q => ha j q⟩⟩
            · rcases w_in_or.mp (hb j hj) with q | q
              · exact w_in_or.mpr (Or.inl q)
              · exact w_in_or.mpr (Or.inr ((e2 j).mp q).1.1)
            · rcases w_in_or.mp (hb i q) with q | q
              · exact hic q
              · exact ((e2 i).mp q).1.2 rfl
            · rcases w_in_or.mp (hb j q) with q | q
              · exact q
              · have := hl2 j ((e2 j).mp q).1.1
                omega
          obtain ⟨p1a, p1b⟩ := p1
          obtain ⟨p2a, p2b⟩ := p2
          refine ⟨?_, fun t ht hr hc hs => ?_⟩
          · rcases p2a with rfl | ⟨s, rfl, g1, g2, g3, g4, g5⟩
            · rcases p1a with rfl | ⟨s, rfl, g1, g2, g3, g4, g5⟩
              · exact Or.inl rfl
              · exact Or.inr ⟨s, rfl, g1, g2, (s1 s g3 g4).1, (s1 s g3 g4).2.1, g5⟩
            · refine Or.inr ⟨s, rfl, g1, g2, g3, (s2 s g3 g4).1, ?_⟩
              rcases p1a with rfl | ⟨s', rfl, -, -, -, -, g6⟩
              · exact g5
              · have : (w s' : Int) < (w s : Int) := g5
                omega
          · by_cases hti : w_in t i
            · have ta : w_sub ch1 t := fun j hj => by
                rcases (ec j).mp hj with q | rfl
                · exact hc j q
                · exact hti
              have tb : w_sub t (ch1 ||| op1) := fun j hj => by
                rcases w_in_or.mp (hs j hj) with q | q
                · exact w_in_or.mpr (Or.inl ((ec j).mpr (Or.inl q)))
                · by_cases hji : j = i
                  · exact w_in_or.mpr (Or.inl ((ec j).mpr (Or.inr hji)))
                  · refine w_in_or.mpr (Or.inr ((e1 j).mpr ⟨⟨q, hji⟩, fun hq => ?_⟩))
                    have q1 := hcl i j (hop i hl1) (hop j q)
                    rw [ht.1 i j hti hj] at q1
                    unfold w_in at hq
                    rw [q1] at hq
                    cases hq
              obtain ⟨s, rfl, hs1⟩ := p1b t ht hr ta tb
              rcases p2a with rfl | ⟨s', rfl, -, -, -, -, g5⟩
              · exact ⟨s, rfl, hs1⟩
              · have g5' : (w s : Int) < (w s' : Int) := g5
                refine ⟨s', rfl, Or.inl ?_⟩
                rcases hs1 with q | ⟨q, -⟩ <;> omega
            · have tb : w_sub t (ch ||| op2) := fun j hj => by
                rcases w_in_or.mp (hs j hj) with q | q
                · exact w_in_or.mpr (Or.inl q)
                · refine w_in_or.mpr (Or.inr ((e2 j).mpr ⟨⟨q, fun hji => hti (by rw [← hji]; exact hj)⟩, fun hq => ?_⟩))
                  have q1 := hne i j (hop i hl1) (hop j q)
                  unfold w_in at hq
                  rw [hq] at q1
                  exact hti (ht.2.1 j i hj q1.symm)
              obtain ⟨s, rfl, hs1⟩ := p2b t ht hr hc tb
              refine ⟨s, rfl, ?_⟩
              rcases hs1 with q | ⟨q, q2⟩
              · exact Or.inl q
              · refine Or.inr ⟨q, ?_⟩
                rcases q2 with q2 | q2 | q2
                · rcases p1a with q3 | ⟨s', q3, g1, g2, g3, g4, g5⟩
                  · exact Or.inl (q2.trans q3)
                  · have q4 : s = s' := Option.some.inj (q2.trans q3)
                    subst q4
                    refine Or.inr (Or.inr ⟨i, (s1 s g3 g4).2.2.1, hti, fun j hj => ?_⟩)
                    rw [(s1 s g3 g4).2.2.2 j hj, (s2 t hc tb).2.2 j hj]
                · exact Or.inr (Or.inl q2)
                · exact Or.inr (Or.inr q2)
/-- the best set, said in one row: no other comes before it -/
def w_best (req U : Nat) (w : Nat → Nat) (adm : Nat → Prop) (b : Option Nat) : Prop := match b with
  | none => ∀ t, adm t → w_sub req t → ¬ w_sub t U
  | some s => adm s ∧ w_sub req s ∧ w_sub s U ∧ ∀ t, adm t → w_sub req t → w_sub t U → w t < w s ∨ (w t = w s ∧ (s = t ∨ w_lex s t))
theorem w_lex_anti {s t : Nat} (h1 : w_lex s t) (h2 : w_lex t s) : False := by
  obtain ⟨k, a1, a2, a3⟩ := h1
  obtain ⟨m, b1, b2, b3⟩ := h2
  rcases Nat.lt_trichotomy k m with h | h | h
  · exact a2 ((b3 k h).mpr a1)
  · subst h; exact a2 b1
  · exact b2 ((a3 m h).mpr b1)
theorem w_best_u {req U : Nat} {w : Nat → Nat} {adm : Nat → Prop} {a b : Option Nat} (ha : w_best req U w adm a) (hb : w_best req U w adm b) : a = b := by
  cases a with
  | none =>
    cases b with
    | none => rfl
    | some t => exact absurd hb.2.2.1 (ha t hb.1 hb.2.1)
  | some s =>
    cases b with
    | none => exact absurd ha.2.2.1 (hb s ha.1 ha.2.1)
    | some t =>
      have h1 := ha.2.2.2 t hb.1 hb.2.1 hb.2.2.1
      have h2 := hb.2.2.2 s ha.1 ha.2.1 ha.2.2.1
      congr 1
      rcases h1 with h1 | ⟨h1, h3⟩
      · rcases h2 with h2 | ⟨h2, -⟩ <;> omega
      · rcases h2 with h2 | ⟨h2, h4⟩
        · omega
        · rcases h3 with h3 | h3
          · exact h3
          · rcases h4 with h4 | h4
            · exact h4.symm
            · exact (w_lex_anti h3 h4).elim
theorem w_top {U req : Nat} {w : Nat → Nat} {K Nd : Nat → Nat → Bool} {cl ne : Nat → Nat} {fit : Nat → Nat → Bool} {val : Nat → Prop} {low : Nat → Nat} (h : w_hyp U req w K Nd cl ne fit val low) (hneed : ∀ i n, w_in U i → Nd i n = true → w_in U n) (h0 : req = 0 → w_adm K Nd val 0) (hpos : ∀ t, w_sub t U → w t = w 0 → t = 0) : w_best req U w (w_adm K Nd val) (w_srch req w cl ne fit low 14 (if req = 0 then some 0 else none) 0 U) := by
  have hU : U < 2 ^ 12 := h.2.2.2.2.2.2.2.2.2.2.2
  have inv : w_inv U K Nd 0 U := ⟨fun i hi => by rw [Nat.zero_or] at hi; exact hi, fun i j hi => absurd hi w_in_0, fun i j hi => absurd hi w_in_0, fun i j hi => absurd hi w_in_0, fun i n hi hn => Or.inr (hneed i n (hi.elim (fun q => absurd q w_in_0) (fun q => q)) hn)⟩
  have p := w_srch_ok h 14 (if req = 0 then some 0 else none) 0 U (by omega) (fun i _ => by omega) inv
  generalize hb : w_srch req w cl ne fit low 14 (if req = 0 then some 0 else none) 0 U = b at p ⊢
  obtain ⟨pa, pb⟩ := p
  have e : ∀ t, w_sub t U → w_sub 0 t ∧ w_sub t (0 ||| U) := fun t ht => ⟨fun i hi => absurd hi w_in_0, by rw [Nat.zero_or]; exact ht⟩
  by_cases hr : req = 0
  · subst hr
    rw [if_pos rfl] at pa pb
    rcases pa with rfl | ⟨s, rfl, g1, g2, g3, g4, g5⟩
    · refine ⟨h0 rfl, fun i hi => absurd hi w_in_0, fun i hi => absurd hi w_in_0, fun t ht hrt htU => ?_⟩
      obtain ⟨s, hs, h1⟩ := pb t ht hrt (e t htU).1 (e t htU).2
      cases hs
      rcases h1 with h1 | ⟨h1, -⟩
      · exact Or.inl h1
      · exact Or.inr ⟨h1, Or.inl (hpos t htU h1).symm⟩
    · rw [Nat.zero_or] at g4
      refine ⟨g1, g2, g4, fun t ht hrt htU => ?_⟩
      obtain ⟨s', hs, h1⟩ := pb t ht hrt (e t htU).1 (e t htU).2
      cases hs
      rcases h1 with h1 | ⟨h1, h2 | h2⟩
      · exact Or.inl h1
      · have : s = 0 := Option.some.inj h2
        subst this
        have : (w 0 : Int) < (w 0 : Int) := g5
        omega
      · exact Or.inr ⟨h1, h2⟩
  · rw [if_neg hr] at pa pb
    rcases pa with rfl | ⟨s, rfl, g1, g2, g3, g4, g5⟩
    · intro t ht hrt htU
      obtain ⟨s', hs, -⟩ := pb t ht hrt (e t htU).1 (e t htU).2
      cases hs
    · rw [Nat.zero_or] at g4
      refine ⟨g1, g2, g4, fun t ht hrt htU => ?_⟩
      obtain ⟨s', hs, h1⟩ := pb t ht hrt (e t htU).1 (e t htU).2
      cases hs
      rcases h1 with h1 | ⟨h1, h2 | h2⟩
      · exact Or.inl h1
      · cases h2
      · exact Or.inr ⟨h1, h2⟩
