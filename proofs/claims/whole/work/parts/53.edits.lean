/-! edits; a world's sets of edits -/
theorem d_g3 {k : Nat} (h : k < 3) : ¬ (3 : Int32) ≤ nI k := nI_ge (b := 3) h (by decide)
theorem d_l3 {k : Nat} (h : 3 ≤ k) (hk : k < 2 ^ 31) : (3 : Int32) ≤ nI k := nI_le (a := 3) h hk
theorem d_g4 {k : Nat} (h : k < 4) : ¬ (4 : Int32) ≤ nI k := nI_ge (b := 4) h (by decide)
theorem d_l4 {k : Nat} (h : 4 ≤ k) (hk : k < 2 ^ 31) : (4 : Int32) ≤ nI k := nI_le (a := 4) h hk
theorem d_g6 {k : Nat} (h : k < 6) : ¬ (6 : Int32) ≤ nI k := nI_ge (b := 6) h (by decide)
theorem d_l6 {k : Nat} (h : 6 ≤ k) (hk : k < 2 ^ 31) : (6 : Int32) ≤ nI k := nI_le (a := 6) h hk
theorem d_g10 {k : Nat} (h : k < 10) : ¬ (10 : Int32) ≤ nI k := nI_ge (b := 10) h (by decide)
theorem d_l10 {k : Nat} (h : 10 ≤ k) (hk : k < 2 ^ 31) : (10 : Int32) ≤ nI k := nI_le (a := 10) h hk
theorem d_g12 {k : Nat} (h : k < 12) : ¬ (12 : Int32) ≤ nI k := nI_ge (b := 12) h (by decide)
theorem d_l12 {k : Nat} (h : 12 ≤ k) (hk : k < 2 ^ 31) : (12 : Int32) ≤ nI k := nI_le (a := 12) h hk
theorem d_g96 {k : Nat} (h : k < 96) : ¬ (96 : Int32) ≤ nI k := nI_ge (b := 96) h (by decide)
theorem d_l96 {k : Nat} (h : 96 ≤ k) (hk : k < 2 ^ 31) : (96 : Int32) ≤ nI k := nI_le (a := 96) h hk
def d_new (e : Nat → Nat) : Nat → Nat := fun f => if f = 0 then e 0 else if f < 7 then e (6 + f) else 0
def d_chg (e m : Nat → Nat) : Nat → Nat := fun f => if f = 1 ∧ e 3 = 1 then e 5 else if f = 3 ∧ e 3 = 2 then e 5 else if f = 2 ∧ e 3 = 3 then e 5 else if f = 4 ∧ e 3 = 4 then m 4 ||| 2 ^ e 5 else if f = 4 ∧ e 3 = 5 then w_nd (m 4) (2 ^ e 5) else m f
def d_app (e : Nat → Nat) (L : List (Nat → Nat)) : List (Nat → Nat) := if e 3 = 0 then L ++ [d_new e] else if e 3 = 6 then L.filter (fun m => decide (m 0 ≠ e 4)) else L.map (fun m => if m 0 = e 4 then d_chg e m else m)
/-- the result of a set of edits, up to the k-th one -/
def d_fm (base : List (Nat → Nat)) (E : Nat → Nat → Nat) (s : Nat) : Nat → List (Nat → Nat)
  | 0 => base
  | k + 1 => if s.testBit k then d_app (E k) (d_fm base E s k) else d_fm base E s k
/-- two edits of which the first has the lower number clash -/
def d_cl (E : Nat → Nat → Nat) (i j : Nat) : Prop := E i 4 = E j 4 ∧ (E i 3 = 6 ∨ (¬ w_in (E j 6) i ∧ (E j 3 = 6 ∨ (E i 3 = E j 3 ∧ (E i 3 = 1 ∨ E i 3 = 2 ∨ E i 3 = 3)) ∨ ((E i 3 = 4 ∨ E i 3 = 5) ∧ (E j 3 = 4 ∨ E j 3 = 5) ∧ E i 5 = E j 5))))
/-- the i-th edit is the CREATE that the j-th one needs -/
def d_nn (E : Nat → Nat → Nat) (i j : Nat) : Prop := i < j ∧ E i 3 = 0 ∧ E i 4 = E j 4
def d_wt (E : Nat → Nat → Nat) (s : Nat) : Nat → Nat
  | 0 => 0
  | k + 1 => d_wt E s k + if s.testBit k then E k 2 else 0
def d_eok (e : Nat → Nat) : Prop := e 3 ≤ 6 ∧ (1 ≤ e 2 ∧ e 2 ≤ 9) ∧ e 0 ≤ 100000 ∧ e 4 ≤ 100000 ∧ e 5 ≤ 95 ∧ (e 3 = 2 → e 5 ≤ 3) ∧ (e 3 = 3 → 1 ≤ e 5 ∧ e 5 ≤ 8) ∧ (e 3 = 4 ∨ e 3 = 5 → e 5 ≤ 5) ∧ (e 3 = 0 → e 4 = e 0 ∧ d_mt (d_new e)) ∧ e 1 < 3
def d_wf (base : List (Nat → Nat)) (E : Nat → Nat → Nat) (n : Nat) : Prop :=
  base.Pairwise (fun a b => a 0 < b 0) ∧ (∀ m, m ∈ base → d_mt m) ∧ base.length ≤ 12 ∧ (∀ i, i < n → d_eok (E i)) ∧ (∀ i, i < n → ∀ m, m ∈ base → m 0 < E i 0) ∧ (∀ i j, i < j → j < n → E i 0 < E j 0) ∧
  (∀ i, i < n → E i 3 ≠ 0 → (∃ m, m ∈ base ∧ m 0 = E i 4) ∨ ∃ k, k < i ∧ E k 3 = 0 ∧ E k 0 = E i 4 ∧ w_in (E i 6) k) ∧ (∀ i, i < n → E i 6 < 2 ^ i) ∧ n ≤ 12
def d_ed (I : q_I) (o : Nat) (e : Nat → Nat) : Prop := (∀ f, f < 6 → I o f = nI (e f)) ∧ (e 3 = 0 → d_row (I (o + 1)) (d_new e))
/-- the rows of a world's edits: what stands in them, and for the first n of them, what it means -/
def d_eds (I : q_I) (w n : Nat) (E : Nat → Nat → Nat) (C N : Nat → Nat) : Prop :=
  (∀ j, j < 12 → I (w + 26 + 2 * j) 6 = nI (C j) ∧ I (w + 26 + 2 * j) 7 = nI (N j) ∧ C j < 4096 ∧ N j < 4096) ∧
  ∀ j, j < n → d_ed I (w + 26 + 2 * j) (E j) ∧ (∀ i, w_in (C j) i ↔ i < j ∧ d_cl E i j) ∧ (∀ i, w_in (N j) i ↔ d_nn E i j)
theorem d_acc {acc k c : Nat} {Q : Nat → Prop} (hk : k < 12) (hq : Q k) (h : ∀ j, w_in c j ↔ w_in (acc ||| 2 ^ k) j ∨ (k + 1 ≤ j ∧ j < 12 ∧ Q j)) : ∀ j, w_in c j ↔ w_in acc j ∨ (k ≤ j ∧ j < 12 ∧ Q j) := by
  intro j
  rw [h j, w_in_or, w_in_2]
  constructor
  · rintro ((h1 | rfl) | ⟨h1, h2, h3⟩)
    · exact Or.inl h1
    · exact Or.inr ⟨Nat.le_refl _, hk, hq⟩
    · exact Or.inr ⟨by omega, h2, h3⟩
  · rintro (h1 | ⟨h1, h2, h3⟩)
    · exact Or.inl (Or.inl h1)
    · by_cases e : j = k
      · exact Or.inl (Or.inr e)
      · exact Or.inr ⟨by omega, h2, h3⟩
theorem d_accn {acc k c : Nat} {Q : Nat → Prop} (hq : ¬ Q k) (h : ∀ j, w_in c j ↔ w_in acc j ∨ (k + 1 ≤ j ∧ j < 12 ∧ Q j)) : ∀ j, w_in c j ↔ w_in acc j ∨ (k ≤ j ∧ j < 12 ∧ Q j) := by
  intro j
  rw [h j]
  constructor
  · rintro (h1 | ⟨h1, h2, h3⟩)
    · exact Or.inl h1
    · exact Or.inr ⟨by omega, h2, h3⟩
  · rintro (h1 | ⟨h1, h2, h3⟩)
    · exact Or.inl h1
    · by_cases e : j = k
      · subst e; exact absurd h3 hq
      · exact Or.inr ⟨by omega, h2, h3⟩
theorem d_acc0 {acc c : Nat} {Q : Nat → Prop} (h : c = acc) : ∀ j, w_in c j ↔ w_in acc j ∨ (12 ≤ j ∧ j < 12 ∧ Q j) := by
  intro j
  subst h
  exact ⟨Or.inl, fun q => q.elim (fun q => q) (fun q => by omega)⟩
theorem d_or12 {acc k : Nat} (h : acc < 4096) (hk : k < 12) : acc ||| 2 ^ k < 4096 := Nat.or_lt_two_pow (n := 12) h (dn_2lt hk)
section DW
variable {I : q_I} {w n : Nat} {E : Nat → Nat → Nat} {C N : Nat → Nat}
theorem d_clashL (h : d_eds I w n E C N) {x : Nat} (hx : x < 12) (K : Int32 → Option Int32) : ∀ (d k fu acc : Nat), k + d = 12 → d < fu → acc < 4096 → ∃ c, f_Wo_clashing_L1 I w (nI x) K fu (nI acc) (nI k) = K (nI c) ∧ c < 4096 ∧ ∀ j, w_in c j ↔ w_in acc j ∨ (k ≤ j ∧ j < 12 ∧ w_in (C j) x) := by
  intro d
  induction d with
  | zero =>
    intro k fu acc hk hf ha
    obtain ⟨fu, rfl, -⟩ := d_fuel hf
    have : k = 12 := by omega
    subst this
    refine ⟨acc, ?_, ha, d_acc0 rfl⟩
    unfold f_Wo_clashing_L1
    rw [if_pos (show (12 : Int32) ≤ nI 12 from by decide)]
  | succ d ih =>
    intro k fu acc hk hf ha
    obtain ⟨fu, rfl, hf⟩ := d_fuel hf
    have hk12 : k < 12 := by omega
    have hr := h.1 k hk12
    unfold f_Wo_clashing_L1
    rw [if_neg (d_g12 hk12), d_ix hk12 (by decide), hr.1, dn_has (Nat.lt_trans hr.2.2.1 (by decide)) (by omega), d_b1]
    by_cases hw : w_in (C k) x
    · rw [if_pos hw, if_neg (show ¬ (1 : Int32) = 0 by decide), d_l, dn_pos (by omega), dn_or (by omega) (dn_2lt (by omega)), nI_1]
      obtain ⟨c, e, h1, h2⟩ := ih (k + 1) fu (acc ||| 2 ^ k) (by omega) (by omega) (d_or12 ha hk12)
      exact ⟨c, e, h1, d_acc hk12 hw h2⟩
    · rw [if_neg hw, if_pos rfl, nI_1]
      obtain ⟨c, e, h1, h2⟩ := ih (k + 1) fu acc (by omega) (by omega) ha
      exact ⟨c, e, h1, d_accn hw h2⟩
theorem d_clash (h : d_eds I w n E C N) (hn : n ≤ 12) {x : Nat} (hx : x < n) : ∃ c, f_Wo_clashing I w (nI x) = some (nI c) ∧ c < 4096 ∧ ∀ j, j < n → (w_in c j ↔ (x < j ∧ d_cl E x j) ∨ (j < x ∧ d_cl E j x)) := by
  have hx12 : x < 12 := by omega
  obtain ⟨c, e, h1, h2⟩ := d_clashL h hx12 (fun (x4 : Int32) => if (nI x) < 0 then (some (x4)) else (if (12 : Int32) ≤ (nI x) then (some (x4)) else (q_ix (nI x) 12 (fun j2 => some ((x4 ||| (I ((w + 26) + 2 * j2) 6))))))) 12 0 q_fu 0 (by omega) (d_q (by omega)) (by omega)
  have hr := h.1 x hx12
  refine ⟨c ||| C x, ?_, Nat.or_lt_two_pow (n := 12) h1 hr.2.2.1, fun j hj => ?_⟩
  · unfold f_Wo_clashing
    rw [nI_0] at e
    rw [e, if_neg (nI_pos (by omega)), if_neg (d_g12 hx12), d_ix hx12 (by decide), hr.1, dn_or (by omega) (by omega)]
  · rw [w_in_or, h2 j, (h.2 j hj).2.1 x, (h.2 x hx).2.1 j]
    constructor
    · rintro ((q | ⟨-, -, q⟩) | q)
      · exact absurd q w_in_0
      · exact Or.inl q
      · exact Or.inr q
    · rintro (q | q)
      · exact Or.inl (Or.inr ⟨by omega, by omega, q⟩)
      · exact Or.inr q
theorem d_needL (h : d_eds I w n E C N) {x : Nat} (hx : x < 12) : ∀ (d k fu acc : Nat), k + d = 12 → d < fu → acc < 4096 → ∃ c, f_Wo_needing_L1 I w (nI x) fu (nI acc) (nI k) = some (nI c) ∧ c < 4096 ∧ ∀ j, w_in c j ↔ w_in acc j ∨ (k ≤ j ∧ j < 12 ∧ w_in (N j) x) := by
  intro d
  induction d with
  | zero =>
    intro k fu acc hk hf ha
    obtain ⟨fu, rfl, -⟩ := d_fuel hf
    have : k = 12 := by omega
    subst this
    refine ⟨acc, ?_, ha, d_acc0 rfl⟩
    unfold f_Wo_needing_L1
    rw [if_pos (show (12 : Int32) ≤ nI 12 from by decide)]
  | succ d ih =>
    intro k fu acc hk hf ha
    obtain ⟨fu, rfl, hf⟩ := d_fuel hf
    have hk12 : k < 12 := by omega
    have hr := h.1 k hk12
    unfold f_Wo_needing_L1
    rw [if_neg (d_g12 hk12), d_ix hk12 (by decide), hr.2.1, dn_has (Nat.lt_trans hr.2.2.2 (by decide)) (by omega), d_b1]
    by_cases hw : w_in (N k) x
    · rw [if_pos hw, if_neg (show ¬ (1 : Int32) = 0 by decide), d_l, dn_pos (by omega), dn_or (by omega) (dn_2lt (by omega)), nI_1]
      obtain ⟨c, e, h1, h2⟩ := ih (k + 1) fu (acc ||| 2 ^ k) (by omega) (by omega) (d_or12 ha hk12)
      exact ⟨c, e, h1, d_acc hk12 hw h2⟩
    · rw [if_neg hw, if_pos rfl, nI_1]
      obtain ⟨c, e, h1, h2⟩ := ih (k + 1) fu acc (by omega) (by omega) ha
      exact ⟨c, e, h1, d_accn hw h2⟩
theorem d_need (h : d_eds I w n E C N) (hn : n ≤ 12) {x : Nat} (hx : x < n) : ∃ c, f_Wo_needing I w (nI x) = some (nI c) ∧ c < 4096 ∧ ∀ j, j < n → (w_in c j ↔ d_nn E x j) := by
  obtain ⟨c, e, h1, h2⟩ := d_needL h (show x < 12 by omega) 12 0 q_fu 0 (by omega) (d_q (by omega)) (by omega)
  refine ⟨c, e, h1, fun j hj => ?_⟩
  rw [h2 j, (h.2 j hj).2.2 x]
  exact ⟨fun q => q.elim (fun q => absurd q w_in_0) (fun q => q.2.2), fun q => Or.inr ⟨by omega, by omega, q⟩⟩
theorem d_useL (h : d_eds I w n E C N) {s : Nat} (hs : s < 4096) : ∀ (d k fu acc : Nat), k + d = 12 → d < fu → acc < 4096 → ∃ c, f_Wo_usable_L1 I w (nI s) fu (nI acc) (nI k) = some (nI c) ∧ c < 4096 ∧ ∀ j, w_in c j ↔ w_in acc j ∨ (k ≤ j ∧ j < 12 ∧ (w_in s j ∧ w_sub (N j) s)) := by
  intro d
  induction d with
  | zero =>
    intro k fu acc hk hf ha
    obtain ⟨fu, rfl, -⟩ := d_fuel hf
    have : k = 12 := by omega
    subst this
    refine ⟨acc, ?_, ha, d_acc0 rfl⟩
    unfold f_Wo_usable_L1
    rw [if_pos (show (12 : Int32) ≤ nI 12 from by decide)]
  | succ d ih =>
    intro k fu acc hk hf ha
    obtain ⟨fu, rfl, hf⟩ := d_fuel hf
    have hk12 : k < 12 := by omega
    have hr := h.1 k hk12
    unfold f_Wo_usable_L1
    rw [if_neg (d_g12 hk12), dn_has (by omega) (by omega), d_b1]
    by_cases hw : w_in s k
    · rw [if_pos hw, if_neg (show ¬ (1 : Int32) = 0 by decide), d_ix hk12 (by decide), hr.2.1, dn_nd (by omega) (by omega)]
      by_cases hz : w_nd (N k) s = 0
      · rw [hz, if_pos (show nI 0 = 0 from rfl), d_l, dn_pos (by omega), dn_or (by omega) (dn_2lt (by omega)), nI_1]
        obtain ⟨c, e, h1, h2⟩ := ih (k + 1) fu (acc ||| 2 ^ k) (by omega) (by omega) (d_or12 ha hk12)
        exact ⟨c, e, h1, d_acc (Q := fun j => w_in s j ∧ w_sub (N j) s) hk12 ⟨hw, w_nd0.mp hz⟩ h2⟩
      · have hlt : w_nd (N k) s < 2 ^ 12 := dn_ndlt hr.2.2.2
        rw [if_neg (fun q => hz ((dn_z (by omega)).mp q)), nI_1]
        obtain ⟨c, e, h1, h2⟩ := ih (k + 1) fu acc (by omega) (by omega) ha
        exact ⟨c, e, h1, d_accn (Q := fun j => w_in s j ∧ w_sub (N j) s) (fun q => hz (w_nd0.mpr q.2)) h2⟩
    · rw [if_neg hw, if_pos rfl, nI_1]
      obtain ⟨c, e, h1, h2⟩ := ih (k + 1) fu acc (by omega) (by omega) ha
      exact ⟨c, e, h1, d_accn (Q := fun j => w_in s j ∧ w_sub (N j) s) (fun q => hw q.1) h2⟩
/-- the edits of a set whose CREATE is in it too -/
def d_us (E : Nat → Nat → Nat) (s u : Nat) : Prop := ∀ j, w_in u j ↔ w_in s j ∧ ∀ k, d_nn E k j → w_in s k
theorem d_use (h : d_eds I w n E C N) (hn : n ≤ 12) {s : Nat} (hs : s < 2 ^ n) : ∃ u, f_Wo_usable I w (nI s) = some (nI u) ∧ u < 2 ^ n ∧ d_us E s u := by
  have hs12 : s < 2 ^ 12 := Nat.lt_of_lt_of_le hs (Nat.pow_le_pow_right (by decide) hn)
  obtain ⟨c, e, h1, h2⟩ := d_useL h hs12 12 0 q_fu 0 (by omega) (d_q (by omega)) (by omega)
  have key : d_us E s c := by
    intro j
    rw [h2 j]
    constructor
    · rintro (q | ⟨-, -, q1, q2⟩)
      · exact absurd q w_in_0
      · exact ⟨q1, fun k hk => q2 k (((h.2 j (w_lt hs q1)).2.2 k).mpr hk)⟩
    · rintro ⟨q1, q2⟩
      have hj := w_lt hs q1
      exact Or.inr ⟨by omega, by omega, q1, fun k hk => q2 k (((h.2 j hj).2.2 k).mp hk)⟩
  exact ⟨c, e, w_bound (fun i hi => w_lt hs ((key i).mp hi).1), key⟩
theorem d_hclL (h : d_eds I w n E C N) {s : Nat} (hs : s < 4096) : ∀ (d k fu : Nat), k + d = 12 → d < fu → ∃ v, f_Wo_hasClash_L1 I w (nI s) fu (nI k) = some v ∧ (v = 0 ∨ v = 1) ∧ (v = 0 ↔ ∀ j, k ≤ j → j < 12 → w_in s j → ∀ i, w_in (C j) i → ¬ w_in s i) := by
  intro d
  induction d with
  | zero =>
    intro k fu hk hf
    obtain ⟨fu, rfl, -⟩ := d_fuel hf
    have : k = 12 := by omega
    subst this
    refine ⟨0, ?_, Or.inl rfl, fun _ => fun j h1 h2 => by omega, fun _ => rfl⟩
    unfold f_Wo_hasClash_L1
    rw [if_pos (show (12 : Int32) ≤ nI 12 from by decide)]
  | succ d ih =>
    intro k fu hk hf
    obtain ⟨fu, rfl, hf⟩ := d_fuel hf
    have hk12 : k < 12 := by omega
    have hr := h.1 k hk12
    obtain ⟨v, e, hv, hq⟩ := ih (k + 1) fu (by omega) (by omega)
    have step : (w_in s k → ∀ i, w_in (C k) i → ¬ w_in s i) → ∃ v, f_Wo_hasClash_L1 I w (nI s) fu (nI (k + 1)) = some v ∧ (v = 0 ∨ v = 1) ∧ (v = 0 ↔ ∀ j, k ≤ j → j < 12 → w_in s j → ∀ i, w_in (C j) i → ¬ w_in s i) := by
      intro hz
      refine ⟨v, e, hv, hq.trans ⟨fun q j h1 h2 h3 => ?_, fun q j h1 => q j (by omega)⟩⟩
      by_cases hjk : j = k
      · subst hjk; exact hz h3
      · exact q j (by omega) h2 h3
    unfold f_Wo_hasClash_L1
    rw [if_neg (d_g12 hk12), dn_has (by omega) (by omega), d_b1]
    by_cases hw : w_in s k
    · rw [if_pos hw, if_neg (show ¬ (1 : Int32) = 0 by decide), d_ix hk12 (by decide), hr.1, dn_and (by omega) (by omega)]
      by_cases hz : C k &&& s = 0
      · rw [hz, if_pos (show nI 0 = 0 from rfl), nI_1]
        exact step (fun _ i hi hsi => (w_zero.mp hz) i (w_in_and.mpr ⟨hi, hsi⟩))
      · have hlt : C k &&& s < 2 ^ 12 := Nat.and_lt_two_pow _ hs
        rw [if_neg (fun q => hz ((dn_z (by omega)).mp q))]
        refine ⟨1, rfl, Or.inr rfl, fun q => absurd q (by decide), fun q => absurd ?_ hz⟩
        rw [w_zero]
        intro i hi
        have := w_in_and.mp hi
        exact q k (Nat.le_refl _) hk12 hw i this.1 this.2
    · rw [if_neg hw, if_pos rfl, nI_1]
      exact step (fun q => absurd q hw)
theorem d_hcl (h : d_eds I w n E C N) (hn : n ≤ 12) {s : Nat} (hs : s < 2 ^ n) : ∃ v, f_Wo_hasClash I w (nI s) = some v ∧ (v = 0 ∨ v = 1) ∧ (v = 0 ↔ ∀ i j, w_in s i → w_in s j → i < j → ¬ d_cl E i j) := by
  have hs12 : s < 2 ^ 12 := Nat.lt_of_lt_of_le hs (Nat.pow_le_pow_right (by decide) hn)
  obtain ⟨v, e, hv, hq⟩ := d_hclL h hs12 12 0 q_fu (by omega) (d_q (by omega))
  refine ⟨v, e, hv, hq.trans ⟨fun q i j h1 h2 h3 h4 => ?_, fun q j h1 h2 h3 i h4 h5 => ?_⟩⟩
  · exact q j (by omega) (w_lt hs12 h2) h2 i (((h.2 j (w_lt hs h2)).2.1 i).mpr ⟨h3, h4⟩) h1
  · have := ((h.2 j (w_lt hs h3)).2.1 i).mp h4
    exact q i j h5 h3 this.1 this.2
theorem d_wt_le (hE : ∀ i, i < n → E i 2 ≤ 9) {s : Nat} (hs : s < 2 ^ n) : ∀ k, d_wt E s k ≤ 9 * k := by
  intro k
  induction k with
  | zero => exact Nat.le_refl _
  | succ k ih =>
    unfold d_wt
    split
    · next h =>
      have := hE k (w_lt hs h)
      omega
    · omega
theorem d_weiL (h : d_eds I w n E C N) (hE : ∀ i, i < n → E i 2 ≤ 9) {s : Nat} (hs : s < 2 ^ n) (hs12 : s < 4096) : ∀ (d k fu : Nat), k + d = 12 → d < fu → f_Wo_weigh_L1 I w (nI s) fu (nI (d_wt E s k)) (nI k) = some (nI (d_wt E s 12)) := by
  intro d
  induction d with
  | zero =>
    intro k fu hk hf
    obtain ⟨fu, rfl, -⟩ := d_fuel hf
    have : k = 12 := by omega
    subst this
    unfold f_Wo_weigh_L1
    rw [if_pos (show (12 : Int32) ≤ nI 12 from by decide)]
  | succ d ih =>
    intro k fu hk hf
    obtain ⟨fu, rfl, hf⟩ := d_fuel hf
    have hk12 : k < 12 := by omega
    have := ih (k + 1) fu (by omega) (by omega)
    unfold f_Wo_weigh_L1
    rw [if_neg (d_g12 hk12), dn_has (by omega) (by omega), d_b1]
    unfold d_wt at this
    by_cases hw : w_in s k
    · rw [if_pos hw] at this
      rw [if_pos hw, if_neg (show ¬ (1 : Int32) = 0 by decide), d_ix hk12 (by decide), (h.2 k (w_lt hs hw)).1.1 2 (by omega), d_l, nI_add, nI_1]
      exact this
    · rw [if_neg hw] at this
      rw [if_neg hw, if_pos rfl, nI_1]
      exact this
theorem d_wei (h : d_eds I w n E C N) (hn : n ≤ 12) (hE : ∀ i, i < n → E i 2 ≤ 9) {s : Nat} (hs : s < 2 ^ n) : f_Wo_weigh I w (nI s) = some (nI (d_wt E s 12)) :=
  d_weiL h hE hs (show s < 2 ^ 12 from Nat.lt_of_lt_of_le hs (Nat.pow_le_pow_right (by decide) hn)) 12 0 q_fu (by omega) (d_q (by omega))
/-- the edit of that number -/
def d_fe (E : Nat → Nat → Nat) (x : Int32) : Nat → Nat → Option Nat
  | 0, _ => none
  | d + 1, k => if nI (E k 0) = x then some k else d_fe E x d (k + 1)
theorem d_fe_some {E : Nat → Nat → Nat} {x : Int32} : ∀ {d k i : Nat}, d_fe E x d k = some i → k ≤ i ∧ i < k + d ∧ nI (E i 0) = x := by
  intro d
  induction d with
  | zero => intro k i h; cases h
  | succ d ih =>
    intro k i h
    unfold d_fe at h
    split at h
    · next he => cases h; exact ⟨Nat.le_refl _, by omega, he⟩
    · obtain ⟨h1, h2, h3⟩ := ih h
      exact ⟨by omega, by omega, h3⟩
theorem d_idxL (hsz : I w 3 = nI n) (hn : n ≤ 12) (h : ∀ j, j < n → d_ed I (w + 26 + 2 * j) (E j)) (x : Int32) : ∀ (d k fu : Nat), k + d = n → d < fu → f_Wo_indexOf_L1 I w x fu (nI k) = (match d_fe E x d k with
    | none => some (-4)
    | some i => some (nI i)) := by
  intro d
  induction d with
  | zero =>
    intro k fu hk hf
    obtain ⟨fu, rfl, -⟩ := d_fuel hf
    unfold f_Wo_indexOf_L1
    rw [hsz, if_pos (nI_le (by omega) (by omega))]
    rfl
  | succ d ih =>
    intro k fu hk hf
    obtain ⟨fu, rfl, hf⟩ := d_fuel hf
    have hk12 : k < 12 := by omega
    unfold f_Wo_indexOf_L1
    rw [hsz, if_neg (nI_ge (show k < n by omega) (by omega)), if_neg (d_g12 hk12), d_ix hk12 (by decide), (h k (by omega)).1 0 (by omega)]
    unfold d_fe
    by_cases he : nI (E k 0) = x
    · rw [if_pos he, if_pos he]
    · rw [if_neg he, if_neg he, nI_1]
      exact ih (k + 1) fu (by omega) (by omega)
theorem d_idx (hsz : I w 3 = nI n) (hn : n ≤ 12) (h : ∀ j, j < n → d_ed I (w + 26 + 2 * j) (E j)) (x : Int32) : f_Wo_indexOf I w x = (match d_fe E x n 0 with
    | none => some (-4)
    | some i => some (nI i)) := d_idxL hsz hn h x n 0 q_fu (by omega) (d_q (by omega))
theorem d_eat (hsz : I w 3 = nI n) (hn : n ≤ 12) {k : Nat} (hk : k ≤ n) (hk2 : k < 12) : f_Wo_editAtIndex I w (nI k) = some (some (w + 26 + 2 * k)) := by
  unfold f_Wo_editAtIndex
  rw [if_neg (nI_pos (by omega)), hsz, if_neg (nI_nlt (by omega) (by omega)), if_neg (d_g12 hk2), d_ix hk2 (by decide)]
theorem d_eatn (hsz : I w 3 = nI n) (hn : n ≤ 12) {x : Int32} (hx : ∀ k, k ≤ n → k < 12 → x ≠ nI k) : f_Wo_editAtIndex I w x = some none := by
  unfold f_Wo_editAtIndex
  by_cases h0 : x < 0
  · rw [if_pos h0]
  · obtain ⟨k, hk, rfl⟩ := nI_of h0
    rw [if_neg h0, hsz]
    by_cases h1 : n < k
    · rw [if_pos (nI_lt h1 hk)]
    · rw [if_neg (nI_nlt (by omega) (by omega))]
      by_cases h2 : k < 12
      · exact absurd rfl (hx k (by omega) h2)
      · rw [if_pos (d_l12 (by omega) hk)]
end DW
