/-! the two states at the start -/
theorem d_Z0 {I : q_I} {P : q_P} {M : q_I} (h1 : ∀ x, x < 4 → I 3 x = 6) (h2 : ∀ o f, 1 ≤ o → o ≤ 50 → o ≠ 3 → I o f = 0) (h3 : ∀ f, f < 2 → I 52 f = 0) (h4 : I 114 0 = 0) (h5 : I 117 0 = 0) (h6 : ∀ x, x < 2 → ∀ j, j < 12 → I (119 + 50 * x + 26 + 2 * j) 6 = 0 ∧ I (119 + 50 * x + 26 + 2 * j) 7 = 0) (hP : ∀ a i, P a i = i) (m1 : ∀ x, x < 4 → M 1 (8 + x) = 6) (m2 : ∀ x, x < 8 ∨ 12 ≤ x → M 1 x = 0) (m3 : ∀ f, f < 2 → M 3 f = 0) (m4 : M 0 4 = 0) (m6 : M 0 6 = 0) : d_Z 0 I P M := by
  have inj : ∀ a n, d_inj P a n := fun a n => ⟨fun i hi => by rw [hP]; exact hi, fun i j _ _ h => by rw [hP, hP] at h; exact h⟩
  have rv : d_rv (fun o _ => if o = 0 then 6 else 0) := ⟨fun x _ => ⟨⟨show 1 ≤ 6 by decide, show 6 ≤ 6 by decide⟩, show 0 ≤ 96 by decide, show 0 ≤ 96 by decide, show 0 ≤ 0 by decide⟩, fun x _ => ⟨show 0 ≤ 96 by decide, show 0 ≤ 96 by decide, show 0 ≤ 0 by decide⟩⟩
  have hv : d_valid (fun o _ => if o = 0 then 6 else 0) 0 (fun _ => 0) (fun _ => 0) [] := d_val0
  refine ⟨⟨0, fun o _ => if o = 0 then 6 else 0, 0, fun _ => 0, fun _ => 0, [], fun _ _ => 0, fun _ => 0, 0, fun _ => 0, ⟨⟨List.Pairwise.nil, fun m hm => absurd hm List.not_mem_nil, Nat.zero_le _, fun i hi => by omega, fun i hi => by omega, fun i j q1 q2 => by omega, fun i hi => by omega, fun i hi => by omega, Nat.zero_le _⟩, hv, fun m hm => absurd hm List.not_mem_nil, fun i hi => by omega, Nat.le_refl _, fun r hr => ⟨Nat.one_pos, Nat.one_pos, d_acc00 hv⟩, rv, Nat.zero_le _, fun o ho => by omega⟩, ⟨⟨fun _ => 0, fun _ => 0, ⟨fun x hx => ⟨h1 x hx, ?_, ?_⟩, fun x hx => ⟨?_, ?_⟩, rv⟩, ⟨?_, Nat.zero_le _, fun x hx => by omega⟩, ⟨?_, Nat.zero_le _, inj _ _, fun k m q => by cases q⟩, fun j hj => ⟨?_, ?_, show 0 < 4096 by decide, show 0 < 4096 by decide⟩, fun j hj => by omega⟩, ?_, ?_, fun r hr => ⟨?_, ?_⟩⟩, ⟨⟨?_, ?_, ⟨?_, Nat.zero_le _⟩, fun x hx => ⟨m1 x hx, ?_, ?_⟩, fun x hx => ⟨?_, ?_⟩, fun o ho => by omega, (fun k m q => (by cases q)), fun i hi => by omega, rv⟩, ?_, fun r hr => ?_⟩⟩, fun x hx => ⟨?_, fun j hj => ⟨0, 0, (h6 x hx j hj).1, (h6 x hx j hj).2, by decide, by decide⟩, inj _ _, fun q => absurd (h3 x hx) q⟩, inj _ _, inj _ _, ⟨0, Nat.zero_le _, h4, m4, fun j hj => by omega⟩, ⟨0, Nat.zero_le _, h5, m6, fun j hj => by omega⟩⟩
  · exact h2 _ x (by omega) (by omega) (by omega)
  · exact h2 _ x (by omega) (by omega) (by omega)
  · exact h2 _ x (by omega) (by omega) (by omega)
  · exact h2 _ x (by omega) (by omega) (by omega)
  · exact h2 _ _ (by omega) (by omega) (by omega)
  · exact h2 _ _ (by omega) (by omega) (by omega)
  · exact h2 _ _ (by omega) (by omega) (by omega)
  · exact h2 _ _ (by omega) (by omega) (by omega)
  · exact h2 _ _ (by omega) (by omega) (by omega)
  · exact h2 _ _ (by omega) (by omega) (by omega)
  · exact h2 _ _ (by omega) (by omega) (by omega)
  · exact h2 _ _ (by omega) (by omega) (by omega)
  · exact m2 0 (by omega)
  · exact m2 2 (by omega)
  · exact m2 3 (by omega)
  · exact m2 _ (by omega)
  · exact m2 _ (by omega)
  · exact m2 _ (by omega)
  · exact m2 _ (by omega)
  · exact m2 1 (by omega)
  · exact m2 _ (by omega)
  · rw [h3 x hx, m3 x hx]
