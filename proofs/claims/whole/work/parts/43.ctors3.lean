def z_fCRk (tc : Nat → ClassId) (B n : Nat) (f : Nat → Option Nat) (j : Nat) : va_E := if j = 50 then z_qa tc 5 2 f else z_fCR tc B n j
theorem z_fCRk_50 {tc : Nat → ClassId} {B n : Nat} {f : Nat → Option Nat} : z_fCRk tc B n f (n + 50 - n) = z_qa tc 5 2 f := by
  rw [Nat.add_sub_cancel_left]; rfl
theorem z_eqj {G : q_G} {B : Nat} {M : q_M} {X : q_X} {k m pc : Nat} {L : List (Nat × Value)} {st : List Value} {n n' : Nat} {c c2 c' : Nat → va_E} (hc : ∀ j, j < n → z_eqv (c j) (c2 j)) (kk : z_V G B M X k m pc L st n c2 n' c') : z_V G B M X k m pc L st n c n' c' := fun K H locs ls hP hS hl => kk K H locs ls ⟨hP.1, fun j hj => hc j hj _ _ _ _ (hP.2 j hj)⟩ hS hl
def y_CR_init : MethodName := ⟨"CalendarReplicas", "<init>", "()V"⟩
def m_CR_init : q_M := (prog_1_method_1_code, 2, "CalendarReplicas", { frames := 5, cells := 218, slots := 1565, locals := 216 }, (none : Option FieldType))
theorem yv_CR_init : q_Y y_CR_init m_CR_init 0 := ⟨rfl, ⟨by decide, by decide⟩, by decide +kernel, tw_1_27, tw_1_1⟩
set_option maxRecDepth 100000 in
set_option maxHeartbeats 4000000 in
theorem c_CR_init (l : Launch) (D : va_G) (tc : Nat → ClassId) (x0 y : Nat) (ad : Nat → Nat) (B n : Nat) (c : Nat → va_E) {i : Nat} (hi : i < n) (hc : c i = .inr (8, [.null, .null, .null, .null, .null, .null, .null, .null, .null])) : z_Ct l (cG D tc x0 y ad) B y_CR_init m_CR_init [.ref (B + i)] n c (n + 218) (z_ap c i n 218 (z_CR B n) (z_fCR tc B n)) := by
  refine z_Ct_of (by decide) rfl (Nat.le_of_ble_eq_true rfl) rfl rfl (fun X hX => ?_)
  subst hX
  refine z_aload_n 0 0 1 rfl (by decide +kernel) rfl ?_
  refine z_objInit 4 rfl (by decide +kernel) tw_1_28 tw_1_29 tw_1_30 (Nat.le_of_ble_eq_true rfl) (Nat.le_of_ble_eq_true rfl) ?_
  refine z_eqj (c2 := (z_ap c i n 218 (.inr (8, [.null, .null, .null, .null, .null, .null, .null, .null, .null])) (z_fCRk tc B n (fun _ => none)))) (fun j hj => z_eqv_rf ?_) ?_
  · rcases (by omega : j = i ∨ j ≠ i) with hs | hs
    · simp only [va_up, z_ap]; (try simp (disch := omega) only [if_pos, if_neg, if_true]); rw [hs]; exact hc
    · simp only [va_up, z_ap]; (try simp (disch := omega) only [if_pos, if_neg, if_true])
  refine z_aload_n 0 0 5 rfl (by decide +kernel) rfl ?_
  refine z_new [.null, .null, .null, .int 0, .int 0, .null, .null] 8 rfl (by decide +kernel) (cC_Wo D tc x0 y ad) tw_1_31 tw_1_32 tw_1_2 (fun j hj => by rcases (show j = 0 ∨ j = 1 ∨ j = 2 ∨ j = 3 ∨ j = 4 ∨ j = 5 ∨ j = 6 by omega) with rfl | rfl | rfl | rfl | rfl | rfl | rfl <;> rfl) (Nat.le_of_ble_eq_true rfl) (Nat.le_of_ble_eq_true rfl) ?_
  refine z_dup 9 rfl (by decide +kernel) rfl ?_
  refine z_callI 12 rfl (av := []) (st := [.ref (B + n), .ref (B + i)]) (c_Wo_init X.1 D tc x0 y ad B (n + 1) _ (i := n) (by omega) (by simp only [va_up, z_ap]; (try simp (disch := omega) only [if_pos, if_neg, if_true]); (try first | rfl | (simp; done)))) yv_Wo_init rfl rfl tw_1_33 tw_1_34 rfl (Nat.le_of_ble_eq_true rfl) (by decide +kernel) ⟨(Nat.le_of_ble_eq_true rfl), (Nat.le_of_ble_eq_true rfl)⟩ ⟨(Nat.le_of_ble_eq_true rfl), (Nat.le_of_ble_eq_true rfl)⟩ rfl rfl ?_
  refine z_putF (i := i) (f := 0) (fs := [.null, .null, .null, .null, .null, .null, .null, .null, .null]) 15 rfl (by decide +kernel) (cC_CR D tc x0 y ad) (by omega) (by simp only [va_up, z_ap]; (try simp (disch := omega) only [if_pos, if_neg, if_true]); (try first | rfl | assumption)) (by decide) (by simp) rfl rfl rfl rfl tw_2_102 ?_
  refine z_eqj (c2 := (z_ap c i n 218 (.inr (8, [.ref (B + n), .null, .null, .null, .null, .null, .null, .null, .null])) (z_fCRk tc B n (fun _ => none)))) (fun j hj => z_eqv_rf ?_) ?_
  · rcases (by omega : j = i ∨ (j ≠ i ∧ j < n) ∨ (j ≠ i ∧ j = n) ∨ (j ≠ i ∧ n < j ∧ j < n + 50)) with hs | hs | hs | hs
    · simp only [va_up, z_ap]
      (try simp (disch := omega) only [if_pos, if_neg, if_true])
      try rfl
    · simp only [va_up, z_ap]
      (try simp (disch := omega) only [if_pos, if_neg, if_true])
      try rfl
    · simp only [va_up, z_ap]
      (try simp (disch := omega) only [if_pos, if_neg, if_true])
      (try simp only [z_fCRk, z_fCR])
      (try simp (disch := omega) only [if_pos, if_neg, if_true])
      (try (first | rfl | exact congrArg _ (by omega)))
    · simp only [va_up, z_ap]
      (try simp (disch := omega) only [if_pos, if_neg, if_true])
      (try simp only [z_fCRk, z_fCR])
      (try simp (disch := omega) only [if_pos, if_neg, if_true])
      (try (first | rfl | exact congrArg _ (by omega)))
  refine z_aload_n 0 0 16 rfl (by decide +kernel) rfl ?_
  refine z_iconst 2 (x := 2) 17 rfl (by decide +kernel) rfl ?_
  refine z_newq (t := 5) (N := 2) 20 rfl (by decide +kernel) rfl tw_1_31 (fun U h => h.2.2.2.1) (by decide) rfl (by decide) (Nat.le_of_ble_eq_true rfl) (Nat.le_of_ble_eq_true rfl) ?_
  refine z_putF (i := i) (f := 1) (fs := [.ref (B + n), .null, .null, .null, .null, .null, .null, .null, .null]) 23 rfl (by decide +kernel) (cC_CR D tc x0 y ad) (by omega) (by simp only [va_up, z_ap]; (try simp (disch := omega) only [if_pos, if_neg, if_true]); (try first | rfl | assumption)) (by decide) (by simp) rfl rfl rfl rfl tw_2_103 ?_
  refine z_eqj (c2 := (z_ap c i n 218 (.inr (8, [.ref (B + n), .ref (B + (n + 50)), .null, .null, .null, .null, .null, .null, .null])) (z_fCRk tc B n (fun _ => none)))) (fun j hj => z_eqv_rf ?_) ?_
  · rcases (by omega : j = i ∨ (j ≠ i ∧ j < n) ∨ (j ≠ i ∧ n ≤ j ∧ j < n + 50) ∨ (j ≠ i ∧ j = n + 50)) with hs | hs | hs | hs
    · simp only [va_up, z_ap]
      (try simp (disch := omega) only [if_pos, if_neg, if_true])
      try rfl
    · simp only [va_up, z_ap]
      (try simp (disch := omega) only [if_pos, if_neg, if_true])
      try rfl
    · simp only [va_up, z_ap]
      (try simp (disch := omega) only [if_pos, if_neg, if_true])
      try rfl
    · simp only [va_up, z_ap]
      (try simp (disch := omega) only [if_pos, if_neg, if_true])
      (try simp only [z_fCRk, z_fCR])
      (try simp (disch := omega) only [if_pos, if_neg, if_true])
      (try (first | rfl | exact congrArg _ (by omega)))
  refine z_aload_n 0 0 24 rfl (by decide +kernel) rfl ?_
  refine z_iconst 2 (x := 2) 25 rfl (by decide +kernel) rfl ?_
  refine z_newa (atype := .boolean) (t := 1) (N := 2) (2, .inl (fun _ => 0)) 27 rfl (by decide +kernel) rfl (fun _ h => by cases h) tw_2_17 (fun _ => rfl) (by decide) rfl (by decide) (Nat.le_of_ble_eq_true rfl) (Nat.le_of_ble_eq_true rfl) ?_
  refine z_putF (i := i) (f := 2) (fs := [.ref (B + n), .ref (B + (n + 50)), .null, .null, .null, .null, .null, .null, .null]) 30 rfl (by decide +kernel) (cC_CR D tc x0 y ad) (by omega) (by simp only [va_up, z_ap]; (try simp (disch := omega) only [if_pos, if_neg, if_true]); (try first | rfl | assumption)) (by decide) (by simp) rfl rfl rfl rfl tw_2_104 ?_
  refine z_eqj (c2 := (z_ap c i n 218 (.inr (8, [.ref (B + n), .ref (B + (n + 50)), .ref (B + (n + 51)), .null, .null, .null, .null, .null, .null])) (z_fCRk tc B n (fun _ => none)))) (fun j hj => z_eqv_rf ?_) ?_
  · rcases (by omega : j = i ∨ (j ≠ i ∧ j < n) ∨ (j ≠ i ∧ n ≤ j ∧ j < n + 51) ∨ (j ≠ i ∧ j = n + 51)) with hs | hs | hs | hs
    · simp only [va_up, z_ap]
      (try simp (disch := omega) only [if_pos, if_neg, if_true])
      try rfl
    · simp only [va_up, z_ap]
      (try simp (disch := omega) only [if_pos, if_neg, if_true])
      try rfl
    · simp only [va_up, z_ap]
      (try simp (disch := omega) only [if_pos, if_neg, if_true])
      try rfl
    · simp only [va_up, z_ap]
      (try simp (disch := omega) only [if_pos, if_neg, if_true])
      (try simp only [z_fCRk, z_fCR])
      (try simp (disch := omega) only [if_pos, if_neg, if_true])
      (try (first | rfl | exact congrArg _ (by omega)))
  refine z_aload_n 0 0 31 rfl (by decide +kernel) rfl ?_
  refine z_new [.null, .null, .int 0, .int 0, .int 0] 34 rfl (by decide +kernel) (cC_Mg D tc x0 y ad) tw_1_236 tw_1_237 tw_1_8 (fun j hj => by rcases (show j = 0 ∨ j = 1 ∨ j = 2 ∨ j = 3 ∨ j = 4 by omega) with rfl | rfl | rfl | rfl | rfl <;> rfl) (Nat.le_of_ble_eq_true rfl) (Nat.le_of_ble_eq_true rfl) ?_
  refine z_dup 35 rfl (by decide +kernel) rfl ?_
  refine z_callIN 38 rfl (av := []) (st := [.ref (B + (n + 52)), .ref (B + i)]) (c_Mg_init X.1 D tc x0 y ad B (n + 53) _ (i := n + 52) (by omega) (by simp only [va_up, z_ap]; (try simp (disch := omega) only [if_pos, if_neg, if_true]); (try first | rfl | (simp; done)))) yv_Mg_init rfl rfl tw_1_238 tw_1_239 rfl (Nat.le_of_ble_eq_true rfl) (by decide +kernel) ⟨(Nat.le_of_ble_eq_true rfl), (Nat.le_of_ble_eq_true rfl)⟩ ⟨(Nat.le_of_ble_eq_true rfl), (Nat.le_of_ble_eq_true rfl)⟩ rfl rfl ?_
  refine z_putF (i := i) (f := 3) (fs := [.ref (B + n), .ref (B + (n + 50)), .ref (B + (n + 51)), .null, .null, .null, .null, .null, .null]) 41 rfl (by decide +kernel) (cC_CR D tc x0 y ad) (by omega) (by simp only [va_up, z_ap]; (try simp (disch := omega) only [if_pos, if_neg, if_true]); (try first | rfl | assumption)) (by decide) (by simp) rfl rfl rfl rfl tw_2_105 ?_
  refine z_eqj (c2 := (z_ap c i n 218 (.inr (8, [.ref (B + n), .ref (B + (n + 50)), .ref (B + (n + 51)), .ref (B + (n + 52)), .null, .null, .null, .null, .null])) (z_fCRk tc B n (fun _ => none)))) (fun j hj => z_eqv_rf ?_) ?_
  · rcases (by omega : j = i ∨ (j ≠ i ∧ j < n) ∨ (j ≠ i ∧ n ≤ j ∧ j < n + 52) ∨ (j ≠ i ∧ j = n + 52) ∨ (j ≠ i ∧ n + 52 < j ∧ j < n + 82)) with hs | hs | hs | hs | hs
    · simp only [va_up, z_ap]
      (try simp (disch := omega) only [if_pos, if_neg, if_true])
      try rfl
    · simp only [va_up, z_ap]
      (try simp (disch := omega) only [if_pos, if_neg, if_true])
      try rfl
    · simp only [va_up, z_ap]
      (try simp (disch := omega) only [if_pos, if_neg, if_true])
      try rfl
    · simp only [va_up, z_ap]
      (try simp (disch := omega) only [if_pos, if_neg, if_true])
      (try simp only [z_fCRk, z_fCR])
      (try simp (disch := omega) only [if_pos, if_neg, if_true])
      (try (first | rfl | exact congrArg _ (by omega)))
    · simp only [va_up, z_ap]
      (try simp (disch := omega) only [if_pos, if_neg, if_true])
      (try simp only [z_fCRk, z_fCR])
      (try simp (disch := omega) only [if_pos, if_neg, if_true])
      (try (first | rfl | exact congrArg _ (by omega)))
  refine z_aload_n 0 0 42 rfl (by decide +kernel) rfl ?_
  refine z_new [.null, .int 0] 45 rfl (by decide +kernel) (cC_Cal D tc x0 y ad) tw_2_35 tw_1_80 tw_1_4 (fun j hj => by rcases (show j = 0 ∨ j = 1 by omega) with rfl | rfl <;> rfl) (Nat.le_of_ble_eq_true rfl) (Nat.le_of_ble_eq_true rfl) ?_
  refine z_dup 46 rfl (by decide +kernel) rfl ?_
  refine z_bipush 24 (x := 24) 48 rfl (by decide +kernel) rfl ?_
  refine z_callI 51 rfl (av := [.int 24]) (st := [.ref (B + (n + 82)), .ref (B + i)]) (c_Cal_init X.1 D tc x0 y ad B (n + 83) _ (i := n + 82) (cap := 24) (by omega) (by decide) (by simp only [va_up, z_ap]; (try simp (disch := omega) only [if_pos, if_neg, if_true]); (try first | rfl | (simp; done)))) (yv_Cal_init 24) rfl rfl tw_2_36 tw_1_82 rfl (Nat.le_of_ble_eq_true rfl) (by decide +kernel) ⟨(Nat.le_of_ble_eq_true rfl), (Nat.le_of_ble_eq_true rfl)⟩ ⟨(Nat.le_of_ble_eq_true rfl), (Nat.le_of_ble_eq_true rfl)⟩ rfl rfl ?_
  refine z_putF (i := i) (f := 4) (fs := [.ref (B + n), .ref (B + (n + 50)), .ref (B + (n + 51)), .ref (B + (n + 52)), .null, .null, .null, .null, .null]) 54 rfl (by decide +kernel) (cC_CR D tc x0 y ad) (by omega) (by simp only [va_up, z_ap]; (try simp (disch := omega) only [if_pos, if_neg, if_true]); (try first | rfl | assumption)) (by decide) (by simp) rfl rfl rfl rfl tw_2_106 ?_
  refine z_eqj (c2 := (z_ap c i n 218 (.inr (8, [.ref (B + n), .ref (B + (n + 50)), .ref (B + (n + 51)), .ref (B + (n + 52)), .ref (B + (n + 82)), .null, .null, .null, .null])) (z_fCRk tc B n (fun _ => none)))) (fun j hj => z_eqv_rf ?_) ?_
  · rcases (by omega : j = i ∨ (j ≠ i ∧ j < n) ∨ (j ≠ i ∧ n ≤ j ∧ j < n + 82) ∨ (j ≠ i ∧ j = n + 82) ∨ (j ≠ i ∧ n + 82 < j ∧ j < n + 108)) with hs | hs | hs | hs | hs
    · simp only [va_up, z_ap]
      (try simp (disch := omega) only [if_pos, if_neg, if_true])
      try rfl
    · simp only [va_up, z_ap]
      (try simp (disch := omega) only [if_pos, if_neg, if_true])
      try rfl
    · simp only [va_up, z_ap]
      (try simp (disch := omega) only [if_pos, if_neg, if_true])
      try rfl
    · simp only [va_up, z_ap]
      (try simp (disch := omega) only [if_pos, if_neg, if_true])
      (try simp only [z_fCRk, z_fCR])
      (try simp (disch := omega) only [if_pos, if_neg, if_true])
      (try (first | rfl | exact congrArg _ (by omega)))
    · simp only [va_up, z_ap]
      (try simp (disch := omega) only [if_pos, if_neg, if_true])
      (try simp only [z_fCRk, z_fCR])
      (try simp (disch := omega) only [if_pos, if_neg, if_true])
      (try (first | rfl | exact congrArg _ (by omega)))
  refine z_aload_n 0 0 55 rfl (by decide +kernel) rfl ?_
  refine z_new [.null, .null] 58 rfl (by decide +kernel) (cC_TT D tc x0 y ad) tw_2_37 tw_2_5 tw_1_9 (fun j hj => by rcases (show j = 0 ∨ j = 1 by omega) with rfl | rfl <;> rfl) (Nat.le_of_ble_eq_true rfl) (Nat.le_of_ble_eq_true rfl) ?_
  refine z_dup 59 rfl (by decide +kernel) rfl ?_
  refine z_callIN 62 rfl (av := []) (st := [.ref (B + (n + 108)), .ref (B + i)]) (c_TT_init X.1 D tc x0 y ad B (n + 109) _ (i := n + 108) (by omega) (by simp only [va_up, z_ap]; (try simp (disch := omega) only [if_pos, if_neg, if_true]); (try first | rfl | (simp; done)))) yv_TT_init rfl rfl tw_2_38 tw_2_7 rfl (Nat.le_of_ble_eq_true rfl) (by decide +kernel) ⟨(Nat.le_of_ble_eq_true rfl), (Nat.le_of_ble_eq_true rfl)⟩ ⟨(Nat.le_of_ble_eq_true rfl), (Nat.le_of_ble_eq_true rfl)⟩ rfl rfl ?_
  refine z_putF (i := i) (f := 5) (fs := [.ref (B + n), .ref (B + (n + 50)), .ref (B + (n + 51)), .ref (B + (n + 52)), .ref (B + (n + 82)), .null, .null, .null, .null]) 65 rfl (by decide +kernel) (cC_CR D tc x0 y ad) (by omega) (by simp only [va_up, z_ap]; (try simp (disch := omega) only [if_pos, if_neg, if_true]); (try first | rfl | assumption)) (by decide) (by simp) rfl rfl rfl rfl tw_2_107 ?_
  refine z_eqj (c2 := (z_ap c i n 218 (.inr (8, [.ref (B + n), .ref (B + (n + 50)), .ref (B + (n + 51)), .ref (B + (n + 52)), .ref (B + (n + 82)), .ref (B + (n + 108)), .null, .null, .null])) (z_fCRk tc B n (fun _ => none)))) (fun j hj => z_eqv_rf ?_) ?_
  · rcases (by omega : j = i ∨ (j ≠ i ∧ j < n) ∨ (j ≠ i ∧ n ≤ j ∧ j < n + 108) ∨ (j ≠ i ∧ j = n + 108) ∨ (j ≠ i ∧ n + 108 < j ∧ j < n + 111)) with hs | hs | hs | hs | hs
    · simp only [va_up, z_ap]
      (try simp (disch := omega) only [if_pos, if_neg, if_true])
      try rfl
    · simp only [va_up, z_ap]
      (try simp (disch := omega) only [if_pos, if_neg, if_true])
      try rfl
    · simp only [va_up, z_ap]
      (try simp (disch := omega) only [if_pos, if_neg, if_true])
      try rfl
    · simp only [va_up, z_ap]
      (try simp (disch := omega) only [if_pos, if_neg, if_true])
      (try simp only [z_fCRk, z_fCR])
      (try simp (disch := omega) only [if_pos, if_neg, if_true])
      (try (first | rfl | exact congrArg _ (by omega)))
    · simp only [va_up, z_ap]
      (try simp (disch := omega) only [if_pos, if_neg, if_true])
      (try simp only [z_fCRk, z_fCR])
      (try simp (disch := omega) only [if_pos, if_neg, if_true])
      (try (first | rfl | exact congrArg _ (by omega)))
  refine z_aload_n 0 0 66 rfl (by decide +kernel) rfl ?_
  refine z_new [.int 0, .int 0, .int 0, .int 0, .int 0, .int 0, .int 0] 69 rfl (by decide +kernel) (cC_Me D tc x0 y ad) tw_2_39 tw_1_90 tw_1_6 (fun j hj => by rcases (show j = 0 ∨ j = 1 ∨ j = 2 ∨ j = 3 ∨ j = 4 ∨ j = 5 ∨ j = 6 by omega) with rfl | rfl | rfl | rfl | rfl | rfl | rfl <;> rfl) (Nat.le_of_ble_eq_true rfl) (Nat.le_of_ble_eq_true rfl) ?_
  refine z_dup 70 rfl (by decide +kernel) rfl ?_
  refine z_callIN 73 rfl (av := []) (st := [.ref (B + (n + 111)), .ref (B + i)]) (c_Me_init X.1 D tc x0 y ad B (n + 112) _ (i := n + 111) (by omega)) yv_Me_init rfl rfl tw_2_40 tw_1_92 rfl (Nat.le_of_ble_eq_true rfl) (by decide +kernel) ⟨(Nat.le_of_ble_eq_true rfl), (Nat.le_of_ble_eq_true rfl)⟩ ⟨(Nat.le_of_ble_eq_true rfl), (Nat.le_of_ble_eq_true rfl)⟩ rfl rfl ?_
  refine z_putF (i := i) (f := 6) (fs := [.ref (B + n), .ref (B + (n + 50)), .ref (B + (n + 51)), .ref (B + (n + 52)), .ref (B + (n + 82)), .ref (B + (n + 108)), .null, .null, .null]) 76 rfl (by decide +kernel) (cC_CR D tc x0 y ad) (by omega) (by simp only [va_up, z_ap]; (try simp (disch := omega) only [if_pos, if_neg, if_true]); (try first | rfl | assumption)) (by decide) (by simp) rfl rfl rfl rfl tw_2_108 ?_
  refine z_eqj (c2 := (z_ap c i n 218 (.inr (8, [.ref (B + n), .ref (B + (n + 50)), .ref (B + (n + 51)), .ref (B + (n + 52)), .ref (B + (n + 82)), .ref (B + (n + 108)), .ref (B + (n + 111)), .null, .null])) (z_fCRk tc B n (fun _ => none)))) (fun j hj => z_eqv_rf ?_) ?_
  · rcases (by omega : j = i ∨ (j ≠ i ∧ j < n) ∨ (j ≠ i ∧ n ≤ j ∧ j < n + 111) ∨ (j ≠ i ∧ j = n + 111)) with hs | hs | hs | hs
    · simp only [va_up, z_ap]
      (try simp (disch := omega) only [if_pos, if_neg, if_true])
      try rfl
    · simp only [va_up, z_ap]
      (try simp (disch := omega) only [if_pos, if_neg, if_true])
      try rfl
    · simp only [va_up, z_ap]
      (try simp (disch := omega) only [if_pos, if_neg, if_true])
      try rfl
    · simp only [va_up, z_ap]
      (try simp (disch := omega) only [if_pos, if_neg, if_true])
      (try simp only [z_fCRk, z_fCR])
      (try simp (disch := omega) only [if_pos, if_neg, if_true])
      (try (first | rfl | exact congrArg _ (by omega)))
  refine z_aload_n 0 0 77 rfl (by decide +kernel) rfl ?_
  refine z_new [.null, .null, .int 0, .int 0, .int 0] 80 rfl (by decide +kernel) (cC_Des D tc x0 y ad) tw_2_41 tw_2_42 tw_1_10 (fun j hj => by rcases (show j = 0 ∨ j = 1 ∨ j = 2 ∨ j = 3 ∨ j = 4 by omega) with rfl | rfl | rfl | rfl | rfl <;> rfl) (Nat.le_of_ble_eq_true rfl) (Nat.le_of_ble_eq_true rfl) ?_
  refine z_dup 81 rfl (by decide +kernel) rfl ?_
  refine z_callIN 84 rfl (av := []) (st := [.ref (B + (n + 112)), .ref (B + i)]) (c_Des_init X.1 D tc x0 y ad B (n + 113) _ (i := n + 112) (by omega) (by simp only [va_up, z_ap]; (try simp (disch := omega) only [if_pos, if_neg, if_true]); (try first | rfl | (simp; done)))) yv_Des_init rfl rfl tw_2_43 tw_2_44 rfl (Nat.le_of_ble_eq_true rfl) (by decide +kernel) ⟨(Nat.le_of_ble_eq_true rfl), (Nat.le_of_ble_eq_true rfl)⟩ ⟨(Nat.le_of_ble_eq_true rfl), (Nat.le_of_ble_eq_true rfl)⟩ rfl rfl ?_
  refine z_putF (i := i) (f := 7) (fs := [.ref (B + n), .ref (B + (n + 50)), .ref (B + (n + 51)), .ref (B + (n + 52)), .ref (B + (n + 82)), .ref (B + (n + 108)), .ref (B + (n + 111)), .null, .null]) 87 rfl (by decide +kernel) (cC_CR D tc x0 y ad) (by omega) (by simp only [va_up, z_ap]; (try simp (disch := omega) only [if_pos, if_neg, if_true]); (try first | rfl | assumption)) (by decide) (by simp) rfl rfl rfl rfl tw_2_109 ?_
  refine z_eqj (c2 := (z_ap c i n 218 (.inr (8, [.ref (B + n), .ref (B + (n + 50)), .ref (B + (n + 51)), .ref (B + (n + 52)), .ref (B + (n + 82)), .ref (B + (n + 108)), .ref (B + (n + 111)), .ref (B + (n + 112)), .null])) (z_fCRk tc B n (fun _ => none)))) (fun j hj => z_eqv_rf ?_) ?_
  · rcases (by omega : j = i ∨ (j ≠ i ∧ j < n) ∨ (j ≠ i ∧ n ≤ j ∧ j < n + 112) ∨ (j ≠ i ∧ j = n + 112) ∨ (j ≠ i ∧ n + 112 < j ∧ j < n + 116)) with hs | hs | hs | hs | hs
    · simp only [va_up, z_ap]
      (try simp (disch := omega) only [if_pos, if_neg, if_true])
      try rfl
    · simp only [va_up, z_ap]
      (try simp (disch := omega) only [if_pos, if_neg, if_true])
      try rfl
    · simp only [va_up, z_ap]
      (try simp (disch := omega) only [if_pos, if_neg, if_true])
      try rfl
    · simp only [va_up, z_ap]
      (try simp (disch := omega) only [if_pos, if_neg, if_true])
      (try simp only [z_fCRk, z_fCR])
      (try simp (disch := omega) only [if_pos, if_neg, if_true])
      (try (first | rfl | exact congrArg _ (by omega)))
    · simp only [va_up, z_ap]
      (try simp (disch := omega) only [if_pos, if_neg, if_true])
      (try simp only [z_fCRk, z_fCR])
      (try simp (disch := omega) only [if_pos, if_neg, if_true])
      (try (first | rfl | exact congrArg _ (by omega)))
  refine z_aload_n 0 0 88 rfl (by decide +kernel) rfl ?_
  refine z_new [.null, .int 0, .int 0, .int 0] 91 rfl (by decide +kernel) (cC_SB D tc x0 y ad) tw_2_100 tw_2_48 tw_1_12 (fun j hj => by rcases (show j = 0 ∨ j = 1 ∨ j = 2 ∨ j = 3 by omega) with rfl | rfl | rfl | rfl <;> rfl) (Nat.le_of_ble_eq_true rfl) (Nat.le_of_ble_eq_true rfl) ?_
  refine z_dup 92 rfl (by decide +kernel) rfl ?_
  refine z_callI 95 rfl (av := []) (st := [.ref (B + (n + 116)), .ref (B + i)]) (c_SB_init X.1 D tc x0 y ad B (n + 117) _ (i := n + 116) (by omega) (by simp only [va_up, z_ap]; (try simp (disch := omega) only [if_pos, if_neg, if_true]); (try first | rfl | (simp; done)))) yv_SB_init rfl rfl tw_2_101 tw_2_50 rfl (Nat.le_of_ble_eq_true rfl) (by decide +kernel) ⟨(Nat.le_of_ble_eq_true rfl), (Nat.le_of_ble_eq_true rfl)⟩ ⟨(Nat.le_of_ble_eq_true rfl), (Nat.le_of_ble_eq_true rfl)⟩ rfl rfl ?_
  refine z_putF (i := i) (f := 8) (fs := [.ref (B + n), .ref (B + (n + 50)), .ref (B + (n + 51)), .ref (B + (n + 52)), .ref (B + (n + 82)), .ref (B + (n + 108)), .ref (B + (n + 111)), .ref (B + (n + 112)), .null]) 98 rfl (by decide +kernel) (cC_CR D tc x0 y ad) (by omega) (by simp only [va_up, z_ap]; (try simp (disch := omega) only [if_pos, if_neg, if_true]); (try first | rfl | assumption)) (by decide) (by simp) rfl rfl rfl rfl tw_2_110 ?_
  refine z_eqj (c2 := (z_ap c i n 218 (.inr (8, [.ref (B + n), .ref (B + (n + 50)), .ref (B + (n + 51)), .ref (B + (n + 52)), .ref (B + (n + 82)), .ref (B + (n + 108)), .ref (B + (n + 111)), .ref (B + (n + 112)), .ref (B + (n + 116))])) (z_fCRk tc B n (fun _ => none)))) (fun j hj => z_eqv_rf ?_) ?_
  · rcases (by omega : j = i ∨ (j ≠ i ∧ j < n) ∨ (j ≠ i ∧ n ≤ j ∧ j < n + 116) ∨ (j ≠ i ∧ j = n + 116) ∨ (j ≠ i ∧ n + 116 < j ∧ j < n + 118)) with hs | hs | hs | hs | hs
    · simp only [va_up, z_ap]
      (try simp (disch := omega) only [if_pos, if_neg, if_true])
      try rfl
    · simp only [va_up, z_ap]
      (try simp (disch := omega) only [if_pos, if_neg, if_true])
      try rfl
    · simp only [va_up, z_ap]
      (try simp (disch := omega) only [if_pos, if_neg, if_true])
      try rfl
    · simp only [va_up, z_ap]
      (try simp (disch := omega) only [if_pos, if_neg, if_true])
      (try simp only [z_fCRk, z_fCR])
      (try simp (disch := omega) only [if_pos, if_neg, if_true])
      (try (first | rfl | exact congrArg _ (by omega)))
    · simp only [va_up, z_ap]
      (try simp (disch := omega) only [if_pos, if_neg, if_true])
      (try simp only [z_fCRk, z_fCR])
      (try simp (disch := omega) only [if_pos, if_neg, if_true])
      (try (first | rfl | exact congrArg _ (by omega)))
  refine z_iconst 0 (x := 0) 99 rfl (by decide +kernel) rfl ?_
  refine z_istore_n 1 1 100 rfl [(1, .int 0), (0, .ref (B + i))] (by decide +kernel) rfl (Nat.le_of_ble_eq_true rfl) rfl ?_
  refine z_iload_n 0 1 101 rfl (by decide +kernel) rfl ?_
  refine z_iconst 2 (x := 2) 102 rfl (by decide +kernel) rfl ?_
  refine z_icmp_ge 105 rfl 124 (off := 22) (by decide +kernel) rfl (fun h => absurd h (by decide)) (fun _ => ?_)
  refine z_aload_n 1 0 106 rfl (by decide +kernel) rfl ?_
  refine z_getf (i := i) (f := 1) (fs := [.ref (B + n), .ref (B + (n + 50)), .ref (B + (n + 51)), .ref (B + (n + 52)), .ref (B + (n + 82)), .ref (B + (n + 108)), .ref (B + (n + 111)), .ref (B + (n + 112)), .ref (B + (n + 116))]) (.ref (B + (n + 50))) 109 rfl (by decide +kernel) (cC_CR D tc x0 y ad) (by omega) (by simp only [va_up, z_ap]; (try simp (disch := omega) only [if_pos, if_neg, if_true]); (try first | rfl | (simp; done))) (by decide) rfl tw_2_103 ?_
  refine z_iload_n 0 1 110 rfl (by decide +kernel) rfl ?_
  refine z_new [.null, .null, .null, .int 0, .int 0, .null, .null] 113 rfl (by decide +kernel) (cC_Wo D tc x0 y ad) tw_1_31 tw_1_32 tw_1_2 (fun j hj => by rcases (show j = 0 ∨ j = 1 ∨ j = 2 ∨ j = 3 ∨ j = 4 ∨ j = 5 ∨ j = 6 by omega) with rfl | rfl | rfl | rfl | rfl | rfl | rfl <;> rfl) (Nat.le_of_ble_eq_true rfl) (Nat.le_of_ble_eq_true rfl) ?_
  refine z_dup 114 rfl (by decide +kernel) rfl ?_
  refine z_callI 117 rfl (av := []) (st := [.ref (B + (n + 118)), .int 0, .ref (B + (n + 50))]) (c_Wo_init X.1 D tc x0 y ad B (n + 118 + 1) _ (i := n + 118) (by omega) (by simp only [va_up, z_ap]; (try simp (disch := omega) only [if_pos, if_neg, if_true]); (try first | rfl | (simp; done)))) yv_Wo_init rfl rfl tw_1_33 tw_1_34 rfl (Nat.le_of_ble_eq_true rfl) (by decide +kernel) ⟨(Nat.le_of_ble_eq_true rfl), (Nat.le_of_ble_eq_true rfl)⟩ ⟨(Nat.le_of_ble_eq_true rfl), (Nat.le_of_ble_eq_true rfl)⟩ rfl rfl ?_
  refine z_aast (i := n + 50) (t := 5) (N := 2) (v := n + 118) (ci := 7) (fs := [.ref (B + (n + 118 + 1)), .ref (B + (n + 118 + 1 + 8)), .ref (B + (n + 118 + 1 + 22)), .int 0, .int 0, .ref (B + (n + 118 + 1 + 23)), .ref (B + (n + 118 + 1 + 24))]) (f := (fun _ => none)) 118 rfl (by decide +kernel) (by omega) (by simp only [va_up, z_ap]; (try simp (disch := omega) only [if_pos, if_neg, if_true]); exact z_fCRk_50) rfl (cC_Wo D tc x0 y ad) (by omega) (by simp only [va_up, z_ap]; (try simp (disch := omega) only [if_pos, if_neg, if_true]); (try first | rfl | (simp; done))) (vp_in_iff.mpr (by decide)) ?_
  refine z_eqj (c2 := (z_ap c i n 218 (.inr (8, [.ref (B + n), .ref (B + (n + 50)), .ref (B + (n + 51)), .ref (B + (n + 52)), .ref (B + (n + 82)), .ref (B + (n + 108)), .ref (B + (n + 111)), .ref (B + (n + 112)), .ref (B + (n + 116))])) (z_fCRk tc B n (va_up (fun _ => none) (0 : Int32).toNatClampNeg (some (B + (n + 118))))))) (fun j hj => z_eqv_rf ?_) ?_
  · rcases (by omega : j = i ∨ (j ≠ i ∧ j < n) ∨ (j ≠ i ∧ j = n + 50) ∨ (j ≠ i ∧ j ≠ n + 50 ∧ n ≤ j ∧ j < n + 118) ∨ (j ≠ i ∧ j = n + 118) ∨ (j ≠ i ∧ n + 118 < j ∧ j < n + 168)) with hs | hs | hs | hs | hs | hs
    · simp only [va_up, z_ap]
      (try simp (disch := omega) only [if_pos, if_neg, if_true])
      try rfl
    · simp only [va_up, z_ap]
      (try simp (disch := omega) only [if_pos, if_neg, if_true])
      try rfl
    · simp only [va_up, z_ap]
      (try simp (disch := omega) only [if_pos, if_neg, if_true])
      (try simp only [z_fCRk, z_fCR])
      (try simp (disch := omega) only [if_pos, if_neg, if_true])
      (try (first | rfl | exact congrArg _ (by omega)))
    · simp only [va_up, z_ap]
      (try simp (disch := omega) only [if_pos, if_neg, if_true])
      simp only [z_fCRk]
      (try simp (disch := omega) only [if_pos, if_neg, if_true])
      try rfl
    · simp only [va_up, z_ap]
      (try simp (disch := omega) only [if_pos, if_neg, if_true])
      (try simp only [z_fCRk, z_fCR])
      (try simp (disch := omega) only [if_pos, if_neg, if_true])
      (try (first | rfl | exact congrArg _ (by omega)))
    · simp only [va_up, z_ap]
      (try simp (disch := omega) only [if_pos, if_neg, if_true])
      (try simp only [z_fCRk, z_fCR])
      (try simp (disch := omega) only [if_pos, if_neg, if_true])
      (try (first | rfl | exact congrArg _ (by omega)))
  refine z_iinc 1 (z := 1) 1 0 121 rfl [(1, .int 1), (0, .ref (B + i))] (by decide +kernel) rfl rfl (Nat.le_of_ble_eq_true rfl) rfl ?_
  refine z_goto (off := -21) 100 (by decide +kernel) rfl ?_
  refine z_iload_n 0 1 101 rfl (by decide +kernel) rfl ?_
  refine z_iconst 2 (x := 2) 102 rfl (by decide +kernel) rfl ?_
  refine z_icmp_ge 105 rfl 124 (off := 22) (by decide +kernel) rfl (fun h => absurd h (by decide)) (fun _ => ?_)
  refine z_aload_n 1 0 106 rfl (by decide +kernel) rfl ?_
  refine z_getf (i := i) (f := 1) (fs := [.ref (B + n), .ref (B + (n + 50)), .ref (B + (n + 51)), .ref (B + (n + 52)), .ref (B + (n + 82)), .ref (B + (n + 108)), .ref (B + (n + 111)), .ref (B + (n + 112)), .ref (B + (n + 116))]) (.ref (B + (n + 50))) 109 rfl (by decide +kernel) (cC_CR D tc x0 y ad) (by omega) (by simp only [va_up, z_ap]; (try simp (disch := omega) only [if_pos, if_neg, if_true]); (try first | rfl | (simp; done))) (by decide) rfl tw_2_103 ?_
  refine z_iload_n 0 1 110 rfl (by decide +kernel) rfl ?_
  refine z_new [.null, .null, .null, .int 0, .int 0, .null, .null] 113 rfl (by decide +kernel) (cC_Wo D tc x0 y ad) tw_1_31 tw_1_32 tw_1_2 (fun j hj => by rcases (show j = 0 ∨ j = 1 ∨ j = 2 ∨ j = 3 ∨ j = 4 ∨ j = 5 ∨ j = 6 by omega) with rfl | rfl | rfl | rfl | rfl | rfl | rfl <;> rfl) (Nat.le_of_ble_eq_true rfl) (Nat.le_of_ble_eq_true rfl) ?_
  refine z_dup 114 rfl (by decide +kernel) rfl ?_
  refine z_callI 117 rfl (av := []) (st := [.ref (B + (n + 168)), .int 1, .ref (B + (n + 50))]) (c_Wo_init X.1 D tc x0 y ad B (n + 168 + 1) _ (i := n + 168) (by omega) (by simp only [va_up, z_ap]; (try simp (disch := omega) only [if_pos, if_neg, if_true]); (try first | rfl | (simp; done)))) yv_Wo_init rfl rfl tw_1_33 tw_1_34 rfl (Nat.le_of_ble_eq_true rfl) (by decide +kernel) ⟨(Nat.le_of_ble_eq_true rfl), (Nat.le_of_ble_eq_true rfl)⟩ ⟨(Nat.le_of_ble_eq_true rfl), (Nat.le_of_ble_eq_true rfl)⟩ rfl rfl ?_
  refine z_aast (i := n + 50) (t := 5) (N := 2) (v := n + 168) (ci := 7) (fs := [.ref (B + (n + 168 + 1)), .ref (B + (n + 168 + 1 + 8)), .ref (B + (n + 168 + 1 + 22)), .int 0, .int 0, .ref (B + (n + 168 + 1 + 23)), .ref (B + (n + 168 + 1 + 24))]) (f := (va_up (fun _ => none) (0 : Int32).toNatClampNeg (some (B + (n + 118))))) 118 rfl (by decide +kernel) (by omega) (by simp only [va_up, z_ap]; (try simp (disch := omega) only [if_pos, if_neg, if_true]); exact z_fCRk_50) rfl (cC_Wo D tc x0 y ad) (by omega) (by simp only [va_up, z_ap]; (try simp (disch := omega) only [if_pos, if_neg, if_true]); (try first | rfl | (simp; done))) (vp_in_iff.mpr (by decide)) ?_
  refine z_eqj (c2 := (z_ap c i n 218 (.inr (8, [.ref (B + n), .ref (B + (n + 50)), .ref (B + (n + 51)), .ref (B + (n + 52)), .ref (B + (n + 82)), .ref (B + (n + 108)), .ref (B + (n + 111)), .ref (B + (n + 112)), .ref (B + (n + 116))])) (z_fCRk tc B n (va_up (va_up (fun _ => none) (0 : Int32).toNatClampNeg (some (B + (n + 118)))) (1 : Int32).toNatClampNeg (some (B + (n + 168))))))) (fun j hj => z_eqv_rf ?_) ?_
  · rcases (by omega : j = i ∨ (j ≠ i ∧ j < n) ∨ (j ≠ i ∧ j = n + 50) ∨ (j ≠ i ∧ j ≠ n + 50 ∧ n ≤ j ∧ j < n + 168) ∨ (j ≠ i ∧ j = n + 168) ∨ (j ≠ i ∧ n + 168 < j ∧ j < n + 218)) with hs | hs | hs | hs | hs | hs
    · simp only [va_up, z_ap]
      (try simp (disch := omega) only [if_pos, if_neg, if_true])
      try rfl
    · simp only [va_up, z_ap]
      (try simp (disch := omega) only [if_pos, if_neg, if_true])
      try rfl
    · simp only [va_up, z_ap]
      (try simp (disch := omega) only [if_pos, if_neg, if_true])
      (try simp only [z_fCRk, z_fCR])
      (try simp (disch := omega) only [if_pos, if_neg, if_true])
      (try (first | rfl | exact congrArg _ (by omega)))
    · simp only [va_up, z_ap]
      (try simp (disch := omega) only [if_pos, if_neg, if_true])
      simp only [z_fCRk]
      (try simp (disch := omega) only [if_pos, if_neg, if_true])
      try rfl
    · simp only [va_up, z_ap]
      (try simp (disch := omega) only [if_pos, if_neg, if_true])
      (try simp only [z_fCRk, z_fCR])
      (try simp (disch := omega) only [if_pos, if_neg, if_true])
      (try (first | rfl | exact congrArg _ (by omega)))
    · simp only [va_up, z_ap]
      (try simp (disch := omega) only [if_pos, if_neg, if_true])
      (try simp only [z_fCRk, z_fCR])
      (try simp (disch := omega) only [if_pos, if_neg, if_true])
      (try (first | rfl | exact congrArg _ (by omega)))
  refine z_iinc 2 (z := 1) 1 0 121 rfl [(1, .int 2), (0, .ref (B + i))] (by decide +kernel) rfl rfl (Nat.le_of_ble_eq_true rfl) rfl ?_
  refine z_goto (off := -21) 100 (by decide +kernel) rfl ?_
  refine z_iload_n 0 1 101 rfl (by decide +kernel) rfl ?_
  refine z_iconst 2 (x := 2) 102 rfl (by decide +kernel) rfl ?_
  refine z_icmp_ge 105 rfl 124 (off := 22) (by decide +kernel) rfl (fun _ => ?_) (fun h => absurd (by decide) h)
  exact z_vret (by decide +kernel) rfl rfl (fun j hj => by
    by_cases h0 : j = n + 50 ∧ j ≠ i
    · have e1 : z_ap c i n 218 (z_CR B n) (z_fCR tc B n) j = z_qa tc 5 2 (fun t => some (B + (n + 118 + 50 * t))) := by
        have h1 := h0.1; have h2 := h0.2
        simp only [z_ap, z_fCR]
        (try simp (disch := omega) only [if_pos, if_neg, if_true])
      have e2 : (z_ap c i n 218 (.inr (8, [.ref (B + n), .ref (B + (n + 50)), .ref (B + (n + 51)), .ref (B + (n + 52)), .ref (B + (n + 82)), .ref (B + (n + 108)), .ref (B + (n + 111)), .ref (B + (n + 112)), .ref (B + (n + 116))])) (z_fCRk tc B n (va_up (va_up (fun _ => none) (0 : Int32).toNatClampNeg (some (B + (n + 118)))) (1 : Int32).toNatClampNeg (some (B + (n + 168)))))) j = z_qa tc 5 2 (va_up (va_up (fun _ => none) (0 : Int32).toNatClampNeg (some (B + (n + 118)))) (1 : Int32).toNatClampNeg (some (B + (n + 168)))) := by
        have h1 := h0.1; have h2 := h0.2
        simp only [z_ap, z_fCRk]
        (try simp (disch := omega) only [if_pos, if_neg, if_true])
      rw [e1, e2]
      exact z_eqv_q (fun u hu => by
        have t0 : (0 : Int32).toNatClampNeg = 0 := rfl
        have t1 : (1 : Int32).toNatClampNeg = 1 := rfl
        rw [t0, t1]
        rcases (by omega : u = 0 ∨ u = 1) with rfl | rfl <;> rfl)
    · refine z_eqv_rf ?_
      by_cases h1 : j = i
      · simp only [z_ap]; rw [if_pos h1, if_pos h1]
      · have h2 : j ≠ n + 50 := fun h => h0 ⟨h, h1⟩
        simp only [z_ap]
        rw [if_neg h1, if_neg h1]
        by_cases h3 : n ≤ j ∧ j < n + 218
        · rw [if_pos h3, if_pos h3]
          simp only [z_fCRk]
          rw [if_neg (by omega)]
        · rw [if_neg h3, if_neg h3]) (Nat.le_of_ble_eq_true rfl) (Nat.le_of_ble_eq_true rfl)
def y_Mo_init : MethodName := ⟨"CalendarReplicasModel", "<init>", "()V"⟩
def m_Mo_init : q_M := (prog_11_method_1_code, 2, "CalendarReplicasModel", { frames := 1, cells := 10, slots := 1193, locals := 32 }, (none : Option FieldType))
theorem yv_Mo_init : q_Y y_Mo_init m_Mo_init 0 := ⟨rfl, ⟨by decide, by decide⟩, by decide +kernel, tw_5_210, tw_1_15⟩
abbrev z_Mo (B n : Nat) : va_E := .inr (0, [.ref (B + (n + 0)), .ref (B + (n + 1)), .ref (B + (n + 2)), .ref (B + (n + 3)), .int 0, .ref (B + (n + 4)), .int 0, .int 0, .ref (B + (n + 5)), .ref (B + (n + 6)), .ref (B + (n + 7)), .int 0, .int 0, .int 0, .int 0, .int 0, .int 0, .int 0, .int 0, .ref (B + (n + 8)), .ref (B + (n + 9))])
def z_fMo (tc : Nat → ClassId) (j : Nat) : va_E := if j = 0 then .inl (tc 0, 280, .inl (fun t => if 8 ≤ t ∧ t < 12 then 6 else 0)) else if j = 1 then z_ia tc 560 else if j = 2 then .inl (tc 1, 2, .inl (fun _ => 0)) else if j = 3 then z_ia tc 60 else if j = 4 then z_ia tc 60 else if j = 5 then z_ia tc 175 else if j ≤ 7 then z_ja tc 25 else z_ia tc 3
set_option maxRecDepth 100000 in
set_option maxHeartbeats 4000000 in
theorem c_Mo_init (l : Launch) (D : va_G) (tc : Nat → ClassId) (x0 y : Nat) (B n : Nat) (c : Nat → va_E) {i : Nat} (hi : i < n) (hc : c i = .inr (0, [.null, .null, .null, .null, .int 0, .null, .int 0, .int 0, .null, .null, .null, .int 0, .int 0, .int 0, .int 0, .int 0, .int 0, .int 0, .int 0, .null, .null])) : z_Ct l (mG D tc x0 y) B y_Mo_init m_Mo_init [.ref (B + i)] n c (n + 10) (z_ap c i n 10 (z_Mo B n) (z_fMo tc)) := by
  refine z_Ct_of (by decide) rfl (Nat.le_of_ble_eq_true rfl) rfl rfl (fun X hX => ?_)
  subst hX
  refine z_aload_n 0 0 1 rfl (by decide +kernel) rfl ?_
  refine z_objInit 4 rfl (by decide +kernel) tw_5_211 tw_1_29 tw_1_30 (Nat.le_of_ble_eq_true rfl) (Nat.le_of_ble_eq_true rfl) ?_
  refine z_aload_n 0 0 5 rfl (by decide +kernel) rfl ?_
  refine z_sipush 280 (x := 280) 8 rfl (by decide +kernel) rfl ?_
  refine z_newa (atype := .int) (t := 0) (N := 280) (280, .inl (fun _ => 0)) 10 rfl (by decide +kernel) rfl (fun _ h => by cases h) tw_1_78 (fun _ => rfl) (by decide) rfl (by decide) (Nat.le_of_ble_eq_true rfl) (Nat.le_of_ble_eq_true rfl) ?_
  refine z_putF (i := i) (f := 0) (fs := [.null, .null, .null, .null, .int 0, .null, .int 0, .int 0, .null, .null, .null, .int 0, .int 0, .int 0, .int 0, .int 0, .int 0, .int 0, .int 0, .null, .null]) 13 rfl (by decide +kernel) (cC_Mo D tc x0 y) (by omega) (by simp only [va_up]; (try simp (disch := omega) only [if_pos, if_neg, if_true]); (try first | rfl | assumption)) (by decide) (by simp) rfl rfl rfl rfl tw_5_212 ?_
  refine z_aload_n 0 0 14 rfl (by decide +kernel) rfl ?_
  refine z_sipush 560 (x := 560) 17 rfl (by decide +kernel) rfl ?_
  refine z_newa (atype := .int) (t := 0) (N := 560) (560, .inl (fun _ => 0)) 19 rfl (by decide +kernel) rfl (fun _ h => by cases h) tw_1_78 (fun _ => rfl) (by decide) rfl (by decide) (Nat.le_of_ble_eq_true rfl) (Nat.le_of_ble_eq_true rfl) ?_
  refine z_putF (i := i) (f := 1) (fs := [.ref (B + n), .null, .null, .null, .int 0, .null, .int 0, .int 0, .null, .null, .null, .int 0, .int 0, .int 0, .int 0, .int 0, .int 0, .int 0, .int 0, .null, .null]) 22 rfl (by decide +kernel) (cC_Mo D tc x0 y) (by omega) (by simp only [va_up]; (try simp (disch := omega) only [if_pos, if_neg, if_true]); (try first | rfl | assumption)) (by decide) (by simp) rfl rfl rfl rfl tw_5_213 ?_
  refine z_aload_n 0 0 23 rfl (by decide +kernel) rfl ?_
  refine z_iconst 2 (x := 2) 24 rfl (by decide +kernel) rfl ?_
  refine z_newa (atype := .boolean) (t := 1) (N := 2) (2, .inl (fun _ => 0)) 26 rfl (by decide +kernel) rfl (fun _ h => by cases h) tw_2_17 (fun _ => rfl) (by decide) rfl (by decide) (Nat.le_of_ble_eq_true rfl) (Nat.le_of_ble_eq_true rfl) ?_
  refine z_putF (i := i) (f := 2) (fs := [.ref (B + n), .ref (B + (n + 1)), .null, .null, .int 0, .null, .int 0, .int 0, .null, .null, .null, .int 0, .int 0, .int 0, .int 0, .int 0, .int 0, .int 0, .int 0, .null, .null]) 29 rfl (by decide +kernel) (cC_Mo D tc x0 y) (by omega) (by simp only [va_up]; (try simp (disch := omega) only [if_pos, if_neg, if_true]); (try first | rfl | assumption)) (by decide) (by simp) rfl rfl rfl rfl tw_5_214 ?_
  refine z_aload_n 0 0 30 rfl (by decide +kernel) rfl ?_
  refine z_bipush 60 (x := 60) 32 rfl (by decide +kernel) rfl ?_
  refine z_newa (atype := .int) (t := 0) (N := 60) (60, .inl (fun _ => 0)) 34 rfl (by decide +kernel) rfl (fun _ h => by cases h) tw_1_78 (fun _ => rfl) (by decide) rfl (by decide) (Nat.le_of_ble_eq_true rfl) (Nat.le_of_ble_eq_true rfl) ?_
  refine z_putF (i := i) (f := 3) (fs := [.ref (B + n), .ref (B + (n + 1)), .ref (B + (n + 2)), .null, .int 0, .null, .int 0, .int 0, .null, .null, .null, .int 0, .int 0, .int 0, .int 0, .int 0, .int 0, .int 0, .int 0, .null, .null]) 37 rfl (by decide +kernel) (cC_Mo D tc x0 y) (by omega) (by simp only [va_up]; (try simp (disch := omega) only [if_pos, if_neg, if_true]); (try first | rfl | assumption)) (by decide) (by simp) rfl rfl rfl rfl tw_5_215 ?_
  refine z_aload_n 0 0 38 rfl (by decide +kernel) rfl ?_
  refine z_bipush 60 (x := 60) 40 rfl (by decide +kernel) rfl ?_
  refine z_newa (atype := .int) (t := 0) (N := 60) (60, .inl (fun _ => 0)) 42 rfl (by decide +kernel) rfl (fun _ h => by cases h) tw_1_78 (fun _ => rfl) (by decide) rfl (by decide) (Nat.le_of_ble_eq_true rfl) (Nat.le_of_ble_eq_true rfl) ?_
  refine z_putF (i := i) (f := 5) (fs := [.ref (B + n), .ref (B + (n + 1)), .ref (B + (n + 2)), .ref (B + (n + 3)), .int 0, .null, .int 0, .int 0, .null, .null, .null, .int 0, .int 0, .int 0, .int 0, .int 0, .int 0, .int 0, .int 0, .null, .null]) 45 rfl (by decide +kernel) (cC_Mo D tc x0 y) (by omega) (by simp only [va_up]; (try simp (disch := omega) only [if_pos, if_neg, if_true]); (try first | rfl | assumption)) (by decide) (by simp) rfl rfl rfl rfl tw_5_217 ?_
  refine z_aload_n 0 0 46 rfl (by decide +kernel) rfl ?_
  refine z_sipush 175 (x := 175) 49 rfl (by decide +kernel) rfl ?_
  refine z_newa (atype := .int) (t := 0) (N := 175) (175, .inl (fun _ => 0)) 51 rfl (by decide +kernel) rfl (fun _ h => by cases h) tw_1_78 (fun _ => rfl) (by decide) rfl (by decide) (Nat.le_of_ble_eq_true rfl) (Nat.le_of_ble_eq_true rfl) ?_
  refine z_putF (i := i) (f := 8) (fs := [.ref (B + n), .ref (B + (n + 1)), .ref (B + (n + 2)), .ref (B + (n + 3)), .int 0, .ref (B + (n + 4)), .int 0, .int 0, .null, .null, .null, .int 0, .int 0, .int 0, .int 0, .int 0, .int 0, .int 0, .int 0, .null, .null]) 54 rfl (by decide +kernel) (cC_Mo D tc x0 y) (by omega) (by simp only [va_up]; (try simp (disch := omega) only [if_pos, if_neg, if_true]); (try first | rfl | assumption)) (by decide) (by simp) rfl rfl rfl rfl tw_5_220 ?_
  refine z_aload_n 0 0 55 rfl (by decide +kernel) rfl ?_
  refine z_bipush 25 (x := 25) 57 rfl (by decide +kernel) rfl ?_
  refine z_newa (atype := .long) (t := 2) (N := 25) (25, .inr (.inl (fun _ => 0))) 59 rfl (by decide +kernel) rfl (fun _ h => by cases h) tw_2_18 (fun _ => rfl) (by decide) rfl (by decide) (Nat.le_of_ble_eq_true rfl) (Nat.le_of_ble_eq_true rfl) ?_
  refine z_putF (i := i) (f := 9) (fs := [.ref (B + n), .ref (B + (n + 1)), .ref (B + (n + 2)), .ref (B + (n + 3)), .int 0, .ref (B + (n + 4)), .int 0, .int 0, .ref (B + (n + 5)), .null, .null, .int 0, .int 0, .int 0, .int 0, .int 0, .int 0, .int 0, .int 0, .null, .null]) 62 rfl (by decide +kernel) (cC_Mo D tc x0 y) (by omega) (by simp only [va_up]; (try simp (disch := omega) only [if_pos, if_neg, if_true]); (try first | rfl | assumption)) (by decide) (by simp) rfl rfl rfl rfl tw_5_221 ?_
  refine z_aload_n 0 0 63 rfl (by decide +kernel) rfl ?_
  refine z_bipush 25 (x := 25) 65 rfl (by decide +kernel) rfl ?_
  refine z_newa (atype := .long) (t := 2) (N := 25) (25, .inr (.inl (fun _ => 0))) 67 rfl (by decide +kernel) rfl (fun _ h => by cases h) tw_2_18 (fun _ => rfl) (by decide) rfl (by decide) (Nat.le_of_ble_eq_true rfl) (Nat.le_of_ble_eq_true rfl) ?_
  refine z_putF (i := i) (f := 10) (fs := [.ref (B + n), .ref (B + (n + 1)), .ref (B + (n + 2)), .ref (B + (n + 3)), .int 0, .ref (B + (n + 4)), .int 0, .int 0, .ref (B + (n + 5)), .ref (B + (n + 6)), .null, .int 0, .int 0, .int 0, .int 0, .int 0, .int 0, .int 0, .int 0, .null, .null]) 70 rfl (by decide +kernel) (cC_Mo D tc x0 y) (by omega) (by simp only [va_up]; (try simp (disch := omega) only [if_pos, if_neg, if_true]); (try first | rfl | assumption)) (by decide) (by simp) rfl rfl rfl rfl tw_5_222 ?_
  refine z_aload_n 0 0 71 rfl (by decide +kernel) rfl ?_
  refine z_iconst 3 (x := 3) 72 rfl (by decide +kernel) rfl ?_
  refine z_newa (atype := .int) (t := 0) (N := 3) (3, .inl (fun _ => 0)) 74 rfl (by decide +kernel) rfl (fun _ h => by cases h) tw_1_78 (fun _ => rfl) (by decide) rfl (by decide) (Nat.le_of_ble_eq_true rfl) (Nat.le_of_ble_eq_true rfl) ?_
  refine z_putF (i := i) (f := 19) (fs := [.ref (B + n), .ref (B + (n + 1)), .ref (B + (n + 2)), .ref (B + (n + 3)), .int 0, .ref (B + (n + 4)), .int 0, .int 0, .ref (B + (n + 5)), .ref (B + (n + 6)), .ref (B + (n + 7)), .int 0, .int 0, .int 0, .int 0, .int 0, .int 0, .int 0, .int 0, .null, .null]) 77 rfl (by decide +kernel) (cC_Mo D tc x0 y) (by omega) (by simp only [va_up]; (try simp (disch := omega) only [if_pos, if_neg, if_true]); (try first | rfl | assumption)) (by decide) (by simp) rfl rfl rfl rfl tw_5_231 ?_
  refine z_aload_n 0 0 78 rfl (by decide +kernel) rfl ?_
  refine z_iconst 3 (x := 3) 79 rfl (by decide +kernel) rfl ?_
  refine z_newa (atype := .int) (t := 0) (N := 3) (3, .inl (fun _ => 0)) 81 rfl (by decide +kernel) rfl (fun _ h => by cases h) tw_1_78 (fun _ => rfl) (by decide) rfl (by decide) (Nat.le_of_ble_eq_true rfl) (Nat.le_of_ble_eq_true rfl) ?_
  refine z_putF (i := i) (f := 20) (fs := [.ref (B + n), .ref (B + (n + 1)), .ref (B + (n + 2)), .ref (B + (n + 3)), .int 0, .ref (B + (n + 4)), .int 0, .int 0, .ref (B + (n + 5)), .ref (B + (n + 6)), .ref (B + (n + 7)), .int 0, .int 0, .int 0, .int 0, .int 0, .int 0, .int 0, .int 0, .ref (B + (n + 8)), .null]) 84 rfl (by decide +kernel) (cC_Mo D tc x0 y) (by omega) (by simp only [va_up]; (try simp (disch := omega) only [if_pos, if_neg, if_true]); (try first | rfl | assumption)) (by decide) (by simp) rfl rfl rfl rfl tw_5_232 ?_
  refine z_iconst 0 (x := 0) 85 rfl (by decide +kernel) rfl ?_
  refine z_istore_n 1 1 86 rfl [(1, .int 0), (0, .ref (B + i))] (by decide +kernel) rfl (Nat.le_of_ble_eq_true rfl) rfl ?_
  refine z_iload_n 0 1 87 rfl (by decide +kernel) rfl ?_
  refine z_iconst 4 (x := 4) 88 rfl (by decide +kernel) rfl ?_
  refine z_icmp_ge 91 rfl 108 (off := 20) (by decide +kernel) rfl (fun h => absurd h (by decide)) (fun _ => ?_)
  refine z_aload_n 1 0 92 rfl (by decide +kernel) rfl ?_
  refine z_getf (i := i) (f := 0) (fs := [.ref (B + n), .ref (B + (n + 1)), .ref (B + (n + 2)), .ref (B + (n + 3)), .int 0, .ref (B + (n + 4)), .int 0, .int 0, .ref (B + (n + 5)), .ref (B + (n + 6)), .ref (B + (n + 7)), .int 0, .int 0, .int 0, .int 0, .int 0, .int 0, .int 0, .int 0, .ref (B + (n + 8)), .ref (B + (n + 9))]) (.ref (B + n)) 95 rfl (by decide +kernel) (cC_Mo D tc x0 y) (by omega) (by simp only [va_up]; (try simp (disch := omega) only [if_pos, if_neg, if_true]); (try first | rfl | assumption)) (by decide) rfl tw_5_212 ?_
  refine z_bipush 8 (x := 8) 97 rfl (by decide +kernel) rfl ?_
  refine z_iload_n 0 1 98 rfl (by decide +kernel) rfl ?_
  refine z_iadd 99 rfl (by decide +kernel) ?_
  refine z_bipush 6 (x := 6) 101 rfl (by decide +kernel) rfl ?_
  refine z_iast (i := n) (t := 0) (N := 280) (f := (fun _ => 0)) 102 rfl (by decide +kernel) (by omega) (by simp only [va_up]; (try simp (disch := omega) only [if_pos, if_neg, if_true]); (try rfl)) rfl (vp_in_iff.mpr (by decide)) ?_
  refine z_iinc 1 (z := 1) 1 0 105 rfl [(1, .int 1), (0, .ref (B + i))] (by decide +kernel) rfl rfl (Nat.le_of_ble_eq_true rfl) rfl ?_
  refine z_goto (off := -19) 86 (by decide +kernel) rfl ?_
  refine z_iload_n 0 1 87 rfl (by decide +kernel) rfl ?_
  refine z_iconst 4 (x := 4) 88 rfl (by decide +kernel) rfl ?_
  refine z_icmp_ge 91 rfl 108 (off := 20) (by decide +kernel) rfl (fun h => absurd h (by decide)) (fun _ => ?_)
  refine z_aload_n 1 0 92 rfl (by decide +kernel) rfl ?_
  refine z_getf (i := i) (f := 0) (fs := [.ref (B + n), .ref (B + (n + 1)), .ref (B + (n + 2)), .ref (B + (n + 3)), .int 0, .ref (B + (n + 4)), .int 0, .int 0, .ref (B + (n + 5)), .ref (B + (n + 6)), .ref (B + (n + 7)), .int 0, .int 0, .int 0, .int 0, .int 0, .int 0, .int 0, .int 0, .ref (B + (n + 8)), .ref (B + (n + 9))]) (.ref (B + n)) 95 rfl (by decide +kernel) (cC_Mo D tc x0 y) (by omega) (by simp only [va_up]; (try simp (disch := omega) only [if_pos, if_neg, if_true]); (try first | rfl | assumption)) (by decide) rfl tw_5_212 ?_
  refine z_bipush 8 (x := 8) 97 rfl (by decide +kernel) rfl ?_
  refine z_iload_n 0 1 98 rfl (by decide +kernel) rfl ?_
  refine z_iadd 99 rfl (by decide +kernel) ?_
  refine z_bipush 6 (x := 6) 101 rfl (by decide +kernel) rfl ?_
  refine z_iast (i := n) (t := 0) (N := 280) (f := (upd (fun _ => 0) ((8 : Int32) + 0).toNatClampNeg 6)) 102 rfl (by decide +kernel) (by omega) (by simp only [va_up]; (try simp (disch := omega) only [if_pos, if_neg, if_true]); (try rfl)) rfl (vp_in_iff.mpr (by decide)) ?_
  refine z_iinc 2 (z := 1) 1 0 105 rfl [(1, .int 2), (0, .ref (B + i))] (by decide +kernel) rfl rfl (Nat.le_of_ble_eq_true rfl) rfl ?_
  refine z_goto (off := -19) 86 (by decide +kernel) rfl ?_
  refine z_iload_n 0 1 87 rfl (by decide +kernel) rfl ?_
  refine z_iconst 4 (x := 4) 88 rfl (by decide +kernel) rfl ?_
  refine z_icmp_ge 91 rfl 108 (off := 20) (by decide +kernel) rfl (fun h => absurd h (by decide)) (fun _ => ?_)
  refine z_aload_n 1 0 92 rfl (by decide +kernel) rfl ?_
  refine z_getf (i := i) (f := 0) (fs := [.ref (B + n), .ref (B + (n + 1)), .ref (B + (n + 2)), .ref (B + (n + 3)), .int 0, .ref (B + (n + 4)), .int 0, .int 0, .ref (B + (n + 5)), .ref (B + (n + 6)), .ref (B + (n + 7)), .int 0, .int 0, .int 0, .int 0, .int 0, .int 0, .int 0, .int 0, .ref (B + (n + 8)), .ref (B + (n + 9))]) (.ref (B + n)) 95 rfl (by decide +kernel) (cC_Mo D tc x0 y) (by omega) (by simp only [va_up]; (try simp (disch := omega) only [if_pos, if_neg, if_true]); (try first | rfl | assumption)) (by decide) rfl tw_5_212 ?_
  refine z_bipush 8 (x := 8) 97 rfl (by decide +kernel) rfl ?_
  refine z_iload_n 0 1 98 rfl (by decide +kernel) rfl ?_
  refine z_iadd 99 rfl (by decide +kernel) ?_
  refine z_bipush 6 (x := 6) 101 rfl (by decide +kernel) rfl ?_
  refine z_iast (i := n) (t := 0) (N := 280) (f := (upd (upd (fun _ => 0) ((8 : Int32) + 0).toNatClampNeg 6) ((8 : Int32) + 1).toNatClampNeg 6)) 102 rfl (by decide +kernel) (by omega) (by simp only [va_up]; (try simp (disch := omega) only [if_pos, if_neg, if_true]); (try rfl)) rfl (vp_in_iff.mpr (by decide)) ?_
  refine z_iinc 3 (z := 1) 1 0 105 rfl [(1, .int 3), (0, .ref (B + i))] (by decide +kernel) rfl rfl (Nat.le_of_ble_eq_true rfl) rfl ?_
  refine z_goto (off := -19) 86 (by decide +kernel) rfl ?_
  refine z_iload_n 0 1 87 rfl (by decide +kernel) rfl ?_
  refine z_iconst 4 (x := 4) 88 rfl (by decide +kernel) rfl ?_
  refine z_icmp_ge 91 rfl 108 (off := 20) (by decide +kernel) rfl (fun h => absurd h (by decide)) (fun _ => ?_)
  refine z_aload_n 1 0 92 rfl (by decide +kernel) rfl ?_
  refine z_getf (i := i) (f := 0) (fs := [.ref (B + n), .ref (B + (n + 1)), .ref (B + (n + 2)), .ref (B + (n + 3)), .int 0, .ref (B + (n + 4)), .int 0, .int 0, .ref (B + (n + 5)), .ref (B + (n + 6)), .ref (B + (n + 7)), .int 0, .int 0, .int 0, .int 0, .int 0, .int 0, .int 0, .int 0, .ref (B + (n + 8)), .ref (B + (n + 9))]) (.ref (B + n)) 95 rfl (by decide +kernel) (cC_Mo D tc x0 y) (by omega) (by simp only [va_up]; (try simp (disch := omega) only [if_pos, if_neg, if_true]); (try first | rfl | assumption)) (by decide) rfl tw_5_212 ?_
  refine z_bipush 8 (x := 8) 97 rfl (by decide +kernel) rfl ?_
  refine z_iload_n 0 1 98 rfl (by decide +kernel) rfl ?_
  refine z_iadd 99 rfl (by decide +kernel) ?_
  refine z_bipush 6 (x := 6) 101 rfl (by decide +kernel) rfl ?_
  refine z_iast (i := n) (t := 0) (N := 280) (f := (upd (upd (upd (fun _ => 0) ((8 : Int32) + 0).toNatClampNeg 6) ((8 : Int32) + 1).toNatClampNeg 6) ((8 : Int32) + 2).toNatClampNeg 6)) 102 rfl (by decide +kernel) (by omega) (by simp only [va_up]; (try simp (disch := omega) only [if_pos, if_neg, if_true]); (try rfl)) rfl (vp_in_iff.mpr (by decide)) ?_
  refine z_iinc 4 (z := 1) 1 0 105 rfl [(1, .int 4), (0, .ref (B + i))] (by decide +kernel) rfl rfl (Nat.le_of_ble_eq_true rfl) rfl ?_
  refine z_goto (off := -19) 86 (by decide +kernel) rfl ?_
  refine z_iload_n 0 1 87 rfl (by decide +kernel) rfl ?_
  refine z_iconst 4 (x := 4) 88 rfl (by decide +kernel) rfl ?_
  refine z_icmp_ge 91 rfl 108 (off := 20) (by decide +kernel) rfl (fun _ => ?_) (fun h => absurd (by decide) h)
  exact z_vret (by decide +kernel) rfl rfl (fun j hj => by
    rcases (by omega : j = i ∨ (j ≠ i ∧ j = n) ∨ (j ≠ i ∧ j = (n + 1)) ∨ (j ≠ i ∧ j = (n + 2)) ∨ (j ≠ i ∧ j = (n + 3)) ∨ (j ≠ i ∧ j = (n + 4)) ∨ (j ≠ i ∧ j = (n + 5)) ∨ (j ≠ i ∧ j = (n + 6)) ∨ (j ≠ i ∧ j = (n + 7)) ∨ (j ≠ i ∧ j = (n + 8)) ∨ (j ≠ i ∧ j = (n + 9)) ∨ (j ≠ i ∧ j < n)) with hs | hs | hs | hs | hs | hs | hs | hs | hs | hs | hs | hs
    · refine z_eqv_rf ?_
      simp only [va_up, z_ap, z_fMo]
      (try simp (disch := omega) only [if_pos, if_neg, if_true])
      try rfl
    · refine z_eqv_rf ?_
      have ef : (upd (upd (upd (upd (fun _ => 0) ((8 : Int32) + 0).toNatClampNeg 6) ((8 : Int32) + 1).toNatClampNeg 6) ((8 : Int32) + 2).toNatClampNeg 6) ((8 : Int32) + 3).toNatClampNeg 6) = fun t => if 8 ≤ t ∧ t < 12 then 6 else 0 := by
        have e0 : ((8 : Int32) + 0).toNatClampNeg = 8 := by decide
        have e1 : ((8 : Int32) + 1).toNatClampNeg = 9 := by decide
        have e2 : ((8 : Int32) + 2).toNatClampNeg = 10 := by decide
        have e3 : ((8 : Int32) + 3).toNatClampNeg = 11 := by decide
        rw [e0, e1, e2, e3]
        funext t
        simp only [upd]
        (repeat' split) <;> first | rfl | omega
      rw [ef]
      simp only [va_up, z_ap, z_fMo]
      (try simp (disch := omega) only [if_pos, if_neg, if_true])
      try rfl
    · refine z_eqv_rf ?_
      simp only [va_up, z_ap, z_fMo]
      (try simp (disch := omega) only [if_pos, if_neg, if_true])
      try rfl
    · refine z_eqv_rf ?_
      simp only [va_up, z_ap, z_fMo]
      (try simp (disch := omega) only [if_pos, if_neg, if_true])
      try rfl
    · refine z_eqv_rf ?_
      simp only [va_up, z_ap, z_fMo]
      (try simp (disch := omega) only [if_pos, if_neg, if_true])
      try rfl
    · refine z_eqv_rf ?_
      simp only [va_up, z_ap, z_fMo]
      (try simp (disch := omega) only [if_pos, if_neg, if_true])
      try rfl
    · refine z_eqv_rf ?_
      simp only [va_up, z_ap, z_fMo]
      (try simp (disch := omega) only [if_pos, if_neg, if_true])
      try rfl
    · refine z_eqv_rf ?_
      simp only [va_up, z_ap, z_fMo]
      (try simp (disch := omega) only [if_pos, if_neg, if_true])
      try rfl
    · refine z_eqv_rf ?_
      simp only [va_up, z_ap, z_fMo]
      (try simp (disch := omega) only [if_pos, if_neg, if_true])
      try rfl
    · refine z_eqv_rf ?_
      simp only [va_up, z_ap, z_fMo]
      (try simp (disch := omega) only [if_pos, if_neg, if_true])
      try rfl
    · refine z_eqv_rf ?_
      simp only [va_up, z_ap, z_fMo]
      (try simp (disch := omega) only [if_pos, if_neg, if_true])
      try rfl
    · refine z_eqv_rf ?_
      simp only [va_up, z_ap, z_fMo]
      (try simp (disch := omega) only [if_pos, if_neg, if_true])
      try rfl
    ) (Nat.le_of_ble_eq_true rfl) (Nat.le_of_ble_eq_true rfl)
