theorem z_gen {G : q_G} {B : Nat} {M : q_M} {X : q_X} {k m pc : Nat} {L : List (Nat × Value)} {st : List Value} {n n' : Nat} {c c' : Nat → va_E} (kk : ∀ cb, cb = c → z_V G B M X k m pc L st n cb n' c') : z_V G B M X k m pc L st n c n' c' := kk c rfl
theorem z_eqn {G : q_G} {B : Nat} {M : q_M} {X : q_X} {k m pc : Nat} {L : List (Nat × Value)} {st : List Value} {n n2 n' : Nat} {c c2 c' : Nat → va_E} (h : n = n2) (hc : c = c2) (kk : z_V G B M X k m pc L st n2 c2 n' c') : z_V G B M X k m pc L st n c n' c' := by subst h hc; exact kk
abbrev z_Mg (a b : Nat) : va_E := .inr (4, [.ref a, .ref b, .int 0, .int 0, .int 0])
def z_fMg (tc : Nat → ClassId) (B n : Nat) (j : Nat) : va_E := if j = 0 then z_Cal (B + (n + 1)) else if j ≤ 25 then z_fCal tc B (n + 1) 24 (j - 1) else if j = 26 then z_TT (B + (n + 27)) (B + (n + 28)) else z_ja tc 10
abbrev z_SB (a : Nat) : va_E := .inr (9, [.ref a, .int 0, .int 0, .int 0])
abbrev z_by (tc : Nat → ClassId) : va_E := .inl (tc 6, 16, .inl (fun _ => 0))
abbrev z_Des (a b : Nat) : va_E := .inr (1, [.ref a, .ref b, .int 0, .int 0, .int 0])
def z_fDes (tc : Nat → ClassId) (B n : Nat) (j : Nat) : va_E := if j = 0 then z_SB (B + (n + 1)) else if j = 1 then z_by tc else z_Me
abbrev z_Wo (B n : Nat) : va_E := .inr (7, [.ref (B + n), .ref (B + (n + 8)), .ref (B + (n + 22)), .int 0, .int 0, .ref (B + (n + 23)), .ref (B + (n + 24))])
def z_fWo (tc : Nat → ClassId) (B n : Nat) (j : Nat) : va_E := if j = 0 then z_Ru B (n + 1) else if j ≤ 7 then z_fRu tc (j - 1) else if j = 8 then z_Cal (B + (n + 9)) else if j ≤ 21 then z_fCal tc B (n + 9) 12 (j - 9) else if j = 22 then z_qa tc 4 12 (fun t => some (B + (n + 25 + 2 * t))) else if j ≤ 24 then z_ia tc 3 else if (j - 25) % 2 = 0 then z_Ed (B + (n + j + 1)) else z_Me
abbrev z_CR (B n : Nat) : va_E := .inr (8, [.ref (B + n), .ref (B + (n + 50)), .ref (B + (n + 51)), .ref (B + (n + 52)), .ref (B + (n + 82)), .ref (B + (n + 108)), .ref (B + (n + 111)), .ref (B + (n + 112)), .ref (B + (n + 116))])
def z_fCR (tc : Nat → ClassId) (B n : Nat) (j : Nat) : va_E := if j = 0 then z_Wo B (n + 1) else if j ≤ 49 then z_fWo tc B (n + 1) (j - 1) else if j = 50 then z_qa tc 5 2 (fun t => some (B + (n + 118 + 50 * t))) else if j = 51 then .inl (tc 1, 2, .inl (fun _ => 0)) else if j = 52 then z_Mg (B + (n + 53)) (B + (n + 79)) else if j ≤ 81 then z_fMg tc B (n + 53) (j - 53) else if j = 82 then z_Cal (B + (n + 83)) else if j ≤ 107 then z_fCal tc B (n + 83) 24 (j - 83) else if j = 108 then z_TT (B + (n + 109)) (B + (n + 110)) else if j ≤ 110 then z_ja tc 10 else if j = 111 then z_Me else if j = 112 then z_Des (B + (n + 113)) (B + (n + 115)) else if j ≤ 115 then z_fDes tc B (n + 113) (j - 113) else if j = 116 then z_SB (B + (n + 117)) else if j = 117 then z_by tc else if j = 118 then z_Wo B (n + 119) else if j ≤ 167 then z_fWo tc B (n + 119) (j - 119) else if j = 168 then z_Wo B (n + 169) else z_fWo tc B (n + 169) (j - 169)
def y_Mg_init : MethodName := ⟨"CalendarReplicas$Merge", "<init>", "()V"⟩
def m_Mg_init : q_M := (prog_6_method_1_code, 1, "CalendarReplicas$Merge", { frames := 3, cells := 29, slots := 216, locals := 114 }, (none : Option FieldType))
theorem yv_Mg_init : q_Y y_Mg_init m_Mg_init 0 := ⟨rfl, ⟨by decide, by decide⟩, by decide +kernel, tw_2_0, tw_1_8⟩
set_option maxRecDepth 100000 in
set_option maxHeartbeats 4000000 in
theorem c_Mg_init (l : Launch) (D : va_G) (tc : Nat → ClassId) (x0 y : Nat) (ad : Nat → Nat) (B n : Nat) (c : Nat → va_E) {i : Nat} (hi : i < n) (hc : c i = .inr (4, [.null, .null, .int 0, .int 0, .int 0])) : z_Ct l (cG D tc x0 y ad) B y_Mg_init m_Mg_init [.ref (B + i)] n c (n + 29) (z_ap c i n 29 (z_Mg (B + n) (B + (n + 26))) (z_fMg tc B n)) := by
  refine z_Ct_of (by decide) rfl (Nat.le_of_ble_eq_true rfl) rfl rfl (fun X hX => ?_)
  subst hX
  refine z_aload_n 0 0 1 rfl (by decide +kernel) rfl ?_
  refine z_objInit 4 rfl (by decide +kernel) tw_2_1 tw_1_29 tw_1_30 (Nat.le_of_ble_eq_true rfl) (Nat.le_of_ble_eq_true rfl) ?_
  refine z_aload_n 0 0 5 rfl (by decide +kernel) rfl ?_
  refine z_new [.null, .int 0] 8 rfl (by decide +kernel) (cC_Cal D tc x0 y ad) tw_2_2 tw_1_80 tw_1_4 (fun j hj => by rcases (show j = 0 ∨ j = 1 by omega) with rfl | rfl <;> rfl) (Nat.le_of_ble_eq_true rfl) (Nat.le_of_ble_eq_true rfl) ?_
  refine z_dup 9 rfl (by decide +kernel) rfl ?_
  refine z_bipush 24 (x := 24) 11 rfl (by decide +kernel) rfl ?_
  refine z_callI 14 rfl (av := [.int 24]) (st := [.ref (B + n), .ref (B + i)]) (c_Cal_init X.1 D tc x0 y ad B (n + 1) _ (i := n) (cap := 24) (by omega) (by decide) (by simp only [va_up, z_ap]; (try simp (disch := omega) only [if_pos, if_neg, if_true]); (try first | rfl | (simp; done)))) (yv_Cal_init 24) rfl rfl tw_2_3 tw_1_82 rfl (Nat.le_of_ble_eq_true rfl) (by decide +kernel) ⟨(Nat.le_of_ble_eq_true rfl), (Nat.le_of_ble_eq_true rfl)⟩ ⟨(Nat.le_of_ble_eq_true rfl), (Nat.le_of_ble_eq_true rfl)⟩ rfl rfl ?_
  refine z_putF (i := i) (f := 0) (fs := [.null, .null, .int 0, .int 0, .int 0]) 17 rfl (by decide +kernel) (cC_Mg D tc x0 y ad) (by omega) (by simp only [va_up, z_ap]; (try simp (disch := omega) only [if_pos, if_neg, if_true]); (try first | rfl | assumption)) (by decide) (by simp) rfl rfl rfl rfl tw_2_19 ?_
  refine z_aload_n 0 0 18 rfl (by decide +kernel) rfl ?_
  refine z_new [.null, .null] 21 rfl (by decide +kernel) (cC_TT D tc x0 y ad) tw_2_4 tw_2_5 tw_1_9 (fun j hj => by rcases (show j = 0 ∨ j = 1 by omega) with rfl | rfl <;> rfl) (Nat.le_of_ble_eq_true rfl) (Nat.le_of_ble_eq_true rfl) ?_
  refine z_dup 22 rfl (by decide +kernel) rfl ?_
  refine z_callIN 25 rfl (av := []) (st := [.ref (B + (n + 26)), .ref (B + i)]) (c_TT_init X.1 D tc x0 y ad B (n + 27) _ (i := n + 26) (by omega) (by simp only [va_up, z_ap]; (try simp (disch := omega) only [if_pos, if_neg, if_true]); (try first | rfl | (simp; done)))) yv_TT_init rfl rfl tw_2_6 tw_2_7 rfl (Nat.le_of_ble_eq_true rfl) (by decide +kernel) ⟨(Nat.le_of_ble_eq_true rfl), (Nat.le_of_ble_eq_true rfl)⟩ ⟨(Nat.le_of_ble_eq_true rfl), (Nat.le_of_ble_eq_true rfl)⟩ rfl rfl ?_
  refine z_putF (i := i) (f := 1) (fs := [.ref (B + n), .null, .int 0, .int 0, .int 0]) 28 rfl (by decide +kernel) (cC_Mg D tc x0 y ad) (by omega) (by simp only [va_up, z_ap]; (try simp (disch := omega) only [if_pos, if_neg, if_true]); (try first | rfl | assumption)) (by decide) (by simp) rfl rfl rfl rfl tw_2_20 ?_
  exact z_vret (by decide +kernel) rfl rfl (fun j hj => by
    rcases (by omega : j = i ∨ (j ≠ i ∧ j = n) ∨ (j ≠ i ∧ n < j ∧ j ≤ n + 25) ∨ (j ≠ i ∧ j = n + 26) ∨ (j ≠ i ∧ n + 27 ≤ j ∧ j < n + 29) ∨ (j ≠ i ∧ j < n)) with hs | hs | hs | hs | hs | hs
    · refine z_eqv_rf ?_
      simp only [va_up, z_ap, z_fMg, z_fTT]
      (try simp (disch := omega) only [if_pos, if_neg, if_true])
      try rfl
    · refine z_eqv_rf ?_
      simp only [va_up, z_ap, z_fMg, z_fTT]
      (try simp (disch := omega) only [if_pos, if_neg, if_true])
      try rfl
    · refine z_eqv_rf ?_
      simp only [va_up, z_ap, z_fMg, z_fTT]
      (try simp (disch := omega) only [if_pos, if_neg, if_true])
      try rfl
    · refine z_eqv_rf ?_
      simp only [va_up, z_ap, z_fMg, z_fTT]
      (try simp (disch := omega) only [if_pos, if_neg, if_true])
      try rfl
    · refine z_eqv_rf ?_
      simp only [va_up, z_ap, z_fMg, z_fTT]
      (try simp (disch := omega) only [if_pos, if_neg, if_true])
      try rfl
    · refine z_eqv_rf ?_
      simp only [va_up, z_ap, z_fMg, z_fTT]
      (try simp (disch := omega) only [if_pos, if_neg, if_true])
      try rfl
    ) (Nat.le_of_ble_eq_true rfl) (Nat.le_of_ble_eq_true rfl)
def y_Des_init : MethodName := ⟨"CalendarReplicas$Description", "<init>", "()V"⟩
def m_Des_init : q_M := (prog_3_method_1_code, 1, "CalendarReplicas$Description", { frames := 4, cells := 3, slots := 27, locals := 115 }, (none : Option FieldType))
theorem yv_Des_init : q_Y y_Des_init m_Des_init 0 := ⟨rfl, ⟨by decide, by decide⟩, by decide +kernel, tw_2_45, tw_1_10⟩
set_option maxRecDepth 100000 in
set_option maxHeartbeats 4000000 in
theorem c_Des_init (l : Launch) (D : va_G) (tc : Nat → ClassId) (x0 y : Nat) (ad : Nat → Nat) (B n : Nat) (c : Nat → va_E) {i : Nat} (hi : i < n) (hc : c i = .inr (1, [.null, .null, .int 0, .int 0, .int 0])) : z_Ct l (cG D tc x0 y ad) B y_Des_init m_Des_init [.ref (B + i)] n c (n + 3) (z_ap c i n 3 (z_Des (B + n) (B + (n + 2))) (z_fDes tc B n)) := by
  refine z_Ct_of (by decide) rfl (Nat.le_of_ble_eq_true rfl) rfl rfl (fun X hX => ?_)
  subst hX
  refine z_aload_n 0 0 1 rfl (by decide +kernel) rfl ?_
  refine z_objInit 4 rfl (by decide +kernel) tw_2_46 tw_1_29 tw_1_30 (Nat.le_of_ble_eq_true rfl) (Nat.le_of_ble_eq_true rfl) ?_
  refine z_aload_n 0 0 5 rfl (by decide +kernel) rfl ?_
  refine z_new [.null, .int 0, .int 0, .int 0] 8 rfl (by decide +kernel) (cC_SB D tc x0 y ad) tw_2_47 tw_2_48 tw_1_12 (fun j hj => by rcases (show j = 0 ∨ j = 1 ∨ j = 2 ∨ j = 3 by omega) with rfl | rfl | rfl | rfl <;> rfl) (Nat.le_of_ble_eq_true rfl) (Nat.le_of_ble_eq_true rfl) ?_
  refine z_dup 9 rfl (by decide +kernel) rfl ?_
  refine z_callI 12 rfl (av := []) (st := [.ref (B + n), .ref (B + i)]) (c_SB_init X.1 D tc x0 y ad B (n + 1) _ (i := n) (by omega) (by simp only [va_up, z_ap]; (try simp (disch := omega) only [if_pos, if_neg, if_true]); (try first | rfl | (simp; done)))) yv_SB_init rfl rfl tw_2_49 tw_2_50 rfl (Nat.le_of_ble_eq_true rfl) (by decide +kernel) ⟨(Nat.le_of_ble_eq_true rfl), (Nat.le_of_ble_eq_true rfl)⟩ ⟨(Nat.le_of_ble_eq_true rfl), (Nat.le_of_ble_eq_true rfl)⟩ rfl rfl ?_
  refine z_putF (i := i) (f := 0) (fs := [.null, .null, .int 0, .int 0, .int 0]) 15 rfl (by decide +kernel) (cC_Des D tc x0 y ad) (by omega) (by simp only [va_up, z_ap]; (try simp (disch := omega) only [if_pos, if_neg, if_true]); (try first | rfl | assumption)) (by decide) (by simp) rfl rfl rfl rfl tw_2_81 ?_
  refine z_aload_n 0 0 16 rfl (by decide +kernel) rfl ?_
  refine z_new [.int 0, .int 0, .int 0, .int 0, .int 0, .int 0, .int 0] 19 rfl (by decide +kernel) (cC_Me D tc x0 y ad) tw_2_79 tw_1_90 tw_1_6 (fun j hj => by rcases (show j = 0 ∨ j = 1 ∨ j = 2 ∨ j = 3 ∨ j = 4 ∨ j = 5 ∨ j = 6 by omega) with rfl | rfl | rfl | rfl | rfl | rfl | rfl <;> rfl) (Nat.le_of_ble_eq_true rfl) (Nat.le_of_ble_eq_true rfl) ?_
  refine z_dup 20 rfl (by decide +kernel) rfl ?_
  refine z_callIN 23 rfl (av := []) (st := [.ref (B + (n + 2)), .ref (B + i)]) (c_Me_init X.1 D tc x0 y ad B (n + 3) _ (i := n + 2) (by omega)) yv_Me_init rfl rfl tw_2_80 tw_1_92 rfl (Nat.le_of_ble_eq_true rfl) (by decide +kernel) ⟨(Nat.le_of_ble_eq_true rfl), (Nat.le_of_ble_eq_true rfl)⟩ ⟨(Nat.le_of_ble_eq_true rfl), (Nat.le_of_ble_eq_true rfl)⟩ rfl rfl ?_
  refine z_putF (i := i) (f := 1) (fs := [.ref (B + n), .null, .int 0, .int 0, .int 0]) 26 rfl (by decide +kernel) (cC_Des D tc x0 y ad) (by omega) (by simp only [va_up, z_ap]; (try simp (disch := omega) only [if_pos, if_neg, if_true]); (try first | rfl | assumption)) (by decide) (by simp) rfl rfl rfl rfl tw_2_83 ?_
  exact z_vret (by decide +kernel) rfl rfl (fun j hj => by
    rcases (by omega : j = i ∨ (j ≠ i ∧ j = n) ∨ (j ≠ i ∧ j = n + 1) ∨ (j ≠ i ∧ j = n + 2) ∨ (j ≠ i ∧ j < n)) with hs | hs | hs | hs | hs
    · refine z_eqv_rf ?_
      simp only [va_up, z_ap, z_fDes]
      (try simp (disch := omega) only [if_pos, if_neg, if_true])
      try rfl
    · refine z_eqv_rf ?_
      simp only [va_up, z_ap, z_fDes]
      (try simp (disch := omega) only [if_pos, if_neg, if_true])
      try rfl
    · refine z_eqv_rf ?_
      simp only [va_up, z_ap, z_fDes]
      (try simp (disch := omega) only [if_pos, if_neg, if_true])
      try rfl
    · refine z_eqv_rf ?_
      simp only [va_up, z_ap, z_fDes]
      (try simp (disch := omega) only [if_pos, if_neg, if_true])
      try rfl
    · refine z_eqv_rf ?_
      simp only [va_up, z_ap, z_fDes]
      (try simp (disch := omega) only [if_pos, if_neg, if_true])
      try rfl
    ) (Nat.le_of_ble_eq_true rfl) (Nat.le_of_ble_eq_true rfl)
def y_Wo_init : MethodName := ⟨"CalendarReplicas$World", "<init>", "()V"⟩
def m_Wo_init : q_M := (prog_9_method_1_code, 2, "CalendarReplicas$World", { frames := 3, cells := 49, slots := 348, locals := 134 }, (none : Option FieldType))
theorem yv_Wo_init : q_Y y_Wo_init m_Wo_init 0 := ⟨rfl, ⟨by decide, by decide⟩, by decide +kernel, tw_1_35, tw_1_2⟩
set_option maxRecDepth 100000 in
set_option maxHeartbeats 4000000 in
theorem c_Wo_init (l : Launch) (D : va_G) (tc : Nat → ClassId) (x0 y : Nat) (ad : Nat → Nat) (B n : Nat) (c : Nat → va_E) {i : Nat} (hi : i < n) (hc : c i = .inr (7, [.null, .null, .null, .int 0, .int 0, .null, .null])) : z_Ct l (cG D tc x0 y ad) B y_Wo_init m_Wo_init [.ref (B + i)] n c (n + 49) (z_ap c i n 49 (z_Wo B n) (z_fWo tc B n)) := by
  refine z_Ct_of (by decide) rfl (Nat.le_of_ble_eq_true rfl) rfl rfl (fun X hX => ?_)
  subst hX
  refine z_aload_n 0 0 1 rfl (by decide +kernel) rfl ?_
  refine z_objInit 4 rfl (by decide +kernel) tw_1_36 tw_1_29 tw_1_30 (Nat.le_of_ble_eq_true rfl) (Nat.le_of_ble_eq_true rfl) ?_
  refine z_aload_n 0 0 5 rfl (by decide +kernel) rfl ?_
  refine z_new [.null, .null, .null, .null, .null, .null, .null, .int 0] 8 rfl (by decide +kernel) (cC_Ru D tc x0 y ad) tw_1_37 tw_1_38 tw_1_3 (fun j hj => by rcases (show j = 0 ∨ j = 1 ∨ j = 2 ∨ j = 3 ∨ j = 4 ∨ j = 5 ∨ j = 6 ∨ j = 7 by omega) with rfl | rfl | rfl | rfl | rfl | rfl | rfl | rfl <;> rfl) (Nat.le_of_ble_eq_true rfl) (Nat.le_of_ble_eq_true rfl) ?_
  refine z_dup 9 rfl (by decide +kernel) rfl ?_
  refine z_callI 12 rfl (av := []) (st := [.ref (B + n), .ref (B + i)]) (c_Ru_init X.1 D tc x0 y ad B (n + 1) _ (i := n) (by omega) (by simp only [va_up, z_ap]; (try simp (disch := omega) only [if_pos, if_neg, if_true]); (try first | rfl | (simp; done)))) yv_Ru_init rfl rfl tw_1_39 tw_1_40 rfl (Nat.le_of_ble_eq_true rfl) (by decide +kernel) ⟨(Nat.le_of_ble_eq_true rfl), (Nat.le_of_ble_eq_true rfl)⟩ ⟨(Nat.le_of_ble_eq_true rfl), (Nat.le_of_ble_eq_true rfl)⟩ rfl rfl ?_
  refine z_putF (i := i) (f := 0) (fs := [.null, .null, .null, .int 0, .int 0, .null, .null]) 15 rfl (by decide +kernel) (cC_Wo D tc x0 y ad) (by omega) (by simp only [va_up, z_ap]; (try simp (disch := omega) only [if_pos, if_neg, if_true]); (try first | rfl | assumption)) (by decide) (by simp) rfl rfl rfl rfl tw_1_206 ?_
  refine z_aload_n 0 0 16 rfl (by decide +kernel) rfl ?_
  refine z_new [.null, .int 0] 19 rfl (by decide +kernel) (cC_Cal D tc x0 y ad) tw_1_79 tw_1_80 tw_1_4 (fun j hj => by rcases (show j = 0 ∨ j = 1 by omega) with rfl | rfl <;> rfl) (Nat.le_of_ble_eq_true rfl) (Nat.le_of_ble_eq_true rfl) ?_
  refine z_dup 20 rfl (by decide +kernel) rfl ?_
  refine z_bipush 12 (x := 12) 22 rfl (by decide +kernel) rfl ?_
  refine z_callI 25 rfl (av := [.int 12]) (st := [.ref (B + (n + 8)), .ref (B + i)]) (c_Cal_init X.1 D tc x0 y ad B (n + 9) _ (i := n + 8) (cap := 12) (by omega) (by decide) (by simp only [va_up, z_ap]; (try simp (disch := omega) only [if_pos, if_neg, if_true]); (try first | rfl | (simp; done)))) (yv_Cal_init 12) rfl rfl tw_1_81 tw_1_82 rfl (Nat.le_of_ble_eq_true rfl) (by decide +kernel) ⟨(Nat.le_of_ble_eq_true rfl), (Nat.le_of_ble_eq_true rfl)⟩ ⟨(Nat.le_of_ble_eq_true rfl), (Nat.le_of_ble_eq_true rfl)⟩ rfl rfl ?_
  refine z_putF (i := i) (f := 1) (fs := [.ref (B + n), .null, .null, .int 0, .int 0, .null, .null]) 28 rfl (by decide +kernel) (cC_Wo D tc x0 y ad) (by omega) (by simp only [va_up, z_ap]; (try simp (disch := omega) only [if_pos, if_neg, if_true]); (try first | rfl | assumption)) (by decide) (by simp) rfl rfl rfl rfl tw_1_209 ?_
  refine z_aload_n 0 0 29 rfl (by decide +kernel) rfl ?_
  refine z_bipush 12 (x := 12) 31 rfl (by decide +kernel) rfl ?_
  refine z_newq (t := 4) (N := 12) 34 rfl (by decide +kernel) rfl tw_1_156 (fun U h => h.2.2.1) (by decide) rfl (by decide) (Nat.le_of_ble_eq_true rfl) (Nat.le_of_ble_eq_true rfl) ?_
  refine z_putF (i := i) (f := 2) (fs := [.ref (B + n), .ref (B + (n + 8)), .null, .int 0, .int 0, .null, .null]) 37 rfl (by decide +kernel) (cC_Wo D tc x0 y ad) (by omega) (by simp only [va_up, z_ap]; (try simp (disch := omega) only [if_pos, if_neg, if_true]); (try first | rfl | assumption)) (by decide) (by simp) rfl rfl rfl rfl tw_1_211 ?_
  refine z_aload_n 0 0 38 rfl (by decide +kernel) rfl ?_
  refine z_iconst 3 (x := 3) 39 rfl (by decide +kernel) rfl ?_
  refine z_newa (atype := .int) (t := 0) (N := 3) (3, .inl (fun _ => 0)) 41 rfl (by decide +kernel) rfl (fun _ h => by cases h) tw_1_78 (fun _ => rfl) (by decide) rfl (by decide) (Nat.le_of_ble_eq_true rfl) (Nat.le_of_ble_eq_true rfl) ?_
  refine z_putF (i := i) (f := 5) (fs := [.ref (B + n), .ref (B + (n + 8)), .ref (B + (n + 22)), .int 0, .int 0, .null, .null]) 44 rfl (by decide +kernel) (cC_Wo D tc x0 y ad) (by omega) (by simp only [va_up, z_ap]; (try simp (disch := omega) only [if_pos, if_neg, if_true]); (try first | rfl | assumption)) (by decide) (by simp) rfl rfl rfl rfl tw_1_216 ?_
  refine z_aload_n 0 0 45 rfl (by decide +kernel) rfl ?_
  refine z_iconst 3 (x := 3) 46 rfl (by decide +kernel) rfl ?_
  refine z_newa (atype := .int) (t := 0) (N := 3) (3, .inl (fun _ => 0)) 48 rfl (by decide +kernel) rfl (fun _ h => by cases h) tw_1_78 (fun _ => rfl) (by decide) rfl (by decide) (Nat.le_of_ble_eq_true rfl) (Nat.le_of_ble_eq_true rfl) ?_
  refine z_putF (i := i) (f := 6) (fs := [.ref (B + n), .ref (B + (n + 8)), .ref (B + (n + 22)), .int 0, .int 0, .ref (B + (n + 23)), .null]) 51 rfl (by decide +kernel) (cC_Wo D tc x0 y ad) (by omega) (by simp only [va_up, z_ap]; (try simp (disch := omega) only [if_pos, if_neg, if_true]); (try first | rfl | assumption)) (by decide) (by simp) rfl rfl rfl rfl tw_1_218 ?_
  refine z_iconst 0 (x := 0) 52 rfl (by decide +kernel) rfl ?_
  refine z_istore_n 1 1 53 rfl [(1, .int 0), (0, .ref (B + i))] (by decide +kernel) rfl (Nat.le_of_ble_eq_true rfl) rfl ?_
  refine z_gen (fun cb hcb => ?_)
  have hci : cb i = .inr (7, [.ref (B + n), .ref (B + (n + 8)), .ref (B + (n + 22)), .int 0, .int 0, .ref (B + (n + 23)), .ref (B + (n + 24))]) := by rw [hcb]; simp only [va_up, z_ap]; (try simp (disch := omega) only [if_pos, if_neg, if_true]); (try first | rfl | (simp; done))
  have hce : cb (n + 22) = z_qa tc 4 12 (fun _ => none) := by rw [hcb]; simp only [va_up, z_ap]; (try simp (disch := omega) only [if_pos, if_neg, if_true]); (try rfl)
  have hL : ∀ (r t : Nat), t + r = 12 → z_V (cG D tc x0 y ad) B m_Wo_init X (25 + 2 * t) (156 + 16 * t) 53 [(1, .int (nI t)), (0, .ref (B + i))] [] (n + 25 + 2 * t) (fun j => if n + 25 ≤ j ∧ j < n + 25 + 2 * t then (if (j - (n + 25)) % 2 = 0 then z_Ed (B + (j + 1)) else z_Me) else if j = n + 22 then z_qa tc 4 12 (fun u => if u < t then some (B + (n + 25 + 2 * u)) else none) else cb j) (n + 49) (z_ap c i n 49 (z_Wo B n) (z_fWo tc B n)) := by
    intro r
    induction r with
    | zero =>
      intro t ht
      obtain rfl : t = 12 := by omega
      refine z_iload_n 0 1 54 rfl (by decide +kernel) rfl ?_
      refine z_bipush 12 (x := 12) 56 rfl (by decide +kernel) rfl ?_
      refine z_icmp_ge 59 rfl 78 (off := 22) (by decide +kernel) rfl (fun _ => ?_) (fun h => absurd (by decide) h)
      subst hcb
      refine z_vret (by decide +kernel) rfl (by omega) (fun j hj => by
        rcases (by omega : j = i ∨ (j ≠ i ∧ j = n) ∨ (j ≠ i ∧ n < j ∧ j ≤ n + 7) ∨ (j ≠ i ∧ j = n + 8) ∨ (j ≠ i ∧ n + 9 ≤ j ∧ j ≤ n + 21) ∨ (j ≠ i ∧ j = n + 22) ∨ (j ≠ i ∧ j = n + 23) ∨ (j ≠ i ∧ j = n + 24) ∨ (j ≠ i ∧ n + 25 ≤ j ∧ j < n + 49 ∧ (j - (n + 25)) % 2 = 0) ∨ (j ≠ i ∧ n + 25 ≤ j ∧ j < n + 49 ∧ ¬ (j - (n + 25)) % 2 = 0) ∨ (j ≠ i ∧ j < n)) with hs | hs | hs | hs | hs | hs | hs | hs | hs | hs | hs
        · refine z_eqv_rf ?_
          simp only [va_up, z_ap, z_fWo]
          (try simp (disch := omega) only [if_pos, if_neg, if_true])
          try rfl
        · refine z_eqv_rf ?_
          simp only [va_up, z_ap, z_fWo]
          (try simp (disch := omega) only [if_pos, if_neg, if_true])
          try rfl
        · refine z_eqv_rf ?_
          simp only [va_up, z_ap, z_fWo]
          (try simp (disch := omega) only [if_pos, if_neg, if_true])
          try rfl
        · refine z_eqv_rf ?_
          simp only [va_up, z_ap, z_fWo]
          (try simp (disch := omega) only [if_pos, if_neg, if_true])
          try rfl
        · refine z_eqv_rf ?_
          simp only [va_up, z_ap, z_fWo]
          (try simp (disch := omega) only [if_pos, if_neg, if_true])
          try rfl
        · have e1 : z_ap c i n 49 (z_Wo B n) (z_fWo tc B n) j = z_qa tc 4 12 (fun u => some (B + (n + 25 + 2 * u))) := by
            simp only [z_ap, z_fWo]
            (try simp (disch := omega) only [if_pos, if_neg, if_true])
          rw [e1]
          try simp only
          rw [if_neg (by omega), if_pos hs.2]
          exact z_eqv_q (fun u hu => if_pos hu)
        · refine z_eqv_rf ?_
          simp only [va_up, z_ap, z_fWo]
          (try simp (disch := omega) only [if_pos, if_neg, if_true])
          try rfl
        · refine z_eqv_rf ?_
          simp only [va_up, z_ap, z_fWo]
          (try simp (disch := omega) only [if_pos, if_neg, if_true])
          try rfl
        · refine z_eqv_rf ?_
          simp only [z_ap, z_fWo]
          (try simp (disch := omega) only [if_pos, if_neg, if_true])
          rw [show n + (j - n) + 1 = j + 1 by omega]
        · refine z_eqv_rf ?_
          simp only [va_up, z_ap, z_fWo]
          (try simp (disch := omega) only [if_pos, if_neg, if_true])
          try rfl
        · refine z_eqv_rf ?_
          simp only [va_up, z_ap, z_fWo]
          (try simp (disch := omega) only [if_pos, if_neg, if_true])
          try rfl
        ) (by decide) (by decide)
    | succ r ih =>
      intro t ht
      refine z_iload_n 0 1 54 rfl (by decide +kernel) rfl ?_
      refine z_bipush 12 (x := 12) 56 rfl (by decide +kernel) rfl ?_
      refine z_icmp_ge 59 rfl 78 (off := 22) (by decide +kernel) rfl (fun h => absurd (show nI 12 ≤ nI t from h) (nI_ge (by omega) (by decide))) (fun _ => ?_)
      refine z_aload_n 1 0 60 rfl (by decide +kernel) rfl ?_
      refine z_getf (i := i) (f := 2) (fs := [.ref (B + n), .ref (B + (n + 8)), .ref (B + (n + 22)), .int 0, .int 0, .ref (B + (n + 23)), .ref (B + (n + 24))]) (.ref (B + (n + 22))) 63 rfl (by decide +kernel) (cC_Wo D tc x0 y ad) (by omega) (by show (if _ then _ else _) = _; rw [if_neg (by omega), if_neg (by omega)]; exact hci) (by decide) rfl tw_1_211 ?_
      refine z_iload_n 0 1 64 rfl (by decide +kernel) rfl ?_
      refine z_new [.int 0, .int 0, .int 0, .int 0, .int 0, .int 0, .int 0, .int 0, .null] 67 rfl (by decide +kernel) (cC_Ed D tc x0 y ad) tw_1_156 tw_1_158 tw_1_7 (fun j hj => by rcases (show j = 0 ∨ j = 1 ∨ j = 2 ∨ j = 3 ∨ j = 4 ∨ j = 5 ∨ j = 6 ∨ j = 7 ∨ j = 8 by omega) with rfl | rfl | rfl | rfl | rfl | rfl | rfl | rfl | rfl <;> rfl) (by show 25 + 2 * t + 1 ≤ 49; omega) (by show 156 + 16 * t + 9 ≤ 348; omega) ?_
      refine z_dup 68 rfl (by decide +kernel) rfl ?_
      refine z_callIN 71 rfl (av := []) (st := [.ref (B + (n + 25 + 2 * t)), .int (nI t), .ref (B + (n + 22))]) (c_Ed_init X.1 D tc x0 y ad B (n + 25 + 2 * t + 1) _ (i := n + 25 + 2 * t) (by omega) (by simp only [va_up]; rw [if_pos trivial])) yv_Ed_init rfl rfl tw_1_159 tw_1_160 rfl (Nat.le_of_ble_eq_true rfl) (by decide +kernel) ⟨(Nat.le_of_ble_eq_true rfl), (Nat.le_of_ble_eq_true rfl)⟩ ⟨by show 25 + 2 * t + 1 + 1 ≤ 49; omega, by show 156 + 16 * t + 9 + 7 ≤ 348; omega⟩ rfl rfl ?_
      refine z_aast (i := n + 22) (t := 4) (N := 12) (v := n + 25 + 2 * t) (fs := [.int 0, .int 0, .int 0, .int 0, .int 0, .int 0, .int 0, .int 0, .ref (B + (n + 25 + 2 * t + 1))]) (f := fun u => if u < t then some (B + (n + 25 + 2 * u)) else none) 72 rfl (by decide +kernel) (by omega) (by simp only [va_up, z_ap]; (try simp (disch := omega) only [if_pos, if_neg, if_true]); try rfl) rfl (cC_Ed D tc x0 y ad) (by omega) (by simp only [va_up, z_ap]; first | rw [if_pos trivial] | ((try simp (disch := omega) only [if_pos, if_neg, if_true]); rfl)) (vp_in_nI (by omega) (by decide)) ?_
      refine z_iinc (nI t + 1) (z := 1) 1 0 75 rfl [(1, .int (nI t + 1)), (0, .ref (B + i))] (by decide +kernel) rfl rfl (Nat.le_of_ble_eq_true rfl) rfl ?_
      refine z_goto (off := -22) 53 (by decide +kernel) rfl ?_
      rw [← nI_succ]
      have hh := ih (t + 1) (by omega)
      rw [show 25 + 2 * (t + 1) = 25 + 2 * t + 1 + 1 by omega, show 156 + 16 * (t + 1) = 156 + 16 * t + 9 + 7 by omega] at hh
      refine z_eqn (by omega) ?_ hh
      rw [nI_clamp (show t < 2 ^ 31 by omega)]
      funext j
      rcases (by omega : j = n + 22 ∨ (j ≠ n + 22 ∧ j = n + 25 + 2 * t) ∨ (j ≠ n + 22 ∧ j = n + 25 + 2 * t + 1) ∨ (j ≠ n + 22 ∧ n + 25 ≤ j ∧ j < n + 25 + 2 * t) ∨ (j ≠ n + 22 ∧ ¬ (n + 25 ≤ j ∧ j < n + 25 + 2 * t + 2))) with hs | hs | hs | hs | hs
      · simp only [va_up, z_ap]
        rw [if_pos hs, if_neg (by omega), if_pos hs]
        congr 7
        funext u
        simp only [va_up]
        (repeat' split) <;> first | rfl | omega | (subst_vars; rfl)
      · simp only [va_up, z_ap]
        (try simp (disch := omega) only [if_pos, if_neg, if_true])
        rw [show j + 1 = n + 25 + 2 * t + 1 by omega]
      · simp only [va_up, z_ap]
        (try simp (disch := omega) only [if_pos, if_neg, if_true])
      · simp only [va_up, z_ap]
        by_cases hp : (j - (n + 25)) % 2 = 0
        · simp (disch := omega) only [if_pos, if_neg]
        · simp (disch := omega) only [if_pos, if_neg]
      · simp only [va_up, z_ap]
        (try simp (disch := omega) only [if_pos, if_neg, if_true])
  have h0 := hL 12 0 (by omega)
  refine z_eqn rfl ?_ h0
  funext j
  by_cases h1 : j = n + 22
  · rw [if_neg (by omega), if_pos h1, h1, hce]; simp
  · rw [if_neg (by omega), if_neg h1]
