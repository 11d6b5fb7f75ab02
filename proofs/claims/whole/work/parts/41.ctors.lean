def z_ap (c : Nat → va_E) (i n e : Nat) (w : va_E) (f : Nat → va_E) : Nat → va_E := fun j => if j = i then w else if n ≤ j ∧ j < n + e then f (j - n) else c j
abbrev z_Me : va_E := .inr (3, [.int 0, .int 0, .int 0, .int 0, .int 0, .int 0, .int 0])
abbrev z_ia (tc : Nat → ClassId) (N : Nat) : va_E := .inl (tc 0, N, .inl (fun _ => 0))
abbrev z_ja (tc : Nat → ClassId) (N : Nat) : va_E := .inl (tc 2, N, .inr (.inl (fun _ => 0)))
abbrev z_qa (tc : Nat → ClassId) (t N : Nat) (f : Nat → Option Nat) : va_E := .inl (tc t, N, .inr (.inr (.inr (.inr f))))
abbrev z_Ed (a : Nat) : va_E := .inr (2, [.int 0, .int 0, .int 0, .int 0, .int 0, .int 0, .int 0, .int 0, .ref a])
abbrev z_Cal (a : Nat) : va_E := .inr (0, [.ref a, .int 0])
def z_fCal (tc : Nat → ClassId) (B n cap : Nat) (j : Nat) : va_E := if j = 0 then z_qa tc 3 cap (fun t => some (B + (n + 1 + t))) else z_Me
abbrev z_TT (a b : Nat) : va_E := .inr (6, [.ref a, .ref b])
def z_fTT (tc : Nat → ClassId) (_ : Nat) : va_E := z_ja tc 10
abbrev z_Ru (B n : Nat) : va_E := .inr (5, [.ref (B + (n + 0)), .ref (B + (n + 1)), .ref (B + (n + 2)), .ref (B + (n + 3)), .ref (B + (n + 4)), .ref (B + (n + 5)), .ref (B + (n + 6)), .int 0])
def z_fRu (tc : Nat → ClassId) (j : Nat) : va_E := if j = 0 then .inl (tc 0, 4, .inl (fun t => if t < 4 then 6 else 0)) else if j = 3 ∨ j = 4 then z_ia tc 6 else z_ia tc 4

def y_Me_init : MethodName := ⟨"CalendarReplicas$Meeting", "<init>", "()V"⟩
def m_Me_init : q_M := (prog_5_method_1_code, 1, "CalendarReplicas$Meeting", { frames := 1, cells := 0, slots := 0, locals := 32 }, (none : Option FieldType))
theorem yv_Me_init : q_Y y_Me_init m_Me_init 0 := ⟨rfl, ⟨by decide, by decide⟩, by decide +kernel, tw_1_93, tw_1_6⟩
set_option maxRecDepth 100000 in
set_option maxHeartbeats 4000000 in
theorem c_Me_init (l : Launch) (D : va_G) (tc : Nat → ClassId) (x0 y : Nat) (ad : Nat → Nat) (B n : Nat) (c : Nat → va_E) {i : Nat} (hi : i < n) : z_Ct l (cG D tc x0 y ad) B y_Me_init m_Me_init [.ref (B + i)] n c (n) (c) := by
  refine z_Ct_of (by decide) rfl (Nat.le_of_ble_eq_true rfl) rfl rfl (fun X hX => ?_)
  subst hX
  refine z_aload_n 0 0 1 rfl (by decide +kernel) rfl ?_
  refine z_objInit 4 rfl (by decide +kernel) tw_1_94 tw_1_29 tw_1_30 (Nat.le_of_ble_eq_true rfl) (Nat.le_of_ble_eq_true rfl) ?_
  exact z_vret (by decide +kernel) rfl rfl (fun j hj => z_eqv_rf rfl) (Nat.le_of_ble_eq_true rfl) (Nat.le_of_ble_eq_true rfl)
def y_Ed_init : MethodName := ⟨"CalendarReplicas$Edit", "<init>", "()V"⟩
def m_Ed_init : q_M := (prog_4_method_1_code, 1, "CalendarReplicas$Edit", { frames := 2, cells := 1, slots := 7, locals := 52 }, (none : Option FieldType))
theorem yv_Ed_init : q_Y y_Ed_init m_Ed_init 0 := ⟨rfl, ⟨by decide, by decide⟩, by decide +kernel, tw_1_161, tw_1_7⟩
set_option maxRecDepth 100000 in
set_option maxHeartbeats 4000000 in
theorem c_Ed_init (l : Launch) (D : va_G) (tc : Nat → ClassId) (x0 y : Nat) (ad : Nat → Nat) (B n : Nat) (c : Nat → va_E) {i : Nat} (hi : i < n) (hc : c i = .inr (2, [.int 0, .int 0, .int 0, .int 0, .int 0, .int 0, .int 0, .int 0, .null])) : z_Ct l (cG D tc x0 y ad) B y_Ed_init m_Ed_init [.ref (B + i)] n c (n + 1) (z_ap c i n 1 (z_Ed (B + n)) (fun _ => z_Me)) := by
  refine z_Ct_of (by decide) rfl (Nat.le_of_ble_eq_true rfl) rfl rfl (fun X hX => ?_)
  subst hX
  refine z_aload_n 0 0 1 rfl (by decide +kernel) rfl ?_
  refine z_objInit 4 rfl (by decide +kernel) tw_1_162 tw_1_29 tw_1_30 (Nat.le_of_ble_eq_true rfl) (Nat.le_of_ble_eq_true rfl) ?_
  refine z_aload_n 0 0 5 rfl (by decide +kernel) rfl ?_
  refine z_new [.int 0, .int 0, .int 0, .int 0, .int 0, .int 0, .int 0] 8 rfl (by decide +kernel) (cC_Me D tc x0 y ad) tw_1_163 tw_1_90 tw_1_6 (fun j hj => by rcases (show j = 0 ∨ j = 1 ∨ j = 2 ∨ j = 3 ∨ j = 4 ∨ j = 5 ∨ j = 6 by omega) with rfl | rfl | rfl | rfl | rfl | rfl | rfl <;> rfl) (Nat.le_of_ble_eq_true rfl) (Nat.le_of_ble_eq_true rfl) ?_
  refine z_dup 9 rfl (by decide +kernel) rfl ?_
  refine z_callIN 12 rfl (av := []) (st := [.ref (B + n), .ref (B + i)]) (c_Me_init X.1 D tc x0 y ad B (n + 1) _ (i := n) (by omega)) yv_Me_init rfl rfl tw_1_164 tw_1_92 rfl (Nat.le_of_ble_eq_true rfl) (by decide +kernel) ⟨(Nat.le_of_ble_eq_true rfl), (Nat.le_of_ble_eq_true rfl)⟩ ⟨(Nat.le_of_ble_eq_true rfl), (Nat.le_of_ble_eq_true rfl)⟩ rfl rfl ?_
  refine z_putF (i := i) (f := 8) (fs := [.int 0, .int 0, .int 0, .int 0, .int 0, .int 0, .int 0, .int 0, .null]) 15 rfl (by decide +kernel) (cC_Ed D tc x0 y ad) (by omega) (by simp only [va_up, z_ap, if_true]; (repeat' split); all_goals first | rfl | assumption | (simp; done) | (exfalso; omega) | exact absurd trivial ‹¬ True›) (by decide) (by simp) rfl rfl rfl rfl tw_1_184 ?_
  exact z_vret (by decide +kernel) rfl rfl (fun j hj => z_eqv_rf (by simp only [va_up, z_ap, if_true]; (repeat' split); all_goals first | rfl | assumption | (simp; done) | (exfalso; omega) | exact absurd trivial ‹¬ True›)) (Nat.le_of_ble_eq_true rfl) (Nat.le_of_ble_eq_true rfl)
def y_TT_init : MethodName := ⟨"CalendarReplicas$Timetable", "<init>", "()V"⟩
def m_TT_init : q_M := (prog_8_method_1_code, 1, "CalendarReplicas$Timetable", { frames := 1, cells := 2, slots := 20, locals := 32 }, (none : Option FieldType))
theorem yv_TT_init : q_Y y_TT_init m_TT_init 0 := ⟨rfl, ⟨by decide, by decide⟩, by decide +kernel, tw_2_8, tw_1_9⟩
set_option maxRecDepth 100000 in
set_option maxHeartbeats 4000000 in
theorem c_TT_init (l : Launch) (D : va_G) (tc : Nat → ClassId) (x0 y : Nat) (ad : Nat → Nat) (B n : Nat) (c : Nat → va_E) {i : Nat} (hi : i < n) (hc : c i = .inr (6, [.null, .null])) : z_Ct l (cG D tc x0 y ad) B y_TT_init m_TT_init [.ref (B + i)] n c (n + 2) (z_ap c i n 2 (z_TT (B + n) (B + (n + 1))) (z_fTT tc)) := by
  refine z_Ct_of (by decide) rfl (Nat.le_of_ble_eq_true rfl) rfl rfl (fun X hX => ?_)
  subst hX
  refine z_aload_n 0 0 1 rfl (by decide +kernel) rfl ?_
  refine z_objInit 4 rfl (by decide +kernel) tw_2_9 tw_1_29 tw_1_30 (Nat.le_of_ble_eq_true rfl) (Nat.le_of_ble_eq_true rfl) ?_
  refine z_aload_n 0 0 5 rfl (by decide +kernel) rfl ?_
  refine z_bipush 10 (x := 10) 7 rfl (by decide +kernel) rfl ?_
  refine z_newa (atype := .long) (t := 2) (N := 10) (10, .inr (.inl (fun _ => 0))) 9 rfl (by decide +kernel) rfl (fun _ h => by cases h) tw_2_18 (fun _ => rfl) (by decide) rfl (by decide) (Nat.le_of_ble_eq_true rfl) (Nat.le_of_ble_eq_true rfl) ?_
  refine z_putF (i := i) (f := 0) (fs := [.null, .null]) 12 rfl (by decide +kernel) (cC_TT D tc x0 y ad) (by omega) (by simp only [va_up, z_ap, if_true]; (repeat' split); all_goals first | rfl | assumption | (simp; done) | (exfalso; omega) | exact absurd trivial ‹¬ True›) (by decide) (by simp) rfl rfl rfl rfl tw_2_10 ?_
  refine z_aload_n 0 0 13 rfl (by decide +kernel) rfl ?_
  refine z_bipush 10 (x := 10) 15 rfl (by decide +kernel) rfl ?_
  refine z_newa (atype := .long) (t := 2) (N := 10) (10, .inr (.inl (fun _ => 0))) 17 rfl (by decide +kernel) rfl (fun _ h => by cases h) tw_2_18 (fun _ => rfl) (by decide) rfl (by decide) (Nat.le_of_ble_eq_true rfl) (Nat.le_of_ble_eq_true rfl) ?_
  refine z_putF (i := i) (f := 1) (fs := [.ref (B + n), .null]) 20 rfl (by decide +kernel) (cC_TT D tc x0 y ad) (by omega) (by simp only [va_up, z_ap, if_true]; (repeat' split); all_goals first | rfl | assumption | (simp; done) | (exfalso; omega) | exact absurd trivial ‹¬ True›) (by decide) (by simp) rfl rfl rfl rfl tw_2_11 ?_
  exact z_vret (by decide +kernel) rfl rfl (fun j hj => z_eqv_rf (by simp only [va_up, z_ap, z_fTT]; (repeat' split); all_goals first | rfl | assumption | omega)) (Nat.le_of_ble_eq_true rfl) (Nat.le_of_ble_eq_true rfl)
def y_Ru_init : MethodName := ⟨"CalendarReplicas$Rules", "<init>", "()V"⟩
def m_Ru_init : q_M := (prog_7_method_1_code, 2, "CalendarReplicas$Rules", { frames := 1, cells := 7, slots := 32, locals := 32 }, (none : Option FieldType))
theorem yv_Ru_init : q_Y y_Ru_init m_Ru_init 0 := ⟨rfl, ⟨by decide, by decide⟩, by decide +kernel, tw_1_41, tw_1_3⟩
set_option maxRecDepth 100000 in
set_option maxHeartbeats 4000000 in
theorem c_Ru_init (l : Launch) (D : va_G) (tc : Nat → ClassId) (x0 y : Nat) (ad : Nat → Nat) (B n : Nat) (c : Nat → va_E) {i : Nat} (hi : i < n) (hc : c i = .inr (5, [.null, .null, .null, .null, .null, .null, .null, .int 0])) : z_Ct l (cG D tc x0 y ad) B y_Ru_init m_Ru_init [.ref (B + i)] n c (n + 7) (z_ap c i n 7 (z_Ru B n) (z_fRu tc)) := by
  refine z_Ct_of (by decide) rfl (Nat.le_of_ble_eq_true rfl) rfl rfl (fun X hX => ?_)
  subst hX
  refine z_aload_n 0 0 1 rfl (by decide +kernel) rfl ?_
  refine z_objInit 4 rfl (by decide +kernel) tw_1_42 tw_1_29 tw_1_30 (Nat.le_of_ble_eq_true rfl) (Nat.le_of_ble_eq_true rfl) ?_
  refine z_aload_n 0 0 5 rfl (by decide +kernel) rfl ?_
  refine z_iconst 4 (x := 4) 6 rfl (by decide +kernel) rfl ?_
  refine z_newa (atype := .int) (t := 0) (N := 4) (4, .inl (fun _ => 0)) 8 rfl (by decide +kernel) rfl (fun _ h => by cases h) tw_1_78 (fun _ => rfl) (by decide) rfl (by decide) (Nat.le_of_ble_eq_true rfl) (Nat.le_of_ble_eq_true rfl) ?_
  refine z_putF (i := i) (f := 0) (fs := [.null, .null, .null, .null, .null, .null, .null, .int 0]) 11 rfl (by decide +kernel) (cC_Ru D tc x0 y ad) (by omega) (by simp only [va_up, z_ap, if_true]; (repeat' split); all_goals first | rfl | assumption | (simp; done) | (exfalso; omega) | exact absurd trivial ‹¬ True›) (by decide) (by simp) rfl rfl rfl rfl tw_1_43 ?_
  refine z_aload_n 0 0 12 rfl (by decide +kernel) rfl ?_
  refine z_iconst 4 (x := 4) 13 rfl (by decide +kernel) rfl ?_
  refine z_newa (atype := .int) (t := 0) (N := 4) (4, .inl (fun _ => 0)) 15 rfl (by decide +kernel) rfl (fun _ h => by cases h) tw_1_78 (fun _ => rfl) (by decide) rfl (by decide) (Nat.le_of_ble_eq_true rfl) (Nat.le_of_ble_eq_true rfl) ?_
  refine z_putF (i := i) (f := 1) (fs := [.ref (B + n), .null, .null, .null, .null, .null, .null, .int 0]) 18 rfl (by decide +kernel) (cC_Ru D tc x0 y ad) (by omega) (by simp only [va_up, z_ap, if_true]; (repeat' split); all_goals first | rfl | assumption | (simp; done) | (exfalso; omega) | exact absurd trivial ‹¬ True›) (by decide) (by simp) rfl rfl rfl rfl tw_1_45 ?_
  refine z_aload_n 0 0 19 rfl (by decide +kernel) rfl ?_
  refine z_iconst 4 (x := 4) 20 rfl (by decide +kernel) rfl ?_
  refine z_newa (atype := .int) (t := 0) (N := 4) (4, .inl (fun _ => 0)) 22 rfl (by decide +kernel) rfl (fun _ h => by cases h) tw_1_78 (fun _ => rfl) (by decide) rfl (by decide) (Nat.le_of_ble_eq_true rfl) (Nat.le_of_ble_eq_true rfl) ?_
  refine z_putF (i := i) (f := 2) (fs := [.ref (B + n), .ref (B + (n + 1)), .null, .null, .null, .null, .null, .int 0]) 25 rfl (by decide +kernel) (cC_Ru D tc x0 y ad) (by omega) (by simp only [va_up, z_ap, if_true]; (repeat' split); all_goals first | rfl | assumption | (simp; done) | (exfalso; omega) | exact absurd trivial ‹¬ True›) (by decide) (by simp) rfl rfl rfl rfl tw_1_48 ?_
  refine z_aload_n 0 0 26 rfl (by decide +kernel) rfl ?_
  refine z_bipush 6 (x := 6) 28 rfl (by decide +kernel) rfl ?_
  refine z_newa (atype := .int) (t := 0) (N := 6) (6, .inl (fun _ => 0)) 30 rfl (by decide +kernel) rfl (fun _ h => by cases h) tw_1_78 (fun _ => rfl) (by decide) rfl (by decide) (Nat.le_of_ble_eq_true rfl) (Nat.le_of_ble_eq_true rfl) ?_
  refine z_putF (i := i) (f := 3) (fs := [.ref (B + n), .ref (B + (n + 1)), .ref (B + (n + 2)), .null, .null, .null, .null, .int 0]) 33 rfl (by decide +kernel) (cC_Ru D tc x0 y ad) (by omega) (by simp only [va_up, z_ap, if_true]; (repeat' split); all_goals first | rfl | assumption | (simp; done) | (exfalso; omega) | exact absurd trivial ‹¬ True›) (by decide) (by simp) rfl rfl rfl rfl tw_1_51 ?_
  refine z_aload_n 0 0 34 rfl (by decide +kernel) rfl ?_
  refine z_bipush 6 (x := 6) 36 rfl (by decide +kernel) rfl ?_
  refine z_newa (atype := .int) (t := 0) (N := 6) (6, .inl (fun _ => 0)) 38 rfl (by decide +kernel) rfl (fun _ h => by cases h) tw_1_78 (fun _ => rfl) (by decide) rfl (by decide) (Nat.le_of_ble_eq_true rfl) (Nat.le_of_ble_eq_true rfl) ?_
  refine z_putF (i := i) (f := 4) (fs := [.ref (B + n), .ref (B + (n + 1)), .ref (B + (n + 2)), .ref (B + (n + 3)), .null, .null, .null, .int 0]) 41 rfl (by decide +kernel) (cC_Ru D tc x0 y ad) (by omega) (by simp only [va_up, z_ap, if_true]; (repeat' split); all_goals first | rfl | assumption | (simp; done) | (exfalso; omega) | exact absurd trivial ‹¬ True›) (by decide) (by simp) rfl rfl rfl rfl tw_1_54 ?_
  refine z_aload_n 0 0 42 rfl (by decide +kernel) rfl ?_
  refine z_iconst 4 (x := 4) 43 rfl (by decide +kernel) rfl ?_
  refine z_newa (atype := .int) (t := 0) (N := 4) (4, .inl (fun _ => 0)) 45 rfl (by decide +kernel) rfl (fun _ h => by cases h) tw_1_78 (fun _ => rfl) (by decide) rfl (by decide) (Nat.le_of_ble_eq_true rfl) (Nat.le_of_ble_eq_true rfl) ?_
  refine z_putF (i := i) (f := 5) (fs := [.ref (B + n), .ref (B + (n + 1)), .ref (B + (n + 2)), .ref (B + (n + 3)), .ref (B + (n + 4)), .null, .null, .int 0]) 48 rfl (by decide +kernel) (cC_Ru D tc x0 y ad) (by omega) (by simp only [va_up, z_ap, if_true]; (repeat' split); all_goals first | rfl | assumption | (simp; done) | (exfalso; omega) | exact absurd trivial ‹¬ True›) (by decide) (by simp) rfl rfl rfl rfl tw_1_57 ?_
  refine z_aload_n 0 0 49 rfl (by decide +kernel) rfl ?_
  refine z_iconst 4 (x := 4) 50 rfl (by decide +kernel) rfl ?_
  refine z_newa (atype := .int) (t := 0) (N := 4) (4, .inl (fun _ => 0)) 52 rfl (by decide +kernel) rfl (fun _ h => by cases h) tw_1_78 (fun _ => rfl) (by decide) rfl (by decide) (Nat.le_of_ble_eq_true rfl) (Nat.le_of_ble_eq_true rfl) ?_
  refine z_putF (i := i) (f := 6) (fs := [.ref (B + n), .ref (B + (n + 1)), .ref (B + (n + 2)), .ref (B + (n + 3)), .ref (B + (n + 4)), .ref (B + (n + 5)), .null, .int 0]) 55 rfl (by decide +kernel) (cC_Ru D tc x0 y ad) (by omega) (by simp only [va_up, z_ap, if_true]; (repeat' split); all_goals first | rfl | assumption | (simp; done) | (exfalso; omega) | exact absurd trivial ‹¬ True›) (by decide) (by simp) rfl rfl rfl rfl tw_1_58 ?_
  refine z_iconst 0 (x := 0) 56 rfl (by decide +kernel) rfl ?_
  refine z_istore_n 1 1 57 rfl [(1, .int 0), (0, .ref (B + i))] (by decide +kernel) rfl (Nat.le_of_ble_eq_true rfl) rfl ?_
  refine z_iload_n 0 1 58 rfl (by decide +kernel) rfl ?_
  refine z_iconst 4 (x := 4) 59 rfl (by decide +kernel) rfl ?_
  refine z_icmp_ge 62 rfl 76 (off := 17) (by decide +kernel) rfl (fun h => absurd h (by decide)) (fun _ => ?_)
  refine z_aload_n 1 0 63 rfl (by decide +kernel) rfl ?_
  refine z_getf (i := i) (f := 0) (fs := [.ref (B + n), .ref (B + (n + 1)), .ref (B + (n + 2)), .ref (B + (n + 3)), .ref (B + (n + 4)), .ref (B + (n + 5)), .ref (B + (n + 6)), .int 0]) (.ref (B + n)) 66 rfl (by decide +kernel) (cC_Ru D tc x0 y ad) (by omega) (by simp only [va_up, z_ap, if_true]; (repeat' split); all_goals first | rfl | assumption | (simp; done) | (exfalso; omega) | exact absurd trivial ‹¬ True›) (by decide) rfl tw_1_43 ?_
  refine z_iload_n 0 1 67 rfl (by decide +kernel) rfl ?_
  refine z_bipush 6 (x := 6) 69 rfl (by decide +kernel) rfl ?_
  refine z_iast (i := n) (t := 0) (N := 4) (f := (fun _ => 0)) 70 rfl (by decide +kernel) (by omega) (by simp only [va_up, z_ap, if_true]; (repeat' split); all_goals first | rfl | assumption | (simp; done) | (exfalso; omega) | exact absurd trivial ‹¬ True›) rfl (vp_in_iff.mpr (by decide)) ?_
  refine z_iinc 1 (z := 1) 1 0 73 rfl [(1, .int 1), (0, .ref (B + i))] (by decide +kernel) rfl rfl (Nat.le_of_ble_eq_true rfl) rfl ?_
  refine z_goto (off := -16) 57 (by decide +kernel) rfl ?_
  refine z_iload_n 0 1 58 rfl (by decide +kernel) rfl ?_
  refine z_iconst 4 (x := 4) 59 rfl (by decide +kernel) rfl ?_
  refine z_icmp_ge 62 rfl 76 (off := 17) (by decide +kernel) rfl (fun h => absurd h (by decide)) (fun _ => ?_)
  refine z_aload_n 1 0 63 rfl (by decide +kernel) rfl ?_
  refine z_getf (i := i) (f := 0) (fs := [.ref (B + n), .ref (B + (n + 1)), .ref (B + (n + 2)), .ref (B + (n + 3)), .ref (B + (n + 4)), .ref (B + (n + 5)), .ref (B + (n + 6)), .int 0]) (.ref (B + n)) 66 rfl (by decide +kernel) (cC_Ru D tc x0 y ad) (by omega) (by simp only [va_up, z_ap, if_true]; (repeat' split); all_goals first | rfl | assumption | (simp; done) | (exfalso; omega) | exact absurd trivial ‹¬ True›) (by decide) rfl tw_1_43 ?_
  refine z_iload_n 0 1 67 rfl (by decide +kernel) rfl ?_
  refine z_bipush 6 (x := 6) 69 rfl (by decide +kernel) rfl ?_
  refine z_iast (i := n) (t := 0) (N := 4) (f := (upd (fun _ => 0) (0 : Int32).toNatClampNeg 6)) 70 rfl (by decide +kernel) (by omega) (by simp only [va_up, z_ap, if_true]; (repeat' split); all_goals first | rfl | assumption | (simp; done) | (exfalso; omega) | exact absurd trivial ‹¬ True›) rfl (vp_in_iff.mpr (by decide)) ?_
  refine z_iinc 2 (z := 1) 1 0 73 rfl [(1, .int 2), (0, .ref (B + i))] (by decide +kernel) rfl rfl (Nat.le_of_ble_eq_true rfl) rfl ?_
  refine z_goto (off := -16) 57 (by decide +kernel) rfl ?_
  refine z_iload_n 0 1 58 rfl (by decide +kernel) rfl ?_
  refine z_iconst 4 (x := 4) 59 rfl (by decide +kernel) rfl ?_
  refine z_icmp_ge 62 rfl 76 (off := 17) (by decide +kernel) rfl (fun h => absurd h (by decide)) (fun _ => ?_)
  refine z_aload_n 1 0 63 rfl (by decide +kernel) rfl ?_
  refine z_getf (i := i) (f := 0) (fs := [.ref (B + n), .ref (B + (n + 1)), .ref (B + (n + 2)), .ref (B + (n + 3)), .ref (B + (n + 4)), .ref (B + (n + 5)), .ref (B + (n + 6)), .int 0]) (.ref (B + n)) 66 rfl (by decide +kernel) (cC_Ru D tc x0 y ad) (by omega) (by simp only [va_up, z_ap, if_true]; (repeat' split); all_goals first | rfl | assumption | (simp; done) | (exfalso; omega) | exact absurd trivial ‹¬ True›) (by decide) rfl tw_1_43 ?_
  refine z_iload_n 0 1 67 rfl (by decide +kernel) rfl ?_
  refine z_bipush 6 (x := 6) 69 rfl (by decide +kernel) rfl ?_
  refine z_iast (i := n) (t := 0) (N := 4) (f := (upd (upd (fun _ => 0) (0 : Int32).toNatClampNeg 6) (1 : Int32).toNatClampNeg 6)) 70 rfl (by decide +kernel) (by omega) (by simp only [va_up, z_ap, if_true]; (repeat' split); all_goals first | rfl | assumption | (simp; done) | (exfalso; omega) | exact absurd trivial ‹¬ True›) rfl (vp_in_iff.mpr (by decide)) ?_
  refine z_iinc 3 (z := 1) 1 0 73 rfl [(1, .int 3), (0, .ref (B + i))] (by decide +kernel) rfl rfl (Nat.le_of_ble_eq_true rfl) rfl ?_
  refine z_goto (off := -16) 57 (by decide +kernel) rfl ?_
  refine z_iload_n 0 1 58 rfl (by decide +kernel) rfl ?_
  refine z_iconst 4 (x := 4) 59 rfl (by decide +kernel) rfl ?_
  refine z_icmp_ge 62 rfl 76 (off := 17) (by decide +kernel) rfl (fun h => absurd h (by decide)) (fun _ => ?_)
  refine z_aload_n 1 0 63 rfl (by decide +kernel) rfl ?_
  refine z_getf (i := i) (f := 0) (fs := [.ref (B + n), .ref (B + (n + 1)), .ref (B + (n + 2)), .ref (B + (n + 3)), .ref (B + (n + 4)), .ref (B + (n + 5)), .ref (B + (n + 6)), .int 0]) (.ref (B + n)) 66 rfl (by decide +kernel) (cC_Ru D tc x0 y ad) (by omega) (by simp only [va_up, z_ap, if_true]; (repeat' split); all_goals first | rfl | assumption | (simp; done) | (exfalso; omega) | exact absurd trivial ‹¬ True›) (by decide) rfl tw_1_43 ?_
  refine z_iload_n 0 1 67 rfl (by decide +kernel) rfl ?_
  refine z_bipush 6 (x := 6) 69 rfl (by decide +kernel) rfl ?_
  refine z_iast (i := n) (t := 0) (N := 4) (f := (upd (upd (upd (fun _ => 0) (0 : Int32).toNatClampNeg 6) (1 : Int32).toNatClampNeg 6) (2 : Int32).toNatClampNeg 6)) 70 rfl (by decide +kernel) (by omega) (by simp only [va_up, z_ap, if_true]; (repeat' split); all_goals first | rfl | assumption | (simp; done) | (exfalso; omega) | exact absurd trivial ‹¬ True›) rfl (vp_in_iff.mpr (by decide)) ?_
  refine z_iinc 4 (z := 1) 1 0 73 rfl [(1, .int 4), (0, .ref (B + i))] (by decide +kernel) rfl rfl (Nat.le_of_ble_eq_true rfl) rfl ?_
  refine z_goto (off := -16) 57 (by decide +kernel) rfl ?_
  refine z_iload_n 0 1 58 rfl (by decide +kernel) rfl ?_
  refine z_iconst 4 (x := 4) 59 rfl (by decide +kernel) rfl ?_
  refine z_icmp_ge 62 rfl 76 (off := 17) (by decide +kernel) rfl (fun _ => ?_) (fun h => absurd (by decide) h)
  exact z_vret (by decide +kernel) rfl rfl (fun j hj => z_eqv_rf (by
    have e0 : (0 : Int32).toNatClampNeg = 0 := rfl
    have e1 : (1 : Int32).toNatClampNeg = 1 := rfl
    have e2 : (2 : Int32).toNatClampNeg = 2 := rfl
    have e3 : (3 : Int32).toNatClampNeg = 3 := rfl
    have ef : upd (upd (upd (upd (fun _ => 0) (0 : Int32).toNatClampNeg 6) (1 : Int32).toNatClampNeg 6) (2 : Int32).toNatClampNeg 6) (3 : Int32).toNatClampNeg 6 = fun t => if t < 4 then 6 else 0 := by
      rw [e0, e1, e2, e3]
      funext t
      simp only [upd]
      repeat' split
      all_goals first | rfl | omega
    rw [ef]
    have g1 : ∀ k, ¬ n + k = i := fun k => by omega
    have g2 : ¬ n = i := by omega
    by_cases h : j = i
    · subst h
      have g3 : ∀ k, ¬ j = n + k := fun k => by omega
      have g4 : ¬ j = n := by omega
      simp [va_up, z_ap, g3, g4]
    · by_cases h0 : j = n
      · subst h0
        simp [va_up, z_ap, z_fRu, g1, g2]
      · by_cases h1 : j = n + 1
        · subst h1
          simp [va_up, z_ap, z_fRu, g1, g2]
        · by_cases h2 : j = n + 2
          · subst h2
            simp [va_up, z_ap, z_fRu, g1, g2]
          · by_cases h3 : j = n + 3
            · subst h3
              simp [va_up, z_ap, z_fRu, g1, g2]
            · by_cases h4 : j = n + 4
              · subst h4
                simp [va_up, z_ap, z_fRu, g1, g2]
              · by_cases h5 : j = n + 5
                · subst h5
                  simp [va_up, z_ap, z_fRu, g1, g2]
                · by_cases h6 : j = n + 6
                  · subst h6
                    simp [va_up, z_ap, z_fRu, g1, g2]
                  · have g5 : ¬ (n ≤ j ∧ j < n + 7) := by omega
                    simp [va_up, z_ap, h, h0, h1, h2, h3, h4, h5, h6, g5])) (Nat.le_of_ble_eq_true rfl) (Nat.le_of_ble_eq_true rfl)
def y_Cal_init : MethodName := ⟨"CalendarReplicas$Calenda\x72", "<init>", "(I)V"⟩
def m_Cal_init (cap : Nat) : q_M := (prog_2_method_1_code, 3, "CalendarReplicas$Calenda\x72", { frames := 2, cells := 1 + cap, slots := cap + 7 * cap, locals := 52 }, (none : Option FieldType))
theorem yv_Cal_init (cap : Nat) : q_Y y_Cal_init (m_Cal_init cap) 1 := ⟨rfl, ⟨by decide, by decide⟩, by decide +kernel, tw_1_83, tw_1_4⟩
set_option maxRecDepth 100000 in
set_option maxHeartbeats 4000000 in
theorem c_Cal_init (l : Launch) (D : va_G) (tc : Nat → ClassId) (x0 y : Nat) (ad : Nat → Nat) (B n : Nat) (c : Nat → va_E) {i : Nat} (hi : i < n) {cap : Nat} (hcap : cap ≤ 24) (hc : c i = .inr (0, [.null, .int 0])) : z_Ct l (cG D tc x0 y ad) B y_Cal_init (m_Cal_init cap) [.ref (B + i), .int (nI cap)] n c (n + (1 + cap)) (z_ap c i n (1 + cap) (z_Cal (B + n)) (z_fCal tc B n cap)) := by
  refine z_Ct_of (by decide) rfl (Nat.le_of_ble_eq_true rfl) rfl rfl (fun X hX => ?_)
  subst hX
  refine z_aload_n 0 0 1 rfl (by show decode prog_2_method_1_code 0 = _; decide +kernel) rfl ?_
  refine z_objInit 4 rfl (by show decode prog_2_method_1_code 1 = _; decide +kernel) tw_1_84 tw_1_29 tw_1_30 (Nat.le_of_ble_eq_true rfl) (Nat.le_of_ble_eq_true rfl) ?_
  refine z_aload_n 0 0 5 rfl (by show decode prog_2_method_1_code 4 = _; decide +kernel) rfl ?_
  refine z_iload_n 1 1 6 rfl (by show decode prog_2_method_1_code 5 = _; decide +kernel) rfl ?_
  refine z_iconst 0 (x := 0) 7 rfl (by show decode prog_2_method_1_code 6 = _; decide +kernel) rfl ?_
  refine z_mmax (idx := 7) 10 rfl (by show decode prog_2_method_1_code 7 = _; decide +kernel) tw_1_85 tw_1_86 tw_1_5 tw_1_87 (Nat.le_of_ble_eq_true rfl) (Nat.le_of_ble_eq_true rfl) (Nat.zero_le _) (Nat.zero_le _) ?_
  rw [if_neg (show ¬ nI cap < 0 from nI_pos (by omega))]
  refine z_newq (t := 3) (N := cap) 13 rfl (by show decode prog_2_method_1_code 10 = _; decide +kernel) rfl tw_1_88 (fun U h => h.2.1) (nI_pos (by omega)) (nI_clamp (by omega)) (by omega) (by show 0 + 1 ≤ 1 + cap; omega) (by show 0 + cap ≤ cap + 7 * cap; omega) ?_
  refine z_putF (i := i) (f := 0) (fs := [.null, .int 0]) 16 rfl (by show decode prog_2_method_1_code 13 = _; decide +kernel) (cC_Cal D tc x0 y ad) (by omega) (by simp only [va_up, z_ap, if_true]; (repeat' split); all_goals first | rfl | assumption | (simp; done) | (exfalso; omega) | exact absurd trivial ‹¬ True›) (by decide) (by decide) rfl rfl rfl rfl tw_1_146 ?_
  refine z_iconst 0 (x := 0) 17 rfl (by show decode prog_2_method_1_code 16 = _; decide +kernel) rfl ?_
  refine z_istore_n 2 2 18 rfl [(2, .int 0), (0, .ref (B + i)), (1, .int (nI cap))] (by show decode prog_2_method_1_code 17 = _; decide +kernel) rfl (Nat.le_of_ble_eq_true rfl) rfl ?_
  have hL : ∀ (r t : Nat), t + r = cap → z_V (cG D tc x0 y ad) B (m_Cal_init cap) X (1 + t) (cap + 7 * t) 18 [(2, .int (nI t)), (0, .ref (B + i)), (1, .int (nI cap))] [] (n + 1 + t) (fun j => if j = i then z_Cal (B + n) else if j = n then z_qa tc 3 cap (fun u => if u < t then some (B + (n + 1 + u)) else none) else if n + 1 ≤ j ∧ j < n + 1 + t then z_Me else c j) (n + (1 + cap)) (z_ap c i n (1 + cap) (z_Cal (B + n)) (z_fCal tc B n cap)) := by
    intro r
    induction r with
    | zero =>
      intro t ht
      refine z_iload_n 0 2 19 rfl (by show decode prog_2_method_1_code 18 = _; decide +kernel) rfl ?_
      refine z_aload_n 1 0 20 rfl (by show decode prog_2_method_1_code 19 = _; decide +kernel) rfl ?_
      refine z_getf (i := i) (f := 0) (fs := [.ref (B + n), .int 0]) (.ref (B + n)) 23 rfl (by show decode prog_2_method_1_code 20 = _; decide +kernel) (cC_Cal D tc x0 y ad) (by omega) (by simp) (by decide) rfl tw_1_146 ?_
      refine z_alen (i := n) (t := 3) (N := cap) (x := fun u => if u < t then some (B + (n + 1 + u)) else none) (nI cap) 24 rfl (by show decode prog_2_method_1_code 23 = _; decide +kernel) (by omega) (by simp only; rw [if_neg (by omega)]; simp) rfl rfl ?_
      refine z_icmp_ge 27 rfl 46 (off := 22) (by show decode prog_2_method_1_code 24 = _; decide +kernel) rfl (fun _ => ?_) (fun h => absurd (nI_le (by omega) (by omega)) h)
      refine z_vret (by show decode prog_2_method_1_code 46 = _; decide +kernel) rfl (by omega) (fun j hj => ?_) (by show 1 + t ≤ 1 + cap; omega) (by show cap + 7 * t ≤ cap + 7 * cap; omega)
      obtain rfl : t = cap := by omega
      by_cases h1 : j = i
      · exact z_eqv_rf (by simp [h1, z_ap])
      · by_cases h2 : j = n
        · subst h2
          have e1 : z_ap c i j (1 + t) (z_Cal (B + j)) (z_fCal tc B j t) j = z_qa tc 3 t (fun u => some (B + (j + 1 + u))) := by
            simp only [z_ap, z_fCal]
            rw [if_neg h1, if_pos ⟨Nat.le_refl _, by omega⟩, Nat.sub_self, if_pos rfl]
          rw [e1]
          simp only
          rw [if_neg h1, if_pos trivial]
          exact z_eqv_q (fun u hu => if_pos hu)
        · refine z_eqv_rf ?_
          simp only [z_ap, z_fCal]
          rw [if_neg h1, if_neg h2, if_neg h1]
          by_cases h3 : n + 1 ≤ j ∧ j < n + 1 + t
          · rw [if_pos h3, if_pos (by omega), if_neg (by omega)]
          · rw [if_neg h3, if_neg (by omega)]
    | succ r ih =>
      intro t ht
      refine z_iload_n 0 2 19 rfl (by show decode prog_2_method_1_code 18 = _; decide +kernel) rfl ?_
      refine z_aload_n 1 0 20 rfl (by show decode prog_2_method_1_code 19 = _; decide +kernel) rfl ?_
      refine z_getf (i := i) (f := 0) (fs := [.ref (B + n), .int 0]) (.ref (B + n)) 23 rfl (by show decode prog_2_method_1_code 20 = _; decide +kernel) (cC_Cal D tc x0 y ad) (by omega) (by simp) (by decide) rfl tw_1_146 ?_
      refine z_alen (i := n) (t := 3) (N := cap) (x := fun u => if u < t then some (B + (n + 1 + u)) else none) (nI cap) 24 rfl (by show decode prog_2_method_1_code 23 = _; decide +kernel) (by omega) (by simp only; rw [if_neg (by omega)]; simp) rfl rfl ?_
      refine z_icmp_ge 27 rfl 46 (off := 22) (by show decode prog_2_method_1_code 24 = _; decide +kernel) rfl (fun h => absurd h (nI_ge (by omega) (by omega))) (fun _ => ?_)
      refine z_aload_n 1 0 28 rfl (by show decode prog_2_method_1_code 27 = _; decide +kernel) rfl ?_
      refine z_getf (i := i) (f := 0) (fs := [.ref (B + n), .int 0]) (.ref (B + n)) 31 rfl (by show decode prog_2_method_1_code 28 = _; decide +kernel) (cC_Cal D tc x0 y ad) (by omega) (by simp) (by decide) rfl tw_1_146 ?_
      refine z_iload_n 0 2 32 rfl (by show decode prog_2_method_1_code 31 = _; decide +kernel) rfl ?_
      refine z_new [.int 0, .int 0, .int 0, .int 0, .int 0, .int 0, .int 0] 35 rfl (by show decode prog_2_method_1_code 32 = _; decide +kernel) (cC_Me D tc x0 y ad) tw_1_88 tw_1_90 tw_1_6 (fun j hj => by rcases (show j = 0 ∨ j = 1 ∨ j = 2 ∨ j = 3 ∨ j = 4 ∨ j = 5 ∨ j = 6 by omega) with rfl | rfl | rfl | rfl | rfl | rfl | rfl <;> rfl) (by show 1 + t + 1 ≤ 1 + cap; omega) (by show cap + 7 * t + 7 ≤ cap + 7 * cap; omega) ?_
      refine z_dup 36 rfl (by show decode prog_2_method_1_code 35 = _; decide +kernel) rfl ?_
      refine z_callIN 39 rfl (av := []) (st := [.ref (B + (n + 1 + t)), .int (nI t), .ref (B + n)]) (c_Me_init X.1 D tc x0 y ad B (n + 1 + t + 1) _ (i := n + 1 + t) (by omega)) yv_Me_init rfl rfl tw_1_91 tw_1_92 rfl (Nat.le_of_ble_eq_true rfl) (by show decode prog_2_method_1_code 36 = _; decide +kernel) ⟨(Nat.le_of_ble_eq_true rfl), (Nat.le_of_ble_eq_true rfl)⟩ ⟨by show 1 + t + 1 + 0 ≤ 1 + cap; omega, by show cap + 7 * t + 7 + 0 ≤ cap + 7 * cap; omega⟩ rfl rfl ?_
      refine z_aast (i := n) (t := 3) (N := cap) (v := n + 1 + t) (fs := [.int 0, .int 0, .int 0, .int 0, .int 0, .int 0, .int 0]) (f := fun u => if u < t then some (B + (n + 1 + u)) else none) 40 rfl (by show decode prog_2_method_1_code 39 = _; decide +kernel) (by omega) (by simp only [va_up]; rw [if_neg (by omega), if_neg (by omega)]; simp) rfl (cC_Me D tc x0 y ad) (by omega) (by simp [va_up]) (vp_in_nI (by omega) (by omega)) ?_
      refine z_iinc (nI t + 1) (z := 1) 2 0 43 rfl [(2, .int (nI t + 1)), (0, .ref (B + i)), (1, .int (nI cap))] (by show decode prog_2_method_1_code 40 = _; decide +kernel) rfl rfl (Nat.le_of_ble_eq_true rfl) rfl ?_
      refine z_goto (off := -25) 18 (by show decode prog_2_method_1_code 43 = _; decide +kernel) rfl ?_
      rw [← nI_succ]
      have hh := ih (t + 1) (by omega)
      have e1 : (va_up (va_up (fun j => if j = i then z_Cal (B + n) else if j = n then z_qa tc 3 cap (fun u => if u < t then some (B + (n + 1 + u)) else none) else if n + 1 ≤ j ∧ j < n + 1 + t then z_Me else c j) (n + 1 + t) (.inr (3, [.int 0, .int 0, .int 0, .int 0, .int 0, .int 0, .int 0]))) n (.inl (tc 3, cap, .inr (.inr (.inr (.inr (va_up (fun u => if u < t then some (B + (n + 1 + u)) else none) (nI t).toNatClampNeg (some (B + (n + 1 + t)))))))))) = (fun j => if j = i then z_Cal (B + n) else if j = n then z_qa tc 3 cap (fun u => if u < t + 1 then some (B + (n + 1 + u)) else none) else if n + 1 ≤ j ∧ j < n + 1 + (t + 1) then z_Me else c j) := by
        rw [nI_clamp (show t < 2 ^ 31 by omega)]
        funext j
        simp only [va_up]
        by_cases h1 : j = n
        · rw [if_pos h1, if_neg (by omega), if_pos h1]
          congr 7
          funext u
          simp only [va_up]
          repeat' split
          all_goals first | rfl | omega | (simp; omega)
        · rw [if_neg h1]
          repeat' split
          all_goals first | rfl | omega
      rw [show n + 1 + (t + 1) = n + 1 + t + 1 by omega, show cap + 7 * (t + 1) = cap + 7 * t + 7 by omega, show 1 + (t + 1) = 1 + t + 1 by omega] at hh
      have e1' := e1
      show z_V _ B _ X (1 + t + 1 + 0) (cap + 7 * t + 7 + 0) 18 _ _ (n + 1 + t + 1) (va_up (va_up _ _ _) _ _) _ _
      refine Eq.mpr (congrArg (fun cc => z_V (cG D tc x0 y ad) B (m_Cal_init cap) X (1 + t + 1) (cap + 7 * t + 7) 18 [(2, .int (nI (t + 1))), (0, .ref (B + i)), (1, .int (nI cap))] [] (n + 1 + t + 1) cc (n + (1 + cap)) (z_ap c i n (1 + cap) (z_Cal (B + n)) (z_fCal tc B n cap))) e1) ?_
      exact hh
  have h0 := hL cap 0 (by omega)
  have e0 : (va_up (va_up c n (.inl (tc 3, cap, .inr (.inr (.inr (.inr (fun _ => none))))))) i (.inr (0, [.ref (B + n), .int 0]))) = (fun j => if j = i then z_Cal (B + n) else if j = n then z_qa tc 3 cap (fun u => if u < 0 then some (B + (n + 1 + u)) else none) else if n + 1 ≤ j ∧ j < n + 1 + 0 then z_Me else c j) := by
    funext j
    simp only [va_up]
    by_cases h1 : j = i
    · rw [if_pos h1, if_pos h1]
    · rw [if_neg h1, if_neg h1]
      by_cases h2 : j = n
      · rw [if_pos h2, if_pos h2]; simp
      · rw [if_neg h2, if_neg h2, if_neg (by omega)]
  rw [← e0, show cap + 7 * 0 = 0 + cap by omega] at h0
  exact h0
def y_ASB_init : MethodName := ⟨"java/lang/AbstractStringBuilde\x72", "<init>", "(I)V"⟩
def m_ASB_init : q_M := (prog_12_method_2_code, 2, "java/lang/AbstractStringBuilde\x72", { frames := 1, cells := 1, slots := 16, locals := 32 }, (none : Option FieldType))
theorem yv_ASB_init : q_Y y_ASB_init m_ASB_init 1 := ⟨rfl, ⟨by decide, by decide⟩, by decide +kernel, tw_2_54, tw_1_11⟩
set_option maxRecDepth 100000 in
set_option maxHeartbeats 4000000 in
theorem c_ASB_init (l : Launch) (D : va_G) (tc : Nat → ClassId) (x0 y : Nat) (ad : Nat → Nat) (B n : Nat) (c : Nat → va_E) {i : Nat} (hi : i < n) (hc : c i = .inr (9, [.null, .int 0, .int 0, .int 0])) : z_Ct l (cG D tc x0 y ad) B y_ASB_init m_ASB_init [.ref (B + i), .int 16] n c (n + 1) (z_ap c i n 1 (.inr (9, [.ref (B + n), .int 0, .int 0, .int 0])) (fun _ => .inl (tc 6, 16, .inl (fun _ => 0)))) := by
  refine z_Ct_of (by decide) rfl (Nat.le_of_ble_eq_true rfl) rfl rfl (fun X hX => ?_)
  subst hX
  refine z_aload_n 0 0 1 rfl (by decide +kernel) rfl ?_
  refine z_objInit 4 rfl (by decide +kernel) tw_2_55 tw_1_29 tw_1_30 (Nat.le_of_ble_eq_true rfl) (Nat.le_of_ble_eq_true rfl) ?_
  refine z_gets (idx := 18) 7 rfl (by decide +kernel) tw_2_56 ?_
  refine z_if_eq 10 rfl 25 (off := 18) (by decide +kernel) rfl (fun h => absurd h (by decide)) (fun _ => ?_)
  refine z_aload_n 0 0 11 rfl (by decide +kernel) rfl ?_
  refine z_iload_n 1 1 12 rfl (by decide +kernel) rfl ?_
  refine z_newa (atype := .byte) (t := 6) (N := 16) (16, .inl (fun _ => 0)) 14 rfl (by decide +kernel) rfl (fun _ h => by cases h) tw_2_78 (fun _ => rfl) (by decide) rfl (by decide) (Nat.le_of_ble_eq_true rfl) (Nat.le_of_ble_eq_true rfl) ?_
  refine z_putN (i := i) (f := 0) (fs := [.null, .int 0, .int 0, .int 0]) 17 rfl (by decide +kernel) (cC_SB D tc x0 y ad) (by omega) (by simp only [va_up, z_ap, if_true]; (repeat' split); all_goals first | rfl | assumption | (simp; done) | (exfalso; omega) | exact absurd trivial ‹¬ True›) (by decide) (by decide) rfl rfl rfl tw_2_65 ?_
  refine z_aload_n 0 0 18 rfl (by decide +kernel) rfl ?_
  refine z_iconst 0 (x := 0) 19 rfl (by decide +kernel) rfl ?_
  refine z_putN (i := i) (f := 1) (fs := [.ref (B + n), .int 0, .int 0, .int 0]) 22 rfl (by decide +kernel) (cC_SB D tc x0 y ad) (by omega) (by simp only [va_up, z_ap, if_true]; (repeat' split); all_goals first | rfl | assumption | (simp; done) | (exfalso; omega) | exact absurd trivial ‹¬ True›) (by decide) (by simp) rfl rfl rfl tw_2_66 ?_
  refine z_goto (off := 16) 38 (by decide +kernel) rfl ?_
  exact z_vret (by decide +kernel) rfl rfl (fun j hj => z_eqv_rf (by simp only [va_up, z_ap, if_true]; (repeat' split); all_goals first | rfl | assumption | (simp; done) | (exfalso; omega) | exact absurd trivial ‹¬ True›)) (Nat.le_of_ble_eq_true rfl) (Nat.le_of_ble_eq_true rfl)
def y_SB_init : MethodName := ⟨"java/lang/StringBuilde\x72", "<init>", "()V"⟩
def m_SB_init : q_M := (prog_18_method_1_code, 1, "java/lang/StringBuilde\x72", { frames := 2, cells := 1, slots := 16, locals := 53 }, (none : Option FieldType))
theorem yv_SB_init : q_Y y_SB_init m_SB_init 0 := ⟨rfl, ⟨by decide, by decide⟩, by decide +kernel, tw_2_51, tw_1_12⟩
set_option maxRecDepth 100000 in
set_option maxHeartbeats 4000000 in
theorem c_SB_init (l : Launch) (D : va_G) (tc : Nat → ClassId) (x0 y : Nat) (ad : Nat → Nat) (B n : Nat) (c : Nat → va_E) {i : Nat} (hi : i < n) (hc : c i = .inr (9, [.null, .int 0, .int 0, .int 0])) : z_Ct l (cG D tc x0 y ad) B y_SB_init m_SB_init [.ref (B + i)] n c (n + 1) (z_ap c i n 1 (.inr (9, [.ref (B + n), .int 0, .int 0, .int 0])) (fun _ => .inl (tc 6, 16, .inl (fun _ => 0)))) := by
  refine z_Ct_of (by decide) rfl (Nat.le_of_ble_eq_true rfl) rfl rfl (fun X hX => ?_)
  subst hX
  refine z_aload_n 0 0 1 rfl (by decide +kernel) rfl ?_
  refine z_bipush 16 (x := 16) 3 rfl (by decide +kernel) rfl ?_
  refine z_callI 6 rfl (av := [.int 16]) (st := []) (c_ASB_init X.1 D tc x0 y ad B n c hi hc) yv_ASB_init rfl rfl tw_2_52 tw_2_53 rfl (Nat.le_of_ble_eq_true rfl) (by decide +kernel) ⟨(Nat.le_of_ble_eq_true rfl), (Nat.le_of_ble_eq_true rfl)⟩ ⟨(Nat.le_of_ble_eq_true rfl), (Nat.le_of_ble_eq_true rfl)⟩ rfl rfl ?_
  exact z_vret (by decide +kernel) rfl rfl (fun j hj => z_eqv_rf rfl) (Nat.le_of_ble_eq_true rfl) (Nat.le_of_ble_eq_true rfl)
