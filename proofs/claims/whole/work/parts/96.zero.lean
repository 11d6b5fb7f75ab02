/-! the worlds behind the constructors -/
def L_IC : q_I := fun o => if o = 3 ∨ o = 121 ∨ o = 171 then (fun f => if f < 4 then 6 else 0) else fun _ => 0
def L_IM : q_I := fun o => if o = 1 then (fun f => if 8 ≤ f ∧ f < 12 then 6 else 0) else fun _ => 0
def L_J0 : q_J := fun _ _ => 0
def L_P0 : q_P := fun _ i => i
def L_hd (B : Nat) (k : Nat) : Nat := if k = 114 then B + 115 else if k = 117 then B + 118 else 16
theorem L_IC0 {o : Nat} (h1 : o ≠ 3) (h2 : o ≠ 121) (h3 : o ≠ 171) : L_IC o = fun _ => 0 := by
  unfold L_IC
  rw [if_neg (by omega)]
theorem L_IM0 {o : Nat} (h1 : o ≠ 1) : L_IM o = fun _ => 0 := by
  unfold L_IM
  rw [if_neg h1]
abbrev L_cC (tc : Nat → ClassId) (B : Nat) (c0 : Nat → va_E) : Nat → va_E := z_ap c0 0 1 218 (z_CR B 1) (z_fCR tc B 1)
abbrev L_cM (tc : Nat → ClassId) (B : Nat) (c0 : Nat → va_E) : Nat → va_E := z_ap c0 0 1 10 (z_Mo B 1) (z_fMo tc)
def L_eC (D : va_G) (tc : Nat → ClassId) (B y : Nat) (ad : Nat → Nat) (c0 : Nat → va_E) (o : Nat) : Prop := q_ad (cG D tc B y ad) (L_hd B) o = B + o ∧ z_eqv (L_cC tc B c0 o) (q_cell (cG D tc B y ad) (L_hd B) o (L_IC o) (L_J0 o) (L_P0 o))
def L_eM (D : va_G) (tc : Nat → ClassId) (B y : Nat) (c0 : Nat → va_E) (o : Nat) : Prop := q_ad (mG D tc B y) (L_hd B) o = B + o ∧ z_eqv (L_cM tc B c0 o) (q_cell (mG D tc B y) (L_hd B) o (L_IM o) (L_J0 o) (L_P0 o))
theorem L_eC_0 (D : va_G) (tc : Nat → ClassId) (B y : Nat) (ad : Nat → Nat) (c0 : Nat → va_E) : L_eC D tc B y ad c0 0 := ⟨rfl, z_eqv_rf rfl⟩
theorem L_eC_1 (D : va_G) (tc : Nat → ClassId) (B y : Nat) (ad : Nat → Nat) (c0 : Nat → va_E) : L_eC D tc B y ad c0 1 := ⟨rfl, z_eqv_rf rfl⟩
theorem L_eC_2 (D : va_G) (tc : Nat → ClassId) (B y : Nat) (ad : Nat → Nat) (c0 : Nat → va_E) : L_eC D tc B y ad c0 2 := ⟨rfl, z_eqv_rf rfl⟩
theorem L_eC_3 (D : va_G) (tc : Nat → ClassId) (B y : Nat) (ad : Nat → Nat) (c0 : Nat → va_E) : L_eC D tc B y ad c0 3 := ⟨rfl, z_eqv_rf rfl⟩
theorem L_eC_4 (D : va_G) (tc : Nat → ClassId) (B y : Nat) (ad : Nat → Nat) (c0 : Nat → va_E) : L_eC D tc B y ad c0 4 := ⟨rfl, z_eqv_rf rfl⟩
theorem L_eC_5 (D : va_G) (tc : Nat → ClassId) (B y : Nat) (ad : Nat → Nat) (c0 : Nat → va_E) : L_eC D tc B y ad c0 5 := ⟨rfl, z_eqv_rf rfl⟩
theorem L_eC_6 (D : va_G) (tc : Nat → ClassId) (B y : Nat) (ad : Nat → Nat) (c0 : Nat → va_E) : L_eC D tc B y ad c0 6 := ⟨rfl, z_eqv_rf rfl⟩
theorem L_eC_7 (D : va_G) (tc : Nat → ClassId) (B y : Nat) (ad : Nat → Nat) (c0 : Nat → va_E) : L_eC D tc B y ad c0 7 := ⟨rfl, z_eqv_rf rfl⟩
theorem L_eC_8 (D : va_G) (tc : Nat → ClassId) (B y : Nat) (ad : Nat → Nat) (c0 : Nat → va_E) : L_eC D tc B y ad c0 8 := ⟨rfl, z_eqv_rf rfl⟩
theorem L_eC_9 (D : va_G) (tc : Nat → ClassId) (B y : Nat) (ad : Nat → Nat) (c0 : Nat → va_E) : L_eC D tc B y ad c0 9 := ⟨rfl, z_eqv_rf rfl⟩
theorem L_eC_10 (D : va_G) (tc : Nat → ClassId) (B y : Nat) (ad : Nat → Nat) (c0 : Nat → va_E) : L_eC D tc B y ad c0 10 := ⟨rfl, z_eqv_rf rfl⟩
theorem L_eC_11 (D : va_G) (tc : Nat → ClassId) (B y : Nat) (ad : Nat → Nat) (c0 : Nat → va_E) : L_eC D tc B y ad c0 11 := ⟨rfl, z_eqv_rf rfl⟩
theorem L_eC_12 (D : va_G) (tc : Nat → ClassId) (B y : Nat) (ad : Nat → Nat) (c0 : Nat → va_E) : L_eC D tc B y ad c0 12 := ⟨rfl, z_eqv_rf rfl⟩
theorem L_eC_13 (D : va_G) (tc : Nat → ClassId) (B y : Nat) (ad : Nat → Nat) (c0 : Nat → va_E) : L_eC D tc B y ad c0 13 := ⟨rfl, z_eqv_rf rfl⟩
theorem L_eC_14 (D : va_G) (tc : Nat → ClassId) (B y : Nat) (ad : Nat → Nat) (c0 : Nat → va_E) : L_eC D tc B y ad c0 14 := ⟨rfl, z_eqv_rf rfl⟩
theorem L_eC_15 (D : va_G) (tc : Nat → ClassId) (B y : Nat) (ad : Nat → Nat) (c0 : Nat → va_E) : L_eC D tc B y ad c0 15 := ⟨rfl, z_eqv_rf rfl⟩
theorem L_eC_16 (D : va_G) (tc : Nat → ClassId) (B y : Nat) (ad : Nat → Nat) (c0 : Nat → va_E) : L_eC D tc B y ad c0 16 := ⟨rfl, z_eqv_rf rfl⟩
theorem L_eC_17 (D : va_G) (tc : Nat → ClassId) (B y : Nat) (ad : Nat → Nat) (c0 : Nat → va_E) : L_eC D tc B y ad c0 17 := ⟨rfl, z_eqv_rf rfl⟩
theorem L_eC_18 (D : va_G) (tc : Nat → ClassId) (B y : Nat) (ad : Nat → Nat) (c0 : Nat → va_E) : L_eC D tc B y ad c0 18 := ⟨rfl, z_eqv_rf rfl⟩
theorem L_eC_19 (D : va_G) (tc : Nat → ClassId) (B y : Nat) (ad : Nat → Nat) (c0 : Nat → va_E) : L_eC D tc B y ad c0 19 := ⟨rfl, z_eqv_rf rfl⟩
theorem L_eC_20 (D : va_G) (tc : Nat → ClassId) (B y : Nat) (ad : Nat → Nat) (c0 : Nat → va_E) : L_eC D tc B y ad c0 20 := ⟨rfl, z_eqv_rf rfl⟩
theorem L_eC_21 (D : va_G) (tc : Nat → ClassId) (B y : Nat) (ad : Nat → Nat) (c0 : Nat → va_E) : L_eC D tc B y ad c0 21 := ⟨rfl, z_eqv_rf rfl⟩
theorem L_eC_22 (D : va_G) (tc : Nat → ClassId) (B y : Nat) (ad : Nat → Nat) (c0 : Nat → va_E) : L_eC D tc B y ad c0 22 := ⟨rfl, z_eqv_rf rfl⟩
theorem L_eC_23 (D : va_G) (tc : Nat → ClassId) (B y : Nat) (ad : Nat → Nat) (c0 : Nat → va_E) : L_eC D tc B y ad c0 23 := ⟨rfl, z_eqv_rf rfl⟩
theorem L_eC_24 (D : va_G) (tc : Nat → ClassId) (B y : Nat) (ad : Nat → Nat) (c0 : Nat → va_E) : L_eC D tc B y ad c0 24 := ⟨rfl, z_eqv_rf rfl⟩
theorem L_eC_25 (D : va_G) (tc : Nat → ClassId) (B y : Nat) (ad : Nat → Nat) (c0 : Nat → va_E) : L_eC D tc B y ad c0 25 := ⟨rfl, z_eqv_rf rfl⟩
theorem L_eC_26 (D : va_G) (tc : Nat → ClassId) (B y : Nat) (ad : Nat → Nat) (c0 : Nat → va_E) : L_eC D tc B y ad c0 26 := ⟨rfl, z_eqv_rf rfl⟩
theorem L_eC_27 (D : va_G) (tc : Nat → ClassId) (B y : Nat) (ad : Nat → Nat) (c0 : Nat → va_E) : L_eC D tc B y ad c0 27 := ⟨rfl, z_eqv_rf rfl⟩
theorem L_eC_28 (D : va_G) (tc : Nat → ClassId) (B y : Nat) (ad : Nat → Nat) (c0 : Nat → va_E) : L_eC D tc B y ad c0 28 := ⟨rfl, z_eqv_rf rfl⟩
theorem L_eC_29 (D : va_G) (tc : Nat → ClassId) (B y : Nat) (ad : Nat → Nat) (c0 : Nat → va_E) : L_eC D tc B y ad c0 29 := ⟨rfl, z_eqv_rf rfl⟩
theorem L_eC_30 (D : va_G) (tc : Nat → ClassId) (B y : Nat) (ad : Nat → Nat) (c0 : Nat → va_E) : L_eC D tc B y ad c0 30 := ⟨rfl, z_eqv_rf rfl⟩
theorem L_eC_31 (D : va_G) (tc : Nat → ClassId) (B y : Nat) (ad : Nat → Nat) (c0 : Nat → va_E) : L_eC D tc B y ad c0 31 := ⟨rfl, z_eqv_rf rfl⟩
theorem L_eC_32 (D : va_G) (tc : Nat → ClassId) (B y : Nat) (ad : Nat → Nat) (c0 : Nat → va_E) : L_eC D tc B y ad c0 32 := ⟨rfl, z_eqv_rf rfl⟩
theorem L_eC_33 (D : va_G) (tc : Nat → ClassId) (B y : Nat) (ad : Nat → Nat) (c0 : Nat → va_E) : L_eC D tc B y ad c0 33 := ⟨rfl, z_eqv_rf rfl⟩
theorem L_eC_34 (D : va_G) (tc : Nat → ClassId) (B y : Nat) (ad : Nat → Nat) (c0 : Nat → va_E) : L_eC D tc B y ad c0 34 := ⟨rfl, z_eqv_rf rfl⟩
theorem L_eC_35 (D : va_G) (tc : Nat → ClassId) (B y : Nat) (ad : Nat → Nat) (c0 : Nat → va_E) : L_eC D tc B y ad c0 35 := ⟨rfl, z_eqv_rf rfl⟩
theorem L_eC_36 (D : va_G) (tc : Nat → ClassId) (B y : Nat) (ad : Nat → Nat) (c0 : Nat → va_E) : L_eC D tc B y ad c0 36 := ⟨rfl, z_eqv_rf rfl⟩
theorem L_eC_37 (D : va_G) (tc : Nat → ClassId) (B y : Nat) (ad : Nat → Nat) (c0 : Nat → va_E) : L_eC D tc B y ad c0 37 := ⟨rfl, z_eqv_rf rfl⟩
theorem L_eC_38 (D : va_G) (tc : Nat → ClassId) (B y : Nat) (ad : Nat → Nat) (c0 : Nat → va_E) : L_eC D tc B y ad c0 38 := ⟨rfl, z_eqv_rf rfl⟩
theorem L_eC_39 (D : va_G) (tc : Nat → ClassId) (B y : Nat) (ad : Nat → Nat) (c0 : Nat → va_E) : L_eC D tc B y ad c0 39 := ⟨rfl, z_eqv_rf rfl⟩
theorem L_eC_40 (D : va_G) (tc : Nat → ClassId) (B y : Nat) (ad : Nat → Nat) (c0 : Nat → va_E) : L_eC D tc B y ad c0 40 := ⟨rfl, z_eqv_rf rfl⟩
theorem L_eC_41 (D : va_G) (tc : Nat → ClassId) (B y : Nat) (ad : Nat → Nat) (c0 : Nat → va_E) : L_eC D tc B y ad c0 41 := ⟨rfl, z_eqv_rf rfl⟩
theorem L_eC_42 (D : va_G) (tc : Nat → ClassId) (B y : Nat) (ad : Nat → Nat) (c0 : Nat → va_E) : L_eC D tc B y ad c0 42 := ⟨rfl, z_eqv_rf rfl⟩
theorem L_eC_43 (D : va_G) (tc : Nat → ClassId) (B y : Nat) (ad : Nat → Nat) (c0 : Nat → va_E) : L_eC D tc B y ad c0 43 := ⟨rfl, z_eqv_rf rfl⟩
theorem L_eC_44 (D : va_G) (tc : Nat → ClassId) (B y : Nat) (ad : Nat → Nat) (c0 : Nat → va_E) : L_eC D tc B y ad c0 44 := ⟨rfl, z_eqv_rf rfl⟩
theorem L_eC_45 (D : va_G) (tc : Nat → ClassId) (B y : Nat) (ad : Nat → Nat) (c0 : Nat → va_E) : L_eC D tc B y ad c0 45 := ⟨rfl, z_eqv_rf rfl⟩
theorem L_eC_46 (D : va_G) (tc : Nat → ClassId) (B y : Nat) (ad : Nat → Nat) (c0 : Nat → va_E) : L_eC D tc B y ad c0 46 := ⟨rfl, z_eqv_rf rfl⟩
theorem L_eC_47 (D : va_G) (tc : Nat → ClassId) (B y : Nat) (ad : Nat → Nat) (c0 : Nat → va_E) : L_eC D tc B y ad c0 47 := ⟨rfl, z_eqv_rf rfl⟩
theorem L_eC_48 (D : va_G) (tc : Nat → ClassId) (B y : Nat) (ad : Nat → Nat) (c0 : Nat → va_E) : L_eC D tc B y ad c0 48 := ⟨rfl, z_eqv_rf rfl⟩
theorem L_eC_49 (D : va_G) (tc : Nat → ClassId) (B y : Nat) (ad : Nat → Nat) (c0 : Nat → va_E) : L_eC D tc B y ad c0 49 := ⟨rfl, z_eqv_rf rfl⟩
theorem L_eC_50 (D : va_G) (tc : Nat → ClassId) (B y : Nat) (ad : Nat → Nat) (c0 : Nat → va_E) : L_eC D tc B y ad c0 50 := ⟨rfl, z_eqv_rf rfl⟩
theorem L_eC_51 (D : va_G) (tc : Nat → ClassId) (B y : Nat) (ad : Nat → Nat) (c0 : Nat → va_E) : L_eC D tc B y ad c0 51 := ⟨rfl, z_eqv_rf rfl⟩
theorem L_eC_52 (D : va_G) (tc : Nat → ClassId) (B y : Nat) (ad : Nat → Nat) (c0 : Nat → va_E) : L_eC D tc B y ad c0 52 := ⟨rfl, z_eqv_rf rfl⟩
theorem L_eC_53 (D : va_G) (tc : Nat → ClassId) (B y : Nat) (ad : Nat → Nat) (c0 : Nat → va_E) : L_eC D tc B y ad c0 53 := ⟨rfl, z_eqv_rf rfl⟩
theorem L_eC_54 (D : va_G) (tc : Nat → ClassId) (B y : Nat) (ad : Nat → Nat) (c0 : Nat → va_E) : L_eC D tc B y ad c0 54 := ⟨rfl, z_eqv_rf rfl⟩
theorem L_eC_55 (D : va_G) (tc : Nat → ClassId) (B y : Nat) (ad : Nat → Nat) (c0 : Nat → va_E) : L_eC D tc B y ad c0 55 := ⟨rfl, z_eqv_rf rfl⟩
theorem L_eC_56 (D : va_G) (tc : Nat → ClassId) (B y : Nat) (ad : Nat → Nat) (c0 : Nat → va_E) : L_eC D tc B y ad c0 56 := ⟨rfl, z_eqv_rf rfl⟩
theorem L_eC_57 (D : va_G) (tc : Nat → ClassId) (B y : Nat) (ad : Nat → Nat) (c0 : Nat → va_E) : L_eC D tc B y ad c0 57 := ⟨rfl, z_eqv_rf rfl⟩
theorem L_eC_58 (D : va_G) (tc : Nat → ClassId) (B y : Nat) (ad : Nat → Nat) (c0 : Nat → va_E) : L_eC D tc B y ad c0 58 := ⟨rfl, z_eqv_rf rfl⟩
theorem L_eC_59 (D : va_G) (tc : Nat → ClassId) (B y : Nat) (ad : Nat → Nat) (c0 : Nat → va_E) : L_eC D tc B y ad c0 59 := ⟨rfl, z_eqv_rf rfl⟩
theorem L_eC_60 (D : va_G) (tc : Nat → ClassId) (B y : Nat) (ad : Nat → Nat) (c0 : Nat → va_E) : L_eC D tc B y ad c0 60 := ⟨rfl, z_eqv_rf rfl⟩
theorem L_eC_61 (D : va_G) (tc : Nat → ClassId) (B y : Nat) (ad : Nat → Nat) (c0 : Nat → va_E) : L_eC D tc B y ad c0 61 := ⟨rfl, z_eqv_rf rfl⟩
theorem L_eC_62 (D : va_G) (tc : Nat → ClassId) (B y : Nat) (ad : Nat → Nat) (c0 : Nat → va_E) : L_eC D tc B y ad c0 62 := ⟨rfl, z_eqv_rf rfl⟩
theorem L_eC_63 (D : va_G) (tc : Nat → ClassId) (B y : Nat) (ad : Nat → Nat) (c0 : Nat → va_E) : L_eC D tc B y ad c0 63 := ⟨rfl, z_eqv_rf rfl⟩
theorem L_eC_64 (D : va_G) (tc : Nat → ClassId) (B y : Nat) (ad : Nat → Nat) (c0 : Nat → va_E) : L_eC D tc B y ad c0 64 := ⟨rfl, z_eqv_rf rfl⟩
theorem L_eC_65 (D : va_G) (tc : Nat → ClassId) (B y : Nat) (ad : Nat → Nat) (c0 : Nat → va_E) : L_eC D tc B y ad c0 65 := ⟨rfl, z_eqv_rf rfl⟩
theorem L_eC_66 (D : va_G) (tc : Nat → ClassId) (B y : Nat) (ad : Nat → Nat) (c0 : Nat → va_E) : L_eC D tc B y ad c0 66 := ⟨rfl, z_eqv_rf rfl⟩
theorem L_eC_67 (D : va_G) (tc : Nat → ClassId) (B y : Nat) (ad : Nat → Nat) (c0 : Nat → va_E) : L_eC D tc B y ad c0 67 := ⟨rfl, z_eqv_rf rfl⟩
theorem L_eC_68 (D : va_G) (tc : Nat → ClassId) (B y : Nat) (ad : Nat → Nat) (c0 : Nat → va_E) : L_eC D tc B y ad c0 68 := ⟨rfl, z_eqv_rf rfl⟩
theorem L_eC_69 (D : va_G) (tc : Nat → ClassId) (B y : Nat) (ad : Nat → Nat) (c0 : Nat → va_E) : L_eC D tc B y ad c0 69 := ⟨rfl, z_eqv_rf rfl⟩
theorem L_eC_70 (D : va_G) (tc : Nat → ClassId) (B y : Nat) (ad : Nat → Nat) (c0 : Nat → va_E) : L_eC D tc B y ad c0 70 := ⟨rfl, z_eqv_rf rfl⟩
theorem L_eC_71 (D : va_G) (tc : Nat → ClassId) (B y : Nat) (ad : Nat → Nat) (c0 : Nat → va_E) : L_eC D tc B y ad c0 71 := ⟨rfl, z_eqv_rf rfl⟩
theorem L_eC_72 (D : va_G) (tc : Nat → ClassId) (B y : Nat) (ad : Nat → Nat) (c0 : Nat → va_E) : L_eC D tc B y ad c0 72 := ⟨rfl, z_eqv_rf rfl⟩
theorem L_eC_73 (D : va_G) (tc : Nat → ClassId) (B y : Nat) (ad : Nat → Nat) (c0 : Nat → va_E) : L_eC D tc B y ad c0 73 := ⟨rfl, z_eqv_rf rfl⟩
theorem L_eC_74 (D : va_G) (tc : Nat → ClassId) (B y : Nat) (ad : Nat → Nat) (c0 : Nat → va_E) : L_eC D tc B y ad c0 74 := ⟨rfl, z_eqv_rf rfl⟩
theorem L_eC_75 (D : va_G) (tc : Nat → ClassId) (B y : Nat) (ad : Nat → Nat) (c0 : Nat → va_E) : L_eC D tc B y ad c0 75 := ⟨rfl, z_eqv_rf rfl⟩
theorem L_eC_76 (D : va_G) (tc : Nat → ClassId) (B y : Nat) (ad : Nat → Nat) (c0 : Nat → va_E) : L_eC D tc B y ad c0 76 := ⟨rfl, z_eqv_rf rfl⟩
theorem L_eC_77 (D : va_G) (tc : Nat → ClassId) (B y : Nat) (ad : Nat → Nat) (c0 : Nat → va_E) : L_eC D tc B y ad c0 77 := ⟨rfl, z_eqv_rf rfl⟩
theorem L_eC_78 (D : va_G) (tc : Nat → ClassId) (B y : Nat) (ad : Nat → Nat) (c0 : Nat → va_E) : L_eC D tc B y ad c0 78 := ⟨rfl, z_eqv_rf rfl⟩
theorem L_eC_79 (D : va_G) (tc : Nat → ClassId) (B y : Nat) (ad : Nat → Nat) (c0 : Nat → va_E) : L_eC D tc B y ad c0 79 := ⟨rfl, z_eqv_rf rfl⟩
theorem L_eC_80 (D : va_G) (tc : Nat → ClassId) (B y : Nat) (ad : Nat → Nat) (c0 : Nat → va_E) : L_eC D tc B y ad c0 80 := ⟨rfl, z_eqv_rf rfl⟩
theorem L_eC_81 (D : va_G) (tc : Nat → ClassId) (B y : Nat) (ad : Nat → Nat) (c0 : Nat → va_E) : L_eC D tc B y ad c0 81 := ⟨rfl, z_eqv_rf rfl⟩
theorem L_eC_82 (D : va_G) (tc : Nat → ClassId) (B y : Nat) (ad : Nat → Nat) (c0 : Nat → va_E) : L_eC D tc B y ad c0 82 := ⟨rfl, z_eqv_rf rfl⟩
theorem L_eC_83 (D : va_G) (tc : Nat → ClassId) (B y : Nat) (ad : Nat → Nat) (c0 : Nat → va_E) : L_eC D tc B y ad c0 83 := ⟨rfl, z_eqv_rf rfl⟩
theorem L_eC_84 (D : va_G) (tc : Nat → ClassId) (B y : Nat) (ad : Nat → Nat) (c0 : Nat → va_E) : L_eC D tc B y ad c0 84 := ⟨rfl, z_eqv_rf rfl⟩
theorem L_eC_85 (D : va_G) (tc : Nat → ClassId) (B y : Nat) (ad : Nat → Nat) (c0 : Nat → va_E) : L_eC D tc B y ad c0 85 := ⟨rfl, z_eqv_rf rfl⟩
theorem L_eC_86 (D : va_G) (tc : Nat → ClassId) (B y : Nat) (ad : Nat → Nat) (c0 : Nat → va_E) : L_eC D tc B y ad c0 86 := ⟨rfl, z_eqv_rf rfl⟩
theorem L_eC_87 (D : va_G) (tc : Nat → ClassId) (B y : Nat) (ad : Nat → Nat) (c0 : Nat → va_E) : L_eC D tc B y ad c0 87 := ⟨rfl, z_eqv_rf rfl⟩
theorem L_eC_88 (D : va_G) (tc : Nat → ClassId) (B y : Nat) (ad : Nat → Nat) (c0 : Nat → va_E) : L_eC D tc B y ad c0 88 := ⟨rfl, z_eqv_rf rfl⟩
theorem L_eC_89 (D : va_G) (tc : Nat → ClassId) (B y : Nat) (ad : Nat → Nat) (c0 : Nat → va_E) : L_eC D tc B y ad c0 89 := ⟨rfl, z_eqv_rf rfl⟩
theorem L_eC_90 (D : va_G) (tc : Nat → ClassId) (B y : Nat) (ad : Nat → Nat) (c0 : Nat → va_E) : L_eC D tc B y ad c0 90 := ⟨rfl, z_eqv_rf rfl⟩
theorem L_eC_91 (D : va_G) (tc : Nat → ClassId) (B y : Nat) (ad : Nat → Nat) (c0 : Nat → va_E) : L_eC D tc B y ad c0 91 := ⟨rfl, z_eqv_rf rfl⟩
theorem L_eC_92 (D : va_G) (tc : Nat → ClassId) (B y : Nat) (ad : Nat → Nat) (c0 : Nat → va_E) : L_eC D tc B y ad c0 92 := ⟨rfl, z_eqv_rf rfl⟩
theorem L_eC_93 (D : va_G) (tc : Nat → ClassId) (B y : Nat) (ad : Nat → Nat) (c0 : Nat → va_E) : L_eC D tc B y ad c0 93 := ⟨rfl, z_eqv_rf rfl⟩
theorem L_eC_94 (D : va_G) (tc : Nat → ClassId) (B y : Nat) (ad : Nat → Nat) (c0 : Nat → va_E) : L_eC D tc B y ad c0 94 := ⟨rfl, z_eqv_rf rfl⟩
theorem L_eC_95 (D : va_G) (tc : Nat → ClassId) (B y : Nat) (ad : Nat → Nat) (c0 : Nat → va_E) : L_eC D tc B y ad c0 95 := ⟨rfl, z_eqv_rf rfl⟩
theorem L_eC_96 (D : va_G) (tc : Nat → ClassId) (B y : Nat) (ad : Nat → Nat) (c0 : Nat → va_E) : L_eC D tc B y ad c0 96 := ⟨rfl, z_eqv_rf rfl⟩
theorem L_eC_97 (D : va_G) (tc : Nat → ClassId) (B y : Nat) (ad : Nat → Nat) (c0 : Nat → va_E) : L_eC D tc B y ad c0 97 := ⟨rfl, z_eqv_rf rfl⟩
theorem L_eC_98 (D : va_G) (tc : Nat → ClassId) (B y : Nat) (ad : Nat → Nat) (c0 : Nat → va_E) : L_eC D tc B y ad c0 98 := ⟨rfl, z_eqv_rf rfl⟩
theorem L_eC_99 (D : va_G) (tc : Nat → ClassId) (B y : Nat) (ad : Nat → Nat) (c0 : Nat → va_E) : L_eC D tc B y ad c0 99 := ⟨rfl, z_eqv_rf rfl⟩
theorem L_eC_100 (D : va_G) (tc : Nat → ClassId) (B y : Nat) (ad : Nat → Nat) (c0 : Nat → va_E) : L_eC D tc B y ad c0 100 := ⟨rfl, z_eqv_rf rfl⟩
theorem L_eC_101 (D : va_G) (tc : Nat → ClassId) (B y : Nat) (ad : Nat → Nat) (c0 : Nat → va_E) : L_eC D tc B y ad c0 101 := ⟨rfl, z_eqv_rf rfl⟩
theorem L_eC_102 (D : va_G) (tc : Nat → ClassId) (B y : Nat) (ad : Nat → Nat) (c0 : Nat → va_E) : L_eC D tc B y ad c0 102 := ⟨rfl, z_eqv_rf rfl⟩
theorem L_eC_103 (D : va_G) (tc : Nat → ClassId) (B y : Nat) (ad : Nat → Nat) (c0 : Nat → va_E) : L_eC D tc B y ad c0 103 := ⟨rfl, z_eqv_rf rfl⟩
theorem L_eC_104 (D : va_G) (tc : Nat → ClassId) (B y : Nat) (ad : Nat → Nat) (c0 : Nat → va_E) : L_eC D tc B y ad c0 104 := ⟨rfl, z_eqv_rf rfl⟩
theorem L_eC_105 (D : va_G) (tc : Nat → ClassId) (B y : Nat) (ad : Nat → Nat) (c0 : Nat → va_E) : L_eC D tc B y ad c0 105 := ⟨rfl, z_eqv_rf rfl⟩
theorem L_eC_106 (D : va_G) (tc : Nat → ClassId) (B y : Nat) (ad : Nat → Nat) (c0 : Nat → va_E) : L_eC D tc B y ad c0 106 := ⟨rfl, z_eqv_rf rfl⟩
theorem L_eC_107 (D : va_G) (tc : Nat → ClassId) (B y : Nat) (ad : Nat → Nat) (c0 : Nat → va_E) : L_eC D tc B y ad c0 107 := ⟨rfl, z_eqv_rf rfl⟩
theorem L_eC_108 (D : va_G) (tc : Nat → ClassId) (B y : Nat) (ad : Nat → Nat) (c0 : Nat → va_E) : L_eC D tc B y ad c0 108 := ⟨rfl, z_eqv_rf rfl⟩
theorem L_eC_109 (D : va_G) (tc : Nat → ClassId) (B y : Nat) (ad : Nat → Nat) (c0 : Nat → va_E) : L_eC D tc B y ad c0 109 := ⟨rfl, z_eqv_rf rfl⟩
theorem L_eC_110 (D : va_G) (tc : Nat → ClassId) (B y : Nat) (ad : Nat → Nat) (c0 : Nat → va_E) : L_eC D tc B y ad c0 110 := ⟨rfl, z_eqv_rf rfl⟩
theorem L_eC_111 (D : va_G) (tc : Nat → ClassId) (B y : Nat) (ad : Nat → Nat) (c0 : Nat → va_E) : L_eC D tc B y ad c0 111 := ⟨rfl, z_eqv_rf rfl⟩
theorem L_eC_112 (D : va_G) (tc : Nat → ClassId) (B y : Nat) (ad : Nat → Nat) (c0 : Nat → va_E) : L_eC D tc B y ad c0 112 := ⟨rfl, z_eqv_rf rfl⟩
theorem L_eC_113 (D : va_G) (tc : Nat → ClassId) (B y : Nat) (ad : Nat → Nat) (c0 : Nat → va_E) : L_eC D tc B y ad c0 113 := ⟨rfl, z_eqv_rf rfl⟩
theorem L_eC_114 (D : va_G) (tc : Nat → ClassId) (B y : Nat) (ad : Nat → Nat) (c0 : Nat → va_E) : L_eC D tc B y ad c0 114 := ⟨rfl, z_eqv_rf rfl⟩
theorem L_eC_115 (D : va_G) (tc : Nat → ClassId) (B y : Nat) (ad : Nat → Nat) (c0 : Nat → va_E) : L_eC D tc B y ad c0 115 := ⟨rfl, z_eqv_rf rfl⟩
theorem L_eC_116 (D : va_G) (tc : Nat → ClassId) (B y : Nat) (ad : Nat → Nat) (c0 : Nat → va_E) : L_eC D tc B y ad c0 116 := ⟨rfl, z_eqv_rf rfl⟩
theorem L_eC_117 (D : va_G) (tc : Nat → ClassId) (B y : Nat) (ad : Nat → Nat) (c0 : Nat → va_E) : L_eC D tc B y ad c0 117 := ⟨rfl, z_eqv_rf rfl⟩
theorem L_eC_118 (D : va_G) (tc : Nat → ClassId) (B y : Nat) (ad : Nat → Nat) (c0 : Nat → va_E) : L_eC D tc B y ad c0 118 := ⟨rfl, z_eqv_rf rfl⟩
theorem L_eC_119 (D : va_G) (tc : Nat → ClassId) (B y : Nat) (ad : Nat → Nat) (c0 : Nat → va_E) : L_eC D tc B y ad c0 119 := ⟨rfl, z_eqv_rf rfl⟩
theorem L_eC_120 (D : va_G) (tc : Nat → ClassId) (B y : Nat) (ad : Nat → Nat) (c0 : Nat → va_E) : L_eC D tc B y ad c0 120 := ⟨rfl, z_eqv_rf rfl⟩
theorem L_eC_121 (D : va_G) (tc : Nat → ClassId) (B y : Nat) (ad : Nat → Nat) (c0 : Nat → va_E) : L_eC D tc B y ad c0 121 := ⟨rfl, z_eqv_rf rfl⟩
theorem L_eC_122 (D : va_G) (tc : Nat → ClassId) (B y : Nat) (ad : Nat → Nat) (c0 : Nat → va_E) : L_eC D tc B y ad c0 122 := ⟨rfl, z_eqv_rf rfl⟩
theorem L_eC_123 (D : va_G) (tc : Nat → ClassId) (B y : Nat) (ad : Nat → Nat) (c0 : Nat → va_E) : L_eC D tc B y ad c0 123 := ⟨rfl, z_eqv_rf rfl⟩
theorem L_eC_124 (D : va_G) (tc : Nat → ClassId) (B y : Nat) (ad : Nat → Nat) (c0 : Nat → va_E) : L_eC D tc B y ad c0 124 := ⟨rfl, z_eqv_rf rfl⟩
theorem L_eC_125 (D : va_G) (tc : Nat → ClassId) (B y : Nat) (ad : Nat → Nat) (c0 : Nat → va_E) : L_eC D tc B y ad c0 125 := ⟨rfl, z_eqv_rf rfl⟩
theorem L_eC_126 (D : va_G) (tc : Nat → ClassId) (B y : Nat) (ad : Nat → Nat) (c0 : Nat → va_E) : L_eC D tc B y ad c0 126 := ⟨rfl, z_eqv_rf rfl⟩
theorem L_eC_127 (D : va_G) (tc : Nat → ClassId) (B y : Nat) (ad : Nat → Nat) (c0 : Nat → va_E) : L_eC D tc B y ad c0 127 := ⟨rfl, z_eqv_rf rfl⟩
theorem L_eC_128 (D : va_G) (tc : Nat → ClassId) (B y : Nat) (ad : Nat → Nat) (c0 : Nat → va_E) : L_eC D tc B y ad c0 128 := ⟨rfl, z_eqv_rf rfl⟩
theorem L_eC_129 (D : va_G) (tc : Nat → ClassId) (B y : Nat) (ad : Nat → Nat) (c0 : Nat → va_E) : L_eC D tc B y ad c0 129 := ⟨rfl, z_eqv_rf rfl⟩
theorem L_eC_130 (D : va_G) (tc : Nat → ClassId) (B y : Nat) (ad : Nat → Nat) (c0 : Nat → va_E) : L_eC D tc B y ad c0 130 := ⟨rfl, z_eqv_rf rfl⟩
theorem L_eC_131 (D : va_G) (tc : Nat → ClassId) (B y : Nat) (ad : Nat → Nat) (c0 : Nat → va_E) : L_eC D tc B y ad c0 131 := ⟨rfl, z_eqv_rf rfl⟩
theorem L_eC_132 (D : va_G) (tc : Nat → ClassId) (B y : Nat) (ad : Nat → Nat) (c0 : Nat → va_E) : L_eC D tc B y ad c0 132 := ⟨rfl, z_eqv_rf rfl⟩
theorem L_eC_133 (D : va_G) (tc : Nat → ClassId) (B y : Nat) (ad : Nat → Nat) (c0 : Nat → va_E) : L_eC D tc B y ad c0 133 := ⟨rfl, z_eqv_rf rfl⟩
theorem L_eC_134 (D : va_G) (tc : Nat → ClassId) (B y : Nat) (ad : Nat → Nat) (c0 : Nat → va_E) : L_eC D tc B y ad c0 134 := ⟨rfl, z_eqv_rf rfl⟩
theorem L_eC_135 (D : va_G) (tc : Nat → ClassId) (B y : Nat) (ad : Nat → Nat) (c0 : Nat → va_E) : L_eC D tc B y ad c0 135 := ⟨rfl, z_eqv_rf rfl⟩
theorem L_eC_136 (D : va_G) (tc : Nat → ClassId) (B y : Nat) (ad : Nat → Nat) (c0 : Nat → va_E) : L_eC D tc B y ad c0 136 := ⟨rfl, z_eqv_rf rfl⟩
theorem L_eC_137 (D : va_G) (tc : Nat → ClassId) (B y : Nat) (ad : Nat → Nat) (c0 : Nat → va_E) : L_eC D tc B y ad c0 137 := ⟨rfl, z_eqv_rf rfl⟩
theorem L_eC_138 (D : va_G) (tc : Nat → ClassId) (B y : Nat) (ad : Nat → Nat) (c0 : Nat → va_E) : L_eC D tc B y ad c0 138 := ⟨rfl, z_eqv_rf rfl⟩
theorem L_eC_139 (D : va_G) (tc : Nat → ClassId) (B y : Nat) (ad : Nat → Nat) (c0 : Nat → va_E) : L_eC D tc B y ad c0 139 := ⟨rfl, z_eqv_rf rfl⟩
theorem L_eC_140 (D : va_G) (tc : Nat → ClassId) (B y : Nat) (ad : Nat → Nat) (c0 : Nat → va_E) : L_eC D tc B y ad c0 140 := ⟨rfl, z_eqv_rf rfl⟩
theorem L_eC_141 (D : va_G) (tc : Nat → ClassId) (B y : Nat) (ad : Nat → Nat) (c0 : Nat → va_E) : L_eC D tc B y ad c0 141 := ⟨rfl, z_eqv_rf rfl⟩
theorem L_eC_142 (D : va_G) (tc : Nat → ClassId) (B y : Nat) (ad : Nat → Nat) (c0 : Nat → va_E) : L_eC D tc B y ad c0 142 := ⟨rfl, z_eqv_rf rfl⟩
theorem L_eC_143 (D : va_G) (tc : Nat → ClassId) (B y : Nat) (ad : Nat → Nat) (c0 : Nat → va_E) : L_eC D tc B y ad c0 143 := ⟨rfl, z_eqv_rf rfl⟩
theorem L_eC_144 (D : va_G) (tc : Nat → ClassId) (B y : Nat) (ad : Nat → Nat) (c0 : Nat → va_E) : L_eC D tc B y ad c0 144 := ⟨rfl, z_eqv_rf rfl⟩
theorem L_eC_145 (D : va_G) (tc : Nat → ClassId) (B y : Nat) (ad : Nat → Nat) (c0 : Nat → va_E) : L_eC D tc B y ad c0 145 := ⟨rfl, z_eqv_rf rfl⟩
theorem L_eC_146 (D : va_G) (tc : Nat → ClassId) (B y : Nat) (ad : Nat → Nat) (c0 : Nat → va_E) : L_eC D tc B y ad c0 146 := ⟨rfl, z_eqv_rf rfl⟩
theorem L_eC_147 (D : va_G) (tc : Nat → ClassId) (B y : Nat) (ad : Nat → Nat) (c0 : Nat → va_E) : L_eC D tc B y ad c0 147 := ⟨rfl, z_eqv_rf rfl⟩
theorem L_eC_148 (D : va_G) (tc : Nat → ClassId) (B y : Nat) (ad : Nat → Nat) (c0 : Nat → va_E) : L_eC D tc B y ad c0 148 := ⟨rfl, z_eqv_rf rfl⟩
theorem L_eC_149 (D : va_G) (tc : Nat → ClassId) (B y : Nat) (ad : Nat → Nat) (c0 : Nat → va_E) : L_eC D tc B y ad c0 149 := ⟨rfl, z_eqv_rf rfl⟩
theorem L_eC_150 (D : va_G) (tc : Nat → ClassId) (B y : Nat) (ad : Nat → Nat) (c0 : Nat → va_E) : L_eC D tc B y ad c0 150 := ⟨rfl, z_eqv_rf rfl⟩
theorem L_eC_151 (D : va_G) (tc : Nat → ClassId) (B y : Nat) (ad : Nat → Nat) (c0 : Nat → va_E) : L_eC D tc B y ad c0 151 := ⟨rfl, z_eqv_rf rfl⟩
theorem L_eC_152 (D : va_G) (tc : Nat → ClassId) (B y : Nat) (ad : Nat → Nat) (c0 : Nat → va_E) : L_eC D tc B y ad c0 152 := ⟨rfl, z_eqv_rf rfl⟩
theorem L_eC_153 (D : va_G) (tc : Nat → ClassId) (B y : Nat) (ad : Nat → Nat) (c0 : Nat → va_E) : L_eC D tc B y ad c0 153 := ⟨rfl, z_eqv_rf rfl⟩
theorem L_eC_154 (D : va_G) (tc : Nat → ClassId) (B y : Nat) (ad : Nat → Nat) (c0 : Nat → va_E) : L_eC D tc B y ad c0 154 := ⟨rfl, z_eqv_rf rfl⟩
theorem L_eC_155 (D : va_G) (tc : Nat → ClassId) (B y : Nat) (ad : Nat → Nat) (c0 : Nat → va_E) : L_eC D tc B y ad c0 155 := ⟨rfl, z_eqv_rf rfl⟩
theorem L_eC_156 (D : va_G) (tc : Nat → ClassId) (B y : Nat) (ad : Nat → Nat) (c0 : Nat → va_E) : L_eC D tc B y ad c0 156 := ⟨rfl, z_eqv_rf rfl⟩
theorem L_eC_157 (D : va_G) (tc : Nat → ClassId) (B y : Nat) (ad : Nat → Nat) (c0 : Nat → va_E) : L_eC D tc B y ad c0 157 := ⟨rfl, z_eqv_rf rfl⟩
theorem L_eC_158 (D : va_G) (tc : Nat → ClassId) (B y : Nat) (ad : Nat → Nat) (c0 : Nat → va_E) : L_eC D tc B y ad c0 158 := ⟨rfl, z_eqv_rf rfl⟩
theorem L_eC_159 (D : va_G) (tc : Nat → ClassId) (B y : Nat) (ad : Nat → Nat) (c0 : Nat → va_E) : L_eC D tc B y ad c0 159 := ⟨rfl, z_eqv_rf rfl⟩
theorem L_eC_160 (D : va_G) (tc : Nat → ClassId) (B y : Nat) (ad : Nat → Nat) (c0 : Nat → va_E) : L_eC D tc B y ad c0 160 := ⟨rfl, z_eqv_rf rfl⟩
theorem L_eC_161 (D : va_G) (tc : Nat → ClassId) (B y : Nat) (ad : Nat → Nat) (c0 : Nat → va_E) : L_eC D tc B y ad c0 161 := ⟨rfl, z_eqv_rf rfl⟩
theorem L_eC_162 (D : va_G) (tc : Nat → ClassId) (B y : Nat) (ad : Nat → Nat) (c0 : Nat → va_E) : L_eC D tc B y ad c0 162 := ⟨rfl, z_eqv_rf rfl⟩
theorem L_eC_163 (D : va_G) (tc : Nat → ClassId) (B y : Nat) (ad : Nat → Nat) (c0 : Nat → va_E) : L_eC D tc B y ad c0 163 := ⟨rfl, z_eqv_rf rfl⟩
theorem L_eC_164 (D : va_G) (tc : Nat → ClassId) (B y : Nat) (ad : Nat → Nat) (c0 : Nat → va_E) : L_eC D tc B y ad c0 164 := ⟨rfl, z_eqv_rf rfl⟩
theorem L_eC_165 (D : va_G) (tc : Nat → ClassId) (B y : Nat) (ad : Nat → Nat) (c0 : Nat → va_E) : L_eC D tc B y ad c0 165 := ⟨rfl, z_eqv_rf rfl⟩
theorem L_eC_166 (D : va_G) (tc : Nat → ClassId) (B y : Nat) (ad : Nat → Nat) (c0 : Nat → va_E) : L_eC D tc B y ad c0 166 := ⟨rfl, z_eqv_rf rfl⟩
theorem L_eC_167 (D : va_G) (tc : Nat → ClassId) (B y : Nat) (ad : Nat → Nat) (c0 : Nat → va_E) : L_eC D tc B y ad c0 167 := ⟨rfl, z_eqv_rf rfl⟩
theorem L_eC_168 (D : va_G) (tc : Nat → ClassId) (B y : Nat) (ad : Nat → Nat) (c0 : Nat → va_E) : L_eC D tc B y ad c0 168 := ⟨rfl, z_eqv_rf rfl⟩
theorem L_eC_169 (D : va_G) (tc : Nat → ClassId) (B y : Nat) (ad : Nat → Nat) (c0 : Nat → va_E) : L_eC D tc B y ad c0 169 := ⟨rfl, z_eqv_rf rfl⟩
theorem L_eC_170 (D : va_G) (tc : Nat → ClassId) (B y : Nat) (ad : Nat → Nat) (c0 : Nat → va_E) : L_eC D tc B y ad c0 170 := ⟨rfl, z_eqv_rf rfl⟩
theorem L_eC_171 (D : va_G) (tc : Nat → ClassId) (B y : Nat) (ad : Nat → Nat) (c0 : Nat → va_E) : L_eC D tc B y ad c0 171 := ⟨rfl, z_eqv_rf rfl⟩
theorem L_eC_172 (D : va_G) (tc : Nat → ClassId) (B y : Nat) (ad : Nat → Nat) (c0 : Nat → va_E) : L_eC D tc B y ad c0 172 := ⟨rfl, z_eqv_rf rfl⟩
theorem L_eC_173 (D : va_G) (tc : Nat → ClassId) (B y : Nat) (ad : Nat → Nat) (c0 : Nat → va_E) : L_eC D tc B y ad c0 173 := ⟨rfl, z_eqv_rf rfl⟩
theorem L_eC_174 (D : va_G) (tc : Nat → ClassId) (B y : Nat) (ad : Nat → Nat) (c0 : Nat → va_E) : L_eC D tc B y ad c0 174 := ⟨rfl, z_eqv_rf rfl⟩
theorem L_eC_175 (D : va_G) (tc : Nat → ClassId) (B y : Nat) (ad : Nat → Nat) (c0 : Nat → va_E) : L_eC D tc B y ad c0 175 := ⟨rfl, z_eqv_rf rfl⟩
theorem L_eC_176 (D : va_G) (tc : Nat → ClassId) (B y : Nat) (ad : Nat → Nat) (c0 : Nat → va_E) : L_eC D tc B y ad c0 176 := ⟨rfl, z_eqv_rf rfl⟩
theorem L_eC_177 (D : va_G) (tc : Nat → ClassId) (B y : Nat) (ad : Nat → Nat) (c0 : Nat → va_E) : L_eC D tc B y ad c0 177 := ⟨rfl, z_eqv_rf rfl⟩
theorem L_eC_178 (D : va_G) (tc : Nat → ClassId) (B y : Nat) (ad : Nat → Nat) (c0 : Nat → va_E) : L_eC D tc B y ad c0 178 := ⟨rfl, z_eqv_rf rfl⟩
theorem L_eC_179 (D : va_G) (tc : Nat → ClassId) (B y : Nat) (ad : Nat → Nat) (c0 : Nat → va_E) : L_eC D tc B y ad c0 179 := ⟨rfl, z_eqv_rf rfl⟩
theorem L_eC_180 (D : va_G) (tc : Nat → ClassId) (B y : Nat) (ad : Nat → Nat) (c0 : Nat → va_E) : L_eC D tc B y ad c0 180 := ⟨rfl, z_eqv_rf rfl⟩
theorem L_eC_181 (D : va_G) (tc : Nat → ClassId) (B y : Nat) (ad : Nat → Nat) (c0 : Nat → va_E) : L_eC D tc B y ad c0 181 := ⟨rfl, z_eqv_rf rfl⟩
theorem L_eC_182 (D : va_G) (tc : Nat → ClassId) (B y : Nat) (ad : Nat → Nat) (c0 : Nat → va_E) : L_eC D tc B y ad c0 182 := ⟨rfl, z_eqv_rf rfl⟩
theorem L_eC_183 (D : va_G) (tc : Nat → ClassId) (B y : Nat) (ad : Nat → Nat) (c0 : Nat → va_E) : L_eC D tc B y ad c0 183 := ⟨rfl, z_eqv_rf rfl⟩
theorem L_eC_184 (D : va_G) (tc : Nat → ClassId) (B y : Nat) (ad : Nat → Nat) (c0 : Nat → va_E) : L_eC D tc B y ad c0 184 := ⟨rfl, z_eqv_rf rfl⟩
theorem L_eC_185 (D : va_G) (tc : Nat → ClassId) (B y : Nat) (ad : Nat → Nat) (c0 : Nat → va_E) : L_eC D tc B y ad c0 185 := ⟨rfl, z_eqv_rf rfl⟩
theorem L_eC_186 (D : va_G) (tc : Nat → ClassId) (B y : Nat) (ad : Nat → Nat) (c0 : Nat → va_E) : L_eC D tc B y ad c0 186 := ⟨rfl, z_eqv_rf rfl⟩
theorem L_eC_187 (D : va_G) (tc : Nat → ClassId) (B y : Nat) (ad : Nat → Nat) (c0 : Nat → va_E) : L_eC D tc B y ad c0 187 := ⟨rfl, z_eqv_rf rfl⟩
theorem L_eC_188 (D : va_G) (tc : Nat → ClassId) (B y : Nat) (ad : Nat → Nat) (c0 : Nat → va_E) : L_eC D tc B y ad c0 188 := ⟨rfl, z_eqv_rf rfl⟩
theorem L_eC_189 (D : va_G) (tc : Nat → ClassId) (B y : Nat) (ad : Nat → Nat) (c0 : Nat → va_E) : L_eC D tc B y ad c0 189 := ⟨rfl, z_eqv_rf rfl⟩
theorem L_eC_190 (D : va_G) (tc : Nat → ClassId) (B y : Nat) (ad : Nat → Nat) (c0 : Nat → va_E) : L_eC D tc B y ad c0 190 := ⟨rfl, z_eqv_rf rfl⟩
theorem L_eC_191 (D : va_G) (tc : Nat → ClassId) (B y : Nat) (ad : Nat → Nat) (c0 : Nat → va_E) : L_eC D tc B y ad c0 191 := ⟨rfl, z_eqv_rf rfl⟩
theorem L_eC_192 (D : va_G) (tc : Nat → ClassId) (B y : Nat) (ad : Nat → Nat) (c0 : Nat → va_E) : L_eC D tc B y ad c0 192 := ⟨rfl, z_eqv_rf rfl⟩
theorem L_eC_193 (D : va_G) (tc : Nat → ClassId) (B y : Nat) (ad : Nat → Nat) (c0 : Nat → va_E) : L_eC D tc B y ad c0 193 := ⟨rfl, z_eqv_rf rfl⟩
theorem L_eC_194 (D : va_G) (tc : Nat → ClassId) (B y : Nat) (ad : Nat → Nat) (c0 : Nat → va_E) : L_eC D tc B y ad c0 194 := ⟨rfl, z_eqv_rf rfl⟩
theorem L_eC_195 (D : va_G) (tc : Nat → ClassId) (B y : Nat) (ad : Nat → Nat) (c0 : Nat → va_E) : L_eC D tc B y ad c0 195 := ⟨rfl, z_eqv_rf rfl⟩
theorem L_eC_196 (D : va_G) (tc : Nat → ClassId) (B y : Nat) (ad : Nat → Nat) (c0 : Nat → va_E) : L_eC D tc B y ad c0 196 := ⟨rfl, z_eqv_rf rfl⟩
theorem L_eC_197 (D : va_G) (tc : Nat → ClassId) (B y : Nat) (ad : Nat → Nat) (c0 : Nat → va_E) : L_eC D tc B y ad c0 197 := ⟨rfl, z_eqv_rf rfl⟩
theorem L_eC_198 (D : va_G) (tc : Nat → ClassId) (B y : Nat) (ad : Nat → Nat) (c0 : Nat → va_E) : L_eC D tc B y ad c0 198 := ⟨rfl, z_eqv_rf rfl⟩
theorem L_eC_199 (D : va_G) (tc : Nat → ClassId) (B y : Nat) (ad : Nat → Nat) (c0 : Nat → va_E) : L_eC D tc B y ad c0 199 := ⟨rfl, z_eqv_rf rfl⟩
theorem L_eC_200 (D : va_G) (tc : Nat → ClassId) (B y : Nat) (ad : Nat → Nat) (c0 : Nat → va_E) : L_eC D tc B y ad c0 200 := ⟨rfl, z_eqv_rf rfl⟩
theorem L_eC_201 (D : va_G) (tc : Nat → ClassId) (B y : Nat) (ad : Nat → Nat) (c0 : Nat → va_E) : L_eC D tc B y ad c0 201 := ⟨rfl, z_eqv_rf rfl⟩
theorem L_eC_202 (D : va_G) (tc : Nat → ClassId) (B y : Nat) (ad : Nat → Nat) (c0 : Nat → va_E) : L_eC D tc B y ad c0 202 := ⟨rfl, z_eqv_rf rfl⟩
theorem L_eC_203 (D : va_G) (tc : Nat → ClassId) (B y : Nat) (ad : Nat → Nat) (c0 : Nat → va_E) : L_eC D tc B y ad c0 203 := ⟨rfl, z_eqv_rf rfl⟩
theorem L_eC_204 (D : va_G) (tc : Nat → ClassId) (B y : Nat) (ad : Nat → Nat) (c0 : Nat → va_E) : L_eC D tc B y ad c0 204 := ⟨rfl, z_eqv_rf rfl⟩
theorem L_eC_205 (D : va_G) (tc : Nat → ClassId) (B y : Nat) (ad : Nat → Nat) (c0 : Nat → va_E) : L_eC D tc B y ad c0 205 := ⟨rfl, z_eqv_rf rfl⟩
theorem L_eC_206 (D : va_G) (tc : Nat → ClassId) (B y : Nat) (ad : Nat → Nat) (c0 : Nat → va_E) : L_eC D tc B y ad c0 206 := ⟨rfl, z_eqv_rf rfl⟩
theorem L_eC_207 (D : va_G) (tc : Nat → ClassId) (B y : Nat) (ad : Nat → Nat) (c0 : Nat → va_E) : L_eC D tc B y ad c0 207 := ⟨rfl, z_eqv_rf rfl⟩
theorem L_eC_208 (D : va_G) (tc : Nat → ClassId) (B y : Nat) (ad : Nat → Nat) (c0 : Nat → va_E) : L_eC D tc B y ad c0 208 := ⟨rfl, z_eqv_rf rfl⟩
theorem L_eC_209 (D : va_G) (tc : Nat → ClassId) (B y : Nat) (ad : Nat → Nat) (c0 : Nat → va_E) : L_eC D tc B y ad c0 209 := ⟨rfl, z_eqv_rf rfl⟩
theorem L_eC_210 (D : va_G) (tc : Nat → ClassId) (B y : Nat) (ad : Nat → Nat) (c0 : Nat → va_E) : L_eC D tc B y ad c0 210 := ⟨rfl, z_eqv_rf rfl⟩
theorem L_eC_211 (D : va_G) (tc : Nat → ClassId) (B y : Nat) (ad : Nat → Nat) (c0 : Nat → va_E) : L_eC D tc B y ad c0 211 := ⟨rfl, z_eqv_rf rfl⟩
theorem L_eC_212 (D : va_G) (tc : Nat → ClassId) (B y : Nat) (ad : Nat → Nat) (c0 : Nat → va_E) : L_eC D tc B y ad c0 212 := ⟨rfl, z_eqv_rf rfl⟩
theorem L_eC_213 (D : va_G) (tc : Nat → ClassId) (B y : Nat) (ad : Nat → Nat) (c0 : Nat → va_E) : L_eC D tc B y ad c0 213 := ⟨rfl, z_eqv_rf rfl⟩
theorem L_eC_214 (D : va_G) (tc : Nat → ClassId) (B y : Nat) (ad : Nat → Nat) (c0 : Nat → va_E) : L_eC D tc B y ad c0 214 := ⟨rfl, z_eqv_rf rfl⟩
theorem L_eC_215 (D : va_G) (tc : Nat → ClassId) (B y : Nat) (ad : Nat → Nat) (c0 : Nat → va_E) : L_eC D tc B y ad c0 215 := ⟨rfl, z_eqv_rf rfl⟩
theorem L_eC_216 (D : va_G) (tc : Nat → ClassId) (B y : Nat) (ad : Nat → Nat) (c0 : Nat → va_E) : L_eC D tc B y ad c0 216 := ⟨rfl, z_eqv_rf rfl⟩
theorem L_eC_217 (D : va_G) (tc : Nat → ClassId) (B y : Nat) (ad : Nat → Nat) (c0 : Nat → va_E) : L_eC D tc B y ad c0 217 := ⟨rfl, z_eqv_rf rfl⟩
theorem L_eC_218 (D : va_G) (tc : Nat → ClassId) (B y : Nat) (ad : Nat → Nat) (c0 : Nat → va_E) : L_eC D tc B y ad c0 218 := ⟨rfl, z_eqv_rf rfl⟩
theorem L_eM_0 (D : va_G) (tc : Nat → ClassId) (B y : Nat) (c0 : Nat → va_E) : L_eM D tc B y c0 0 := ⟨rfl, z_eqv_rf rfl⟩
theorem L_eM_1 (D : va_G) (tc : Nat → ClassId) (B y : Nat) (c0 : Nat → va_E) : L_eM D tc B y c0 1 := ⟨rfl, z_eqv_rf rfl⟩
theorem L_eM_2 (D : va_G) (tc : Nat → ClassId) (B y : Nat) (c0 : Nat → va_E) : L_eM D tc B y c0 2 := ⟨rfl, z_eqv_rf rfl⟩
theorem L_eM_3 (D : va_G) (tc : Nat → ClassId) (B y : Nat) (c0 : Nat → va_E) : L_eM D tc B y c0 3 := ⟨rfl, z_eqv_rf rfl⟩
theorem L_eM_4 (D : va_G) (tc : Nat → ClassId) (B y : Nat) (c0 : Nat → va_E) : L_eM D tc B y c0 4 := ⟨rfl, z_eqv_rf rfl⟩
theorem L_eM_5 (D : va_G) (tc : Nat → ClassId) (B y : Nat) (c0 : Nat → va_E) : L_eM D tc B y c0 5 := ⟨rfl, z_eqv_rf rfl⟩
theorem L_eM_6 (D : va_G) (tc : Nat → ClassId) (B y : Nat) (c0 : Nat → va_E) : L_eM D tc B y c0 6 := ⟨rfl, z_eqv_rf rfl⟩
theorem L_eM_7 (D : va_G) (tc : Nat → ClassId) (B y : Nat) (c0 : Nat → va_E) : L_eM D tc B y c0 7 := ⟨rfl, z_eqv_rf rfl⟩
theorem L_eM_8 (D : va_G) (tc : Nat → ClassId) (B y : Nat) (c0 : Nat → va_E) : L_eM D tc B y c0 8 := ⟨rfl, z_eqv_rf rfl⟩
theorem L_eM_9 (D : va_G) (tc : Nat → ClassId) (B y : Nat) (c0 : Nat → va_E) : L_eM D tc B y c0 9 := ⟨rfl, z_eqv_rf rfl⟩
theorem L_eM_10 (D : va_G) (tc : Nat → ClassId) (B y : Nat) (c0 : Nat → va_E) : L_eM D tc B y c0 10 := ⟨rfl, z_eqv_rf rfl⟩
def L_ls : Nat → Nat → List Nat
  | _, 0 => []
  | s, n + 1 => s :: L_ls (s + 1) n
theorem L_mem : ∀ (s n o : Nat), s ≤ o → o < s + n → o ∈ L_ls s n := by
  intro s n
  induction n generalizing s with
  | zero => intro o h1 h2; omega
  | succ n ih =>
    intro o h1 h2
    rcases Nat.lt_or_ge s o with q | q
    · exact List.mem_cons_of_mem _ (ih (s + 1) o q (by omega))
    · have e : o = s := by omega
      rw [e]
      exact List.mem_cons_self
theorem L_eC_r0 (D : va_G) (tc : Nat → ClassId) (B y : Nat) (ad : Nat → Nat) (c0 : Nat → va_E) : ∀ o ∈ [0, 1, 2, 3, 4, 5, 6, 7, 8, 9, 10, 11, 12, 13, 14, 15, 16, 17, 18, 19, 20, 21, 22, 23, 24, 25, 26, 27, 28, 29, 30, 31, 32, 33, 34, 35, 36, 37, 38, 39], L_eC D tc B y ad c0 o := List.forall_mem_cons.mpr ⟨L_eC_0 D tc B y ad c0, List.forall_mem_cons.mpr ⟨L_eC_1 D tc B y ad c0, List.forall_mem_cons.mpr ⟨L_eC_2 D tc B y ad c0, List.forall_mem_cons.mpr ⟨L_eC_3 D tc B y ad c0, List.forall_mem_cons.mpr ⟨L_eC_4 D tc B y ad c0, List.forall_mem_cons.mpr ⟨L_eC_5 D tc B y ad c0, List.forall_mem_cons.mpr ⟨L_eC_6 D tc B y ad c0, List.forall_mem_cons.mpr ⟨L_eC_7 D tc B y ad c0, List.forall_mem_cons.mpr ⟨L_eC_8 D tc B y ad c0, List.forall_mem_cons.mpr ⟨L_eC_9 D tc B y ad c0, List.forall_mem_cons.mpr ⟨L_eC_10 D tc B y ad c0, List.forall_mem_cons.mpr ⟨L_eC_11 D tc B y ad c0, List.forall_mem_cons.mpr ⟨L_eC_12 D tc B y ad c0, List.forall_mem_cons.mpr ⟨L_eC_13 D tc B y ad c0, List.forall_mem_cons.mpr ⟨L_eC_14 D tc B y ad c0, List.forall_mem_cons.mpr ⟨L_eC_15 D tc B y ad c0, List.forall_mem_cons.mpr ⟨L_eC_16 D tc B y ad c0, List.forall_mem_cons.mpr ⟨L_eC_17 D tc B y ad c0, List.forall_mem_cons.mpr ⟨L_eC_18 D tc B y ad c0, List.forall_mem_cons.mpr ⟨L_eC_19 D tc B y ad c0, List.forall_mem_cons.mpr ⟨L_eC_20 D tc B y ad c0, List.forall_mem_cons.mpr ⟨L_eC_21 D tc B y ad c0, List.forall_mem_cons.mpr ⟨L_eC_22 D tc B y ad c0, List.forall_mem_cons.mpr ⟨L_eC_23 D tc B y ad c0, List.forall_mem_cons.mpr ⟨L_eC_24 D tc B y ad c0, List.forall_mem_cons.mpr ⟨L_eC_25 D tc B y ad c0, List.forall_mem_cons.mpr ⟨L_eC_26 D tc B y ad c0, List.forall_mem_cons.mpr ⟨L_eC_27 D tc B y ad c0, List.forall_mem_cons.mpr ⟨L_eC_28 D tc B y ad c0, List.forall_mem_cons.mpr ⟨L_eC_29 D tc B y ad c0, List.forall_mem_cons.mpr ⟨L_eC_30 D tc B y ad c0, List.forall_mem_cons.mpr ⟨L_eC_31 D tc B y ad c0, List.forall_mem_cons.mpr ⟨L_eC_32 D tc B y ad c0, List.forall_mem_cons.mpr ⟨L_eC_33 D tc B y ad c0, List.forall_mem_cons.mpr ⟨L_eC_34 D tc B y ad c0, List.forall_mem_cons.mpr ⟨L_eC_35 D tc B y ad c0, List.forall_mem_cons.mpr ⟨L_eC_36 D tc B y ad c0, List.forall_mem_cons.mpr ⟨L_eC_37 D tc B y ad c0, List.forall_mem_cons.mpr ⟨L_eC_38 D tc B y ad c0, List.forall_mem_cons.mpr ⟨L_eC_39 D tc B y ad c0, fun _ h => absurd h List.not_mem_nil⟩⟩⟩⟩⟩⟩⟩⟩⟩⟩⟩⟩⟩⟩⟩⟩⟩⟩⟩⟩⟩⟩⟩⟩⟩⟩⟩⟩⟩⟩⟩⟩⟩⟩⟩⟩⟩⟩⟩⟩
theorem L_eC_r1 (D : va_G) (tc : Nat → ClassId) (B y : Nat) (ad : Nat → Nat) (c0 : Nat → va_E) : ∀ o ∈ [40, 41, 42, 43, 44, 45, 46, 47, 48, 49, 50, 51, 52, 53, 54, 55, 56, 57, 58, 59, 60, 61, 62, 63, 64, 65, 66, 67, 68, 69, 70, 71, 72, 73, 74, 75, 76, 77, 78, 79], L_eC D tc B y ad c0 o := List.forall_mem_cons.mpr ⟨L_eC_40 D tc B y ad c0, List.forall_mem_cons.mpr ⟨L_eC_41 D tc B y ad c0, List.forall_mem_cons.mpr ⟨L_eC_42 D tc B y ad c0, List.forall_mem_cons.mpr ⟨L_eC_43 D tc B y ad c0, List.forall_mem_cons.mpr ⟨L_eC_44 D tc B y ad c0, List.forall_mem_cons.mpr ⟨L_eC_45 D tc B y ad c0, List.forall_mem_cons.mpr ⟨L_eC_46 D tc B y ad c0, List.forall_mem_cons.mpr ⟨L_eC_47 D tc B y ad c0, List.forall_mem_cons.mpr ⟨L_eC_48 D tc B y ad c0, List.forall_mem_cons.mpr ⟨L_eC_49 D tc B y ad c0, List.forall_mem_cons.mpr ⟨L_eC_50 D tc B y ad c0, List.forall_mem_cons.mpr ⟨L_eC_51 D tc B y ad c0, List.forall_mem_cons.mpr ⟨L_eC_52 D tc B y ad c0, List.forall_mem_cons.mpr ⟨L_eC_53 D tc B y ad c0, List.forall_mem_cons.mpr ⟨L_eC_54 D tc B y ad c0, List.forall_mem_cons.mpr ⟨L_eC_55 D tc B y ad c0, List.forall_mem_cons.mpr ⟨L_eC_56 D tc B y ad c0, List.forall_mem_cons.mpr ⟨L_eC_57 D tc B y ad c0, List.forall_mem_cons.mpr ⟨L_eC_58 D tc B y ad c0, List.forall_mem_cons.mpr ⟨L_eC_59 D tc B y ad c0, List.forall_mem_cons.mpr ⟨L_eC_60 D tc B y ad c0, List.forall_mem_cons.mpr ⟨L_eC_61 D tc B y ad c0, List.forall_mem_cons.mpr ⟨L_eC_62 D tc B y ad c0, List.forall_mem_cons.mpr ⟨L_eC_63 D tc B y ad c0, List.forall_mem_cons.mpr ⟨L_eC_64 D tc B y ad c0, List.forall_mem_cons.mpr ⟨L_eC_65 D tc B y ad c0, List.forall_mem_cons.mpr ⟨L_eC_66 D tc B y ad c0, List.forall_mem_cons.mpr ⟨L_eC_67 D tc B y ad c0, List.forall_mem_cons.mpr ⟨L_eC_68 D tc B y ad c0, List.forall_mem_cons.mpr ⟨L_eC_69 D tc B y ad c0, List.forall_mem_cons.mpr ⟨L_eC_70 D tc B y ad c0, List.forall_mem_cons.mpr ⟨L_eC_71 D tc B y ad c0, List.forall_mem_cons.mpr ⟨L_eC_72 D tc B y ad c0, List.forall_mem_cons.mpr ⟨L_eC_73 D tc B y ad c0, List.forall_mem_cons.mpr ⟨L_eC_74 D tc B y ad c0, List.forall_mem_cons.mpr ⟨L_eC_75 D tc B y ad c0, List.forall_mem_cons.mpr ⟨L_eC_76 D tc B y ad c0, List.forall_mem_cons.mpr ⟨L_eC_77 D tc B y ad c0, List.forall_mem_cons.mpr ⟨L_eC_78 D tc B y ad c0, List.forall_mem_cons.mpr ⟨L_eC_79 D tc B y ad c0, fun _ h => absurd h List.not_mem_nil⟩⟩⟩⟩⟩⟩⟩⟩⟩⟩⟩⟩⟩⟩⟩⟩⟩⟩⟩⟩⟩⟩⟩⟩⟩⟩⟩⟩⟩⟩⟩⟩⟩⟩⟩⟩⟩⟩⟩⟩
theorem L_eC_r2 (D : va_G) (tc : Nat → ClassId) (B y : Nat) (ad : Nat → Nat) (c0 : Nat → va_E) : ∀ o ∈ [80, 81, 82, 83, 84, 85, 86, 87, 88, 89, 90, 91, 92, 93, 94, 95, 96, 97, 98, 99, 100, 101, 102, 103, 104, 105, 106, 107, 108, 109, 110, 111, 112, 113, 114, 115, 116, 117, 118, 119], L_eC D tc B y ad c0 o := List.forall_mem_cons.mpr ⟨L_eC_80 D tc B y ad c0, List.forall_mem_cons.mpr ⟨L_eC_81 D tc B y ad c0, List.forall_mem_cons.mpr ⟨L_eC_82 D tc B y ad c0, List.forall_mem_cons.mpr ⟨L_eC_83 D tc B y ad c0, List.forall_mem_cons.mpr ⟨L_eC_84 D tc B y ad c0, List.forall_mem_cons.mpr ⟨L_eC_85 D tc B y ad c0, List.forall_mem_cons.mpr ⟨L_eC_86 D tc B y ad c0, List.forall_mem_cons.mpr ⟨L_eC_87 D tc B y ad c0, List.forall_mem_cons.mpr ⟨L_eC_88 D tc B y ad c0, List.forall_mem_cons.mpr ⟨L_eC_89 D tc B y ad c0, List.forall_mem_cons.mpr ⟨L_eC_90 D tc B y ad c0, List.forall_mem_cons.mpr ⟨L_eC_91 D tc B y ad c0, List.forall_mem_cons.mpr ⟨L_eC_92 D tc B y ad c0, List.forall_mem_cons.mpr ⟨L_eC_93 D tc B y ad c0, List.forall_mem_cons.mpr ⟨L_eC_94 D tc B y ad c0, List.forall_mem_cons.mpr ⟨L_eC_95 D tc B y ad c0, List.forall_mem_cons.mpr ⟨L_eC_96 D tc B y ad c0, List.forall_mem_cons.mpr ⟨L_eC_97 D tc B y ad c0, List.forall_mem_cons.mpr ⟨L_eC_98 D tc B y ad c0, List.forall_mem_cons.mpr ⟨L_eC_99 D tc B y ad c0, List.forall_mem_cons.mpr ⟨L_eC_100 D tc B y ad c0, List.forall_mem_cons.mpr ⟨L_eC_101 D tc B y ad c0, List.forall_mem_cons.mpr ⟨L_eC_102 D tc B y ad c0, List.forall_mem_cons.mpr ⟨L_eC_103 D tc B y ad c0, List.forall_mem_cons.mpr ⟨L_eC_104 D tc B y ad c0, List.forall_mem_cons.mpr ⟨L_eC_105 D tc B y ad c0, List.forall_mem_cons.mpr ⟨L_eC_106 D tc B y ad c0, List.forall_mem_cons.mpr ⟨L_eC_107 D tc B y ad c0, List.forall_mem_cons.mpr ⟨L_eC_108 D tc B y ad c0, List.forall_mem_cons.mpr ⟨L_eC_109 D tc B y ad c0, List.forall_mem_cons.mpr ⟨L_eC_110 D tc B y ad c0, List.forall_mem_cons.mpr ⟨L_eC_111 D tc B y ad c0, List.forall_mem_cons.mpr ⟨L_eC_112 D tc B y ad c0, List.forall_mem_cons.mpr ⟨L_eC_113 D tc B y ad c0, List.forall_mem_cons.mpr ⟨L_eC_114 D tc B y ad c0, List.forall_mem_cons.mpr ⟨L_eC_115 D tc B y ad c0, List.forall_mem_cons.mpr ⟨L_eC_116 D tc B y ad c0, List.forall_mem_cons.mpr ⟨L_eC_117 D tc B y ad c0, List.forall_mem_cons.mpr ⟨L_eC_118 D tc B y ad c0, List.forall_mem_cons.mpr ⟨L_eC_119 D tc B y ad c0, fun _ h => absurd h List.not_mem_nil⟩⟩⟩⟩⟩⟩⟩⟩⟩⟩⟩⟩⟩⟩⟩⟩⟩⟩⟩⟩⟩⟩⟩⟩⟩⟩⟩⟩⟩⟩⟩⟩⟩⟩⟩⟩⟩⟩⟩⟩
theorem L_eC_r3 (D : va_G) (tc : Nat → ClassId) (B y : Nat) (ad : Nat → Nat) (c0 : Nat → va_E) : ∀ o ∈ [120, 121, 122, 123, 124, 125, 126, 127, 128, 129, 130, 131, 132, 133, 134, 135, 136, 137, 138, 139, 140, 141, 142, 143, 144, 145, 146, 147, 148, 149, 150, 151, 152, 153, 154, 155, 156, 157, 158, 159], L_eC D tc B y ad c0 o := List.forall_mem_cons.mpr ⟨L_eC_120 D tc B y ad c0, List.forall_mem_cons.mpr ⟨L_eC_121 D tc B y ad c0, List.forall_mem_cons.mpr ⟨L_eC_122 D tc B y ad c0, List.forall_mem_cons.mpr ⟨L_eC_123 D tc B y ad c0, List.forall_mem_cons.mpr ⟨L_eC_124 D tc B y ad c0, List.forall_mem_cons.mpr ⟨L_eC_125 D tc B y ad c0, List.forall_mem_cons.mpr ⟨L_eC_126 D tc B y ad c0, List.forall_mem_cons.mpr ⟨L_eC_127 D tc B y ad c0, List.forall_mem_cons.mpr ⟨L_eC_128 D tc B y ad c0, List.forall_mem_cons.mpr ⟨L_eC_129 D tc B y ad c0, List.forall_mem_cons.mpr ⟨L_eC_130 D tc B y ad c0, List.forall_mem_cons.mpr ⟨L_eC_131 D tc B y ad c0, List.forall_mem_cons.mpr ⟨L_eC_132 D tc B y ad c0, List.forall_mem_cons.mpr ⟨L_eC_133 D tc B y ad c0, List.forall_mem_cons.mpr ⟨L_eC_134 D tc B y ad c0, List.forall_mem_cons.mpr ⟨L_eC_135 D tc B y ad c0, List.forall_mem_cons.mpr ⟨L_eC_136 D tc B y ad c0, List.forall_mem_cons.mpr ⟨L_eC_137 D tc B y ad c0, List.forall_mem_cons.mpr ⟨L_eC_138 D tc B y ad c0, List.forall_mem_cons.mpr ⟨L_eC_139 D tc B y ad c0, List.forall_mem_cons.mpr ⟨L_eC_140 D tc B y ad c0, List.forall_mem_cons.mpr ⟨L_eC_141 D tc B y ad c0, List.forall_mem_cons.mpr ⟨L_eC_142 D tc B y ad c0, List.forall_mem_cons.mpr ⟨L_eC_143 D tc B y ad c0, List.forall_mem_cons.mpr ⟨L_eC_144 D tc B y ad c0, List.forall_mem_cons.mpr ⟨L_eC_145 D tc B y ad c0, List.forall_mem_cons.mpr ⟨L_eC_146 D tc B y ad c0, List.forall_mem_cons.mpr ⟨L_eC_147 D tc B y ad c0, List.forall_mem_cons.mpr ⟨L_eC_148 D tc B y ad c0, List.forall_mem_cons.mpr ⟨L_eC_149 D tc B y ad c0, List.forall_mem_cons.mpr ⟨L_eC_150 D tc B y ad c0, List.forall_mem_cons.mpr ⟨L_eC_151 D tc B y ad c0, List.forall_mem_cons.mpr ⟨L_eC_152 D tc B y ad c0, List.forall_mem_cons.mpr ⟨L_eC_153 D tc B y ad c0, List.forall_mem_cons.mpr ⟨L_eC_154 D tc B y ad c0, List.forall_mem_cons.mpr ⟨L_eC_155 D tc B y ad c0, List.forall_mem_cons.mpr ⟨L_eC_156 D tc B y ad c0, List.forall_mem_cons.mpr ⟨L_eC_157 D tc B y ad c0, List.forall_mem_cons.mpr ⟨L_eC_158 D tc B y ad c0, List.forall_mem_cons.mpr ⟨L_eC_159 D tc B y ad c0, fun _ h => absurd h List.not_mem_nil⟩⟩⟩⟩⟩⟩⟩⟩⟩⟩⟩⟩⟩⟩⟩⟩⟩⟩⟩⟩⟩⟩⟩⟩⟩⟩⟩⟩⟩⟩⟩⟩⟩⟩⟩⟩⟩⟩⟩⟩
theorem L_eC_r4 (D : va_G) (tc : Nat → ClassId) (B y : Nat) (ad : Nat → Nat) (c0 : Nat → va_E) : ∀ o ∈ [160, 161, 162, 163, 164, 165, 166, 167, 168, 169, 170, 171, 172, 173, 174, 175, 176, 177, 178, 179, 180, 181, 182, 183, 184, 185, 186, 187, 188, 189, 190, 191, 192, 193, 194, 195, 196, 197, 198, 199], L_eC D tc B y ad c0 o := List.forall_mem_cons.mpr ⟨L_eC_160 D tc B y ad c0, List.forall_mem_cons.mpr ⟨L_eC_161 D tc B y ad c0, List.forall_mem_cons.mpr ⟨L_eC_162 D tc B y ad c0, List.forall_mem_cons.mpr ⟨L_eC_163 D tc B y ad c0, List.forall_mem_cons.mpr ⟨L_eC_164 D tc B y ad c0, List.forall_mem_cons.mpr ⟨L_eC_165 D tc B y ad c0, List.forall_mem_cons.mpr ⟨L_eC_166 D tc B y ad c0, List.forall_mem_cons.mpr ⟨L_eC_167 D tc B y ad c0, List.forall_mem_cons.mpr ⟨L_eC_168 D tc B y ad c0, List.forall_mem_cons.mpr ⟨L_eC_169 D tc B y ad c0, List.forall_mem_cons.mpr ⟨L_eC_170 D tc B y ad c0, List.forall_mem_cons.mpr ⟨L_eC_171 D tc B y ad c0, List.forall_mem_cons.mpr ⟨L_eC_172 D tc B y ad c0, List.forall_mem_cons.mpr ⟨L_eC_173 D tc B y ad c0, List.forall_mem_cons.mpr ⟨L_eC_174 D tc B y ad c0, List.forall_mem_cons.mpr ⟨L_eC_175 D tc B y ad c0, List.forall_mem_cons.mpr ⟨L_eC_176 D tc B y ad c0, List.forall_mem_cons.mpr ⟨L_eC_177 D tc B y ad c0, List.forall_mem_cons.mpr ⟨L_eC_178 D tc B y ad c0, List.forall_mem_cons.mpr ⟨L_eC_179 D tc B y ad c0, List.forall_mem_cons.mpr ⟨L_eC_180 D tc B y ad c0, List.forall_mem_cons.mpr ⟨L_eC_181 D tc B y ad c0, List.forall_mem_cons.mpr ⟨L_eC_182 D tc B y ad c0, List.forall_mem_cons.mpr ⟨L_eC_183 D tc B y ad c0, List.forall_mem_cons.mpr ⟨L_eC_184 D tc B y ad c0, List.forall_mem_cons.mpr ⟨L_eC_185 D tc B y ad c0, List.forall_mem_cons.mpr ⟨L_eC_186 D tc B y ad c0, List.forall_mem_cons.mpr ⟨L_eC_187 D tc B y ad c0, List.forall_mem_cons.mpr ⟨L_eC_188 D tc B y ad c0, List.forall_mem_cons.mpr ⟨L_eC_189 D tc B y ad c0, List.forall_mem_cons.mpr ⟨L_eC_190 D tc B y ad c0, List.forall_mem_cons.mpr ⟨L_eC_191 D tc B y ad c0, List.forall_mem_cons.mpr ⟨L_eC_192 D tc B y ad c0, List.forall_mem_cons.mpr ⟨L_eC_193 D tc B y ad c0, List.forall_mem_cons.mpr ⟨L_eC_194 D tc B y ad c0, List.forall_mem_cons.mpr ⟨L_eC_195 D tc B y ad c0, List.forall_mem_cons.mpr ⟨L_eC_196 D tc B y ad c0, List.forall_mem_cons.mpr ⟨L_eC_197 D tc B y ad c0, List.forall_mem_cons.mpr ⟨L_eC_198 D tc B y ad c0, List.forall_mem_cons.mpr ⟨L_eC_199 D tc B y ad c0, fun _ h => absurd h List.not_mem_nil⟩⟩⟩⟩⟩⟩⟩⟩⟩⟩⟩⟩⟩⟩⟩⟩⟩⟩⟩⟩⟩⟩⟩⟩⟩⟩⟩⟩⟩⟩⟩⟩⟩⟩⟩⟩⟩⟩⟩⟩
theorem L_eC_r5 (D : va_G) (tc : Nat → ClassId) (B y : Nat) (ad : Nat → Nat) (c0 : Nat → va_E) : ∀ o ∈ [200, 201, 202, 203, 204, 205, 206, 207, 208, 209, 210, 211, 212, 213, 214, 215, 216, 217, 218], L_eC D tc B y ad c0 o := List.forall_mem_cons.mpr ⟨L_eC_200 D tc B y ad c0, List.forall_mem_cons.mpr ⟨L_eC_201 D tc B y ad c0, List.forall_mem_cons.mpr ⟨L_eC_202 D tc B y ad c0, List.forall_mem_cons.mpr ⟨L_eC_203 D tc B y ad c0, List.forall_mem_cons.mpr ⟨L_eC_204 D tc B y ad c0, List.forall_mem_cons.mpr ⟨L_eC_205 D tc B y ad c0, List.forall_mem_cons.mpr ⟨L_eC_206 D tc B y ad c0, List.forall_mem_cons.mpr ⟨L_eC_207 D tc B y ad c0, List.forall_mem_cons.mpr ⟨L_eC_208 D tc B y ad c0, List.forall_mem_cons.mpr ⟨L_eC_209 D tc B y ad c0, List.forall_mem_cons.mpr ⟨L_eC_210 D tc B y ad c0, List.forall_mem_cons.mpr ⟨L_eC_211 D tc B y ad c0, List.forall_mem_cons.mpr ⟨L_eC_212 D tc B y ad c0, List.forall_mem_cons.mpr ⟨L_eC_213 D tc B y ad c0, List.forall_mem_cons.mpr ⟨L_eC_214 D tc B y ad c0, List.forall_mem_cons.mpr ⟨L_eC_215 D tc B y ad c0, List.forall_mem_cons.mpr ⟨L_eC_216 D tc B y ad c0, List.forall_mem_cons.mpr ⟨L_eC_217 D tc B y ad c0, List.forall_mem_cons.mpr ⟨L_eC_218 D tc B y ad c0, fun _ h => absurd h List.not_mem_nil⟩⟩⟩⟩⟩⟩⟩⟩⟩⟩⟩⟩⟩⟩⟩⟩⟩⟩⟩
theorem L_eC_all (D : va_G) (tc : Nat → ClassId) (B y : Nat) (ad : Nat → Nat) (c0 : Nat → va_E) : ∀ o, o < 219 → L_eC D tc B y ad c0 o := by
  intro o ho
  rcases Nat.lt_or_ge o 40 with q | q
  · exact L_eC_r0 D tc B y ad c0 o (L_mem 0 40 o (by omega) (by omega))
  rcases Nat.lt_or_ge o 80 with q | q
  · exact L_eC_r1 D tc B y ad c0 o (L_mem 40 40 o (by omega) (by omega))
  rcases Nat.lt_or_ge o 120 with q | q
  · exact L_eC_r2 D tc B y ad c0 o (L_mem 80 40 o (by omega) (by omega))
  rcases Nat.lt_or_ge o 160 with q | q
  · exact L_eC_r3 D tc B y ad c0 o (L_mem 120 40 o (by omega) (by omega))
  rcases Nat.lt_or_ge o 200 with q | q
  · exact L_eC_r4 D tc B y ad c0 o (L_mem 160 40 o (by omega) (by omega))
  exact L_eC_r5 D tc B y ad c0 o (L_mem 200 19 o (by omega) (by omega))
theorem L_eM_r0 (D : va_G) (tc : Nat → ClassId) (B y : Nat) (c0 : Nat → va_E) : ∀ o ∈ [0, 1, 2, 3, 4, 5, 6, 7, 8, 9, 10], L_eM D tc B y c0 o := List.forall_mem_cons.mpr ⟨L_eM_0 D tc B y c0, List.forall_mem_cons.mpr ⟨L_eM_1 D tc B y c0, List.forall_mem_cons.mpr ⟨L_eM_2 D tc B y c0, List.forall_mem_cons.mpr ⟨L_eM_3 D tc B y c0, List.forall_mem_cons.mpr ⟨L_eM_4 D tc B y c0, List.forall_mem_cons.mpr ⟨L_eM_5 D tc B y c0, List.forall_mem_cons.mpr ⟨L_eM_6 D tc B y c0, List.forall_mem_cons.mpr ⟨L_eM_7 D tc B y c0, List.forall_mem_cons.mpr ⟨L_eM_8 D tc B y c0, List.forall_mem_cons.mpr ⟨L_eM_9 D tc B y c0, List.forall_mem_cons.mpr ⟨L_eM_10 D tc B y c0, fun _ h => absurd h List.not_mem_nil⟩⟩⟩⟩⟩⟩⟩⟩⟩⟩⟩
theorem L_eM_all (D : va_G) (tc : Nat → ClassId) (B y : Nat) (c0 : Nat → va_E) : ∀ o, o < 11 → L_eM D tc B y c0 o := by
  intro o ho
  exact L_eM_r0 D tc B y c0 o (L_mem 0 11 o (by omega) (by omega))
theorem L_W0C {D : va_G} {tc : Nat → ClassId} {B y : Nat} {ad : Nat → Nat} {c0 : Nat → va_E} {H : Heap} (h : z_P (cG D tc B y ad) B 219 (L_cC tc B c0) H) : q_W (cG D tc B y ad) (L_IC, L_J0, L_P0) H := by
  have key := L_eC_all D tc B y ad c0
  have hk : ∀ (k : Nat) (q : Nat × va_E), (q_wl (cG D tc B y ad) (L_hd B) (L_IC, L_J0, L_P0))[k]? = some q → k < 219 ∧ q.1 = B + k ∧ z_eqv (L_cC tc B c0 k) q.2 := by
    intro k q hq
    have hl : k < 219 := by
      have := (List.getElem?_eq_some_iff.mp hq).1
      simpa [q_wl] using this
    rw [q_wl_get (G := cG D tc B y ad) hl] at hq
    cases hq
    exact ⟨hl, key k hl⟩
  refine ⟨fun _ _ _ _ _ _ i hi => hi, L_hd B, ?_, ⟨?_, ?_⟩, ?_, ?_⟩
  · intro k q hq
    obtain ⟨h1, h2, h3⟩ := hk k q hq
    have h4 := h3 _ _ _ _ (h.2 k h1)
    rw [← h2] at h4
    exact h4
  · intro i j p q hi hj e
    have h1 := (hk i p hi).2.1
    have h2 := (hk j q hj).2.1
    omega
  · intro k q hq
    obtain ⟨h1, h2, -⟩ := hk k q hq
    refine Or.inl ⟨?_, ?_⟩
    · show B ≤ q.1
      omega
    · show q.1 < B + 219
      omega
  · intro o a b c d e
    have h3 : o ≠ 3 := fun q => absurd (congrArg (fun z : q_K => z.1) e) (by rw [q]; exact (show ¬ (cKd 3).1 = 6 by decide))
    have h4 : o ≠ 121 := fun q => absurd (congrArg (fun z : q_K => z.1) e) (by rw [q]; exact (show ¬ (cKd 121).1 = 6 by decide))
    have h5 : o ≠ 171 := fun q => absurd (congrArg (fun z : q_K => z.1) e) (by rw [q]; exact (show ¬ (cKd 171).1 = 6 by decide))
    refine ⟨0, ?_, Nat.zero_le _, ?_⟩
    · show L_IC o 0 = nI 0
      rw [L_IC0 h3 h4 h5]
      exact nI_0.symm
    · unfold L_hd
      rw [if_neg (by omega), if_neg (by omega)]
      decide
  · intro o a b c d e j
    have h3 : o ≠ 3 := fun q => absurd (congrArg (fun z : q_K => z.1) e) (by rw [q]; exact (show ¬ (cKd 3).1 = 7 by decide))
    have h4 : o ≠ 121 := fun q => absurd (congrArg (fun z : q_K => z.1) e) (by rw [q]; exact (show ¬ (cKd 121).1 = 7 by decide))
    have h5 : o ≠ 171 := fun q => absurd (congrArg (fun z : q_K => z.1) e) (by rw [q]; exact (show ¬ (cKd 171).1 = 7 by decide))
    show (_ → L_IC o j = 0) ∧ fits .byte (.int (L_IC o j)) = true
    rw [L_IC0 h3 h4 h5]
    exact ⟨fun _ => rfl, (show fits .byte (.int 0) = true by decide)⟩
theorem L_W0M {D : va_G} {tc : Nat → ClassId} {B y : Nat} {c0 : Nat → va_E} {H : Heap} (h : z_P (mG D tc B y) B 11 (L_cM tc B c0) H) : q_W (mG D tc B y) (L_IM, L_J0, L_P0) H := by
  have key := L_eM_all D tc B y c0
  have hk : ∀ (k : Nat) (q : Nat × va_E), (q_wl (mG D tc B y) (L_hd B) (L_IM, L_J0, L_P0))[k]? = some q → k < 11 ∧ q.1 = B + k ∧ z_eqv (L_cM tc B c0 k) q.2 := by
    intro k q hq
    have hl : k < 11 := by
      have := (List.getElem?_eq_some_iff.mp hq).1
      simpa [q_wl] using this
    rw [q_wl_get (G := mG D tc B y) hl] at hq
    cases hq
    exact ⟨hl, key k hl⟩
  have no6 : ∀ o, o < 11 → (mKd o).1 ≠ 6 ∧ (mKd o).1 ≠ 7 := by decide
  have no : ∀ o, (mKd o).1 ≠ 6 ∧ (mKd o).1 ≠ 7 := by
    intro o
    rcases Nat.lt_or_ge o 11 with q | q
    · exact no6 o q
    · have e : mKd o = (0, 0, 0, 0, 0) := by
        unfold mKd
        simp [List.getD, List.getElem?_eq_none (show mKl.length ≤ o from q)]
      rw [e]
      decide
  refine ⟨fun _ _ _ _ _ _ i hi => hi, L_hd B, ?_, ⟨?_, ?_⟩, ?_, ?_⟩
  · intro k q hq
    obtain ⟨h1, h2, h3⟩ := hk k q hq
    have h4 := h3 _ _ _ _ (h.2 k h1)
    rw [← h2] at h4
    exact h4
  · intro i j p q hi hj e
    have h1 := (hk i p hi).2.1
    have h2 := (hk j q hj).2.1
    omega
  · intro k q hq
    obtain ⟨h1, h2, -⟩ := hk k q hq
    refine ⟨?_, ?_⟩
    · show B ≤ q.1
      omega
    · show q.1 < B + 11
      omega
  · intro o a b c d e
    exact absurd (congrArg (fun q => q.1) e) (no o).1
  · intro o a b c d e j
    exact absurd (congrArg (fun q => q.1) e) (no o).2
theorem L_Z0 : d_Z 0 L_IC L_P0 L_IM := by
  refine d_Z0 (fun x hx => ?_) (fun o f h1 h2 h3 => ?_) (fun f hf => rfl) rfl rfl (fun x hx j hj => ?_) (fun _ _ => rfl) (fun x hx => ?_) (fun x hx => ?_) (fun f hf => rfl) rfl rfl
  · show (if x < 4 then (6 : Int32) else 0) = 6
    rw [if_pos hx]
  · rw [L_IC0 h3 (by omega) (by omega)]
  · rw [L_IC0 (by omega) (by omega) (by omega)]
    exact ⟨rfl, rfl⟩
  · show (if 8 ≤ 8 + x ∧ 8 + x < 12 then (6 : Int32) else 0) = 6
    rw [if_pos (by omega)]
  · show (if 8 ≤ x ∧ x < 12 then (6 : Int32) else 0) = 0
    rw [if_neg (by omega)]
