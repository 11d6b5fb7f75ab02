theorem c_SB_length (l : Launch) (D : va_G) (tc : Nat → ClassId) (x0 y : Nat) (ad : Nat → Nat) (I : q_I) (J : q_J) (P : q_P) {s : Nat} (hs : isSB s) : q_Ct l (cG D tc x0 y ad) y_SB_length m_SB_length [q_r (cG D tc x0 y ad) s] (I, J, P) (f_SB_length I s) (fun r : Int32 => (some (.int r), (I, J, P))) := by
  sorry
theorem c_SB_charAt (l : Launch) (D : va_G) (tc : Nat → ClassId) (x0 y : Nat) (ad : Nat → Nat) (I : q_I) (J : q_J) (P : q_P) {s : Nat} (hs : isSB s) (i : Int32) : q_Ct l (cG D tc x0 y ad) y_SB_charAt m_SB_charAt [q_r (cG D tc x0 y ad) s, .int i] (I, J, P) (f_SB_charAt I s i) (fun r : Int32 => (some (.int r), (I, J, P))) := by
  sorry
theorem c_SB_setLength (l : Launch) (D : va_G) (tc : Nat → ClassId) (x0 y : Nat) (ad : Nat → Nat) (I : q_I) (J : q_J) (P : q_P) {s : Nat} (hs : isSB s) (i : Int32) : q_Ct l (cG D tc x0 y ad) y_SB_setLength m_SB_setLength [q_r (cG D tc x0 y ad) s, .int i] (I, J, P) (f_SB_setLength I s i) (fun r : q_I => (none, (r, J, P))) := by
  sorry
theorem c_SB_appC (l : Launch) (D : va_G) (tc : Nat → ClassId) (x0 y : Nat) (ad : Nat → Nat) (I : q_I) (J : q_J) (P : q_P) {s : Nat} (hs : isSB s) (i : Int32) : q_Ct l (cG D tc x0 y ad) y_SB_appC m_SB_appC [q_r (cG D tc x0 y ad) s, .int i] (I, J, P) (f_SB_appC I s i) (fun r : q_I => (some (q_r (cG D tc x0 y ad) s), (r, J, P))) := by
  sorry
theorem c_SB_appS (l : Launch) (D : va_G) (tc : Nat → ClassId) (x0 y : Nat) (ad : Nat → Nat) (I : q_I) (J : q_J) (P : q_P) {s : Nat} (hs : isSB s) {i : Nat} (h0 : 1 ≤ i) (hi : i < 4) : q_Ct l (cG D tc x0 y ad) y_SB_appS m_SB_appS [q_r (cG D tc x0 y ad) s, .ref (ad i)] (I, J, P) (f_SB_appS I s 32 (([[114, 112, 119, 101], [32, 114], [32, 112], [32, 101]] : List (List Int32)).getD i [] |>.getD 1 0)) (fun r : q_I => (some (q_r (cG D tc x0 y ad) s), (r, J, P))) := by
  sorry
theorem c_SB_appI (l : Launch) (D : va_G) (tc : Nat → ClassId) (x0 y : Nat) (ad : Nat → Nat) (I : q_I) (J : q_J) (P : q_P) {s : Nat} (hs : isSB s) (i : Int32) : q_Ct l (cG D tc x0 y ad) y_SB_appI m_SB_appI [q_r (cG D tc x0 y ad) s, .int i] (I, J, P) (f_SB_appI I s i) (fun r : q_I => (some (q_r (cG D tc x0 y ad) s), (r, J, P))) := by
  sorry
theorem c_JS_length (l : Launch) (D : va_G) (tc : Nat → ClassId) (x0 y : Nat) (ad : Nat → Nat) (I : q_I) (J : q_J) (P : q_P) : q_Ct l (cG D tc x0 y ad) y_JS_length m_JS_length [.ref (ad 0)] (I, J, P) f_JS_length (fun r : Int32 => (some (.int r), (I, J, P))) := by
  sorry
theorem c_JS_indexOf (l : Launch) (D : va_G) (tc : Nat → ClassId) (x0 y : Nat) (ad : Nat → Nat) (I : q_I) (J : q_J) (P : q_P) (c : Int32) : q_Ct l (cG D tc x0 y ad) y_JS_indexOf m_JS_indexOf [.ref (ad 0), .int c] (I, J, P) (f_JS_indexOf c) (fun r : Int32 => (some (.int r), (I, J, P))) := by
  sorry
