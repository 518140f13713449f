/-! THE CHECK OF THE LAW'S ROWS, a piece at a time -/
theorem m_ck420_len : m_t420.length = 70 := by decide +kernel
theorem m_cl0 : m_tckP 420 0 ((m_t420.drop 0).take 60) = true := by decide +kernel
theorem m_cl1 : m_tckP 420 60 ((m_t420.drop 60).take 60) = true := by decide +kernel
theorem m_ick420 (pc : Nat) (i : Instr) (q : LK) (ht : m_t420[pc]? = some (some (i, q))) : m_ick 420 pc i q = true := by
  have hl := (List.getElem?_eq_some_iff.mp ht).1
  rw [m_ck420_len] at hl
  by_cases h0 : pc < 60
  · exact m_tckP_of m_cl0 (by omega) (by omega) ht
  exact m_tckP_of m_cl1 (by omega) (by omega) ht
