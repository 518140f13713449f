/-! THE CHECK OF THE LAW'S ROWS, a piece at a time -/
def m_tckP (M lo : Nat) (tb : List (Option (Instr × LK))) : Bool := tb.zipIdx.all fun x => match x.1 with
  | some (i, q) => m_ick M (lo + x.2) i q
  | none => true
theorem m_ck420_len : m_t420.length = 70 := by decide +kernel
theorem m_cl0 : m_tckP 420 0 ((m_t420.drop 0).take 60) = true := by decide +kernel
theorem m_cl1 : m_tckP 420 60 ((m_t420.drop 60).take 60) = true := by decide +kernel
theorem m_tckP_of {M lo n pc : Nat} {tb : List (Option (Instr × LK))} (h : m_tckP M lo ((tb.drop lo).take n) = true) {i : Instr} {q : LK} (h1 : lo ≤ pc) (h2 : pc < lo + n) (ht : tb[pc]? = some (some (i, q))) : m_ick M pc i q = true := by
  unfold m_tckP at h
  rw [List.all_eq_true] at h
  have hx : ((tb.drop lo).take n)[pc - lo]? = some (some (i, q)) := by
    rw [List.getElem?_take_of_lt (by omega), List.getElem?_drop, show lo + (pc - lo) = pc by omega]
    exact ht
  have := h (some (i, q), pc - lo) (List.mem_zipIdx_iff_getElem?.mpr hx)
  dsimp only at this
  rwa [show lo + (pc - lo) = pc by omega] at this
theorem m_ick420 (pc : Nat) (i : Instr) (q : LK) (ht : m_t420[pc]? = some (some (i, q))) : m_ick 420 pc i q = true := by
  have hl := (List.getElem?_eq_some_iff.mp ht).1
  rw [m_ck420_len] at hl
  by_cases h0 : pc < 60
  · exact m_tckP_of m_cl0 (by omega) (by omega) ht
  exact m_tckP_of m_cl1 (by omega) (by omega) ht
