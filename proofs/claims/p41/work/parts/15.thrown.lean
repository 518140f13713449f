/-! WORDS OF THE THROWN, AND OF THE TABLES OF HANDLERS -/
def m_chain : List String := ["java/lang/RuntimeException", "java/lang/Exception"]
def m_atOk (w : Cond) : Bool := (goodWord w || m_nest w) && (vx_ot w && decide (w ∈ lw_tbl))
theorem m_at00 : ∀ w ∈ vx_at0 "Syntaxspan" 75 (m_exn 0) m_chain, m_atOk w = true := by decide +kernel
theorem m_at01 : ∀ w ∈ vx_at0 "Syntaxspan" 78 (m_exn 1) m_chain, m_atOk w = true := by decide +kernel
theorem m_at02 : ∀ w ∈ vx_at0 "Syntaxspan" 81 (m_exn 2) m_chain, m_atOk w = true := by decide +kernel
theorem m_at0 {x : Nat} (hx : x < 3) : ∀ w ∈ vx_at0 "Syntaxspan" (m_ics.getD x 0) (m_exn x) m_chain, m_atOk w = true := by
  match x, hx with
  | 0, _ => exact m_at00
  | 1, _ => exact m_at01
  | 2, _ => exact m_at02
  | n + 3, h => omega
theorem m_exw : ∀ x, x < 3 → (Cond.initialized (m_exn x) ∈ lw_tbl ∧ goodWord (Cond.initialized (m_exn x)) = true) ∧ (Cond.castable (m_exn x) (m_exn x) ∈ lw_tbl ∧ m_nest (Cond.castable (m_exn x) (m_exn x)) = true) ∧ (Cond.classLink "SyntaxspanLaw" ([87, 89, 91].getD x 0) (m_exn x) ∈ lw_tbl ∧ goodWord (Cond.classLink "SyntaxspanLaw" ([87, 89, 91].getD x 0) (m_exn x)) = true) ∧ Bundle.fit (m_exn x) = true := by decide +kernel
theorem m_chainfit : ∀ n ∈ m_chain, Bundle.fit n = true := by decide +kernel
theorem m_mdsl : m_mds.length = 439 := by decide +kernel
def m_hok (M : Nat) : Bool := decide (m_raw M = (m_hh M).map (fun t => (t.1, t.2.1, t.2.2.1, [87, 89, 91].getD t.2.2.2 0))) && ((m_hh M).all (fun t => decide (t.2.2.2 < 3)) && ((m_hh M).isEmpty || decide ((m_y M).cls = "SyntaxspanLaw")))
theorem m_hokA : (List.range 250).all m_hok = true := by decide +kernel
theorem m_hokB : (List.range 189).all (fun M => m_hok (250 + M)) = true := by decide +kernel
theorem m_hoks {M : Nat} : m_hok M = true := by
  by_cases h1 : M < 250
  · exact List.all_eq_true.mp m_hokA M (List.mem_range.mpr h1)
  · by_cases h2 : M < 439
    · have := List.all_eq_true.mp m_hokB (M - 250) (List.mem_range.mpr (by omega))
      rwa [show 250 + (M - 250) = M by omega] at this
    · have e1 : m_raw M = [] := by
        unfold m_raw m_md
        rw [List.getD_eq_getElem?_getD, List.getElem?_eq_none (by rw [m_mdsl]; omega)]
        rfl
      have e2 : m_hh M = [] := by
        unfold m_hh
        have : m_hhs.find? (fun q => q.1 == M) = none := by
          rw [List.find?_eq_none]
          intro q hq
          have h3 : ∀ q ∈ m_hhs, q.1 < 439 := by decide +kernel
          have := h3 q hq
          simp only [beq_iff_eq]
          omega
        rw [this]
        rfl
      unfold m_hok
      rw [e1, e2]
      rfl
theorem m_kndl : m_mds.all (fun d => d.2.2.2.2.1 == 0 || (d.2.2.2.2.1 == 9 || !decide (d.1.cls = "SyntaxspanLaw"))) = true := by decide +kernel
theorem m_knd_law {N : Nat} (h : N < 439) (hc : (m_y N).cls = "SyntaxspanLaw") : m_knd N = 0 ∨ m_knd N = 9 := by
  have hm : m_md N ∈ m_mds := by
    unfold m_md
    rw [List.getD_eq_getElem?_getD]
    cases hg : m_mds[N]? with
    | none =>
      have := List.getElem?_eq_none_iff.mp hg
      rw [m_mdsl] at this
      omega
    | some d => exact List.mem_of_getElem? hg
  have := List.all_eq_true.mp m_kndl _ hm
  simp only [Bool.or_eq_true, beq_iff_eq, Bool.not_eq_true', decide_eq_false_iff_not] at this
  rcases this with h1 | h1 | h1
  · exact Or.inl h1
  · exact Or.inr h1
  · exact absurd hc h1
