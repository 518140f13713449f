/-! THE END, out of QZ of all numbers -/
theorem m_mini_q (hq : ∀ z : Nat, z < 2147483648 → QZ z) : m_MINI := fun L xs hL => by
  have H : ∀ (F : MF) (x : Int), 0 ≤ x ∧ x < 2147483648 → Wq (fun _ => False) 214 36216 389 0 (m_ini (m_mls.getD 389 0) [(0, x)]) [] F := fun F x hx => by
    obtain ⟨z, rfl⟩ : ∃ z : Nat, x = (z : Int) := ⟨x.toNat, by omega⟩
    exact s_389 (by omega) (hq z (by omega))
  have hl : gl (fun _ => False) (m_ini (m_mls.getD 420 0) [(6, 0)]) := gl_ini (gs_c.mpr ⟨gv_n (by decide), gs_nil⟩)
  obtain ⟨f, X, F3, c1, s1, h1, h2, h3, h4, h5, h6⟩ := l_420 (F := (m_h0 L xs).1) H 12 (by rw [hg_420]; decide) (fun a => a) [] (m_h0 L xs).1 0 0 ⟨fun _ _ h => h.elim, fun _ h => h.elim, rfl, rfl, kd_le, by decide⟩ hl gs_nil (by decide)
  rw [lm_no hl, ml_420] at h1
  refine ⟨f, 12, _, by decide, by decide, h1, ?_, ?_, ?_⟩
  · show ([] ++ X).length ≤ 1000000
    rw [List.nil_append]
    omega
  · show c1 ≤ 600104
    omega
  · show s1 ≤ 7301314
    omega
