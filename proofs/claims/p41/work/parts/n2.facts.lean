/-! FACTS OF ALL THAT IS TOLD -/
section Mn2
variable {X : Nat → List Int} {N : List Int} {f m fn : Nat} {h : Nat → Nat} {E : List Int} {w : Int}
theorem fn_par {e : Int × Int × Int × Int} (hX : ∀ r, r < 24 → Rok (X r)) (hf : f < 3) (he : e ∈ Fw X f) : 0 ≤ e.2.1 ∧ e.2.1 < 256 := by
  obtain ⟨p, n, i, a1, a2, a3, a4, a5, a6, a7⟩ := Fw_tok hX hf he
  have h7 := a7 n (Nat.le_refl _)
  have hl := toks_len hX hf
  by_cases c : p + 2 * n < (toks X f).length
  · omega
  · rw [kn_end (by rw [ks_len']; omega)] at h7
    exact absurd h7 (by decide)
end Mn2
