/-! WHAT TOKENS HAVE BECOME, OF THE CLASS -/
section Mj6
variable {F G : MF} {X Y : Nat → List Int} {f m k i : Nat} {og : Nat → Int}
theorem bnd_rg2 {id : Nat} (hX : ∀ r, r < 24 → Rok (X r)) (hid : id < 600) : bnd X id = -1 ∨ ∃ f k, f < 3 ∧ k < (toks X f).length ∧ kn (ks X f) k = 0 ∧ bnd X id = ((200 * f + k : Nat) : Int) := by
  by_cases h : bnd X id = -1
  · exact Or.inl h
  · obtain ⟨⟨d1, d2⟩, d3⟩ := bnd_D hX hid h
    have hf : (bnd X id).toNat / 200 < 3 := by omega
    have := bnd_kn (f := (bnd X id).toNat / 200) (k := (bnd X id).toNat % 200) hX hf (by omega) (by rw [show 200 * ((bnd X id).toNat / 200) + (bnd X id).toNat % 200 = (bnd X id).toNat by omega, d2]; omega)
    exact Or.inr ⟨_, _, hf, this.1, this.2, by omega⟩
end Mj6
