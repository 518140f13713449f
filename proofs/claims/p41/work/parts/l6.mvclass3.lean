/-! USE LINES THAT A MOVE NEEDS, OF THE CLASS -/
section Ml6
variable {F G : MF} {X Y : Nat → List Int} {og s : Nat → Int} {f t o l g a b n r i k : Nat} {P : Nat → Prop}
theorem bnd_rg4 (hX : ∀ r, r < 24 → Rok (X r)) (hi : i < 600) : bnd X i = -1 ∨ ∃ v : Nat, bnd X i = (v : Int) ∧ v < 600 := by
  rcases bnd_rg2 hX hi with h | ⟨f, k, h1, h2, -, h3⟩
  · exact Or.inl h
  · have := toks_len hX h1
    exact Or.inr ⟨_, h3, by omega⟩
end Ml6
