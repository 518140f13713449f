/-! ROWS ARE WRITTEN ANEW: as it is meant; of the class -/
section Mj2
variable {F G : MF} {X Y : Nat → List Int} {id r fr0 to : Nat} {tx0 : List Int} {cut : Int}
theorem owns_rng {f m q : Nat} (hX : ∀ r, r < 24 → Rok (X r)) (hf : f < 3) (hm : m < 8) (hq : q < (X (8 * f + m)).length) : gx (owns X f m) q < 0 ∨ ∃ k, k < (toks X f).length ∧ gx (owns X f m) q = (k : Int) := by
  rcases own_tok hX hf hm hq with h | ⟨k, h1, h2, -⟩
  · exact Or.inl h.1
  · exact Or.inr ⟨k, h1, h2⟩
end Mj2
