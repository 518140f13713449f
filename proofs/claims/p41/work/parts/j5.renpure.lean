/-! A RENAME LEAVES TOKENS AS THEY WERE, BUT FOR THEIR COLUMNS -/
section Mj5
variable {X : Nat → List Int} {id r f m k j : Nat} {tx0 : List Int}
theorem bnd_kn (hX : ∀ r, r < 24 → Rok (X r)) (hf : f < 3) (hk : k < 200) (h : bnd X (200 * f + k) ≠ -1) : k < (toks X f).length ∧ kn (ks X f) k = 0 := by
  rcases bnd_cas hX (show 200 * f + k < 600 by omega) with h1 | ⟨g, i, hg, hi, hb⟩
  · exact absurd h1 h
  · obtain ⟨t, e, t2, t3⟩ := bset_tok hX hg hi hb
    have lk := toks_len hX hg
    have : f = g ∧ k = t := by omega
    obtain ⟨rfl, rfl⟩ := this
    exact ⟨t2, t3⟩
end Mj5
