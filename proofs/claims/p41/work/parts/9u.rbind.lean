/-! BINDING OF THE REFERENCE: what is in a function -/
section M9u2
variable {F : MF} {X : Nat → List Int} {f k vf p n : Nat} {R : MF → Prop}
theorem kn_rng (hX : ∀ r, r < 24 → Rok (X r)) (hf : f < 3) (q : Nat) : 0 ≤ kn (ks X f) q ∧ kn (ks X f) q ≤ 24 := by
  by_cases h : q < (ks X f).length
  · have := ks_kn hX hf h
    omega
  · rw [kn_end (by omega)]
    decide
end M9u2
