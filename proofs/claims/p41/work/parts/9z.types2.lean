/-! TYPES, OF THE CLASS: words -/
section M9z
variable {F : MF} {X : Nat → List Int} {f g n : Nat} {h : Nat → Nat} {E : List Int} {s t : Nat} {fi : Int} {st r : List (Nat × Int)} {a : Nat × Int}
theorem bwd_rng {sc : SS} {w : Int} {B : Nat → Int} (hX : ∀ r, r < 24 → Rok (X r)) (hf : f < 3) (hT : TVs X f (cand sc)) (hB : ∀ id, id < 600 → -1 ≤ B id ∧ B id < 600) : ∀ id, id < 600 → -1 ≤ bwd X f sc w B id ∧ bwd X f sc w B id < 600 := by
  intro id hid
  by_cases hs : bset X f w ((id : Int) - 200 * (f : Int))
  · rw [bwd_1 hs]
    unfold bval
    split
    · rcases fnF_rng (f := f) (k := (wt w).toNat) hX with h | ⟨g, p, h1, h2, h3, -⟩
      · omega
      · have := toks_len hX h1
        omega
    · split
      · rcases fst_rng (k := (wt w).toNat) hT with h | ⟨m, h1, h2⟩
        · rw [if_pos h]; omega
        · have := toks_len hX hf
          rw [if_neg (by omega)]
          omega
      · omega
  · rw [bwd_0 hs]
    exact hB id hid
theorem bnd_rng (hX : ∀ r, r < 24 → Rok (X r)) : ∀ id, id < 600 → -1 ≤ bnd X id ∧ bnd X id < 600 := by
  have one : ∀ (f : Nat) (B : Nat → Int), f < 3 → (∀ id, id < 600 → -1 ≤ B id ∧ B id < 600) → ∀ i, i ≤ (Cw X f).length → ∀ id, id < 600 → -1 ≤ bat X f B i id ∧ bat X f B i id < 600 := by
    intro f B hf hB i
    induction i with
    | zero => exact fun _ => hB
    | succ i ih =>
      intro hi
      exact bwd_rng hX hf (sat_ok (C := Cw X f) (fun i hi => Cw_wc hX hf hi) hX hf (i + 1) hi).2.2.1 (ih (by omega))
  exact one 2 _ (by decide) (one 1 _ (by decide) (one 0 _ (by decide) (fun id _ => by decide) _ (Nat.le_refl _)) _ (Nat.le_refl _)) _ (Nat.le_refl _)
end M9z
