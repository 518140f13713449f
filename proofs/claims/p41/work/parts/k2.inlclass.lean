/-! AN INLINING, OF THE CLASS -/
section Mk2
variable {F G : MF} {X : Nat → List Int} {C : List Int} {f t e i j k a b n m : Nat}
theorem q_104t (hf : f < 3) (hX : ∀ r, r < 24 → Rok (X r)) (hG : GaC F n f X) (k : Nat) : g_104 F n (k : Int) = kn (ks X f) k ∧ o_104 F n (k : Int) := by
  have lk := toks_len hX hf
  have hc : F n 8 = ((toks X f).length : Int) := hG.1.1
  refine ⟨?_, fun _ => trivial, fun _ => ⟨fun h => ⟨by omega, trivial⟩, fun _ => trivial⟩⟩
  unfold g_104
  rw [if_neg (by omega), hc, Int.toNat_natCast]
  by_cases h : k < (toks X f).length
  · rw [if_pos (by omega), (gac_tok hG h).1]
  · rw [if_neg (by omega), kn_end (by rw [ks_len']; omega)]
end Mk2
