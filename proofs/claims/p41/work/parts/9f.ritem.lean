/-! READING, OF THE REFERENCE: items -/
section M9f
variable {F F' G : MF} {K : List Int} {n0 N a p e : Nat} {C : List Int} {E : EE} {Fn : FF} {U : List Int}
theorem pit_fn (hk : kn K a = 3) : pit K a C E Fn U = if (fnh K a).1 = true then ((fnh K a).2.1 + 1, [(0, -1)], C ++ [mk 2 (a + 1) (fnh K a).2.2, mk 3 (fnh K a).2.1 0], E, Fn ++ [(((a + 1 : Nat) : Int), ((fnh K a).2.2 : Int), (C.length : Int), -1)], U)
     else (skI K (K.length - (fnh K a).2.1) (fnh K a).2.1, [], C, E ++ [(((fnh K a).2.1 : Int), -1, -1)], Fn, U) := by
  unfold pit
  rw [if_neg (show ¬ kn K a = 2 by omega), if_pos hk]
end M9f
