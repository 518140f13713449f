/-! A PLAN IS PLAYED: as it is meant; of the class -/
/-- a change: kind (0 rename, 1 inlining, 2 move), file, token, other file, name -/
abbrev CH : Type := Nat × Nat × Nat × Nat × List Int
def CHok (c : CH) : Prop := c.1 ≤ 2 ∧ c.2.1 < 3 ∧ c.2.2.1 < 200 ∧ c.2.2.2.1 < 3 ∧ (c.1 = 2 → c.2.2.2.1 ≠ c.2.1) ∧ c.2.2.2.2.length ≤ 6 ∧ ∀ a ∈ c.2.2.2.2, isL a = true
/-- the plan, in the cells of the class -/
def PlC (F : MF) (L : List CH) : Prop := F 109 7 = (L.length : Int) ∧ L.length ≤ 3 ∧ ∀ i, (h : i < L.length) → CHok (L[i]'h) ∧ F 189 i = ((L[i]'h).1 : Int) ∧ F 190 i = ((L[i]'h).2.1 : Int) ∧ F 191 i = ((L[i]'h).2.2.1 : Int) ∧ ((L[i]'h).1 = 2 → F 192 i = ((L[i]'h).2.2.2.1 : Int)) ∧ ((L[i]'h).1 = 0 → F 194 i = ((L[i]'h).2.2.2.2.length : Int) ∧ ∀ j, j < (L[i]'h).2.2.2.2.length → F 193 (6 * i + j) = gx (L[i]'h).2.2.2.2 j)
