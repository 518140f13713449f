/-! LEXING, AS IT IS MEANT -/
def isL (c : Int) : Bool := decide (97 ≤ c ∧ c ≤ 122)
def isD (c : Int) : Bool := decide (48 ≤ c ∧ c ≤ 57)
def spn (p : Int → Bool) : List Int → Nat
  | [] => 0
  | c :: t => if p c = true then 1 + spn p t else 0
theorem spn_le (p : Int → Bool) (l : List Int) : spn p l ≤ l.length := by
  induction l with
  | nil => exact Nat.le_refl _
  | cons c t ih =>
    unfold spn
    rw [List.length_cons]
    split <;> omega
theorem drop_cons {l : List Int} {j : Nat} (h : j < l.length) : l.drop j = gx l j :: l.drop (j + 1) := by
  rw [List.drop_eq_getElem_cons h]
  unfold gx
  rw [List.getD_eq_getElem?_getD, List.getElem?_eq_getElem h]
  rfl
def seg (l : List Int) (j s : Nat) : List Int := (l.drop j).take s
theorem seg_len {l : List Int} {j s : Nat} (h : j + s ≤ l.length) : (seg l j s).length = s := by
  unfold seg
  rw [List.length_take, List.length_drop]
  omega
theorem seg_gx {l : List Int} {j s i : Nat} (h : i < s) : gx (seg l j s) i = gx l (j + i) := by
  unfold seg
  rw [gx_take _ _ _ h, gx_drop]
def span (l : List Int) (j : Nat) : Nat :=
  if gx l j = 61 then (if sgnl l ((j : Int) + 1) = 61 then 2 else 1)
  else if isL (gx l j) = true then spn isL (l.drop j) else if isD (gx l j) = true then spn isD (l.drop j) else 1
/-- the words of the classes 2 to 9 -/
def kwt (k : Nat) : List Int := ([[], [], [117, 115, 101], [102, 110], [108, 101, 116], [105, 102], [101, 108, 115, 101], [114, 101, 116], [121, 101, 115], [110, 111]] : List (List Int)).getD k []
def kwd (w : List Int) : Int :=
  if w = kwt 2 then 2 else if w = kwt 3 then 3 else if w = kwt 4 then 4 else if w = kwt 5 then 5 else if w = kwt 6 then 6 else if w = kwt 7 then 7 else if w = kwt 8 then 8 else if w = kwt 9 then 9 else 0
/-- the place of a sign among ( ) { } , ; = blank < + - * !, from 10 on; otherwise 23 -/
def sgc (c : Int) : Int :=
  if c = 40 then 10 else if c = 41 then 11 else if c = 123 then 12 else if c = 125 then 13 else if c = 44 then 14 else if c = 59 then 15 else if c = 61 then 16 else if c = 32 then 17 else if c = 60 then 18 else if c = 43 then 19 else if c = 45 then 20 else if c = 42 then 21 else if c = 33 then 22 else 23
def clsw (w : List Int) : Int :=
  if isL (gx w 0) = true then kwd w else if isD (gx w 0) = true then (if 3 < w.length then 23 else 1) else if w.length = 2 then 17 else sgc (gx w 0)
/-- whether a comment begins, or ends, with the two signs here -/
def turnsb (l : List Int) (j : Nat) (b : Bool) : Bool := if b = true then decide (sgnl l (j : Int) = 42 ∧ sgnl l ((j : Int) + 1) = 47) else decide (sgnl l (j : Int) = 47 ∧ sgnl l ((j : Int) + 1) = 42)
/-- tokens (class, column, length), owners of the columns, and the mode at the end, from a column on -/
def lexL : Nat → List Int → Nat → Bool → Nat → List (Int × Nat × Nat) × List Int × Bool
  | 0, _, _, b, _ => ([], [], b)
  | k + 1, l, j, b, c =>
    if l.length ≤ j then ([], [], b)
    else if turnsb l j b = true then ((lexL k l (j + 2) (!b) c).1, -2 :: -2 :: (lexL k l (j + 2) (!b) c).2.1, (lexL k l (j + 2) (!b) c).2.2)
    else if b = true then ((lexL k l (j + 1) b c).1, -2 :: (lexL k l (j + 1) b c).2.1, (lexL k l (j + 1) b c).2.2)
    else if gx l j = 32 then ((lexL k l (j + 1) b c).1, -1 :: (lexL k l (j + 1) b c).2.1, (lexL k l (j + 1) b c).2.2)
    else ((clsw (seg l j (span l j)), j, span l j) :: (lexL k l (j + span l j) b (c + 1)).1, List.replicate (span l j) (c : Int) ++ (lexL k l (j + span l j) b (c + 1)).2.1, (lexL k l (j + span l j) b (c + 1)).2.2)
theorem span_pos (l : List Int) (j : Nat) (h : j < l.length) : 1 ≤ span l j := by
  unfold span
  split
  · split <;> omega
  · split
    · next h1 =>
      rw [drop_cons h]
      unfold spn
      rw [if_pos h1]
      omega
    · split
      · next h1 =>
        rw [drop_cons h]
        unfold spn
        rw [if_pos h1]
        omega
      · omega
theorem sgn_ne {l : List Int} {j : Int} (h : sgnl l j ≠ 32) : 0 ≤ j ∧ j < (l.length : Int) := by
  unfold sgnl at h
  split at h
  · next h1 => exact h1
  · exact absurd rfl h
theorem span_le (l : List Int) (j : Nat) (h : j < l.length) : j + span l j ≤ l.length := by
  unfold span
  split
  · split
    · next h1 =>
      have := sgn_ne (l := l) (j := (j : Int) + 1) (by rw [h1]; decide)
      omega
    · omega
  · split
    · have := spn_le isL (l.drop j)
      rw [List.length_drop] at this
      omega
    · split
      · have := spn_le isD (l.drop j)
        rw [List.length_drop] at this
        omega
      · omega
theorem turnsb_le {l : List Int} {j : Nat} {b : Bool} (h : turnsb l j b = true) : j + 2 ≤ l.length := by
  have h1 : sgnl l ((j : Int) + 1) ≠ 32 := by
    unfold turnsb at h
    split at h
    · have := of_decide_eq_true h
      rw [this.2]
      decide
    · have := of_decide_eq_true h
      rw [this.2]
      decide
  have := sgn_ne h1
  omega
/-- what is laid of a line: one owner for each column; tokens one behind the other -/
theorem lexL_own : ∀ (k : Nat) (l : List Int) (j : Nat) (b : Bool) (c : Nat), l.length ≤ j + k → j ≤ l.length → (lexL k l j b c).2.1.length = l.length - j ∧ (lexL k l j b c).1.length ≤ l.length - j := by
  intro k
  induction k with
  | zero =>
    intro l j b c h1 h2
    unfold lexL
    simp only [List.length_nil]
    omega
  | succ k ih =>
    intro l j b c h1 h2
    unfold lexL
    by_cases e : l.length ≤ j
    · rw [if_pos e]
      simp only [List.length_nil]
      omega
    · rw [if_neg e]
      have hs := span_pos l j (by omega)
      have hs2 := span_le l j (by omega)
      split
      · next h3 =>
        have := turnsb_le h3
        have h4 := ih l (j + 2) (!b) c (by omega) (by omega)
        simp only [List.length_cons]
        omega
      · split
        · have h4 := ih l (j + 1) b c (by omega) (by omega)
          simp only [List.length_cons]
          omega
        · split
          · have h4 := ih l (j + 1) b c (by omega) (by omega)
            simp only [List.length_cons]
            omega
          · have h4 := ih l (j + span l j) b (c + 1) (by omega) (by omega)
            simp only [List.length_cons, List.length_append, List.length_replicate]
            omega
/-- tokens (class, line, column, length) of the lines ahead of one, and the mode there -/
def lexTo (X : Nat → List Int) (f : Nat) : Nat → List (Int × Nat × Nat × Nat) × Bool
  | 0 => ([], false)
  | m + 1 => ((lexTo X f m).1 ++ (lexL 24 (X (8 * f + m)) 0 (lexTo X f m).2 (lexTo X f m).1.length).1.map (fun t => (t.1, m, t.2.1, t.2.2)),
      (lexL 24 (X (8 * f + m)) 0 (lexTo X f m).2 (lexTo X f m).1.length).2.2)
def toks (X : Nat → List Int) (f : Nat) : List (Int × Nat × Nat × Nat) := (lexTo X f 8).1
def owns (X : Nat → List Int) (f m : Nat) : List Int := (lexL 24 (X (8 * f + m)) 0 (lexTo X f m).2 (lexTo X f m).1.length).2.1
theorem lexTo_len {X : Nat → List Int} {f : Nat} (hX : ∀ r, r < 24 → Rok (X r)) (hf : f < 3) : ∀ m, m ≤ 8 → (lexTo X f m).1.length ≤ 24 * m := by
  intro m
  induction m with
  | zero => intro _; exact Nat.le_refl _
  | succ m ih =>
    intro hm
    have h1 := ih (by omega)
    have h2 := (hX (8 * f + m) (by omega)).1
    have h3 := (lexL_own 24 (X (8 * f + m)) 0 (lexTo X f m).2 (lexTo X f m).1.length (by omega) (by omega)).2
    unfold lexTo
    rw [List.length_append, List.length_map]
    omega
theorem toks_len {X : Nat → List Int} {f : Nat} (hX : ∀ r, r < 24 → Rok (X r)) (hf : f < 3) : (toks X f).length ≤ 192 := lexTo_len hX hf 8 (Nat.le_refl _)
