/-! A RENAME: as it is meant; of the class -/
noncomputable def pif (p : Prop) (a b : Int) : Int := @ite Int p (Classical.propDecidable p) a b
theorem pif_1 {p : Prop} {a b : Int} (h : p) : pif p a b = a := by unfold pif; exact if_pos h
theorem pif_0 {p : Prop} {a b : Int} (h : ¬ p) : pif p a b = b := by unfold pif; exact if_neg h
/-- what the plan changes, of the class; of the reference -/
def DF (F F' : MF) : Prop := (∀ c, (c < 109 ∨ (189 ≤ c ∧ c ≤ 194) ∨ 200 ≤ c) → F' c = F c) ∧ ∀ j, j ≠ 13 → F' 109 j = F 109 j
section Mj7
variable {F G : MF} {X Y : Nat → List Int} {id f m k i : Nat} {N tx0 : List Int}
theorem DF.tr {F G H : MF} (h : DF F G) (k : DF G H) : DF F H := ⟨fun c a => (k.1 c a).trans (h.1 c a), fun j a => (k.2 j a).trans (h.2 j a)⟩
theorem fr.df {P : Nat → Prop} (h : fr P F G) (hP : ∀ c, P c → (110 ≤ c ∧ c ≤ 188) ∨ (195 ≤ c ∧ c ≤ 199)) : DF F G := ⟨fun c hc => h c (fun e => by have := hP c e; omega), fun j _ => by rw [h 109 (fun e => by have := hP 109 e; omega)]⟩
end Mj7
