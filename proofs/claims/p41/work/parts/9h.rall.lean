/-! READING, OF THE REFERENCE: all files -/
/-- the words, errors, functions and USE items of a file -/
def Cw (X : Nat → List Int) (f : Nat) : List Int := (prs (ks X f)).2.2.1
def Ew (X : Nat → List Int) (f : Nat) : EE := (prs (ks X f)).2.2.2.1
def Fw (X : Nat → List Int) (f : Nat) : FF := (prs (ks X f)).2.2.2.2.1
def Uw (X : Nat → List Int) (f : Nat) : List Int := (prs (ks X f)).2.2.2.2.2
section M9h
variable {F F' G : MF} {X : Nat → List Int} {f n N : Nat}
theorem kn_gx {K : List Int} {i : Nat} (h : i < K.length) : kn K i = gx K i := by
  unfold kn gx
  rw [List.getD_eq_getElem?_getD, List.getD_eq_getElem?_getD, List.getElem?_eq_getElem h]
  rfl
end M9h
