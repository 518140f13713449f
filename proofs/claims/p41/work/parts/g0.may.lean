/-! WHICH TOKENS MAY STAND BEHIND SOME: by the class and by the reference -/
def mK (K : List Int) (m : Nat) (z : Int) : List Int := K.take m ++ (if z = 24 then [] else [z])
def hitE (E : EE) (m : Nat) : Bool := E.any (fun e => decide (e.1 = (m : Int)))
def bad (X : Nat → List Int) (f m : Nat) (z : Int) : Bool := hitE (prs (mK (ks X f) m z)).2.2.2.1 m
