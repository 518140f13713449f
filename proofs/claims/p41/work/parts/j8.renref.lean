/-! A RENAME, OF THE REFERENCE -/
def isF (X : Nat → List Int) (v : Nat) : Bool := decide (fix' (Fw X (v / 200)) ((v % 200 : Nat) : Int) 0 ≠ -1)
