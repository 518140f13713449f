/-! LEXING OF A ROW IN WHICH NAMES ARE WRITTEN ANEW -/
def h1 : List Int → Int
  | _ :: c :: _ => c
  | _ => 32
