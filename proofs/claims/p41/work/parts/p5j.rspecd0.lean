/-! RUNNING: a pure machine over the words -/
/-- a function that runs: its file, its place, its variables -/
abbrev RuF : Type := Nat × Nat × (Nat → Int)
abbrev RuS : Type := List RuF × List Int × Nat × Int
def wrd (X : Nat → List Int) (f p : Nat) : Int := if p < (Cw X f).length then gx (Cw X f) p else 5
def nvr (X : Nat → List Int) (f t : Nat) : Nat → Int
  | 0 => 0
  | i + 1 => w64 (w64 (10 * nvr X f t i) + (chr X f t i - 48))
def prv (k a b : Int) : Int := if k = 17 then (if a = b then 1 else 0) else if k = 18 then (if a < b then 1 else 0) else if k = 19 then w64 (a + b) else if k = 20 then w64 (a - b) else w64 (a * b)
noncomputable def lfv (X : Nat → List Int) (f t : Nat) (g : Nat → Int) : Int := if kn (ks X f) t = 1 then nvr X f t (ts X f t) else if kn (ks X f) t = 0 then (if bnd X (200 * f + t) = -1 then 0 else g ((bnd X (200 * f + t)).toNat % 200)) else if kn (ks X f) t = 8 then 1 else 0
/-- what the parameters of a function get: p its token, m how many -/
def argS (p m : Nat) (as : List Int) : Nat → Int := fun x => if p + 2 ≤ x ∧ (x - (p + 2)) % 2 = 0 ∧ (x - (p + 2)) / 2 < m then gx as ((x - (p + 2)) / 2) else 0
def fstp (X : Nat → List Int) (v : Nat) : Nat := (gx ((Fw X (v / 200)).map (fun e => e.2.2.1)) (fix' (Fw X (v / 200)) ((v % 200 : Nat) : Int) 0).toNat).toNat
def rgo (f p : Nat) (g : Nat → Int) (r : List RuF) (vs : List Int) (s : Nat) (res : Int) : Option RuS := if vs.length ≤ 800 then some ((f, p, g) :: r, vs, s, res) else none
def rlv (v : Int) (r : List RuF) (vs : List Int) (s : Nat) : Option RuS := if vs.length < 800 then some (r, v :: vs, s, v) else none
def ren (X : Nat → List Int) (v k : Nat) (r : List RuF) (vs : List Int) (s : Nat) (res : Int) : RuS := ((v / 200, fstp X v, argS (v % 200) (min (ppar X v).toNat k) (vs.take k).reverse) :: r, vs.drop k, s, res)
noncomputable def rsw (X : Nat → List Int) (w : Int) (f p : Nat) (g : Nat → Int) (r : List RuF) (vs : List Int) (s : Nat) (res : Int) : Option RuS :=
  if wo w = 14 then rgo f (p + 1) g r (lfv X f (wt w).toNat g :: vs) s res
  else if wo w = 15 then
    (if vs.length < (we w).toNat then none
     else if bnd X (200 * f + (wt w).toNat) = -1 ∨ 200 ≤ s ∨ 4 ≤ r.length + 1 then rgo f (p + 1) g r (0 :: vs.drop (we w).toNat) s res
     else some (ren X (bnd X (200 * f + (wt w).toNat)).toNat (we w).toNat ((f, p + 1, g) :: r) vs (s + 1) res))
  else if wo w = 16 then (match vs with
    | [] => none
    | a :: vs => rgo f (p + 1) g r ((if a = 0 then 1 else 0) :: vs) s res)
  else if wo w = 17 then (match vs with
    | b :: a :: vs => rgo f (p + 1) g r (prv (kn (ks X f) (wt w).toNat) a b :: vs) s res
    | _ => none)
  else if wo w = 5 then rlv 0 r vs s
  else if wo w = 6 then (if 200 ≤ s then rlv 0 r vs s else rgo f (p + 1) g r vs (s + 1) res)
  else if wo w = 7 ∨ wo w = 8 then (match vs with
    | [] => none
    | a :: vs => rgo f (p + 1) (if bnd X (200 * f + (wt w).toNat) = -1 then g else fun x => if x = (bnd X (200 * f + (wt w).toNat)).toNat % 200 then a else g x) r vs s res)
  else if wo w = 9 then (match vs with
    | [] => none
    | _ :: vs => rgo f (p + 1) g r vs s res)
  else if wo w = 10 then (match vs with
    | [] => none
    | a :: vs => rlv a r vs s)
  else if wo w = 11 then (match vs with
    | [] => none
    | a :: vs => rgo f (if a = 0 then (we w).toNat else p + 1) g r vs s res)
  else if wo w = 12 then rgo f (we w).toNat g r vs s res
  else rgo f (p + 1) g r vs s res
noncomputable def rst (X : Nat → List Int) (S : RuS) : Option RuS := match S with
  | ([], _) => none
  | ((f, p, g) :: r, vs, s, res) => rsw X (wrd X f p) f p g r vs s res
noncomputable def rrun (X : Nat → List Int) : Nat → RuS → Option Int
  | 0, _ => none
  | n + 1, S => if S.1 = [] then some S.2.2.2 else match rst X S with
    | none => none
    | some S' => rrun X n S'
