/-! READING, AS IT IS MEANT: a machine over the row of classes -/
def mk (o t e : Nat) : Int := ((o + 256 * t + 65536 * e : Nat) : Int)
def kn (K : List Int) (i : Nat) : Int := K.getD i 24
theorem kn_end {K : List Int} {i : Nat} (h : K.length ≤ i) : kn K i = 24 := by
  unfold kn
  rw [List.getD_eq_getElem?_getD, List.getElem?_eq_none h]
  rfl
theorem kn_lt {K : List Int} {i : Nat} (h : kn K i ≠ 24) : i < K.length := by
  by_cases e : i < K.length
  · exact e
  · exact absurd (kn_end (by omega)) h
def bgn (k : Int) : Bool := decide (k = 3 ∨ k = 2 ∨ k = 24)
/-- what is open in an expr: shape (0 top, 1 group, 2 call), what opened it, how many exprs; the places of ! * + == that wait -/
abbrev Lv : Type := Int × Int × Int × Int × Int × Int × Int
def lv0 (s o : Int) : Lv := (s, o, 0, -1, -1, -1, -1)
abbrev shp (l : Lv) : Int := l.1
abbrev opn (l : Lv) : Int := l.2.1
abbrev szs (l : Lv) : Int := l.2.2.1
abbrev nts (l : Lv) : Int := l.2.2.2.1
abbrev tms (l : Lv) : Int := l.2.2.2.2.1
abbrev ads (l : Lv) : Int := l.2.2.2.2.2.1
abbrev cps (l : Lv) : Int := l.2.2.2.2.2.2
/-- a state of the reading of an expr: 0 failed, 1 wants, 2 has, 3 over, 4 shuts; the place; what is open, innermost first; words -/
abbrev XS : Type := Nat × Nat × List Lv × List Int
def wd (o : Nat) (p : Int) : List Int := if p = -1 then [] else [mk o p.toNat 0]
def xop (K : List Int) (a : Nat) (l : Lv) (r : List Lv) (C : List Int) : XS :=
  if kn K a = 22 ∧ nts l = -1 then (1, a + 1, (shp l, opn l, szs l, (a : Int), tms l, ads l, cps l) :: r, C)
  else if kn K a = 0 ∧ kn K (a + 1) = 10 then (1, a + 2, lv0 2 a :: l :: r, C)
  else if kn K a = 10 then (1, a + 1, lv0 1 a :: l :: r, C)
  else if kn K a = 11 ∧ shp l = 2 ∧ (a : Int) = opn l + 2 then (4, a, l :: r, C)
  else if kn K a = 0 ∨ kn K a = 1 ∨ kn K a = 8 ∨ kn K a = 9 then (2, a + 1, l :: r, C ++ [mk 14 a 0])
  else (0, a, l :: r, C)
def xcl (K : List Int) (a : Nat) (l : Lv) (r : List Lv) (C : List Int) : XS :=
  if shp l = 0 then (3, a, l :: r, C)
  else if shp l = 2 then
    (if kn K a = 14 then (1, a + 1, (shp l, opn l, szs l + 1, nts l, tms l, ads l, cps l) :: r, C)
     else if kn K a = 11 then (4, a, (shp l, opn l, szs l + 1, nts l, tms l, ads l, cps l) :: r, C) else (0, a, (shp l, opn l, szs l + 1, nts l, tms l, ads l, cps l) :: r, C))
  else if kn K a = 11 then (4, a, l :: r, C) else (0, a, l :: r, C)
/-- behind a unit, * and + done: + or -, == or <, or an end -/
def xb3 (K : List Int) (a : Nat) (l : Lv) (r : List Lv) (C : List Int) : XS :=
  if kn K a = 19 ∨ kn K a = 20 then (1, a + 1, (shp l, opn l, szs l, -1, -1, (a : Int), cps l) :: r, C)
  else if cps l = -1 then
    (if kn K a = 17 ∨ kn K a = 18 then (1, a + 1, (shp l, opn l, szs l, -1, -1, -1, (a : Int)) :: r, C)
     else xcl K a (shp l, opn l, szs l, -1, -1, -1, -1) r C)
  else xcl K a (shp l, opn l, szs l, -1, -1, -1, -1) r (C ++ wd 17 (cps l))
def xb2 (K : List Int) (a : Nat) (l : Lv) (r : List Lv) (C : List Int) : XS :=
  if kn K a = 21 then (1, a + 1, (shp l, opn l, szs l, -1, (a : Int), ads l, cps l) :: r, C)
  else xb3 K a l r (C ++ wd 17 (ads l))
def xbh (K : List Int) (a : Nat) (l : Lv) (r : List Lv) (C : List Int) : XS := xb2 K a l r (C ++ wd 16 (nts l) ++ wd 17 (tms l))
/-- behind a closing bracket -/
def xsh : XS → XS
  | (4, a, l :: r, C) => ((if r = [] then 3 else 2), a + 1, r, C ++ [mk (if shp l = 1 then 18 else 15) (opn l).toNat (szs l).toNat])
  | x => x
def xst (K : List Int) : XS → XS
  | (1, a, l :: r, C) => xsh (xop K a l r C)
  | (2, a, l :: r, C) => xsh (xbh K a l r C)
  | x => x
def xrun (K : List Int) : Nat → XS → XS
  | 0, x => (0, x.2)
  | d + 1, x => if (xst K x).1 = 0 ∨ (xst K x).1 = 3 then xst K x else xrun K d (xst K x)
/-- an expr, or the call of a statement, from a place on -/
def exr (K : List Int) (called : Bool) (a : Nat) (C : List Int) : XS := xrun K (K.length + 2) (1, (if called = true then a + 2 else a), [lv0 (if called = true then 2 else 0) a], C)
/-- where an item can begin -/
def skI (K : List Int) : Nat → Nat → Nat
  | 0, j => j
  | d + 1, j => if bgn (kn K j) = true then j else skI K d (j + 1)
def stp (k : Int) : Bool := decide (k = 15 ∨ k = 12 ∨ k = 13) || bgn k
def skS (K : List Int) : Nat → Nat → Nat
  | 0, j => j
  | d + 1, j => if stp (kn K j) = true then (if kn K j = 15 then j + 1 else j) else skS K d (j + 1)
/-- place; open blocks (0 of a function, 1 plain, 2 first, 3 second; the word to be aimed); words; errors; functions; USE items -/
abbrev PS : Type := Nat × List (Int × Int) × List Int × List (Int × Int × Int) × List (Int × Int × Int × Int) × List Int
/-- the parameters of a header from a place on: whether it goes well, where it ends, how many -/
def hdr (K : List Int) : Nat → Nat → Nat → Bool × Nat × Nat
  | 0, a, p => (false, a, p)
  | d + 1, a, p => if kn K a = 0 then (if kn K (a + 1) = 14 then hdr K d (a + 2) (p + 1) else if kn K (a + 1) = 11 then (if kn K (a + 2) = 12 then (true, a + 2, p + 1) else (false, a + 2, p + 1)) else (false, a + 1, p + 1)) else (false, a, p)
def fnh (K : List Int) (a : Nat) : Bool × Nat × Nat :=
  if kn K (a + 1) = 0 then (if kn K (a + 2) = 10 then (if kn K (a + 3) = 11 then (if kn K (a + 4) = 12 then (true, a + 4, 0) else (false, a + 4, 0)) else hdr K K.length (a + 3) 0) else (false, a + 2, 0)) else (false, a + 1, 0)
def pit (K : List Int) (a : Nat) (C : List Int) (E : List (Int × Int × Int)) (Fn : List (Int × Int × Int × Int)) (U : List Int) : PS :=
  let bad (e : Nat) : PS := (skI K (K.length - e) e, [], C, E ++ [((e : Int), -1, -1)], Fn, U)
  if kn K a = 2 then
    (if kn K (a + 1) = 0 then (if kn K (a + 2) = 15 then (a + 3, [], C ++ [mk 1 (a + 1) 0], E, Fn, U ++ [((a + 1 : Nat) : Int)]) else bad (a + 2)) else bad (a + 1))
  else if kn K a = 3 then
    (if (fnh K a).1 = true then ((fnh K a).2.1 + 1, [(0, -1)], C ++ [mk 2 (a + 1) (fnh K a).2.2, mk 3 (fnh K a).2.1 0], E, Fn ++ [(((a + 1 : Nat) : Int), ((fnh K a).2.2 : Int), (C.length : Int), -1)], U)
     else bad (fnh K a).2.1)
  else bad a
/-- a statement but for blocks: whether it goes well, where it ends or fails, the words -/
def sth (K : List Int) (a : Nat) (C : List Int) : Bool × Nat × List Int :=
  let fin (x : XS) (k : Int) (n : Nat) : Bool × Nat × List Int := if x.1 = 3 ∧ kn K x.2.1 = k then (true, x.2.1 + n, x.2.2.2) else (false, x.2.1, x.2.2.2)
  if kn K a = 5 then fin (exr K false (a + 1) C) 12 0
  else if kn K a = 7 then fin (exr K false (a + 1) C) 15 1
  else if kn K a = 0 ∧ kn K (a + 1) = 10 then fin (exr K true a C) 15 1
  else if kn K (if kn K a = 4 then a + 1 else a) = 0 then
    (if kn K ((if kn K a = 4 then a + 1 else a) + 1) = 16 then fin (exr K false ((if kn K a = 4 then a + 1 else a) + 2) C) 15 1 else (false, (if kn K a = 4 then a + 1 else a) + 1, C))
  else (false, (if kn K a = 4 then a + 1 else a), C)
/-- gives a jump the place that it goes to -/
def aim (C : List Int) (i : Int) (p : Nat) : List Int := if 0 ≤ i ∧ i < (C.length : Int) then C.set i.toNat (gx C i.toNat % 65536 + 65536 * (p : Int)) else C
def setLast (Fn : List (Int × Int × Int × Int)) (v : Int) : List (Int × Int × Int × Int) :=
  match Fn.getLast? with
  | some (n, p, s, _) => Fn.dropLast ++ [(n, p, s, v)]
  | none => Fn
/-- behind the end of a block -/
def pel (K : List Int) (a : Nat) (b st : Int) (S : List (Int × Int)) (C : List Int) (E : List (Int × Int × Int)) (Fn : List (Int × Int × Int × Int)) (U : List Int) : PS :=
  if b = 2 ∧ kn K a = 6 then
    (if kn K (a + 1) = 12 then (a + 2, (3, (C.length : Int)) :: S, aim (C ++ [mk 12 a 0]) st (C.length + 1) ++ [mk 3 (a + 1) 0], E, Fn, U)
     else (skS K (K.length - (a + 1)) (a + 1), S, C, E ++ [(((a + 1 : Nat) : Int), -1, -1)], Fn, U))
  else (a, S, C, E, Fn, U)
def pcb (K : List Int) (a : Nat) (closed : Bool) (b st : Int) (S : List (Int × Int)) (C : List Int) (E : List (Int × Int × Int)) (Fn : List (Int × Int × Int × Int)) (U : List Int) : PS :=
  let E2 := if closed = true then E else E ++ [((a : Int), -1, -1)]
  let C2 := C ++ [mk 4 a (if closed = true then 1 else 0)]
  let a2 := if closed = true then a + 1 else a
  if b = 0 then pel K a2 b st S (C2 ++ [mk 5 0 0]) E2 (setLast Fn (if closed = true then (a : Int) else -1)) U
  else if b = 1 then pel K a2 b st S C2 E2 Fn U
  else pel K a2 b st S (aim C2 st C2.length) E2 Fn U
def pst (K : List Int) (a : Nat) (b st : Int) (S : List (Int × Int)) (C : List Int) (E : List (Int × Int × Int)) (Fn : List (Int × Int × Int × Int)) (U : List Int) : PS :=
  if kn K a = 13 then pcb K a true b st S C E Fn U
  else if bgn (kn K a) = true then pcb K a false b st S C E Fn U
  else if kn K a = 12 then (a + 1, (1, -1) :: (b, st) :: S, C ++ [mk 6 a 0, mk 3 a 0], E, Fn, U)
  else
    let x := sth K a (C ++ [mk 6 a 0])
    if x.1 = false then (skS K (K.length - x.2.1) x.2.1, (b, st) :: S, C ++ [mk 13 a 0], E ++ [((x.2.1 : Int), (a : Int), ((skS K (K.length - x.2.1) x.2.1 : Nat) : Int) - 1)], Fn, U)
    else if kn K a = 5 then (x.2.1 + 1, (2, (x.2.2.length : Int)) :: (b, st) :: S, x.2.2 ++ [mk 11 a 0, mk 3 x.2.1 0], E, Fn, U)
    else if kn K a = 4 then (x.2.1, (b, st) :: S, x.2.2 ++ [mk 7 (a + 1) (x.2.1 - 1)], E, Fn, U)
    else (x.2.1, (b, st) :: S, x.2.2 ++ [mk (if kn K a = 7 then 10 else if kn K (a + 1) = 10 then 9 else 8) a 0], E, Fn, U)
def pstep (K : List Int) : PS → PS
  | (a, [], C, E, Fn, U) => pit K a C E Fn U
  | (a, (b, st) :: S, C, E, Fn, U) => pst K a b st S C E Fn U
def prun (K : List Int) : Nat → PS → PS
  | 0, x => x
  | d + 1, x => if x.1 < K.length ∨ x.2.1 ≠ [] then prun K d (pstep K x) else x
def prs (K : List Int) : PS := prun K 600 (0, [], [], [], [], [])
