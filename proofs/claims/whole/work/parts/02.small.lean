/-! A SMALL MACHINE: whole numbers for ints and longs, cells by their number; the same instructions, without names. -/
abbrev MV : Type := Nat × Int
abbrev ML : Type := List (Option MV)
abbrev MK : Type := List (Nat × Nat)
abbrev MH : Type := (Nat → Nat → Int) × MK × Nat × Nat
abbrev LK : Type := Nat × Nat × Nat × Nat
abbrev MS : Type := Nat × ML × List MV × MH
abbrev ME : Type := Nat × Nat × List MV × List MV
def w32 (x : Int) : Int := (x + 2147483648) % 4294967296 - 2147483648
def w64 (x : Int) : Int := (x + 9223372036854775808) % 18446744073709551616 - 9223372036854775808
def m_up (F : Nat → Nat → Int) (a i : Nat) (x : Int) : Nat → Nat → Int := fun b j => if b = a ∧ j = i then x else F b j
def m_cat (v : MV) : Nat := if v.1 = 1 then 2 else 1
def m_st (ls : ML) (i : Nat) (v : MV) : Option ML :=
  if i + m_cat v ≤ ls.length then
    let l1 := ls.set i (some v)
    let l2 := if v.1 = 1 then l1.set (i + 1) none else l1
    match i with
    | 0 => some l2
    | k + 1 => match ls[k]? with
      | some (some (1, _)) => some (l2.set k none)
      | _ => some l2
  else none
/-- the types of the fields: 0 int, 1 long, 2 boolean, 3 char, 4 reference -/
def m_flds : List (List Nat) := [@@FLDS@@]
def m_fty (ci k : Nat) : Nat := (m_flds.getD ci []).getD k 9
/-- the arrays of ints and of bytes that stand before the start -/
def m_cts : List (List Int) := [@@CTS@@]
def m_ct (c : Nat) : List Int := m_cts.getD c []
def m_ko : Except ME MS := .error (0, 0, [], [])
def m_go (pc : Nat) (off : Int) (ls : ML) (st : List MV) (h : MH) : Except ME MS := if 0 ≤ (pc : Int) + off then .ok (((pc : Int) + off).toNat, ls, st, h) else m_ko
def m_put (o : Option ML) (pc : Nat) (st : List MV) (h : MH) : Except ME MS := match o with
  | some ls => .ok (pc, ls, st, h)
  | none => m_ko
def m_ldi (ls : ML) (i pc : Nat) (st : List MV) (h : MH) : Except ME MS := match ls[i]? with
  | some (some (0, x)) => .ok (pc, ls, (0, x) :: st, h)
  | _ => m_ko
def m_ldl (ls : ML) (i pc : Nat) (st : List MV) (h : MH) : Except ME MS := match ls[i]? with
  | some (some (1, x)) => .ok (pc, ls, (1, x) :: st, h)
  | _ => m_ko
def m_lda (ls : ML) (i pc : Nat) (st : List MV) (h : MH) : Except ME MS := match ls[i]? with
  | some (some (t + 2, x)) => .ok (pc, ls, (t + 2, x) :: st, h)
  | _ => m_ko
/-- the value of a slot of a type -/
def m_of (ty : Nat) (x : Int) (pc : Nat) (ls : ML) (st : List MV) (h : MH) : Except ME MS := match ty with
  | 0 => .ok (pc, ls, (0, x) :: st, h)
  | 1 => .ok (pc, ls, (1, x) :: st, h)
  | 2 => .ok (pc, ls, (0, x) :: st, h)
  | 3 => .ok (pc, ls, (0, x) :: st, h)
  | 4 => if 0 ≤ x then .ok (pc, ls, (2, x) :: st, h) else m_ko
  | _ => m_ko
/-- whether a value may be put into a slot of a type -/
def m_fit (ty : Nat) (v : MV) : Bool := match ty with
  | 0 => v.1 == 0
  | 1 => v.1 == 1
  | 2 => v.1 == 0 && (v.2 == 0 || v.2 == 1)
  | 3 => v.1 == 0 && (decide (0 ≤ v.2) && decide (v.2 < 65536))
  | 4 => v.1 == 2
  | _ => false
def m_dfl (ty : Nat) : Int := if ty = 4 then -1 else 0
def m_kind (h : MH) (a : Int) : Nat × Nat := if 0 ≤ a then (h.2.1)[a.toNat]?.getD (999, 0) else (999, 0)
def m_cats (st : List MV) : Nat := (st.map m_cat).sum
/-- a call of the method M with n values, the last one on top -/
def m_call (M n : Nat) (st : List MV) : Except ME MS := if n ≤ st.length ∧ m_cats (st.drop n) ≤ 8 then .error (1, M, (st.take n).reverse, st.drop n) else m_ko
/-- the number of the class whose method it is: 100 String -/
def m_own (M : Nat) : Nat := @@OWN@@
/-- whether the first value is a thing of that class -/
def m_recv (h : MH) (ci n : Nat) (st : List MV) : Bool := match st.drop (n - 1) with
  | (2, a) :: _ => (m_kind h a).1 == ci
  | (5, _) :: _ => ci == 100
  | _ => false
def m_ald (kd : Nat) (tag : Nat) (pc : Nat) (ls : ML) (st : List MV) (h : MH) : Except ME MS := match st with
  | (0, i) :: (2, a) :: r => if (m_kind h a).1 = kd ∧ 0 ≤ i ∧ i < (m_kind h a).2 then .ok (pc, ls, (tag, h.1 a.toNat i.toNat) :: r, h) else m_ko
  | _ => m_ko
def m_ast (kd ty : Nat) (pc : Nat) (ls : ML) (st : List MV) (h : MH) : Except ME MS := match st with
  | (t, x) :: (0, i) :: (2, a) :: r => if (m_kind h a).1 = kd ∧ 0 ≤ i ∧ i < (m_kind h a).2 ∧ m_fit ty (t, x) = true then .ok (pc, ls, r, (m_up h.1 a.toNat i.toNat x, h.2)) else m_ko
  | _ => m_ko
def m_atc (pc : Nat) (ls : ML) (st : List MV) (h : MH) (lo hi : Nat) : Except ME MS := match st with
  | (0, i) :: (4, c) :: r => if 0 ≤ i ∧ (lo : Int) ≤ c ∧ c < hi then (match (m_ct c.toNat)[i.toNat]? with
    | some x => .ok (pc, ls, (0, x) :: r, h)
    | none => m_ko) else m_ko
  | _ => m_ko
def m_new (kd n : Nat) (d : Int) (h : MH) : MH := (fun b j => if b = h.2.1.length then d else h.1 b j, h.2.1 ++ [(kd, n)], h.2.2.1 + 1, h.2.2.2 + n)
def m_newo (ci n : Nat) (h : MH) : MH := (fun b j => if b = h.2.1.length then m_dfl (m_fty ci j) else h.1 b j, h.2.1 ++ [(ci, n)], h.2.2.1 + 1, h.2.2.2 + n)
def m_mkarr (kd : Nat) (d : Int) (pc : Nat) (ls : ML) (st : List MV) (h : MH) : Except ME MS := match st with
  | (0, n) :: r => if 0 ≤ n ∧ n < 100000 then .ok (pc, ls, (2, (h.2.1.length : Int)) :: r, m_new kd n.toNat d h) else m_ko
  | _ => m_ko
def m_cpy (F : Nat → Nat → Int) (a : Nat) (sp : Nat) (b : Nat) (dp n : Nat) : Nat → Nat → Int := fun c j => if c = b ∧ dp ≤ j ∧ j < dp + n then F a (sp + (j - dp)) else F c j
def m_copy (pc : Nat) (ls : ML) (st : List MV) (h : MH) : Except ME MS := match st with
  | (0, n) :: (0, dp) :: (2, b) :: (0, sp) :: (2, a) :: r =>
    if ((m_kind h a).1 = 100 ∨ (m_kind h a).1 = 102) ∧ (m_kind h b).1 = (m_kind h a).1 ∧ 0 ≤ n ∧ 0 ≤ dp ∧ 0 ≤ sp ∧ sp + n ≤ (m_kind h a).2 ∧ dp + n ≤ (m_kind h b).2 ∧ m_cats r ≤ 8 then
      .ok (pc, ls, r, (m_cpy h.1 a.toNat sp.toNat b.toNat dp.toNat n.toNat, h.2)) else m_ko
  | _ => m_ko
def m_and (x y : Int) : Int := w32 (((x % 4294967296).toNat &&& (y % 4294967296).toNat : Nat) : Int)
def m_or (x y : Int) : Int := w32 (((x % 4294967296).toNat ||| (y % 4294967296).toNat : Nat) : Int)
def m_shl (x y : Int) : Int := w32 (x * 2 ^ y.toNat)
def m_shr (x y : Int) : Int := x / 2 ^ y.toNat
def m_ushr (x y : Int) : Int := w32 ((x % 4294967296) / 2 ^ y.toNat)
def m_i2 (f : Int → Int → Int) (pc : Nat) (ls : ML) (st : List MV) (h : MH) : Except ME MS := match st with
  | (0, y) :: (0, x) :: r => .ok (pc, ls, (0, f x y) :: r, h)
  | _ => m_ko
def m_l2 (f : Int → Int → Int) (pc : Nat) (ls : ML) (st : List MV) (h : MH) : Except ME MS := match st with
  | (1, y) :: (1, x) :: r => .ok (pc, ls, (1, f x y) :: r, h)
  | _ => m_ko
def m_i2c (b : Int → Int → Prop) [∀ x y, Decidable (b x y)] (f : Int → Int → Int) (pc : Nat) (ls : ML) (st : List MV) (h : MH) : Except ME MS := match st with
  | (0, y) :: (0, x) :: r => if b x y then .ok (pc, ls, (0, f x y) :: r, h) else m_ko
  | _ => m_ko
def m_stv (lo hi : Nat) (i pc : Nat) (ls : ML) (st : List MV) (h : MH) : Except ME MS := match st with
  | v :: r => if lo ≤ v.1 ∧ v.1 ≤ hi then m_put (m_st ls i v) pc r h else m_ko
  | _ => m_ko
