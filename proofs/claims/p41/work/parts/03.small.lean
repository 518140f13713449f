/-! A SMALL MACHINE: whole numbers for ints and longs, cells by their number; the same instructions, without names. -/
abbrev MV : Type := Nat × Int
abbrev ML : Type := List (Option MV)
abbrev MK : Type := List (Nat × Nat)
abbrev MH : Type := (Nat → Nat → Int) × MK × Nat × Nat
abbrev MS : Type := Nat × ML × List MV × MH
abbrev ME : Type := Nat × Nat × List MV × List MV
def w32 (x : Int) : Int := (x + 2147483648) % 4294967296 - 2147483648
def w64 (x : Int) : Int := (x + 9223372036854775808) % 18446744073709551616 - 9223372036854775808
def m_up (F : Nat → Nat → Int) (a i : Nat) (x : Int) : Nat → Nat → Int := fun b j => if b = a ∧ j = i then x else F b j
def m_cat (v : MV) : Nat := if v.1 = 1 then 2 else 1
def m_st (ls : ML) (i : Nat) (v : MV) : Option ML :=
  if i + m_cat v ≤ ls.length then
    let l1 := ls.set i (some v)
    let l2 := if v.1 = 1 then l1.set (i + 1) none else l1
    match i with
    | 0 => some l2
    | k + 1 => match ls[k]? with
      | some (some (1, _)) => some (l2.set k none)
      | _ => some l2
  else none
def m_fty (ci k : Nat) : Nat := (m_flds.getD ci []).getD k 9
def m_ct (c : Nat) : List Int := m_cts.getD c []
def m_ko : Except ME MS := .error (0, 0, [], [])
def m_go (pc : Nat) (off : Int) (ls : ML) (st : List MV) (h : MH) : Except ME MS := if 0 ≤ (pc : Int) + off then .ok (((pc : Int) + off).toNat, ls, st, h) else m_ko
def m_put (o : Option ML) (pc : Nat) (st : List MV) (h : MH) : Except ME MS := match o with
  | some ls => .ok (pc, ls, st, h)
  | none => m_ko
def m_ldi (ls : ML) (i pc : Nat) (st : List MV) (h : MH) : Except ME MS := match ls[i]? with
  | some (some (0, x)) => .ok (pc, ls, (0, x) :: st, h)
  | _ => m_ko
def m_ldl (ls : ML) (i pc : Nat) (st : List MV) (h : MH) : Except ME MS := match ls[i]? with
  | some (some (1, x)) => .ok (pc, ls, (1, x) :: st, h)
  | _ => m_ko
def m_lda (ls : ML) (i pc : Nat) (st : List MV) (h : MH) : Except ME MS := match ls[i]? with
  | some (some (t + 2, x)) => .ok (pc, ls, (t + 2, x) :: st, h)
  | _ => m_ko
/-- the value of a slot of a type -/
def m_of (ty : Nat) (x : Int) (pc : Nat) (ls : ML) (st : List MV) (h : MH) : Except ME MS := match ty with
  | 0 => .ok (pc, ls, (0, x) :: st, h)
  | 1 => .ok (pc, ls, (1, x) :: st, h)
  | 2 => .ok (pc, ls, (0, x) :: st, h)
  | 3 => .ok (pc, ls, (0, x) :: st, h)
  | 4 => if 0 ≤ x then .ok (pc, ls, (2, x) :: st, h) else m_ko
  | _ => m_ko
/-- whether a value may be put into a slot of a type -/
def m_fit (ty : Nat) (v : MV) : Bool := match ty with
  | 0 => v.1 == 0
  | 1 => v.1 == 1
  | 2 => v.1 == 0 && (v.2 == 0 || v.2 == 1)
  | 3 => v.1 == 0 && (decide (0 ≤ v.2) && decide (v.2 < 65536))
  | 4 => v.1 == 2
  | _ => false
def m_dfl (ty : Nat) : Int := if ty = 4 then -1 else 0
def m_kind (h : MH) (a : Int) : Nat × Nat := if 0 ≤ a then (h.2.1)[a.toNat]?.getD (999, 0) else (999, 0)
def m_cats (st : List MV) : Nat := (st.map m_cat).sum
/-- a call of the method M with n values, the last one on top -/
def m_call (M n : Nat) (st : List MV) : Except ME MS := if n ≤ st.length ∧ m_cats (st.drop n) ≤ 8 ∧ m_cats (st.take n) ≤ m_mls.getD M 0 then .error (1, M, (st.take n).reverse, st.drop n) else m_ko
/-- the number of the class whose method it is: 100 String -/
def m_own (M : Nat) : Nat := m_owns.getD M 99
/-- whether the first value is a thing of that class -/
def m_recv (h : MH) (ci n : Nat) (st : List MV) : Bool := match st.drop (n - 1) with
  | (2, a) :: _ => (m_kind h a).1 == ci
  | (5, _) :: _ => ci == 200
  | _ => false
def m_ald (kd : Nat) (tag : Nat) (pc : Nat) (ls : ML) (st : List MV) (h : MH) : Except ME MS := match st with
  | (0, i) :: (2, a) :: r => if (m_kind h a).1 = kd ∧ 0 ≤ i ∧ i < (m_kind h a).2 then .ok (pc, ls, (tag, h.1 a.toNat i.toNat) :: r, h) else m_ko
  | _ => m_ko
def m_ast (kd ty : Nat) (pc : Nat) (ls : ML) (st : List MV) (h : MH) : Except ME MS := match st with
  | (t, x) :: (0, i) :: (2, a) :: r => if (m_kind h a).1 = kd ∧ 0 ≤ i ∧ i < (m_kind h a).2 ∧ m_fit ty (t, x) = true then .ok (pc, ls, r, (m_up h.1 a.toNat i.toNat x, h.2)) else m_ko
  | _ => m_ko
def m_atc (pc : Nat) (ls : ML) (st : List MV) (h : MH) (lo hi : Nat) : Except ME MS := match st with
  | (0, i) :: (4, c) :: r => if 0 ≤ i ∧ (lo : Int) ≤ c ∧ c < hi then (match (m_ct c.toNat)[i.toNat]? with
    | some x => .ok (pc, ls, (0, x) :: r, h)
    | none => m_ko) else m_ko
  | _ => m_ko
def m_new (kd n : Nat) (d : Int) (h : MH) : MH := (fun b j => if b = h.2.1.length then d else h.1 b j, h.2.1 ++ [(kd, n)], h.2.2.1 + 1, h.2.2.2 + n)
def m_newo (ci n : Nat) (h : MH) : MH := (fun b j => if b = h.2.1.length then m_dfl (m_fty ci j) else h.1 b j, h.2.1 ++ [(ci, n)], h.2.2.1 + 1, h.2.2.2 + n)
def m_mkarr (kd : Nat) (d : Int) (pc : Nat) (ls : ML) (st : List MV) (h : MH) : Except ME MS := match st with
  | (0, n) :: r => if 0 ≤ n ∧ n < 100000 then .ok (pc, ls, (2, (h.2.1.length : Int)) :: r, m_new kd n.toNat d h) else m_ko
  | _ => m_ko
def m_cpy (F : Nat → Nat → Int) (a : Nat) (sp : Nat) (b : Nat) (dp n : Nat) : Nat → Nat → Int := fun c j => if c = b ∧ dp ≤ j ∧ j < dp + n then F a (sp + (j - dp)) else F c j
def m_copy (pc : Nat) (ls : ML) (st : List MV) (h : MH) : Except ME MS := match st with
  | (0, n) :: (0, dp) :: (2, b) :: (0, sp) :: (2, a) :: r =>
    if ((m_kind h a).1 = 100 ∨ (m_kind h a).1 = 102) ∧ (m_kind h b).1 = (m_kind h a).1 ∧ 0 ≤ n ∧ 0 ≤ dp ∧ 0 ≤ sp ∧ sp + n ≤ (m_kind h a).2 ∧ dp + n ≤ (m_kind h b).2 ∧ m_cats r ≤ 8 then
      .ok (pc, ls, r, (m_cpy h.1 a.toNat sp.toNat b.toNat dp.toNat n.toNat, h.2)) else m_ko
  | _ => m_ko
def m_and (x y : Int) : Int := w32 (((x % 4294967296).toNat &&& (y % 4294967296).toNat : Nat) : Int)
def m_or (x y : Int) : Int := w32 (((x % 4294967296).toNat ||| (y % 4294967296).toNat : Nat) : Int)
def m_shl (x y : Int) : Int := w32 (x * 2 ^ y.toNat)
def m_shr (x y : Int) : Int := x / 2 ^ y.toNat
def m_ushr (x y : Int) : Int := w32 ((x % 4294967296) / 2 ^ y.toNat)
def m_land (x y : Int) : Int := w64 (((x % 18446744073709551616).toNat &&& (y % 18446744073709551616).toNat : Nat) : Int)
def m_lor (x y : Int) : Int := w64 (((x % 18446744073709551616).toNat ||| (y % 18446744073709551616).toNat : Nat) : Int)
def m_lxor (x y : Int) : Int := w64 (((x % 18446744073709551616).toNat ^^^ (y % 18446744073709551616).toNat : Nat) : Int)
def m_lshl (x y : Int) : Int := w64 (x * 2 ^ y.toNat)
def m_i2 (f : Int → Int → Int) (pc : Nat) (ls : ML) (st : List MV) (h : MH) : Except ME MS := match st with
  | (0, y) :: (0, x) :: r => .ok (pc, ls, (0, f x y) :: r, h)
  | _ => m_ko
def m_l2 (f : Int → Int → Int) (pc : Nat) (ls : ML) (st : List MV) (h : MH) : Except ME MS := match st with
  | (1, y) :: (1, x) :: r => .ok (pc, ls, (1, f x y) :: r, h)
  | _ => m_ko
def m_stv (lo hi : Nat) (i pc : Nat) (ls : ML) (st : List MV) (h : MH) : Except ME MS := match st with
  | v :: r => if lo ≤ v.1 ∧ v.1 ≤ hi then m_put (m_st ls i v) pc r h else m_ko
  | _ => m_ko
def m_get (q : LK) (pc : Nat) (ls : ML) (st : List MV) (h : MH) : Except ME MS := match st with
  | (2, a) :: r => if (m_kind h a).1 = q.1 ∧ q.2.1 < (m_kind h a).2 then m_of (m_fty q.1 q.2.1) (h.1 a.toNat q.2.1) pc ls r h else m_ko
  | (5, s) :: r => if q.1 = 100 then (if q.2.1 = 0 then .ok (pc, ls, (4, s + 5) :: r, h) else .ok (pc, ls, (0, 0) :: r, h)) else m_ko
  | _ => m_ko
def m_putf (q : LK) (pc : Nat) (ls : ML) (st : List MV) (h : MH) : Except ME MS := match st with
  | (t, x) :: (2, a) :: r => if (m_kind h a).1 = q.1 ∧ q.2.1 < (m_kind h a).2 ∧ m_fit (m_fty q.1 q.2.1) (t, x) = true then .ok (pc, ls, r, (m_up h.1 a.toNat q.2.1 x, h.2)) else m_ko
  | _ => m_ko
def m_aast (q : LK) (pc : Nat) (ls : ML) (st : List MV) (h : MH) : Except ME MS := match st with
  | (2, x) :: (0, i) :: (2, a) :: r => if (m_kind h a).1 = 110 + (m_kind h x).1 ∧ (m_kind h x).1 < 13 ∧ 0 ≤ i ∧ i < (m_kind h a).2 then .ok (pc, ls, r, (m_up h.1 a.toNat i.toNat x, h.2)) else m_ko
  | _ => m_ko
def m_aald (pc : Nat) (ls : ML) (st : List MV) (h : MH) : Except ME MS := match st with
  | (0, i) :: (2, a) :: r => if 110 ≤ (m_kind h a).1 ∧ (m_kind h a).1 < 150 ∧ 0 ≤ i ∧ i < (m_kind h a).2 ∧ 0 ≤ h.1 a.toNat i.toNat then .ok (pc, ls, (2, h.1 a.toNat i.toNat) :: r, h) else m_ko
  | _ => m_ko
def m_alen (pc : Nat) (ls : ML) (st : List MV) (h : MH) : Except ME MS := match st with
  | (2, a) :: r => if 100 ≤ (m_kind h a).1 ∧ (m_kind h a).1 < 150 then .ok (pc, ls, (0, ((m_kind h a).2 : Int)) :: r, h) else m_ko
  | (4, c) :: r => if 2 ≤ c ∧ c < 34 then .ok (pc, ls, (0, ((m_ct c.toNat).length : Int)) :: r, h) else m_ko
  | (6, _) :: r => .ok (pc, ls, (0, h.1 1000001 0) :: r, h)
  | _ => m_ko
/-- the script's cells stand at a number of their own -/
def m_ascr (pc : Nat) (ls : ML) (st : List MV) (h : MH) : Except ME MS := match st with
  | (0, i) :: (6, _) :: r => if 0 ≤ i ∧ i < h.1 1000001 0 then .ok (pc, ls, (0, h.1 1000000 i.toNat) :: r, h) else m_ko
  | _ => m_ko
def m_iret (q : LK) (st : List MV) : Except ME MS := match st with
  | [(0, x)] => if m_fit q.1 (0, x) = true ∨ (q.1 = 5 ∧ x = 0) then .error (2, 0, [(0, x)], []) else m_ko
  | _ => m_ko
def mstep (i : Instr) (q : LK) (pc : Nat) (ls : ML) (st : List MV) (h : MH) : Except ME MS :=
  match i with
  | .iconst v => .ok (pc + 1, ls, (0, v) :: st, h)
  | .bipush v => .ok (pc + 2, ls, (0, v) :: st, h)
  | .sipush v => .ok (pc + 3, ls, (0, v) :: st, h)
  | .lconst d => .ok (pc + 1, ls, (1, ((d : Nat) : Int)) :: st, h)
  | .ldc _ => if q.1 = 3 then .ok (pc + 2, ls, (0, -(q.2.1 : Int)) :: st, h) else if q.1 = 1 then .ok (pc + 2, ls, (0, (q.2.1 : Int)) :: st, h) else if q.1 = 2 then .ok (pc + 2, ls, (5, (q.2.1 : Int)) :: st, h) else m_ko
  | .ldc_w _ => if q.1 = 3 then .ok (pc + 3, ls, (0, -(q.2.1 : Int)) :: st, h) else if q.1 = 1 then .ok (pc + 3, ls, (0, (q.2.1 : Int)) :: st, h) else if q.1 = 2 then .ok (pc + 3, ls, (5, (q.2.1 : Int)) :: st, h) else m_ko
  | .ldc2_w _ => if q.1 = 3 then .ok (pc + 3, ls, (1, -(q.2.1 : Int)) :: st, h) else if q.1 = 1 then .ok (pc + 3, ls, (1, (q.2.1 : Int)) :: st, h) else m_ko
  | .iload n => m_ldi ls n (pc + 2) st h
  | .iload_n n => m_ldi ls (n : Nat) (pc + 1) st h
  | .lload n => m_ldl ls n (pc + 2) st h
  | .lload_n n => m_ldl ls (n : Nat) (pc + 1) st h
  | .aload n => m_lda ls n (pc + 2) st h
  | .aload_n n => m_lda ls (n : Nat) (pc + 1) st h
  | .istore n => m_stv 0 0 n (pc + 2) ls st h
  | .istore_n n => m_stv 0 0 (n : Nat) (pc + 1) ls st h
  | .lstore n => m_stv 1 1 n (pc + 2) ls st h
  | .lstore_n n => m_stv 1 1 (n : Nat) (pc + 1) ls st h
  | .astore n => m_stv 2 5 n (pc + 2) ls st h
  | .astore_n n => m_stv 2 5 (n : Nat) (pc + 1) ls st h
  | .iinc n c => (match ls[n]? with
    | some (some (0, x)) => m_put (m_st ls n (0, w32 (x + c))) (pc + 3) st h
    | _ => m_ko)
  | .iadd => m_i2 (fun x y => w32 (x + y)) (pc + 1) ls st h
  | .isub => m_i2 (fun x y => w32 (x - y)) (pc + 1) ls st h
  | .imul => m_i2 (fun x y => w32 (x * y)) (pc + 1) ls st h
  | .iand => m_i2 m_and (pc + 1) ls st h
  | .ior => m_i2 m_or (pc + 1) ls st h
  | .idiv => (match st with
    | (0, y) :: (0, x) :: r => if y = 0 then m_ko else .ok (pc + 1, ls, (0, w32 (x.tdiv y)) :: r, h)
    | _ => m_ko)
  | .irem => (match st with
    | (0, y) :: (0, x) :: r => if y = 0 then m_ko else .ok (pc + 1, ls, (0, x.tmod y) :: r, h)
    | _ => m_ko)
  | .ishl => (match st with
    | (0, y) :: (0, x) :: r => if 0 ≤ y ∧ y < 32 then .ok (pc + 1, ls, (0, m_shl x y) :: r, h) else m_ko
    | _ => m_ko)
  | .ishr => (match st with
    | (0, y) :: (0, x) :: r => if 0 ≤ y ∧ y < 32 then .ok (pc + 1, ls, (0, m_shr x y) :: r, h) else m_ko
    | _ => m_ko)
  | .iushr => (match st with
    | (0, y) :: (0, x) :: r => if 0 ≤ y ∧ y < 32 then .ok (pc + 1, ls, (0, m_ushr x y) :: r, h) else m_ko
    | _ => m_ko)
  | .ladd => m_l2 (fun x y => w64 (x + y)) (pc + 1) ls st h
  | .lsub => m_l2 (fun x y => w64 (x - y)) (pc + 1) ls st h
  | .lmul => m_l2 (fun x y => w64 (x * y)) (pc + 1) ls st h
  | .land => m_l2 m_land (pc + 1) ls st h
  | .lor => m_l2 m_lor (pc + 1) ls st h
  | .lxor => m_l2 m_lxor (pc + 1) ls st h
  | .lshl => (match st with
    | (0, y) :: (1, x) :: r => if 0 ≤ y ∧ y < 64 then .ok (pc + 1, ls, (1, m_lshl x y) :: r, h) else m_ko
    | _ => m_ko)
  | .lshr => (match st with
    | (0, y) :: (1, x) :: r => if 0 ≤ y ∧ y < 64 then .ok (pc + 1, ls, (1, m_shr x y) :: r, h) else m_ko
    | _ => m_ko)
  | .l2i => (match st with
    | (1, x) :: r => .ok (pc + 1, ls, (0, w32 x) :: r, h)
    | _ => m_ko)
  | .lcmp => (match st with
    | (1, y) :: (1, x) :: r => .ok (pc + 1, ls, (0, if x < y then -1 else if x = y then 0 else 1) :: r, h)
    | _ => m_ko)
  | .i2l => (match st with
    | (0, x) :: r => .ok (pc + 1, ls, (1, x) :: r, h)
    | _ => m_ko)
  | .i2c => (match st with
    | (0, x) :: r => .ok (pc + 1, ls, (0, x % 65536) :: r, h)
    | _ => m_ko)
  | .i2b => (match st with
    | (0, x) :: r => .ok (pc + 1, ls, (0, (x + 128) % 256 - 128) :: r, h)
    | _ => m_ko)
  | .dup => (match st with
    | v :: r => if v.1 = 1 then m_ko else .ok (pc + 1, ls, v :: v :: r, h)
    | _ => m_ko)
  | .dup2 => (match st with
    | v :: w :: r => if v.1 = 1 ∨ w.1 = 1 then m_ko else .ok (pc + 1, ls, v :: w :: v :: w :: r, h)
    | _ => m_ko)
  | .pop => (match st with
    | v :: r => if v.1 = 1 then m_ko else .ok (pc + 1, ls, r, h)
    | _ => m_ko)
  | .pop2 => (match st with
    | v :: r => if v.1 = 1 then .ok (pc + 1, ls, r, h) else m_ko
    | _ => m_ko)
  | .ifCond c off => (match st with
    | (0, x) :: r => (match c with
      | .eq => if x = 0 then m_go pc off ls r h else .ok (pc + 3, ls, r, h)
      | .ne => if x = 0 then .ok (pc + 3, ls, r, h) else m_go pc off ls r h
      | .lt => if x < 0 then m_go pc off ls r h else .ok (pc + 3, ls, r, h)
      | .ge => if x < 0 then .ok (pc + 3, ls, r, h) else m_go pc off ls r h
      | .gt => if 0 < x then m_go pc off ls r h else .ok (pc + 3, ls, r, h)
      | .le => if 0 < x then .ok (pc + 3, ls, r, h) else m_go pc off ls r h)
    | _ => m_ko)
  | .if_icmp c off => (match st with
    | (0, y) :: (0, x) :: r => (match c with
      | .eq => if x = y then m_go pc off ls r h else .ok (pc + 3, ls, r, h)
      | .ne => if x = y then .ok (pc + 3, ls, r, h) else m_go pc off ls r h
      | .lt => if x < y then m_go pc off ls r h else .ok (pc + 3, ls, r, h)
      | .ge => if x < y then .ok (pc + 3, ls, r, h) else m_go pc off ls r h
      | .gt => if y < x then m_go pc off ls r h else .ok (pc + 3, ls, r, h)
      | .le => if y < x then .ok (pc + 3, ls, r, h) else m_go pc off ls r h)
    | _ => m_ko)
  | .goto off => m_go pc off ls st h
  | .tableswitch d lo hi offs => (match st with
    | (0, x) :: r => if x < lo ∨ hi < x then m_go pc d ls r h else (match offs.toList[(x - lo).toNat]? with
      | some o => m_go pc o ls r h
      | none => m_ko)
    | _ => m_ko)
  | .getfield _ => m_get q (pc + 3) ls st h
  | .putfield _ => m_putf q (pc + 3) ls st h
  | .getstatic _ => if q.1 = 0 then .ok (pc + 3, ls, (4, (q.2.1 : Int)) :: st, h) else if q.1 = 1 then .ok (pc + 3, ls, (0, 1) :: st, h) else if q.1 = 2 then .ok (pc + 3, ls, (3, 0) :: st, h) else m_ko
  | .iaload => (match st with
    | _ :: (4, _) :: _ => m_atc (pc + 1) ls st h 2 3
    | _ :: (6, _) :: _ => m_ascr (pc + 1) ls st h
    | _ => m_ald 100 0 (pc + 1) ls st h)
  | .laload => m_ald 101 1 (pc + 1) ls st h
  | .caload => (match st with
    | _ :: (4, _) :: _ => m_atc (pc + 1) ls st h 3 5
    | _ => m_ald 102 0 (pc + 1) ls st h)
  | .baload => (match st with
    | _ :: (4, _) :: _ => m_atc (pc + 1) ls st h 5 34
    | _ => m_ald 103 0 (pc + 1) ls st h)
  | .aaload => m_aald (pc + 1) ls st h
  | .iastore => m_ast 100 0 (pc + 1) ls st h
  | .lastore => m_ast 101 1 (pc + 1) ls st h
  | .castore => m_ast 102 3 (pc + 1) ls st h
  | .bastore => m_ast 103 2 (pc + 1) ls st h
  | .aastore => m_aast q (pc + 1) ls st h
  | .arraylength => m_alen (pc + 1) ls st h
  | .newarray t => (match t with
    | .int => m_mkarr 100 0 (pc + 2) ls st h
    | .long => m_mkarr 101 0 (pc + 2) ls st h
    | .char => m_mkarr 102 0 (pc + 2) ls st h
    | .boolean => m_mkarr 103 0 (pc + 2) ls st h
    | _ => m_ko)
  | .anewarray _ => if q.1 < 40 then m_mkarr (110 + q.1) (-1) (pc + 3) ls st h else m_ko
  | .new _ => if q.1 < 50 then .ok (pc + 3, ls, (2, (h.2.1.length : Int)) :: st, m_newo q.1 q.2.1 h) else if 200 ≤ q.1 ∧ m_cats st ≤ 8 then .error (3, q.1 - 200, [], st) else m_ko
  | .invokespecial _ => if q.2.2.2 = 9 then (match st with
      | (2, _) :: r => if m_cats r ≤ 8 then .ok (pc + 3, ls, r, h) else m_ko
      | _ => m_ko)
    else if q.2.2.2 = 4 ∨ q.2.2.2 = 5 then (if m_recv h (m_own q.1) q.2.1 st = true then m_call q.1 q.2.1 st else m_ko) else m_ko
  | .invokevirtual _ => if q.2.2.2 = 2 ∨ q.2.2.2 = 3 then (if m_recv h (m_own q.1) q.2.1 st = true then m_call q.1 q.2.1 st else m_ko) else m_ko
  | .invokestatic _ => if q.2.2.2 = 6 then m_copy (pc + 3) ls st h else if q.2.2.2 = 0 ∨ q.2.2.2 = 1 ∨ q.2.2.2 = 7 then m_call q.1 q.2.1 st else m_ko
  | .ireturn => m_iret q st
  | .lreturn => (match st with
    | [(1, x)] => .error (2, 0, [(1, x)], [])
    | _ => m_ko)
  | .areturn => (match st with
    | [(2, x)] => .error (2, 0, [(2, x)], [])
    | [(5, x)] => .error (2, 0, [(5, x)], [])
    | _ => m_ko)
  | .return_ => (match st with
    | [] => .error (2, 0, [], [])
    | _ => m_ko)
  | _ => m_ko
def m_hh (M : Nat) : List (Nat × Nat × Nat × Nat) := ((m_hhs.find? (fun q => q.1 == M)).map (fun q => q.2)).getD []
/-- where an exception goes on that comes out of a call at pc -/
def m_hnd (M pc e : Nat) : Option Nat := ((m_hh M).find? (fun q => decide (q.1 ≤ pc) && decide (pc < q.2.1) && q.2.2.2 == e)).map (fun q => q.2.2.1)
def m_ini (n : Nat) (xs : List MV) : ML := (xs.flatMap fun v => if v.1 = 1 then [some v, none] else [some v]) ++ List.replicate (n - (xs.flatMap fun v => if v.1 = 1 then [some v, none] else [some v]).length) none
def m_thr (h : MH) : MH := (h.1, h.2.1, h.2.2.1 + 1, h.2.2.2 + 6)
/-- the run of a method from a place on: 0 and what is returned, or 1 and the number of the exception -/
def mx : Nat → Nat → Nat → Nat → ML → List MV → MH → Option ((Nat × List MV) × MH)
  | 0, _, _, _, _, _, _ => none
  | f + 1, d, M, pc, ls, st, h => match (m_tb M)[pc]? with
    | some (some (i, q)) => (match mstep i q pc ls st h with
      | .ok (pc', ls', st', h') => mx f d M pc' ls' st' h'
      | .error (1, N, xs, r) => (match d with
        | 0 => none
        | d' + 1 => (match mx f d' N 0 (m_ini (m_mls.getD N 0) xs) [] h with
          | some ((0, vs), h') => mx f (d' + 1) M (pc + 3) ls (vs ++ r) h'
          | some ((e + 1, _), h') => if 387 ≤ N ∨ ¬ (q.2.2.2 = 0 ∨ q.2.2.2 = 2) then none else (match m_hnd M pc e with
            | some hp => mx f (d' + 1) M hp ls [(3, 0)] h'
            | none => some ((e + 1, []), h'))
          | none => none))
      | .error (2, _, xs, _) => some ((0, xs), h)
      | .error (3, e, _, _) => some ((e + 1, []), m_thr h)
      | .error _ => none)
    | _ => none
