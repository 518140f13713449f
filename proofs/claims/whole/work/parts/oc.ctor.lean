/-! THE CONSTRUCTORS' RUN: a machine over a list of changes, which is run by the kernel -/
/-- a change: (0, thing, place, value), (1, new row, -, its value), (2, new thing, class, -) -/
abbrev UP : Type := Nat × Nat × Nat × Int
def apU : List UP → MF → MF
  | [], F => F
  | u :: U, F => if u.1 = 0 then m_up (apU U F) u.2.1 u.2.2.1 u.2.2.2 else if u.1 = 1 then (fun b j => if b = u.2.1 then u.2.2.2 else apU U F b j) else (fun b j => if b = u.2.1 then m_dfl (m_fty u.2.2.1 j) else apU U F b j)
def lkU : List UP → Nat → Nat → Option Int
  | [], _, _ => none
  | u :: U, b, j => if u.1 = 0 then (if b = u.2.1 ∧ j = u.2.2.1 then some u.2.2.2 else lkU U b j) else if u.1 = 1 then (if b = u.2.1 then some u.2.2.2 else lkU U b j) else (if b = u.2.1 then some (m_dfl (m_fty u.2.2.1 j)) else lkU U b j)
theorem lk_ap {F : MF} {b j : Nat} {x : Int} : ∀ U : List UP, lkU U b j = some x → apU U F b j = x
  | [], h => by cases h
  | u :: U, h => by
    have ih := lk_ap (F := F) (b := b) (j := j) (x := x) U
    unfold lkU at h
    unfold apU
    by_cases c0 : u.1 = 0
    · rw [if_pos c0] at h ⊢
      by_cases c : b = u.2.1 ∧ j = u.2.2.1
      · rw [if_pos c] at h
        rw [c.1, c.2, u_eq]
        exact Option.some.inj h
      · rw [if_neg c] at h
        rw [u_ne (by omega)]
        exact ih h
    · rw [if_neg c0] at h ⊢
      by_cases c1 : u.1 = 1
      · rw [if_pos c1] at h ⊢
        by_cases c : b = u.2.1
        · rw [if_pos c] at h
          show (if b = u.2.1 then u.2.2.2 else apU U F b j) = x
          rw [if_pos c]
          exact Option.some.inj h
        · rw [if_neg c] at h
          show (if b = u.2.1 then u.2.2.2 else apU U F b j) = x
          rw [if_neg c]
          exact ih h
      · rw [if_neg c1] at h ⊢
        by_cases c : b = u.2.1
        · rw [if_pos c] at h
          show (if b = u.2.1 then m_dfl (m_fty u.2.2.1 j) else apU U F b j) = x
          rw [if_pos c]
          exact Option.some.inj h
        · rw [if_neg c] at h
          show (if b = u.2.1 then m_dfl (m_fty u.2.2.1 j) else apU U F b j) = x
          rw [if_neg c]
          exact ih h
/-- what no change speaks of -/
theorem ap_no {F : MF} {b : Nat} : ∀ U : List UP, U.all (fun u => decide (u.2.1 ≠ b)) = true → apU U F b = F b
  | [], _ => rfl
  | u :: U, h => by
    rw [List.all_cons, Bool.and_eq_true] at h
    have ih := ap_no (F := F) U h.2
    have hb : u.2.1 ≠ b := of_decide_eq_true h.1
    unfold apU
    by_cases c0 : u.1 = 0
    · rw [if_pos c0, up_row (fun e => hb e.symm)]; exact ih
    · rw [if_neg c0]
      by_cases c1 : u.1 = 1
      · rw [if_pos c1]
        funext j
        show (if b = u.2.1 then u.2.2.2 else apU U F b j) = F b j
        rw [if_neg (fun e => hb e.symm), ih]
      · rw [if_neg c1]
        funext j
        show (if b = u.2.1 then m_dfl (m_fty u.2.2.1 j) else apU U F b j) = F b j
        rw [if_neg (fun e => hb e.symm), ih]
/-- changes, kinds, how many things, how much room -/
abbrev LHp : Type := List UP × MK × Nat × Nat
def hpT (h : LHp) (F : MF) : MH := (apU h.1 F, h.2)
def knd (h : LHp) (a : Int) : Nat × Nat := if 0 ≤ a then (h.2.1)[a.toNat]?.getD (999, 0) else (999, 0)
def mst (i : Instr) (q : LK) (pc : Nat) (ls : ML) (st : List MV) (h : LHp) : Option (Nat × ML × List MV × LHp) :=
  match i with
  | .iconst v => some (pc + 1, ls, (0, v) :: st, h)
  | .bipush v => some (pc + 2, ls, (0, v) :: st, h)
  | .sipush v => some (pc + 3, ls, (0, v) :: st, h)
  | .iload_n n => (match ls[(n : Nat)]? with
    | some (some (0, x)) => some (pc + 1, ls, (0, x) :: st, h)
    | _ => none)
  | .aload_n n => (match ls[(n : Nat)]? with
    | some (some (2, x)) => some (pc + 1, ls, (2, x) :: st, h)
    | _ => none)
  | .istore n => (match st with
    | (0, x) :: r => (match m_st ls n (0, x) with
      | some l => some (pc + 2, l, r, h)
      | none => none)
    | _ => none)
  | .istore_n n => (match st with
    | (0, x) :: r => (match m_st ls (n : Nat) (0, x) with
      | some l => some (pc + 1, l, r, h)
      | none => none)
    | _ => none)
  | .astore_n n => (match st with
    | (2, x) :: r => (match m_st ls (n : Nat) (2, x) with
      | some l => some (pc + 1, l, r, h)
      | none => none)
    | _ => none)
  | .iinc n c => (match ls[n]? with
    | some (some (0, x)) => (match m_st ls n (0, w32 (x + c)) with
      | some l => some (pc + 3, l, st, h)
      | none => none)
    | _ => none)
  | .dup => (match st with
    | (2, x) :: r => some (pc + 1, ls, (2, x) :: (2, x) :: r, h)
    | _ => none)
  | .if_icmp .ge off => (match st with
    | (0, y) :: (0, x) :: r => if x < y then some (pc + 3, ls, r, h) else if 0 ≤ (pc : Int) + off then some (((pc : Int) + off).toNat, ls, r, h) else none
    | _ => none)
  | .goto off => if 0 ≤ (pc : Int) + off then some (((pc : Int) + off).toNat, ls, st, h) else none
  | .getfield _ => (match st with
    | (2, a) :: r => if (knd h a).1 = q.1 ∧ q.2.1 < (knd h a).2 ∧ m_fty q.1 q.2.1 = 4 then (match lkU h.1 a.toNat q.2.1 with
      | some x => if 0 ≤ x then some (pc + 3, ls, (2, x) :: r, h) else none
      | none => none) else none
    | _ => none)
  | .aaload => (match st with
    | (0, i) :: (2, a) :: r => (match lkU h.1 a.toNat i.toNat with
      | some x => if 110 ≤ (knd h a).1 ∧ (knd h a).1 < 150 ∧ 0 ≤ i ∧ i < (knd h a).2 ∧ 0 ≤ x then some (pc + 1, ls, (2, x) :: r, h) else none
      | none => none)
    | _ => none)
  | .putfield _ => (match st with
    | (t, x) :: (2, a) :: r => if (knd h a).1 = q.1 ∧ q.2.1 < (knd h a).2 ∧ m_fit (m_fty q.1 q.2.1) (t, x) = true then some (pc + 3, ls, r, ((0, a.toNat, q.2.1, x) :: h.1, h.2)) else none
    | _ => none)
  | .aastore => (match st with
    | (2, x) :: (0, i) :: (2, a) :: r => if (knd h a).1 = 110 + (knd h x).1 ∧ (knd h x).1 < 13 ∧ 0 ≤ i ∧ i < (knd h a).2 then some (pc + 1, ls, r, ((0, a.toNat, i.toNat, x) :: h.1, h.2)) else none
    | _ => none)
  | .newarray t => (match st with
    | (0, n) :: r => if 0 ≤ n ∧ n < 100000 then (match t with
      | .int => some (pc + 2, ls, (2, (h.2.1.length : Int)) :: r, ((1, h.2.1.length, 0, 0) :: h.1, h.2.1 ++ [(100, n.toNat)], h.2.2.1 + 1, h.2.2.2 + n.toNat))
      | .long => some (pc + 2, ls, (2, (h.2.1.length : Int)) :: r, ((1, h.2.1.length, 0, 0) :: h.1, h.2.1 ++ [(101, n.toNat)], h.2.2.1 + 1, h.2.2.2 + n.toNat))
      | .char => some (pc + 2, ls, (2, (h.2.1.length : Int)) :: r, ((1, h.2.1.length, 0, 0) :: h.1, h.2.1 ++ [(102, n.toNat)], h.2.2.1 + 1, h.2.2.2 + n.toNat))
      | .boolean => some (pc + 2, ls, (2, (h.2.1.length : Int)) :: r, ((1, h.2.1.length, 0, 0) :: h.1, h.2.1 ++ [(103, n.toNat)], h.2.2.1 + 1, h.2.2.2 + n.toNat))
      | _ => none) else none
    | _ => none)
  | .anewarray _ => (match st with
    | (0, n) :: r => if (0 ≤ n ∧ n < 100000) ∧ q.1 < 40 then some (pc + 3, ls, (2, (h.2.1.length : Int)) :: r, ((1, h.2.1.length, 0, -1) :: h.1, h.2.1 ++ [(110 + q.1, n.toNat)], h.2.2.1 + 1, h.2.2.2 + n.toNat)) else none
    | _ => none)
  | .new _ => if q.1 < 50 then some (pc + 3, ls, (2, (h.2.1.length : Int)) :: st, ((2, h.2.1.length, q.1, 0) :: h.1, h.2.1 ++ [(q.1, q.2.1)], h.2.2.1 + 1, h.2.2.2 + q.2.1)) else none
  | .invokespecial _ => if q.2.2.2 = 9 then (match st with
      | (2, _) :: r => if m_cats r ≤ 8 then some (pc + 3, ls, r, h) else none
      | _ => none) else none
  | _ => none
section Moc
variable {i : Instr} {q : LK} {pc pc' : Nat} {ls ls' : ML} {st st' : List MV} {h h' : LHp} {F : MF}
theorem mst_ok (e : mst i q pc ls st h = some (pc', ls', st', h')) : mstep i q pc ls st (hpT h F) = .ok (pc', ls', st', hpT h' F) := by
  unfold mst at e
  split at e
  · cases e; rfl
  · cases e; rfl
  · cases e; rfl
  · next n =>
    split at e
    · next x hl => cases e; show m_ldi ls _ _ _ _ = _; unfold m_ldi; rw [hl]; rfl
    · cases e
  · next n =>
    split at e
    · next x hl => cases e; show m_lda ls _ _ _ _ = _; unfold m_lda; rw [hl]
    · cases e
  · next n =>
    split at e
    · next x r =>
      split at e
      · next l hl => cases e; show m_put (m_st ls n (0, x)) _ _ _ = _; rw [hl]; rfl
      · cases e
    · cases e
  · next n =>
    split at e
    · next x r =>
      split at e
      · next l hl => cases e; show m_put (m_st ls _ (0, x)) _ _ _ = _; rw [hl]; rfl
      · cases e
    · cases e
  · next n =>
    split at e
    · next x r =>
      split at e
      · next l hl => cases e; show m_put (m_st ls _ (2, x)) _ _ _ = _; rw [hl]; rfl
      · cases e
    · cases e
  · next n c =>
    split at e
    · next x hl =>
      split at e
      · next l hl2 =>
        cases e
        show (match ls[n]? with | some (some (0, x)) => m_put (m_st ls n (0, w32 (x + c))) (pc + 3) st _ | _ => m_ko) = _
        rw [hl]
        show m_put (m_st ls n (0, w32 (x + c))) (pc + 3) st _ = _
        rw [hl2]
        rfl
      · cases e
    · cases e
  · split at e
    · next x r => cases e; rfl
    · cases e
  · next off =>
    split at e
    · next y x r =>
      by_cases c : x < y
      · rw [if_pos c] at e
        cases e
        show (if x < y then Except.ok (pc + 3, ls, st', _) else m_go pc off ls st' _) = _
        rw [if_pos c]
      · rw [if_neg c] at e
        by_cases c2 : 0 ≤ (pc : Int) + off
        · rw [if_pos c2] at e
          cases e
          show (if x < y then Except.ok (pc + 3, ls, st', _) else m_go pc off ls st' _) = _
          rw [if_neg c]
          unfold m_go
          rw [if_pos c2]
        · rw [if_neg c2] at e; cases e
    · cases e
  · next off =>
    by_cases c2 : 0 ≤ (pc : Int) + off
    · rw [if_pos c2] at e
      cases e
      show m_go pc off ls st _ = _
      unfold m_go
      rw [if_pos c2]
    · rw [if_neg c2] at e; cases e
  · split at e
    · next a r =>
      by_cases c : (knd h a).1 = q.1 ∧ q.2.1 < (knd h a).2 ∧ m_fty q.1 q.2.1 = 4
      · rw [if_pos c] at e
        split at e
        · next x hx =>
          by_cases c2 : 0 ≤ x
          · rw [if_pos c2] at e
            cases e
            show (if (knd h a).1 = q.1 ∧ q.2.1 < (knd h a).2 then m_of (m_fty q.1 q.2.1) (apU h.1 F a.toNat q.2.1) (pc + 3) ls r _ else m_ko) = _
            rw [if_pos ⟨c.1, c.2.1⟩, c.2.2, lk_ap _ hx]
            unfold m_of
            show (if 0 ≤ x then _ else _) = _
            rw [if_pos c2]
          · rw [if_neg c2] at e; cases e
        · cases e
      · rw [if_neg c] at e; cases e
    · cases e
  · split at e
    · next i a r =>
      split at e
      · next x hx =>
        by_cases c : 110 ≤ (knd h a).1 ∧ (knd h a).1 < 150 ∧ 0 ≤ i ∧ i < (knd h a).2 ∧ 0 ≤ x
        · rw [if_pos c] at e
          cases e
          show (if 110 ≤ (knd h a).1 ∧ (knd h a).1 < 150 ∧ 0 ≤ i ∧ i < (knd h a).2 ∧ 0 ≤ apU h.1 F a.toNat i.toNat then Except.ok (pc + 1, ls, (2, apU h.1 F a.toNat i.toNat) :: r, _) else m_ko) = _
          rw [lk_ap _ hx, if_pos c]
        · rw [if_neg c] at e; cases e
      · cases e
    · cases e
  · split at e
    · next t x a r =>
      by_cases c : (knd h a).1 = q.1 ∧ q.2.1 < (knd h a).2 ∧ m_fit (m_fty q.1 q.2.1) (t, x) = true
      · rw [if_pos c] at e
        cases e
        show (if (knd h a).1 = q.1 ∧ q.2.1 < (knd h a).2 ∧ m_fit (m_fty q.1 q.2.1) (t, x) = true then _ else m_ko) = _
        rw [if_pos c]
        rfl
      · rw [if_neg c] at e; cases e
    · cases e
  · split at e
    · next x i a r =>
      by_cases c : (knd h a).1 = 110 + (knd h x).1 ∧ (knd h x).1 < 13 ∧ 0 ≤ i ∧ i < (knd h a).2
      · rw [if_pos c] at e
        cases e
        show (if (knd h a).1 = 110 + (knd h x).1 ∧ (knd h x).1 < 13 ∧ 0 ≤ i ∧ i < (knd h a).2 then _ else m_ko) = _
        rw [if_pos c]
        rfl
      · rw [if_neg c] at e; cases e
    · cases e
  · split at e
    · next n r =>
      by_cases c : 0 ≤ n ∧ n < 100000
      · rw [if_pos c] at e
        split at e
        · cases e
          show (if 0 ≤ n ∧ n < 100000 then _ else m_ko) = _
          rw [if_pos c]
          rfl
        · cases e
          show (if 0 ≤ n ∧ n < 100000 then _ else m_ko) = _
          rw [if_pos c]
          rfl
        · cases e
          show (if 0 ≤ n ∧ n < 100000 then _ else m_ko) = _
          rw [if_pos c]
          rfl
        · cases e
          show (if 0 ≤ n ∧ n < 100000 then _ else m_ko) = _
          rw [if_pos c]
          rfl
        · cases e
      · rw [if_neg c] at e; cases e
    · cases e
  · split at e
    · next n r =>
      by_cases c : (0 ≤ n ∧ n < 100000) ∧ q.1 < 40
      · rw [if_pos c] at e
        cases e
        show (if q.1 < 40 then m_mkarr (110 + q.1) (-1) (pc + 3) ls ((0, n) :: r) _ else m_ko) = _
        rw [if_pos c.2]
        show (if 0 ≤ n ∧ n < 100000 then _ else m_ko) = _
        rw [if_pos c.1]
        rfl
      · rw [if_neg c] at e; cases e
    · cases e
  · by_cases c : q.1 < 50
    · rw [if_pos c] at e
      cases e
      show (if q.1 < 50 then _ else _) = _
      rw [if_pos c]
      rfl
    · rw [if_neg c] at e; cases e
  · by_cases c : q.2.2.2 = 9
    · rw [if_pos c] at e
      split at e
      · next x r =>
        by_cases c2 : m_cats r ≤ 8
        · rw [if_pos c2] at e
          cases e
          show (if q.2.2.2 = 9 then (if m_cats st' ≤ 8 then _ else m_ko) else _) = _
          rw [if_pos c, if_pos c2]
        · rw [if_neg c2] at e; cases e
      · cases e
    · rw [if_neg c] at e; cases e
  · cases e
end Moc
/-- a constructor, from a place on -/
def mct : Nat → Nat → Nat → Nat → ML → List MV → LHp → Option LHp
  | 0, _, _, _, _, _, _ => none
  | f + 1, d, M, pc, ls, st, h => match (m_tb M)[pc]? with
    | some (some (.return_, _)) => if st = [] then some h else none
    | some (some (.invokespecial z, q)) => if q.2.2.2 = 9 then (match mst (.invokespecial z) q pc ls st h with
        | some (pc', ls', st', h') => mct f d M pc' ls' st' h'
        | none => none)
      else if (q.2.2.2 = 4 ∨ q.2.2.2 = 5) ∧ m_recv ((fun _ _ => 0), h.2) (m_own q.1) q.2.1 st = true ∧ q.2.1 ≤ st.length ∧ m_cats (st.drop q.2.1) ≤ 8 ∧ m_cats (st.take q.2.1) ≤ m_mls.getD q.1 0 then (match d with
        | 0 => none
        | d' + 1 => (match mct f d' q.1 0 (m_ini (m_mls.getD q.1 0) (st.take q.2.1).reverse) [] h with
          | some h' => mct f (d' + 1) M (pc + 3) ls (st.drop q.2.1) h'
          | none => none))
      else none
    | some (some (i, q)) => (match mst i q pc ls st h with
        | some (pc', ls', st', h') => mct f d M pc' ls' st' h'
        | none => none)
    | _ => none
theorem recv_F {F G : MF} {K : MK × Nat × Nat} {ci n : Nat} {st : List MV} : m_recv (F, K) ci n st = m_recv (G, K) ci n st := rfl
theorem mct_mx {F : MF} : ∀ (f d M pc : Nat) (ls : ML) (st : List MV) (h h' : LHp), mct f d M pc ls st h = some h' → mx f d M pc ls st (hpT h F) = some ((0, []), hpT h' F) := by
  intro f
  induction f with
  | zero => intro d M pc ls st h h' e; cases e
  | succ f ih =>
    intro d M pc ls st h h' e
    unfold mct at e
    split at e
    · next q ht =>
      by_cases c : st = []
      · rw [if_pos c] at e
        cases e
        subst c
        simp only [mx, ht, mstep]
      · rw [if_neg c] at e; cases e
    · next z q ht =>
      by_cases c9 : q.2.2.2 = 9
      · rw [if_pos c9] at e
        split at e
        · next pc' ls' st' h2 hm =>
          have hs := mst_ok (F := F) hm
          have := ih d M pc' ls' st' h2 h' e
          simp only [mx, ht, hs]
          exact this
        · cases e
      · rw [if_neg c9] at e
        by_cases c : (q.2.2.2 = 4 ∨ q.2.2.2 = 5) ∧ m_recv ((fun _ _ => 0), h.2) (m_own q.1) q.2.1 st = true ∧ q.2.1 ≤ st.length ∧ m_cats (st.drop q.2.1) ≤ 8 ∧ m_cats (st.take q.2.1) ≤ m_mls.getD q.1 0
        · rw [if_pos c] at e
          obtain ⟨k1, k2, k3, k4, k5⟩ := c
          have hs : mstep (.invokespecial z) q pc ls st (hpT h F) = .error (1, q.1, (st.take q.2.1).reverse, st.drop q.2.1) := by
            show (if q.2.2.2 = 9 then _ else if q.2.2.2 = 4 ∨ q.2.2.2 = 5 then (if m_recv (hpT h F) (m_own q.1) q.2.1 st = true then m_call q.1 q.2.1 st else m_ko) else m_ko) = _
            rw [if_neg c9, if_pos k1, if_pos (show m_recv (hpT h F) (m_own q.1) q.2.1 st = true from k2)]
            unfold m_call
            rw [if_pos ⟨k3, k4, k5⟩]
          cases d with
          | zero => cases e
          | succ d =>
            dsimp only at e
            split at e
            · next h2 hm =>
              have i1 := ih d q.1 0 _ [] h h2 hm
              have i2 := ih (d + 1) M (pc + 3) ls (st.drop q.2.1) h2 h' e
              simp only [mx, ht, hs, i1]
              exact i2
            · cases e
        · rw [if_neg c] at e; cases e
    · next i q hn1 hn2 ht =>
      split at e
      · next pc' ls' st' h2 hm =>
        have hs := mst_ok (F := F) hm
        have := ih d M pc' ls' st' h2 h' e
        simp only [mx, ht, hs]
        exact this
      · cases e
    · cases e
/-- the law's own rows ahead of the loop -/
def mlw : Nat → Nat → Nat → ML → List MV → LHp → Option (Nat × ML × List MV × LHp)
  | 0, _, pc, ls, st, h => some (pc, ls, st, h)
  | k + 1, d, pc, ls, st, h => match (m_tb 420)[pc]? with
    | some (some (.invokespecial _, q)) => if (q.2.2.2 = 4 ∨ q.2.2.2 = 5) ∧ m_recv ((fun _ _ => 0), h.2) (m_own q.1) q.2.1 st = true ∧ q.2.1 ≤ st.length ∧ m_cats (st.drop q.2.1) ≤ 8 ∧ m_cats (st.take q.2.1) ≤ m_mls.getD q.1 0 then (match mct 3000 d q.1 0 (m_ini (m_mls.getD q.1 0) (st.take q.2.1).reverse) [] h with
        | some h' => mlw k d (pc + 3) ls (st.drop q.2.1) h'
        | none => none) else none
    | some (some (i, q)) => (match mst i q pc ls st h with
        | some (pc', ls', st', h') => mlw k d pc' ls' st' h'
        | none => none)
    | _ => none
theorem mlw_mx {F : MF} {d : Nat} {r : (Nat × List MV) × MH} : ∀ (k pc pc' : Nat) (ls ls' : ML) (st st' : List MV) (h h' : LHp), mlw k d pc ls st h = some (pc', ls', st', h') → (∃ g, mx g (d + 1) 420 pc' ls' st' (hpT h' F) = some r) → ∃ g, mx g (d + 1) 420 pc ls st (hpT h F) = some r := by
  intro k
  induction k with
  | zero => intro pc pc' ls ls' st st' h h' e hg; cases e; exact hg
  | succ k ih =>
    intro pc pc' ls ls' st st' h h' e hg
    unfold mlw at e
    split at e
    · next z q ht =>
      by_cases c : (q.2.2.2 = 4 ∨ q.2.2.2 = 5) ∧ m_recv ((fun _ _ => 0), h.2) (m_own q.1) q.2.1 st = true ∧ q.2.1 ≤ st.length ∧ m_cats (st.drop q.2.1) ≤ 8 ∧ m_cats (st.take q.2.1) ≤ m_mls.getD q.1 0
      · rw [if_pos c] at e
        obtain ⟨k1, k2, k3, k4, k5⟩ := c
        have hs : mstep (.invokespecial z) q pc ls st (hpT h F) = .error (1, q.1, (st.take q.2.1).reverse, st.drop q.2.1) := by
          show (if q.2.2.2 = 9 then _ else if q.2.2.2 = 4 ∨ q.2.2.2 = 5 then (if m_recv (hpT h F) (m_own q.1) q.2.1 st = true then m_call q.1 q.2.1 st else m_ko) else m_ko) = _
          rw [if_neg (by omega), if_pos k1, if_pos (show m_recv (hpT h F) (m_own q.1) q.2.1 st = true from k2)]
          unfold m_call
          rw [if_pos ⟨k3, k4, k5⟩]
        split at e
        · next h2 hm =>
          have i1 := mct_mx (F := F) _ _ _ _ _ _ _ _ hm
          obtain ⟨g, hg2⟩ := ih _ _ _ _ _ _ _ _ e hg
          refine ⟨max 3000 g + 1, ?_⟩
          have e1 := mx_le (Nat.le_max_left 3000 g) i1
          simp only [mx, ht, hs, e1]
          exact mx_le (Nat.le_max_right 3000 g) hg2
        · cases e
      · rw [if_neg c] at e; cases e
    · next i q hn ht =>
      split at e
      · next pc2 ls2 st2 h2 hm =>
        have hs := mst_ok (F := F) hm
        obtain ⟨g, hg2⟩ := ih _ _ _ _ _ _ _ _ e hg
        refine ⟨g + 1, ?_⟩
        simp only [mx, ht, hs]
        exact hg2
      · cases e
    · cases e
/-- all changes, the newest first -/
def m_U0 : List UP := [(1, 281, 0, 0), (0, 201, 4, 0), (0, 201, 116, 280), (1, 280, 0, 0), (0, 201, 115, 279), (1, 279, 0, 0), (0, 201, 114, 278), (1, 278, 0, 0), (0, 201, 113, 277), (1, 277, 0, 0), (0, 201, 112, 276), (1, 276, 0, 0), (0, 201, 111, 275), (1, 275, 0, 0), (0, 201, 110, 274), (1, 274, 0, 0), (0, 201, 109, 273), (1, 273, 0, 0), (0, 201, 108, 272), (1, 272, 0, 0), (0, 201, 103, 271), (1, 271, 0, 0), (0, 201, 100, 270), (1, 270, 0, 0), (0, 201, 99, 269), (1, 269, 0, 0), (0, 201, 98, 268), (1, 268, 0, 0), (0, 201, 97, 267), (1, 267, 0, 0), (0, 201, 96, 266), (1, 266, 0, 0), (0, 201, 95, 265), (1, 265, 0, 0), (0, 201, 93, 264), (1, 264, 0, 0), (0, 201, 90, 263), (1, 263, 0, 0), (0, 201, 89, 262), (1, 262, 0, 0), (0, 201, 86, 261), (1, 261, 0, 0), (0, 201, 85, 260), (1, 260, 0, 0), (0, 201, 83, 259), (1, 259, 0, 0), (0, 201, 81, 258), (1, 258, 0, 0), (0, 201, 79, 257), (1, 257, 0, 0), (0, 201, 77, 256), (1, 256, 0, 0), (0, 201, 76, 255), (1, 255, 0, 0), (0, 201, 75, 254), (1, 254, 0, 0), (0, 201, 74, 253), (1, 253, 0, 0), (0, 201, 72, 252), (1, 252, 0, 0), (0, 201, 70, 251), (1, 251, 0, 0), (0, 201, 69, 250), (1, 250, 0, 0), (0, 201, 68, 249), (1, 249, 0, 0), (0, 201, 67, 248), (1, 248, 0, 0), (0, 201, 66, 247), (1, 247, 0, 0), (0, 201, 65, 246), (1, 246, 0, 0), (0, 201, 64, 245), (1, 245, 0, 0), (0, 201, 62, 244), (1, 244, 0, 0), (0, 201, 61, 243), (1, 243, 0, 0), (0, 201, 57, 242), (1, 242, 0, 0), (0, 201, 56, 241), (1, 241, 0, 0), (0, 201, 55, 240), (1, 240, 0, 0), (0, 201, 52, 239), (1, 239, 0, 0), (0, 201, 50, 238), (1, 238, 0, 0), (0, 201, 47, 237), (1, 237, 0, 0), (0, 201, 45, 236), (1, 236, 0, 0), (0, 201, 44, 235), (1, 235, 0, 0), (0, 201, 43, 234), (1, 234, 0, 0), (0, 201, 42, 233), (1, 233, 0, 0), (0, 201, 40, 232), (1, 232, 0, 0), (0, 201, 39, 231), (1, 231, 0, 0), (0, 201, 38, 230), (1, 230, 0, 0), (0, 201, 36, 229), (1, 229, 0, 0), (0, 201, 35, 228), (1, 228, 0, 0), (0, 201, 34, 227), (1, 227, 0, 0), (0, 201, 33, 226), (1, 226, 0, 0), (0, 201, 32, 225), (1, 225, 0, 0), (0, 201, 31, 224), (1, 224, 0, 0), (0, 201, 30, 223), (1, 223, 0, 0), (0, 201, 29, 222), (1, 222, 0, 0), (0, 201, 28, 221), (1, 221, 0, 0), (0, 201, 24, 220), (1, 220, 0, 0), (0, 201, 22, 219), (1, 219, 0, 0), (0, 201, 21, 218), (1, 218, 0, 0), (0, 201, 20, 217), (1, 217, 0, 0), (0, 201, 19, 216), (1, 216, 0, 0), (0, 201, 18, 215), (1, 215, 0, 0), (0, 201, 17, 214), (1, 214, 0, 0), (0, 201, 16, 213), (1, 213, 0, 0), (0, 201, 13, 212), (1, 212, 0, 0), (0, 201, 12, 211), (1, 211, 0, 0), (0, 201, 11, 210), (1, 210, 0, 0), (0, 201, 10, 209), (1, 209, 0, 0), (0, 201, 9, 208), (1, 208, 0, 0), (0, 201, 8, 207), (1, 207, 0, 0), (0, 201, 5, 206), (1, 206, 0, 0), (0, 201, 3, 205), (1, 205, 0, 0), (0, 201, 2, 204), (1, 204, 0, 0), (0, 201, 1, 203), (1, 203, 0, 0), (0, 201, 0, 202), (1, 202, 0, 0), (2, 201, 12, 0), (0, 0, 7, 200), (1, 200, 0, 0), (0, 0, 6, 109), (0, 109, 14, 199), (1, 199, 0, 0), (0, 109, 12, 198), (1, 198, 0, 0), (0, 109, 11, 197), (1, 197, 0, 0), (0, 109, 10, 196), (1, 196, 0, 0), (0, 109, 9, 195), (1, 195, 0, 0), (0, 109, 6, 194), (1, 194, 0, 0), (0, 109, 5, 193), (1, 193, 0, 0), (0, 109, 4, 192), (1, 192, 0, 0), (0, 109, 3, 191), (1, 191, 0, 0), (0, 109, 2, 190), (1, 190, 0, 0), (0, 109, 1, 189), (1, 189, 0, 0), (0, 109, 0, 110), (0, 110, 4, 178), (0, 178, 3, 130), (0, 178, 13, 188), (1, 188, 0, 0), (0, 178, 12, 187), (1, 187, 0, 0), (0, 178, 11, 186), (1, 186, 0, 0), (0, 178, 10, 185), (1, 185, 0, 0), (0, 178, 9, 184), (1, 184, 0, 0), (0, 178, 8, 183), (1, 183, 0, 0), (0, 178, 7, 182), (1, 182, 0, 0), (0, 178, 5, 181), (1, 181, 0, 0), (0, 178, 4, 180), (1, 180, 0, 0), (0, 178, 0, 179), (1, 179, 0, 0), (2, 178, 4, 0), (0, 116, 2, 168), (0, 168, 11, 177), (1, 177, 0, 0), (0, 168, 9, 176), (1, 176, 0, 0), (0, 168, 8, 175), (1, 175, 0, 0), (0, 168, 7, 174), (1, 174, 0, 0), (0, 168, 6, 173), (1, 173, 0, 0), (0, 168, 4, 172), (1, 172, 0, 0), (0, 168, 3, 171), (1, 171, 0, 0), (0, 168, 2, 170), (1, 170, 0, 0), (0, 168, 0, 169), (1, 169, 0, 0), (2, 168, 9, 0), (0, 115, 2, 159), (0, 159, 7, 167), (1, 167, 0, 0), (0, 159, 6, 166), (1, 166, 0, 0), (0, 159, 5, 165), (1, 165, 0, 0), (0, 159, 4, 164), (1, 164, 0, 0), (0, 159, 3, 163), (1, 163, 0, 0), (0, 159, 2, 162), (1, 162, 0, 0), (0, 159, 1, 161), (1, 161, 0, 0), (0, 159, 0, 160), (1, 160, 0, 0), (2, 159, 8, 0), (0, 116, 1, 149), (0, 149, 11, 158), (1, 158, 0, 0), (0, 149, 9, 157), (1, 157, 0, 0), (0, 149, 8, 156), (1, 156, 0, 0), (0, 149, 7, 155), (1, 155, 0, 0), (0, 149, 6, 154), (1, 154, 0, 0), (0, 149, 4, 153), (1, 153, 0, 0), (0, 149, 3, 152), (1, 152, 0, 0), (0, 149, 2, 151), (1, 151, 0, 0), (0, 149, 0, 150), (1, 150, 0, 0), (2, 149, 9, 0), (0, 115, 1, 140), (0, 140, 7, 148), (1, 148, 0, 0), (0, 140, 6, 147), (1, 147, 0, 0), (0, 140, 5, 146), (1, 146, 0, 0), (0, 140, 4, 145), (1, 145, 0, 0), (0, 140, 3, 144), (1, 144, 0, 0), (0, 140, 2, 143), (1, 143, 0, 0), (0, 140, 1, 142), (1, 142, 0, 0), (0, 140, 0, 141), (1, 141, 0, 0), (2, 140, 8, 0), (0, 116, 0, 130), (0, 130, 11, 139), (1, 139, 0, 0), (0, 130, 9, 138), (1, 138, 0, 0), (0, 130, 8, 137), (1, 137, 0, 0), (0, 130, 7, 136), (1, 136, 0, 0), (0, 130, 6, 135), (1, 135, 0, 0), (0, 130, 4, 134), (1, 134, 0, 0), (0, 130, 3, 133), (1, 133, 0, 0), (0, 130, 2, 132), (1, 132, 0, 0), (0, 130, 0, 131), (1, 131, 0, 0), (2, 130, 9, 0), (0, 115, 0, 121), (0, 121, 7, 129), (1, 129, 0, 0), (0, 121, 6, 128), (1, 128, 0, 0), (0, 121, 5, 127), (1, 127, 0, 0), (0, 121, 4, 126), (1, 126, 0, 0), (0, 121, 3, 125), (1, 125, 0, 0), (0, 121, 2, 124), (1, 124, 0, 0), (0, 121, 1, 123), (1, 123, 0, 0), (0, 121, 0, 122), (1, 122, 0, 0), (2, 121, 8, 0), (0, 110, 6, 1), (0, 110, 5, 118), (0, 118, 1, 120), (1, 120, 0, 0), (0, 118, 0, 119), (1, 119, 0, 0), (2, 118, 7, 0), (0, 110, 3, 117), (1, 117, 0, 0), (0, 110, 2, 116), (1, 116, 0, -1), (0, 110, 1, 115), (1, 115, 0, -1), (0, 110, 0, 111), (0, 111, 2, 114), (1, 114, 0, 0), (0, 111, 1, 113), (1, 113, 0, 0), (0, 111, 0, 112), (1, 112, 0, 0), (2, 111, 2, 0), (2, 110, 1, 0), (2, 109, 3, 0), (0, 0, 5, 96), (0, 96, 2, 108), (1, 108, 0, 0), (0, 96, 1, 98), (0, 98, 11, 107), (1, 107, 0, 0), (0, 98, 9, 106), (1, 106, 0, 0), (0, 98, 8, 105), (1, 105, 0, 0), (0, 98, 7, 104), (1, 104, 0, 0), (0, 98, 6, 103), (1, 103, 0, 0), (0, 98, 4, 102), (1, 102, 0, 0), (0, 98, 3, 101), (1, 101, 0, 0), (0, 98, 2, 100), (1, 100, 0, 0), (0, 98, 0, 99), (1, 99, 0, 0), (2, 98, 9, 0), (0, 96, 0, 97), (1, 97, 0, 0), (2, 96, 0, 0), (0, 0, 4, 91), (0, 91, 3, 95), (1, 95, 0, 0), (0, 91, 2, 94), (1, 94, 0, 0), (0, 91, 1, 93), (1, 93, 0, 0), (0, 91, 0, 92), (1, 92, 0, 0), (2, 91, 6, 0), (0, 0, 3, 89), (0, 89, 0, 90), (1, 90, 0, 0), (2, 89, 5, 0), (0, 0, 2, 84), (0, 84, 4, 88), (1, 88, 0, 0), (0, 84, 2, 87), (1, 87, 0, 0), (0, 84, 1, 86), (1, 86, 0, 0), (0, 84, 0, 85), (1, 85, 0, 0), (2, 84, 10, 0), (0, 0, 1, 80), (0, 80, 2, 83), (1, 83, 0, 0), (0, 80, 1, 82), (1, 82, 0, 0), (0, 80, 0, 81), (1, 81, 0, 0), (2, 80, 2, 0), (0, 0, 0, 1), (0, 1, 4, 69), (0, 69, 3, 21), (0, 69, 13, 79), (1, 79, 0, 0), (0, 69, 12, 78), (1, 78, 0, 0), (0, 69, 11, 77), (1, 77, 0, 0), (0, 69, 10, 76), (1, 76, 0, 0), (0, 69, 9, 75), (1, 75, 0, 0), (0, 69, 8, 74), (1, 74, 0, 0), (0, 69, 7, 73), (1, 73, 0, 0), (0, 69, 5, 72), (1, 72, 0, 0), (0, 69, 4, 71), (1, 71, 0, 0), (0, 69, 0, 70), (1, 70, 0, 0), (2, 69, 4, 0), (0, 7, 2, 59), (0, 59, 11, 68), (1, 68, 0, 0), (0, 59, 9, 67), (1, 67, 0, 0), (0, 59, 8, 66), (1, 66, 0, 0), (0, 59, 7, 65), (1, 65, 0, 0), (0, 59, 6, 64), (1, 64, 0, 0), (0, 59, 4, 63), (1, 63, 0, 0), (0, 59, 3, 62), (1, 62, 0, 0), (0, 59, 2, 61), (1, 61, 0, 0), (0, 59, 0, 60), (1, 60, 0, 0), (2, 59, 9, 0), (0, 6, 2, 50), (0, 50, 7, 58), (1, 58, 0, 0), (0, 50, 6, 57), (1, 57, 0, 0), (0, 50, 5, 56), (1, 56, 0, 0), (0, 50, 4, 55), (1, 55, 0, 0), (0, 50, 3, 54), (1, 54, 0, 0), (0, 50, 2, 53), (1, 53, 0, 0), (0, 50, 1, 52), (1, 52, 0, 0), (0, 50, 0, 51), (1, 51, 0, 0), (2, 50, 8, 0), (0, 7, 1, 40), (0, 40, 11, 49), (1, 49, 0, 0), (0, 40, 9, 48), (1, 48, 0, 0), (0, 40, 8, 47), (1, 47, 0, 0), (0, 40, 7, 46), (1, 46, 0, 0), (0, 40, 6, 45), (1, 45, 0, 0), (0, 40, 4, 44), (1, 44, 0, 0), (0, 40, 3, 43), (1, 43, 0, 0), (0, 40, 2, 42), (1, 42, 0, 0), (0, 40, 0, 41), (1, 41, 0, 0), (2, 40, 9, 0), (0, 6, 1, 31), (0, 31, 7, 39), (1, 39, 0, 0), (0, 31, 6, 38), (1, 38, 0, 0), (0, 31, 5, 37), (1, 37, 0, 0), (0, 31, 4, 36), (1, 36, 0, 0), (0, 31, 3, 35), (1, 35, 0, 0), (0, 31, 2, 34), (1, 34, 0, 0), (0, 31, 1, 33), (1, 33, 0, 0), (0, 31, 0, 32), (1, 32, 0, 0), (2, 31, 8, 0), (0, 7, 0, 21), (0, 21, 11, 30), (1, 30, 0, 0), (0, 21, 9, 29), (1, 29, 0, 0), (0, 21, 8, 28), (1, 28, 0, 0), (0, 21, 7, 27), (1, 27, 0, 0), (0, 21, 6, 26), (1, 26, 0, 0), (0, 21, 4, 25), (1, 25, 0, 0), (0, 21, 3, 24), (1, 24, 0, 0), (0, 21, 2, 23), (1, 23, 0, 0), (0, 21, 0, 22), (1, 22, 0, 0), (2, 21, 9, 0), (0, 6, 0, 12), (0, 12, 7, 20), (1, 20, 0, 0), (0, 12, 6, 19), (1, 19, 0, 0), (0, 12, 5, 18), (1, 18, 0, 0), (0, 12, 4, 17), (1, 17, 0, 0), (0, 12, 3, 16), (1, 16, 0, 0), (0, 12, 2, 15), (1, 15, 0, 0), (0, 12, 1, 14), (1, 14, 0, 0), (0, 12, 0, 13), (1, 13, 0, 0), (2, 12, 8, 0), (0, 1, 6, 1), (0, 1, 5, 9), (0, 9, 1, 11), (1, 11, 0, 0), (0, 9, 0, 10), (1, 10, 0, 0), (2, 9, 7, 0), (0, 1, 3, 8), (1, 8, 0, 0), (0, 1, 2, 7), (1, 7, 0, -1), (0, 1, 1, 6), (1, 6, 0, -1), (0, 1, 0, 2), (0, 2, 2, 5), (1, 5, 0, 0), (0, 2, 1, 4), (1, 4, 0, 0), (0, 2, 0, 3), (1, 3, 0, 0), (2, 2, 2, 0), (2, 1, 1, 0), (2, 0, 11, 0)]
theorem m_ct0b : (match mlw 13 20 0 (m_ini 8 [(6, 0)]) [] ([], [], 0, 0) with
  | some (a, b, c, u, k, x, y) => decide (a = 23) && (decide (b = [some (6, 0), some (m_r 0), some (m_r 201), some (m_r 281), some (0, 0), none, none, none]) && (decide (c = []) && (decide (u = m_U0) && (decide (k = m_KD) && (decide (x = 282) && decide (y = 92926))))))
  | none => false) = true := by decide +kernel
theorem m_ct0 : mlw 13 20 0 (m_ini 8 [(6, 0)]) [] ([], [], 0, 0) = some (23, [some (6, 0), some (m_r 0), some (m_r 201), some (m_r 281), some (0, 0), none, none, none], [], (m_U0, m_KD, 282, 92926)) := by
  have h := m_ct0b
  revert h
  generalize mlw 13 20 0 (m_ini 8 [(6, 0)]) [] ([], [], 0, 0) = r
  intro h
  cases r with
  | none => cases h
  | some r =>
    obtain ⟨a, b, c, u, k, x, y⟩ := r
    simp only [Bool.and_eq_true, decide_eq_true_iff] at h
    obtain ⟨rfl, rfl, rfl, rfl, rfl, rfl, rfl⟩ := h
    rfl
