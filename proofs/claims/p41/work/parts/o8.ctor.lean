/-! THE CONSTRUCTOR'S RUN: a machine over a list of changes, which is run by the kernel; and the same where other things lie ahead -/
/-- a change: (0, thing, place, value), (1, new row, -, its value), (2, new thing, class, -) -/
abbrev UP : Type := Nat × Nat × Nat × Int
def apU : List UP → MF → MF
  | [], F => F
  | u :: U, F => if u.1 = 0 then m_up (apU U F) u.2.1 u.2.2.1 u.2.2.2 else if u.1 = 1 then (fun b j => if b = u.2.1 then u.2.2.2 else apU U F b j) else (fun b j => if b = u.2.1 then m_dfl (m_fty u.2.2.1 j) else apU U F b j)
def lkU : List UP → Nat → Nat → Option Int
  | [], _, _ => none
  | u :: U, b, j => if u.1 = 0 then (if b = u.2.1 ∧ j = u.2.2.1 then some u.2.2.2 else lkU U b j) else if u.1 = 1 then (if b = u.2.1 then some u.2.2.2 else lkU U b j) else (if b = u.2.1 then some (m_dfl (m_fty u.2.2.1 j)) else lkU U b j)
theorem lk_ap {F : MF} {b j : Nat} {x : Int} : ∀ U : List UP, lkU U b j = some x → apU U F b j = x
  | [], h => by cases h
  | u :: U, h => by
    have ih := lk_ap (F := F) (b := b) (j := j) (x := x) U
    unfold lkU at h
    unfold apU
    by_cases c0 : u.1 = 0
    · rw [if_pos c0] at h ⊢
      by_cases c : b = u.2.1 ∧ j = u.2.2.1
      · rw [if_pos c] at h
        rw [c.1, c.2, u_eq]
        exact Option.some.inj h
      · rw [if_neg c] at h
        rw [u_ne (by omega)]
        exact ih h
    · rw [if_neg c0] at h ⊢
      by_cases c1 : u.1 = 1
      · rw [if_pos c1] at h ⊢
        by_cases c : b = u.2.1
        · rw [if_pos c] at h
          show (if b = u.2.1 then u.2.2.2 else apU U F b j) = x
          rw [if_pos c]
          exact Option.some.inj h
        · rw [if_neg c] at h
          show (if b = u.2.1 then u.2.2.2 else apU U F b j) = x
          rw [if_neg c]
          exact ih h
      · rw [if_neg c1] at h ⊢
        by_cases c : b = u.2.1
        · rw [if_pos c] at h
          show (if b = u.2.1 then m_dfl (m_fty u.2.2.1 j) else apU U F b j) = x
          rw [if_pos c]
          exact Option.some.inj h
        · rw [if_neg c] at h
          show (if b = u.2.1 then m_dfl (m_fty u.2.2.1 j) else apU U F b j) = x
          rw [if_neg c]
          exact ih h
/-- what no change speaks of -/
theorem ap_no {F : MF} {b : Nat} : ∀ U : List UP, U.all (fun u => decide (u.2.1 ≠ b)) = true → apU U F b = F b
  | [], _ => rfl
  | u :: U, h => by
    rw [List.all_cons, Bool.and_eq_true] at h
    have ih := ap_no (F := F) U h.2
    have hb : u.2.1 ≠ b := of_decide_eq_true h.1
    unfold apU
    by_cases c0 : u.1 = 0
    · rw [if_pos c0, up_row (fun e => hb e.symm)]; exact ih
    · rw [if_neg c0]
      by_cases c1 : u.1 = 1
      · rw [if_pos c1]
        funext j
        show (if b = u.2.1 then u.2.2.2 else apU U F b j) = F b j
        rw [if_neg (fun e => hb e.symm), ih]
      · rw [if_neg c1]
        funext j
        show (if b = u.2.1 then m_dfl (m_fty u.2.2.1 j) else apU U F b j) = F b j
        rw [if_neg (fun e => hb e.symm), ih]
/-- changes, kinds, how many things, how much room -/
abbrev LHp : Type := List UP × MK × Nat × Nat
def hpT (h : LHp) (F : MF) : MH := (apU h.1 F, h.2)
def knd (h : LHp) (a : Int) : Nat × Nat := if 0 ≤ a then (h.2.1)[a.toNat]?.getD (999, 0) else (999, 0)
def mst (i : Instr) (q : LK) (pc : Nat) (ls : ML) (st : List MV) (h : LHp) : Option (Nat × ML × List MV × LHp) :=
  match i with
  | .iconst v => some (pc + 1, ls, (0, v) :: st, h)
  | .bipush v => some (pc + 2, ls, (0, v) :: st, h)
  | .sipush v => some (pc + 3, ls, (0, v) :: st, h)
  | .iload_n n => (match ls[(n : Nat)]? with
    | some (some (0, x)) => some (pc + 1, ls, (0, x) :: st, h)
    | _ => none)
  | .aload_n n => (match ls[(n : Nat)]? with
    | some (some (2, x)) => some (pc + 1, ls, (2, x) :: st, h)
    | _ => none)
  | .istore n => (match st with
    | (0, x) :: r => (match m_st ls n (0, x) with
      | some l => some (pc + 2, l, r, h)
      | none => none)
    | _ => none)
  | .istore_n n => (match st with
    | (0, x) :: r => (match m_st ls (n : Nat) (0, x) with
      | some l => some (pc + 1, l, r, h)
      | none => none)
    | _ => none)
  | .astore_n n => (match st with
    | (2, x) :: r => (match m_st ls (n : Nat) (2, x) with
      | some l => some (pc + 1, l, r, h)
      | none => none)
    | _ => none)
  | .iinc n c => (match ls[n]? with
    | some (some (0, x)) => (match m_st ls n (0, w32 (x + c)) with
      | some l => some (pc + 3, l, st, h)
      | none => none)
    | _ => none)
  | .dup => (match st with
    | (2, x) :: r => some (pc + 1, ls, (2, x) :: (2, x) :: r, h)
    | _ => none)
  | .if_icmp .ge off => (match st with
    | (0, y) :: (0, x) :: r => if x < y then some (pc + 3, ls, r, h) else if 0 ≤ (pc : Int) + off then some (((pc : Int) + off).toNat, ls, r, h) else none
    | _ => none)
  | .goto off => if 0 ≤ (pc : Int) + off then some (((pc : Int) + off).toNat, ls, st, h) else none
  | .getfield _ => (match st with
    | (2, a) :: r => if (knd h a).1 = q.1 ∧ q.2.1 < (knd h a).2 ∧ m_fty q.1 q.2.1 = 4 then (match lkU h.1 a.toNat q.2.1 with
      | some x => if 0 ≤ x then some (pc + 3, ls, (2, x) :: r, h) else none
      | none => none) else none
    | _ => none)
  | .aaload => (match st with
    | (0, i) :: (2, a) :: r => (match lkU h.1 a.toNat i.toNat with
      | some x => if 110 ≤ (knd h a).1 ∧ (knd h a).1 < 150 ∧ 0 ≤ i ∧ i < (knd h a).2 ∧ 0 ≤ x then some (pc + 1, ls, (2, x) :: r, h) else none
      | none => none)
    | _ => none)
  | .putfield _ => (match st with
    | (t, x) :: (2, a) :: r => if (knd h a).1 = q.1 ∧ q.2.1 < (knd h a).2 ∧ m_fit (m_fty q.1 q.2.1) (t, x) = true then some (pc + 3, ls, r, ((0, a.toNat, q.2.1, x) :: h.1, h.2)) else none
    | _ => none)
  | .aastore => (match st with
    | (2, x) :: (0, i) :: (2, a) :: r => if (knd h a).1 = 110 + (knd h x).1 ∧ (knd h x).1 < 13 ∧ 0 ≤ i ∧ i < (knd h a).2 then some (pc + 1, ls, r, ((0, a.toNat, i.toNat, x) :: h.1, h.2)) else none
    | _ => none)
  | .newarray t => (match st with
    | (0, n) :: r => if 0 ≤ n ∧ n < 100000 then (match t with
      | .int => some (pc + 2, ls, (2, (h.2.1.length : Int)) :: r, ((1, h.2.1.length, 0, 0) :: h.1, h.2.1 ++ [(100, n.toNat)], h.2.2.1 + 1, h.2.2.2 + n.toNat))
      | .long => some (pc + 2, ls, (2, (h.2.1.length : Int)) :: r, ((1, h.2.1.length, 0, 0) :: h.1, h.2.1 ++ [(101, n.toNat)], h.2.2.1 + 1, h.2.2.2 + n.toNat))
      | .char => some (pc + 2, ls, (2, (h.2.1.length : Int)) :: r, ((1, h.2.1.length, 0, 0) :: h.1, h.2.1 ++ [(102, n.toNat)], h.2.2.1 + 1, h.2.2.2 + n.toNat))
      | .boolean => some (pc + 2, ls, (2, (h.2.1.length : Int)) :: r, ((1, h.2.1.length, 0, 0) :: h.1, h.2.1 ++ [(103, n.toNat)], h.2.2.1 + 1, h.2.2.2 + n.toNat))
      | _ => none) else none
    | _ => none)
  | .anewarray _ => (match st with
    | (0, n) :: r => if (0 ≤ n ∧ n < 100000) ∧ q.1 < 40 then some (pc + 3, ls, (2, (h.2.1.length : Int)) :: r, ((1, h.2.1.length, 0, -1) :: h.1, h.2.1 ++ [(110 + q.1, n.toNat)], h.2.2.1 + 1, h.2.2.2 + n.toNat)) else none
    | _ => none)
  | .new _ => if q.1 < 50 then some (pc + 3, ls, (2, (h.2.1.length : Int)) :: st, ((2, h.2.1.length, q.1, 0) :: h.1, h.2.1 ++ [(q.1, q.2.1)], h.2.2.1 + 1, h.2.2.2 + q.2.1)) else none
  | .invokespecial _ => if q.2.2.2 = 9 then (match st with
      | (2, _) :: r => if m_cats r ≤ 8 then some (pc + 3, ls, r, h) else none
      | _ => none) else none
  | _ => none
section Moc
variable {i : Instr} {q : LK} {pc pc' : Nat} {ls ls' : ML} {st st' : List MV} {h h' : LHp} {F : MF}
theorem mst_ok (e : mst i q pc ls st h = some (pc', ls', st', h')) : mstep i q pc ls st (hpT h F) = .ok (pc', ls', st', hpT h' F) := by
  unfold mst at e
  split at e
  · cases e; rfl
  · cases e; rfl
  · cases e; rfl
  · next n =>
    split at e
    · next x hl => cases e; show m_ldi ls _ _ _ _ = _; unfold m_ldi; rw [hl]; rfl
    · cases e
  · next n =>
    split at e
    · next x hl => cases e; show m_lda ls _ _ _ _ = _; unfold m_lda; rw [hl]
    · cases e
  · next n =>
    split at e
    · next x r =>
      split at e
      · next l hl => cases e; show m_put (m_st ls n (0, x)) _ _ _ = _; rw [hl]; rfl
      · cases e
    · cases e
  · next n =>
    split at e
    · next x r =>
      split at e
      · next l hl => cases e; show m_put (m_st ls _ (0, x)) _ _ _ = _; rw [hl]; rfl
      · cases e
    · cases e
  · next n =>
    split at e
    · next x r =>
      split at e
      · next l hl => cases e; show m_put (m_st ls _ (2, x)) _ _ _ = _; rw [hl]; rfl
      · cases e
    · cases e
  · next n c =>
    split at e
    · next x hl =>
      split at e
      · next l hl2 =>
        cases e
        show (match ls[n]? with | some (some (0, x)) => m_put (m_st ls n (0, w32 (x + c))) (pc + 3) st _ | _ => m_ko) = _
        rw [hl]
        show m_put (m_st ls n (0, w32 (x + c))) (pc + 3) st _ = _
        rw [hl2]
        rfl
      · cases e
    · cases e
  · split at e
    · next x r => cases e; rfl
    · cases e
  · next off =>
    split at e
    · next y x r =>
      by_cases c : x < y
      · rw [if_pos c] at e
        cases e
        show (if x < y then Except.ok (pc + 3, ls, st', _) else m_go pc off ls st' _) = _
        rw [if_pos c]
      · rw [if_neg c] at e
        by_cases c2 : 0 ≤ (pc : Int) + off
        · rw [if_pos c2] at e
          cases e
          show (if x < y then Except.ok (pc + 3, ls, st', _) else m_go pc off ls st' _) = _
          rw [if_neg c]
          unfold m_go
          rw [if_pos c2]
        · rw [if_neg c2] at e; cases e
    · cases e
  · next off =>
    by_cases c2 : 0 ≤ (pc : Int) + off
    · rw [if_pos c2] at e
      cases e
      show m_go pc off ls st _ = _
      unfold m_go
      rw [if_pos c2]
    · rw [if_neg c2] at e; cases e
  · split at e
    · next a r =>
      by_cases c : (knd h a).1 = q.1 ∧ q.2.1 < (knd h a).2 ∧ m_fty q.1 q.2.1 = 4
      · rw [if_pos c] at e
        split at e
        · next x hx =>
          by_cases c2 : 0 ≤ x
          · rw [if_pos c2] at e
            cases e
            show (if (knd h a).1 = q.1 ∧ q.2.1 < (knd h a).2 then m_of (m_fty q.1 q.2.1) (apU h.1 F a.toNat q.2.1) (pc + 3) ls r _ else m_ko) = _
            rw [if_pos ⟨c.1, c.2.1⟩, c.2.2, lk_ap _ hx]
            unfold m_of
            show (if 0 ≤ x then _ else _) = _
            rw [if_pos c2]
          · rw [if_neg c2] at e; cases e
        · cases e
      · rw [if_neg c] at e; cases e
    · cases e
  · split at e
    · next i a r =>
      split at e
      · next x hx =>
        by_cases c : 110 ≤ (knd h a).1 ∧ (knd h a).1 < 150 ∧ 0 ≤ i ∧ i < (knd h a).2 ∧ 0 ≤ x
        · rw [if_pos c] at e
          cases e
          show (if 110 ≤ (knd h a).1 ∧ (knd h a).1 < 150 ∧ 0 ≤ i ∧ i < (knd h a).2 ∧ 0 ≤ apU h.1 F a.toNat i.toNat then Except.ok (pc + 1, ls, (2, apU h.1 F a.toNat i.toNat) :: r, _) else m_ko) = _
          rw [lk_ap _ hx, if_pos c]
        · rw [if_neg c] at e; cases e
      · cases e
    · cases e
  · split at e
    · next t x a r =>
      by_cases c : (knd h a).1 = q.1 ∧ q.2.1 < (knd h a).2 ∧ m_fit (m_fty q.1 q.2.1) (t, x) = true
      · rw [if_pos c] at e
        cases e
        show (if (knd h a).1 = q.1 ∧ q.2.1 < (knd h a).2 ∧ m_fit (m_fty q.1 q.2.1) (t, x) = true then _ else m_ko) = _
        rw [if_pos c]
        rfl
      · rw [if_neg c] at e; cases e
    · cases e
  · split at e
    · next x i a r =>
      by_cases c : (knd h a).1 = 110 + (knd h x).1 ∧ (knd h x).1 < 13 ∧ 0 ≤ i ∧ i < (knd h a).2
      · rw [if_pos c] at e
        cases e
        show (if (knd h a).1 = 110 + (knd h x).1 ∧ (knd h x).1 < 13 ∧ 0 ≤ i ∧ i < (knd h a).2 then _ else m_ko) = _
        rw [if_pos c]
        rfl
      · rw [if_neg c] at e; cases e
    · cases e
  · split at e
    · next n r =>
      by_cases c : 0 ≤ n ∧ n < 100000
      · rw [if_pos c] at e
        split at e
        · cases e
          show (if 0 ≤ n ∧ n < 100000 then _ else m_ko) = _
          rw [if_pos c]
          rfl
        · cases e
          show (if 0 ≤ n ∧ n < 100000 then _ else m_ko) = _
          rw [if_pos c]
          rfl
        · cases e
          show (if 0 ≤ n ∧ n < 100000 then _ else m_ko) = _
          rw [if_pos c]
          rfl
        · cases e
          show (if 0 ≤ n ∧ n < 100000 then _ else m_ko) = _
          rw [if_pos c]
          rfl
        · cases e
      · rw [if_neg c] at e; cases e
    · cases e
  · split at e
    · next n r =>
      by_cases c : (0 ≤ n ∧ n < 100000) ∧ q.1 < 40
      · rw [if_pos c] at e
        cases e
        show (if q.1 < 40 then m_mkarr (110 + q.1) (-1) (pc + 3) ls ((0, n) :: r) _ else m_ko) = _
        rw [if_pos c.2]
        show (if 0 ≤ n ∧ n < 100000 then _ else m_ko) = _
        rw [if_pos c.1]
        rfl
      · rw [if_neg c] at e; cases e
    · cases e
  · by_cases c : q.1 < 50
    · rw [if_pos c] at e
      cases e
      show (if q.1 < 50 then _ else _) = _
      rw [if_pos c]
      rfl
    · rw [if_neg c] at e; cases e
  · by_cases c : q.2.2.2 = 9
    · rw [if_pos c] at e
      split at e
      · next x r =>
        by_cases c2 : m_cats r ≤ 8
        · rw [if_pos c2] at e
          cases e
          show (if q.2.2.2 = 9 then (if m_cats st' ≤ 8 then _ else m_ko) else _) = _
          rw [if_pos c, if_pos c2]
        · rw [if_neg c2] at e; cases e
      · cases e
    · rw [if_neg c] at e; cases e
  · cases e
end Moc
/-- a constructor, from a place on -/
def mct : Nat → Nat → Nat → Nat → ML → List MV → LHp → Option LHp
  | 0, _, _, _, _, _, _ => none
  | f + 1, d, M, pc, ls, st, h => match (m_tb M)[pc]? with
    | some (some (.return_, _)) => if st = [] then some h else none
    | some (some (.invokespecial z, q)) => if q.2.2.2 = 9 then (match mst (.invokespecial z) q pc ls st h with
        | some (pc', ls', st', h') => mct f d M pc' ls' st' h'
        | none => none)
      else if (q.2.2.2 = 4 ∨ q.2.2.2 = 5) ∧ m_recv ((fun _ _ => 0), h.2) (m_own q.1) q.2.1 st = true ∧ q.2.1 ≤ st.length ∧ m_cats (st.drop q.2.1) ≤ 8 ∧ m_cats (st.take q.2.1) ≤ m_mls.getD q.1 0 then (match d with
        | 0 => none
        | d' + 1 => (match mct f d' q.1 0 (m_ini (m_mls.getD q.1 0) (st.take q.2.1).reverse) [] h with
          | some h' => mct f (d' + 1) M (pc + 3) ls (st.drop q.2.1) h'
          | none => none))
      else none
    | some (some (i, q)) => (match mst i q pc ls st h with
        | some (pc', ls', st', h') => mct f d M pc' ls' st' h'
        | none => none)
    | _ => none
theorem recv_F {F G : MF} {K : MK × Nat × Nat} {ci n : Nat} {st : List MV} : m_recv (F, K) ci n st = m_recv (G, K) ci n st := rfl
theorem mct_mx {F : MF} : ∀ (f d M pc : Nat) (ls : ML) (st : List MV) (h h' : LHp), mct f d M pc ls st h = some h' → mx f d M pc ls st (hpT h F) = some ((0, []), hpT h' F) := by
  intro f
  induction f with
  | zero => intro d M pc ls st h h' e; cases e
  | succ f ih =>
    intro d M pc ls st h h' e
    unfold mct at e
    split at e
    · next q ht =>
      by_cases c : st = []
      · rw [if_pos c] at e
        cases e
        subst c
        simp only [mx, ht, mstep]
      · rw [if_neg c] at e; cases e
    · next z q ht =>
      by_cases c9 : q.2.2.2 = 9
      · rw [if_pos c9] at e
        split at e
        · next pc' ls' st' h2 hm =>
          have hs := mst_ok (F := F) hm
          have := ih d M pc' ls' st' h2 h' e
          simp only [mx, ht, hs]
          exact this
        · cases e
      · rw [if_neg c9] at e
        by_cases c : (q.2.2.2 = 4 ∨ q.2.2.2 = 5) ∧ m_recv ((fun _ _ => 0), h.2) (m_own q.1) q.2.1 st = true ∧ q.2.1 ≤ st.length ∧ m_cats (st.drop q.2.1) ≤ 8 ∧ m_cats (st.take q.2.1) ≤ m_mls.getD q.1 0
        · rw [if_pos c] at e
          obtain ⟨k1, k2, k3, k4, k5⟩ := c
          have hs : mstep (.invokespecial z) q pc ls st (hpT h F) = .error (1, q.1, (st.take q.2.1).reverse, st.drop q.2.1) := by
            show (if q.2.2.2 = 9 then _ else if q.2.2.2 = 4 ∨ q.2.2.2 = 5 then (if m_recv (hpT h F) (m_own q.1) q.2.1 st = true then m_call q.1 q.2.1 st else m_ko) else m_ko) = _
            rw [if_neg c9, if_pos k1, if_pos (show m_recv (hpT h F) (m_own q.1) q.2.1 st = true from k2)]
            unfold m_call
            rw [if_pos ⟨k3, k4, k5⟩]
          cases d with
          | zero => cases e
          | succ d =>
            dsimp only at e
            split at e
            · next h2 hm =>
              have i1 := ih d q.1 0 _ [] h h2 hm
              have i2 := ih (d + 1) M (pc + 3) ls (st.drop q.2.1) h2 h' e
              simp only [mx, ht, hs, i1]
              exact i2
            · cases e
        · rw [if_neg c] at e; cases e
    · next i q hn1 hn2 ht =>
      split at e
      · next pc' ls' st' h2 hm =>
        have hs := mst_ok (F := F) hm
        have := ih d M pc' ls' st' h2 h' e
        simp only [mx, ht, hs]
        exact this
      · cases e
    · cases e
/-- an instruction that makes something -/
theorem al_mst {i : Instr} {q : LK} {pc pc' : Nat} {ls ls' : ML} {st st' : List MV} {h h' : LHp} (e : mst i q pc ls st h = some (pc', ls', st', h')) (hne : h'.2.1.length ≠ h.2.1.length) :
    ∃ (pre r : List MV) (kd n : Nat) (g : Nat → Int), st = pre ++ r ∧ (∀ v ∈ pre, v.1 = 0) ∧ ls' = ls ∧ st' = (2, (h.2.1.length : Int)) :: r ∧ h'.2 = (h.2.1 ++ [(kd, n)], h.2.2.1 + 1, h.2.2.2 + n) ∧
      (∀ F : MF, apU h'.1 F = fun b j => if b = h.2.1.length then g j else apU h.1 F b j) ∧ (∀ j, isR kd j = true → g j < 0) ∧
      ∀ (l2 : ML) (r2 : List MV) (h2 : MH), mstep i q pc l2 (pre ++ r2) h2 = .ok (pc', l2, (2, (h2.2.1.length : Int)) :: r2, (fun b j => if b = h2.2.1.length then g j else h2.1 b j, h2.2.1 ++ [(kd, n)], h2.2.2.1 + 1, h2.2.2.2 + n)) := by
  have hr0 : ∀ kd : Nat, 13 ≤ kd ∧ kd < 110 → ∀ j, isR kd j = true → (0 : Int) < 0 := fun kd hk j hj => by rw [isR_n hk] at hj; cases hj
  have hp0 : ∀ n : Int, ∀ v ∈ [((0 : Nat), n)], v.1 = 0 := fun n v hv => by rw [List.mem_singleton] at hv; rw [hv]
  unfold mst at e
  split at e
  · cases e; exact absurd rfl hne
  · cases e; exact absurd rfl hne
  · cases e; exact absurd rfl hne
  · split at e <;> cases e
    exact absurd rfl hne
  · split at e <;> cases e
    exact absurd rfl hne
  · split at e
    · split at e <;> cases e
      exact absurd rfl hne
    · cases e
  · split at e
    · split at e <;> cases e
      exact absurd rfl hne
    · cases e
  · split at e
    · split at e <;> cases e
      exact absurd rfl hne
    · cases e
  · split at e
    · split at e <;> cases e
      exact absurd rfl hne
    · cases e
  · split at e <;> cases e
    exact absurd rfl hne
  · split at e
    · next y x r =>
      by_cases c : x < y
      · rw [if_pos c] at e; cases e; exact absurd rfl hne
      · rw [if_neg c] at e
        split at e <;> cases e
        exact absurd rfl hne
    · cases e
  · split at e <;> cases e
    exact absurd rfl hne
  · split at e
    · split at e
      · split at e
        · split at e <;> cases e
          exact absurd rfl hne
        · cases e
      · cases e
    · cases e
  · split at e
    · split at e
      · split at e <;> cases e
        exact absurd rfl hne
      · cases e
    · cases e
  · split at e
    · split at e <;> cases e
      exact absurd rfl hne
    · cases e
  · split at e
    · split at e <;> cases e
      exact absurd rfl hne
    · cases e
  · split at e
    · next n r =>
      by_cases c : 0 ≤ n ∧ n < 100000
      · rw [if_pos c] at e
        split at e
        · cases e
          refine ⟨[(0, n)], r, 100, n.toNat, fun _ => 0, rfl, hp0 n, rfl, rfl, rfl, fun F => rfl, hr0 100 (by decide), fun l2 r2 h2 => ?_⟩
          show (if 0 ≤ n ∧ n < 100000 then _ else m_ko) = _
          rw [if_pos c]
          rfl
        · cases e
          refine ⟨[(0, n)], r, 101, n.toNat, fun _ => 0, rfl, hp0 n, rfl, rfl, rfl, fun F => rfl, hr0 101 (by decide), fun l2 r2 h2 => ?_⟩
          show (if 0 ≤ n ∧ n < 100000 then _ else m_ko) = _
          rw [if_pos c]
          rfl
        · cases e
          refine ⟨[(0, n)], r, 102, n.toNat, fun _ => 0, rfl, hp0 n, rfl, rfl, rfl, fun F => rfl, hr0 102 (by decide), fun l2 r2 h2 => ?_⟩
          show (if 0 ≤ n ∧ n < 100000 then _ else m_ko) = _
          rw [if_pos c]
          rfl
        · cases e
          refine ⟨[(0, n)], r, 103, n.toNat, fun _ => 0, rfl, hp0 n, rfl, rfl, rfl, fun F => rfl, hr0 103 (by decide), fun l2 r2 h2 => ?_⟩
          show (if 0 ≤ n ∧ n < 100000 then _ else m_ko) = _
          rw [if_pos c]
          rfl
        · cases e
      · rw [if_neg c] at e; cases e
    · cases e
  · split at e
    · next n r =>
      by_cases c : (0 ≤ n ∧ n < 100000) ∧ q.1 < 40
      · rw [if_pos c] at e
        cases e
        refine ⟨[(0, n)], r, 110 + q.1, n.toNat, fun _ => -1, rfl, hp0 n, rfl, rfl, rfl, fun F => rfl, fun j _ => (by decide : (-1 : Int) < 0), fun l2 r2 h2 => ?_⟩
        show (if q.1 < 40 then m_mkarr (110 + q.1) (-1) (pc + 3) l2 ((0, n) :: r2) _ else m_ko) = _
        rw [if_pos c.2]
        show (if 0 ≤ n ∧ n < 100000 then _ else m_ko) = _
        rw [if_pos c.1]
        rfl
      · rw [if_neg c] at e; cases e
    · cases e
  · by_cases c : q.1 < 50
    · rw [if_pos c] at e
      cases e
      refine ⟨[], st, q.1, q.2.1, fun j => m_dfl (m_fty q.1 j), rfl, fun v hv => absurd hv List.not_mem_nil, rfl, rfl, rfl, fun F => rfl, fun j hj => ?_, fun l2 r2 h2 => ?_⟩
      · have h4 : m_fty q.1 j = 4 := by
          unfold isR at hj
          by_cases c13 : q.1 < 13
          · rw [if_pos c13] at hj
            exact eq_of_beq hj
          · rw [if_neg c13] at hj
            have := of_decide_eq_true hj
            omega
        show m_dfl (m_fty q.1 j) < 0
        rw [h4]
        decide
      · show (if q.1 < 50 then _ else _) = _
        rw [if_pos c]
        rfl
    · rw [if_neg c] at e; cases e
  · split at e
    · split at e
      · split at e <;> cases e
        exact absurd rfl hne
      · cases e
    · cases e
  · cases e
/-- what stands in the world: the things of the run lie behind those of P -/
def Wo (P : MK) (h : LHp) (F F2 : MF) : Prop := HR (fun a => a < h.2.1.length) (fun a => P.length + a) h.2.1 (P ++ h.2.1) (apU h.1 F) F2
section Moc2
variable {i : Instr} {q : LK} {pc pc' : Nat} {ls ls' : ML} {st st' : List MV} {h h' : LHp} {F F2 : MF} {P : MK} {c2 s2 : Nat}
abbrev sP (P : MK) : Nat → Nat := fun a => P.length + a
abbrev dP (h : LHp) : Nat → Prop := fun a => a < h.2.1.length
theorem gl_dP {a b : Nat} (hab : a ≤ b) (hl : gl (fun x => x < a) ls) : gl (fun x => x < b) ls := fun v hv h1 h2 => Nat.lt_of_lt_of_le (hl v hv h1 h2) hab
theorem gs_dP {a b : Nat} (hab : a ≤ b) (hl : gs (fun x => x < a) st) : gs (fun x => x < b) st := fun v hv h1 h2 => Nat.lt_of_lt_of_le (hl v hv h1 h2) hab
theorem vm_nat {σ : Nat → Nat} {b : Nat} : vm σ (2, ((b : Nat) : Int)) = (2, ((σ b : Nat) : Int)) := by
  unfold vm
  rw [if_pos ⟨rfl, by show (0 : Int) ≤ ((b : Nat) : Int); omega⟩]
  show ((2 : Nat), ((σ ((b : Nat) : Int).toNat : Nat) : Int)) = _
  rw [Int.toNat_natCast]
theorem mp_pre {σ : Nat → Nat} : ∀ {pre : List MV}, (∀ v ∈ pre, v.1 = 0) → pre.map (vm σ) = pre
  | [], _ => rfl
  | v :: pre, hv => by
    rw [List.map_cons, mp_pre (fun w hw => hv w (List.mem_cons_of_mem _ hw))]
    have h1 : v.1 = 0 := hv v List.mem_cons_self
    have h2 : vm σ v = v := by
      unfold vm
      rw [if_neg (fun h => by rw [h1] at h; cases h.1)]
    rw [h2]
/-- one step in the world -/
theorem mst_w (e : mst i q pc ls st h = some (pc', ls', st', h')) (hW : Wo P h F F2) (hl : gl (dP h) ls) (hs : gs (dP h) st) (hn : P.length + h'.2.1.length ≤ 1000000) :
    ∃ F3, mstep i q pc (lm (sP P) ls) (st.map (vm (sP P))) (F2, P ++ h.2.1, c2, s2) = .ok (pc', lm (sP P) ls', st'.map (vm (sP P)), (F3, P ++ h'.2.1, c2 + (h'.2.2.1 - h.2.2.1), s2 + (h'.2.2.2 - h.2.2.2))) ∧ h.2.2.1 ≤ h'.2.2.1 ∧ h.2.2.2 ≤ h'.2.2.2 ∧
      Wo P h' F F3 ∧ gl (dP h') ls' ∧ gs (dP h') st' ∧ (∀ b, b < P.length → F3 b = F2 b) := by
  by_cases hne : h'.2.1.length = h.2.1.length
  · have hm : mstep i q pc ls st (apU h.1 F, h.2.1, h.2.2.1, h.2.2.2) = .ok (pc', ls', st', (apU h'.1 F, h'.2.1, h'.2.2.1, h'.2.2.2)) := mst_ok (F := F) e
    obtain ⟨e1, e2, e3, F3, b1, b2, b3, b4, b5⟩ := (rk_step (q := q) (pc := pc) (c := h.2.2.1) (s := h.2.2.2) (c2 := c2) (s2 := s2) hW hl hs i).1 _ _ _ _ _ _ _ hm hne
    refine ⟨F3, ?_, by omega, by omega, ?_, ?_, ?_, fun b hb => b5 b (fun a _ => by show P.length + a ≠ b; omega)⟩
    · rw [b1, e1, e2, e3, Nat.sub_self, Nat.sub_self]
      rfl
    · unfold Wo
      rw [e1]
      exact b2
    · show gl (fun a => a < h'.2.1.length) ls'
      rw [hne]
      exact b3
    · show gs (fun a => a < h'.2.1.length) st'
      rw [hne]
      exact b4
  · obtain ⟨pre, r, kd, n, g, rfl, a2, rfl, rfl, a5, a6, a7, a8⟩ := al_mst e hne
    have e1 : h'.2.1 = h.2.1 ++ [(kd, n)] := by rw [a5]
    have e2 : h'.2.2.1 = h.2.2.1 + 1 := by rw [a5]
    have e3 : h'.2.2.2 = h.2.2.2 + n := by rw [a5]
    have hlen : h'.2.1.length = h.2.1.length + 1 := by rw [e1, List.length_append]; rfl
    have hr : gs (dP h) r := fun v hv => hs v (List.mem_append_right _ hv)
    refine ⟨fun b j => if b = (P ++ h.2.1).length then g j else F2 b j, ?_, by omega, by omega, ?_, gl_dP (by omega) hl, gs_c.mpr ⟨fun _ _ => ?_, gs_dP (by omega) hr⟩, fun b hb => ?_⟩
    · rw [List.map_append, mp_pre a2, a8, List.map_cons, vm_nat, e1, e2, e3, List.append_assoc, Nat.add_sub_cancel_left, Nat.add_sub_cancel_left, List.length_append]
    · obtain ⟨h1, h2, h3, h4, h5, h6⟩ := hW
      unfold Wo
      rw [a6, e1]
      have hPl : (P ++ h.2.1).length = P.length + h.2.1.length := List.length_append
      refine ⟨fun a b _ _ hab => Nat.add_left_cancel hab, fun a ha => ?_, ?_, ?_, by rw [List.length_append, List.length_singleton]; omega, by rw [List.length_append, List.length_append, List.length_singleton]; omega⟩
      · have ha : a < h.2.1.length + 1 := by rw [List.length_append, List.length_singleton] at ha; exact ha
        by_cases hc : a < h.2.1.length
        · obtain ⟨k, k1, k2, k3⟩ := h2 a hc
          refine ⟨k, by rw [List.getElem?_append_left hc]; exact k1, ?_, fun j hj => ?_⟩
          · rw [← List.append_assoc, List.getElem?_append_left (by show P.length + a < _; omega)]
            exact k2
          · obtain ⟨k4, k5⟩ := k3 j hj
            show (if P.length + a = (P ++ h.2.1).length then g j else F2 (P.length + a) j) = xm _ _ (if a = h.2.1.length then g j else apU h.1 F a j) ∧ (_ → 0 ≤ (if a = h.2.1.length then g j else apU h.1 F a j) → (if a = h.2.1.length then g j else apU h.1 F a j).toNat < _)
            rw [if_neg (by omega), if_neg (by omega)]
            refine ⟨k4, fun j1 j2 => ?_⟩
            rw [List.length_append, List.length_singleton]
            exact Nat.lt_succ_of_lt (k5 j1 j2)
        · have hae : a = h.2.1.length := by omega
          subst hae
          refine ⟨(kd, n), by rw [List.getElem?_append_right (Nat.le_refl _), Nat.sub_self]; rfl, ?_, fun j hj => ?_⟩
          · rw [← List.append_assoc, List.getElem?_append_right (by show _ ≤ P.length + _; omega)]
            show ([(kd, n)] : MK)[P.length + h.2.1.length - (P ++ h.2.1).length]? = _
            rw [hPl, Nat.sub_self]
            rfl
          · show (if P.length + h.2.1.length = (P ++ h.2.1).length then g j else F2 (P.length + h.2.1.length) j) = xm _ _ (if h.2.1.length = h.2.1.length then g j else apU h.1 F h.2.1.length j) ∧ (_ → 0 ≤ (if h.2.1.length = h.2.1.length then g j else apU h.1 F h.2.1.length j) → (if h.2.1.length = h.2.1.length then g j else apU h.1 F h.2.1.length j).toNat < _)
            rw [if_pos hPl.symm, if_pos rfl]
            refine ⟨?_, fun j1 j2 => absurd j2 (Int.not_le.mpr (a7 j j1))⟩
            unfold xm
            rw [if_neg (fun h => absurd h.2 (Int.not_le.mpr (a7 j h.1)))]
      · funext j
        show (if 1000000 = (P ++ h.2.1).length then g j else F2 1000000 j) = (if 1000000 = h.2.1.length then g j else apU h.1 F 1000000 j)
        rw [if_neg (by omega), if_neg (by omega), h3]
      · funext j
        show (if 1000001 = (P ++ h.2.1).length then g j else F2 1000001 j) = (if 1000001 = h.2.1.length then g j else apU h.1 F 1000001 j)
        rw [if_neg (by omega), if_neg (by omega), h4]
    · show ((h.2.1.length : Int)).toNat < h'.2.1.length
      omega
    · funext j
      show (if b = (P ++ h.2.1).length then g j else F2 b j) = F2 b j
      rw [if_neg (by rw [List.length_append]; omega)]
end Moc2
theorem mct_dep : ∀ (f d M pc : Nat) (ls : ML) (st : List MV) (h h' : LHp), mct f d M pc ls st h = some h' → mct f (d + 1) M pc ls st h = some h' := by
  intro f
  induction f with
  | zero => intro d M pc ls st h h' e; cases e
  | succ f ih =>
    intro d M pc ls st h h' e
    unfold mct at e ⊢
    split at e
    · exact e
    · next z q ht =>
      by_cases c9 : q.2.2.2 = 9
      · rw [if_pos c9] at e ⊢
        split at e
        · exact ih _ _ _ _ _ _ _ e
        · cases e
      · rw [if_neg c9] at e ⊢
        by_cases c : (q.2.2.2 = 4 ∨ q.2.2.2 = 5) ∧ m_recv ((fun _ _ => 0), h.2) (m_own q.1) q.2.1 st = true ∧ q.2.1 ≤ st.length ∧ m_cats (st.drop q.2.1) ≤ 8 ∧ m_cats (st.take q.2.1) ≤ m_mls.getD q.1 0
        · rw [if_pos c] at e ⊢
          cases d with
          | zero => cases e
          | succ d =>
            dsimp only at e ⊢
            split at e
            · next h2 hm =>
              rw [ih _ _ _ _ _ _ _ hm]
              exact ih _ _ _ _ _ _ _ e
            · cases e
        · rw [if_neg c] at e; cases e
    · split at e
      · exact ih _ _ _ _ _ _ _ e
      · cases e
    · cases e
theorem mst_len {i : Instr} {q : LK} {pc pc' : Nat} {ls ls' : ML} {st st' : List MV} {h h' : LHp} (e : mst i q pc ls st h = some (pc', ls', st', h')) : h.2.1.length ≤ h'.2.1.length ∧ h.2.2.1 ≤ h'.2.2.1 ∧ h.2.2.2 ≤ h'.2.2.2 := by
  by_cases hne : h'.2.1.length = h.2.1.length
  · have a1 := m_fr_step (mst_ok (F := fun _ _ => 0) e)
    exact ⟨by omega, a1.2.1, a1.2.2.1⟩
  · obtain ⟨pre, r, kd, n, g, rfl, a2, rfl, rfl, a5, a6, a7, a8⟩ := al_mst e hne
    rw [a5]
    exact ⟨by rw [List.length_append]; omega, Nat.le_succ _, Nat.le_add_right _ _⟩
theorem mct_len : ∀ (f d M pc : Nat) (ls : ML) (st : List MV) (h h' : LHp), mct f d M pc ls st h = some h' → h.2.1.length ≤ h'.2.1.length ∧ h.2.2.1 ≤ h'.2.2.1 ∧ h.2.2.2 ≤ h'.2.2.2 := by
  intro f d M pc ls st h h' e
  have a := m_fr_mx _ _ _ _ _ _ _ _ _ (mct_mx (F := fun _ _ => 0) f d M pc ls st h h' e)
  exact ⟨a.1, a.2.1, a.2.2.1⟩
/-- a constructor in the world -/
theorem mct_w {F : MF} {P : MK} : ∀ (f d M pc : Nat) (ls : ML) (st : List MV) (h h' : LHp), mct f d M pc ls st h = some h' → P.length + h'.2.1.length ≤ 1000000 → ∀ (F2 : MF) (c2 s2 : Nat), Wo P h F F2 → gl (dP h) ls → gs (dP h) st →
    ∃ F3, mx f d M pc (lm (sP P) ls) (st.map (vm (sP P))) (F2, P ++ h.2.1, c2, s2) = some ((0, []), (F3, P ++ h'.2.1, c2 + (h'.2.2.1 - h.2.2.1), s2 + (h'.2.2.2 - h.2.2.2))) ∧ Wo P h' F F3 ∧ (∀ b, b < P.length → F3 b = F2 b) := by
  intro f
  induction f with
  | zero => intro d M pc ls st h h' e; cases e
  | succ f ih =>
    intro d M pc ls st h h' e hn F2 c2 s2 hW hl hs
    have e0 := e
    unfold mct at e
    split at e
    · next q ht =>
      by_cases c : st = []
      · rw [if_pos c] at e
        cases e
        subst c
        refine ⟨F2, ?_, hW, fun _ _ => rfl⟩
        rw [Nat.sub_self, Nat.sub_self]
        simp only [mx, ht, List.map_nil, mstep]
        rfl
      · rw [if_neg c] at e; cases e
    · next z q ht =>
      by_cases c9 : q.2.2.2 = 9
      · rw [if_pos c9] at e
        split at e
        · next pc' ls' st' h2 hm =>
          have a1 := mst_len hm
          have a2 := mct_len _ _ _ _ _ _ _ _ e
          obtain ⟨F3, b1, b2, b3, b4, b5, b6, b7⟩ := mst_w (c2 := c2) (s2 := s2) hm hW hl hs (by omega)
          obtain ⟨F4, d1, d2, d3⟩ := ih d M pc' ls' st' h2 h' e hn F3 (c2 + (h2.2.2.1 - h.2.2.1)) (s2 + (h2.2.2.2 - h.2.2.2)) b4 b5 b6
          refine ⟨F4, ?_, d2, fun b hb => (d3 b hb).trans (b7 b hb)⟩
          simp only [mx, ht, b1]
          rw [show c2 + (h'.2.2.1 - h.2.2.1) = c2 + (h2.2.2.1 - h.2.2.1) + (h'.2.2.1 - h2.2.2.1) by omega, show s2 + (h'.2.2.2 - h.2.2.2) = s2 + (h2.2.2.2 - h.2.2.2) + (h'.2.2.2 - h2.2.2.2) by omega]
          exact d1
        · cases e
      · rw [if_neg c9] at e
        by_cases c : (q.2.2.2 = 4 ∨ q.2.2.2 = 5) ∧ m_recv ((fun _ _ => 0), h.2) (m_own q.1) q.2.1 st = true ∧ q.2.1 ≤ st.length ∧ m_cats (st.drop q.2.1) ≤ 8 ∧ m_cats (st.take q.2.1) ≤ m_mls.getD q.1 0
        · rw [if_pos c] at e
          obtain ⟨k1, k2, k3, k4, k5⟩ := c
          have hst : mstep (.invokespecial z) q pc ls st (apU h.1 F, h.2.1, 0, 0) = .error (1, q.1, (st.take q.2.1).reverse, st.drop q.2.1) := by
            show (if q.2.2.2 = 9 then _ else if q.2.2.2 = 4 ∨ q.2.2.2 = 5 then (if m_recv (apU h.1 F, h.2.1, 0, 0) (m_own q.1) q.2.1 st = true then m_call q.1 q.2.1 st else m_ko) else m_ko) = _
            rw [if_neg c9, if_pos k1, if_pos (show m_recv (apU h.1 F, h.2.1, 0, 0) (m_own q.1) q.2.1 st = true from k2)]
            unfold m_call
            rw [if_pos ⟨k3, k4, k5⟩]
          obtain ⟨j1, j2, j3⟩ := (rk_step (q := q) (pc := pc) (c := 0) (s := 0) (c2 := c2) (s2 := s2) hW hl hs (.invokespecial z)).2 _ _ _ _ hst (by decide)
          cases d with
          | zero => cases e
          | succ d =>
            dsimp only at e
            split at e
            · next h2 hm =>
              have a1 := mct_len _ _ _ _ _ _ _ _ hm
              have a2 := mct_len _ _ _ _ _ _ _ _ e
              obtain ⟨F3, b1, b2, b3⟩ := ih d q.1 0 _ [] h h2 hm (by omega) F2 c2 s2 hW (gl_ini j2) gs_nil
              rw [lm_ini] at b1
              obtain ⟨F4, d1, d2, d3⟩ := ih (d + 1) M (pc + 3) ls (st.drop q.2.1) h2 h' e hn F3 (c2 + (h2.2.2.1 - h.2.2.1)) (s2 + (h2.2.2.2 - h.2.2.2)) b2 (gl_dP a1.1 hl) (gs_dP a1.1 j3)
              refine ⟨F4, ?_, d2, fun b hb => (d3 b hb).trans (b3 b hb)⟩
              have b1 : mx f d q.1 0 (m_ini (m_mls.getD q.1 0) ((st.take q.2.1).reverse.map (vm (sP P)))) [] (F2, P ++ h.2.1, c2, s2) = _ := b1
              have j1 : mstep (.invokespecial z) q pc (lm (sP P) ls) (st.map (vm (sP P))) (F2, P ++ h.2.1, c2, s2) = _ := j1
              simp only [mx, ht, j1, b1]
              rw [show c2 + (h'.2.2.1 - h.2.2.1) = c2 + (h2.2.2.1 - h.2.2.1) + (h'.2.2.1 - h2.2.2.1) by omega, show s2 + (h'.2.2.2 - h.2.2.2) = s2 + (h2.2.2.2 - h.2.2.2) + (h'.2.2.2 - h2.2.2.2) by omega]
              exact d1
            · cases e
        · rw [if_neg c] at e; cases e
    · next i q hn1 hn2 ht =>
      split at e
      · next pc' ls' st' h2 hm =>
        have a1 := mst_len hm
        have a2 := mct_len _ _ _ _ _ _ _ _ e
        obtain ⟨F3, b1, b2, b3, b4, b5, b6, b7⟩ := mst_w (c2 := c2) (s2 := s2) hm hW hl hs (by omega)
        obtain ⟨F4, d1, d2, d3⟩ := ih d M pc' ls' st' h2 h' e hn F3 (c2 + (h2.2.2.1 - h.2.2.1)) (s2 + (h2.2.2.2 - h.2.2.2)) b4 b5 b6
        refine ⟨F4, ?_, d2, fun b hb => (d3 b hb).trans (b7 b hb)⟩
        simp only [mx, ht, b1]
        rw [show c2 + (h'.2.2.1 - h.2.2.1) = c2 + (h2.2.2.1 - h.2.2.1) + (h'.2.2.1 - h2.2.2.1) by omega, show s2 + (h'.2.2.2 - h.2.2.2) = s2 + (h2.2.2.2 - h.2.2.2) + (h'.2.2.2 - h2.2.2.2) by omega]
        exact d1
      · cases e
    · cases e
/-- all changes, the newest first -/
def m_U0 : List UP := [(0, 0, 7, 200), (1, 200, 0, 0), (0, 0, 6, 109), (0, 109, 14, 199), (1, 199, 0, 0), (0, 109, 12, 198), (1, 198, 0, 0), (0, 109, 11, 197), (1, 197, 0, 0), (0, 109, 10, 196), (1, 196, 0, 0), (0, 109, 9, 195), (1, 195, 0, 0), (0, 109, 6, 194), (1, 194, 0, 0), (0, 109, 5, 193), (1, 193, 0, 0), (0, 109, 4, 192), (1, 192, 0, 0), (0, 109, 3, 191), (1, 191, 0, 0), (0, 109, 2, 190), (1, 190, 0, 0), (0, 109, 1, 189), (1, 189, 0, 0), (0, 109, 0, 110), (0, 110, 4, 178), (0, 178, 3, 130), (0, 178, 13, 188), (1, 188, 0, 0), (0, 178, 12, 187), (1, 187, 0, 0), (0, 178, 11, 186), (1, 186, 0, 0), (0, 178, 10, 185), (1, 185, 0, 0), (0, 178, 9, 184), (1, 184, 0, 0), (0, 178, 8, 183), (1, 183, 0, 0), (0, 178, 7, 182), (1, 182, 0, 0), (0, 178, 5, 181), (1, 181, 0, 0), (0, 178, 4, 180), (1, 180, 0, 0), (0, 178, 0, 179), (1, 179, 0, 0), (2, 178, 4, 0), (0, 116, 2, 168), (0, 168, 11, 177), (1, 177, 0, 0), (0, 168, 9, 176), (1, 176, 0, 0), (0, 168, 8, 175), (1, 175, 0, 0), (0, 168, 7, 174), (1, 174, 0, 0), (0, 168, 6, 173), (1, 173, 0, 0), (0, 168, 4, 172), (1, 172, 0, 0), (0, 168, 3, 171), (1, 171, 0, 0), (0, 168, 2, 170), (1, 170, 0, 0), (0, 168, 0, 169), (1, 169, 0, 0), (2, 168, 9, 0), (0, 115, 2, 159), (0, 159, 7, 167), (1, 167, 0, 0), (0, 159, 6, 166), (1, 166, 0, 0), (0, 159, 5, 165), (1, 165, 0, 0), (0, 159, 4, 164), (1, 164, 0, 0), (0, 159, 3, 163), (1, 163, 0, 0), (0, 159, 2, 162), (1, 162, 0, 0), (0, 159, 1, 161), (1, 161, 0, 0), (0, 159, 0, 160), (1, 160, 0, 0), (2, 159, 8, 0), (0, 116, 1, 149), (0, 149, 11, 158), (1, 158, 0, 0), (0, 149, 9, 157), (1, 157, 0, 0), (0, 149, 8, 156), (1, 156, 0, 0), (0, 149, 7, 155), (1, 155, 0, 0), (0, 149, 6, 154), (1, 154, 0, 0), (0, 149, 4, 153), (1, 153, 0, 0), (0, 149, 3, 152), (1, 152, 0, 0), (0, 149, 2, 151), (1, 151, 0, 0), (0, 149, 0, 150), (1, 150, 0, 0), (2, 149, 9, 0), (0, 115, 1, 140), (0, 140, 7, 148), (1, 148, 0, 0), (0, 140, 6, 147), (1, 147, 0, 0), (0, 140, 5, 146), (1, 146, 0, 0), (0, 140, 4, 145), (1, 145, 0, 0), (0, 140, 3, 144), (1, 144, 0, 0), (0, 140, 2, 143), (1, 143, 0, 0), (0, 140, 1, 142), (1, 142, 0, 0), (0, 140, 0, 141), (1, 141, 0, 0), (2, 140, 8, 0), (0, 116, 0, 130), (0, 130, 11, 139), (1, 139, 0, 0), (0, 130, 9, 138), (1, 138, 0, 0), (0, 130, 8, 137), (1, 137, 0, 0), (0, 130, 7, 136), (1, 136, 0, 0), (0, 130, 6, 135), (1, 135, 0, 0), (0, 130, 4, 134), (1, 134, 0, 0), (0, 130, 3, 133), (1, 133, 0, 0), (0, 130, 2, 132), (1, 132, 0, 0), (0, 130, 0, 131), (1, 131, 0, 0), (2, 130, 9, 0), (0, 115, 0, 121), (0, 121, 7, 129), (1, 129, 0, 0), (0, 121, 6, 128), (1, 128, 0, 0), (0, 121, 5, 127), (1, 127, 0, 0), (0, 121, 4, 126), (1, 126, 0, 0), (0, 121, 3, 125), (1, 125, 0, 0), (0, 121, 2, 124), (1, 124, 0, 0), (0, 121, 1, 123), (1, 123, 0, 0), (0, 121, 0, 122), (1, 122, 0, 0), (2, 121, 8, 0), (0, 110, 6, 1), (0, 110, 5, 118), (0, 118, 1, 120), (1, 120, 0, 0), (0, 118, 0, 119), (1, 119, 0, 0), (2, 118, 7, 0), (0, 110, 3, 117), (1, 117, 0, 0), (0, 110, 2, 116), (1, 116, 0, -1), (0, 110, 1, 115), (1, 115, 0, -1), (0, 110, 0, 111), (0, 111, 2, 114), (1, 114, 0, 0), (0, 111, 1, 113), (1, 113, 0, 0), (0, 111, 0, 112), (1, 112, 0, 0), (2, 111, 2, 0), (2, 110, 1, 0), (2, 109, 3, 0), (0, 0, 5, 96), (0, 96, 2, 108), (1, 108, 0, 0), (0, 96, 1, 98), (0, 98, 11, 107), (1, 107, 0, 0), (0, 98, 9, 106), (1, 106, 0, 0), (0, 98, 8, 105), (1, 105, 0, 0), (0, 98, 7, 104), (1, 104, 0, 0), (0, 98, 6, 103), (1, 103, 0, 0), (0, 98, 4, 102), (1, 102, 0, 0), (0, 98, 3, 101), (1, 101, 0, 0), (0, 98, 2, 100), (1, 100, 0, 0), (0, 98, 0, 99), (1, 99, 0, 0), (2, 98, 9, 0), (0, 96, 0, 97), (1, 97, 0, 0), (2, 96, 0, 0), (0, 0, 4, 91), (0, 91, 3, 95), (1, 95, 0, 0), (0, 91, 2, 94), (1, 94, 0, 0), (0, 91, 1, 93), (1, 93, 0, 0), (0, 91, 0, 92), (1, 92, 0, 0), (2, 91, 6, 0), (0, 0, 3, 89), (0, 89, 0, 90), (1, 90, 0, 0), (2, 89, 5, 0), (0, 0, 2, 84), (0, 84, 4, 88), (1, 88, 0, 0), (0, 84, 2, 87), (1, 87, 0, 0), (0, 84, 1, 86), (1, 86, 0, 0), (0, 84, 0, 85), (1, 85, 0, 0), (2, 84, 10, 0), (0, 0, 1, 80), (0, 80, 2, 83), (1, 83, 0, 0), (0, 80, 1, 82), (1, 82, 0, 0), (0, 80, 0, 81), (1, 81, 0, 0), (2, 80, 2, 0), (0, 0, 0, 1), (0, 1, 4, 69), (0, 69, 3, 21), (0, 69, 13, 79), (1, 79, 0, 0), (0, 69, 12, 78), (1, 78, 0, 0), (0, 69, 11, 77), (1, 77, 0, 0), (0, 69, 10, 76), (1, 76, 0, 0), (0, 69, 9, 75), (1, 75, 0, 0), (0, 69, 8, 74), (1, 74, 0, 0), (0, 69, 7, 73), (1, 73, 0, 0), (0, 69, 5, 72), (1, 72, 0, 0), (0, 69, 4, 71), (1, 71, 0, 0), (0, 69, 0, 70), (1, 70, 0, 0), (2, 69, 4, 0), (0, 7, 2, 59), (0, 59, 11, 68), (1, 68, 0, 0), (0, 59, 9, 67), (1, 67, 0, 0), (0, 59, 8, 66), (1, 66, 0, 0), (0, 59, 7, 65), (1, 65, 0, 0), (0, 59, 6, 64), (1, 64, 0, 0), (0, 59, 4, 63), (1, 63, 0, 0), (0, 59, 3, 62), (1, 62, 0, 0), (0, 59, 2, 61), (1, 61, 0, 0), (0, 59, 0, 60), (1, 60, 0, 0), (2, 59, 9, 0), (0, 6, 2, 50), (0, 50, 7, 58), (1, 58, 0, 0), (0, 50, 6, 57), (1, 57, 0, 0), (0, 50, 5, 56), (1, 56, 0, 0), (0, 50, 4, 55), (1, 55, 0, 0), (0, 50, 3, 54), (1, 54, 0, 0), (0, 50, 2, 53), (1, 53, 0, 0), (0, 50, 1, 52), (1, 52, 0, 0), (0, 50, 0, 51), (1, 51, 0, 0), (2, 50, 8, 0), (0, 7, 1, 40), (0, 40, 11, 49), (1, 49, 0, 0), (0, 40, 9, 48), (1, 48, 0, 0), (0, 40, 8, 47), (1, 47, 0, 0), (0, 40, 7, 46), (1, 46, 0, 0), (0, 40, 6, 45), (1, 45, 0, 0), (0, 40, 4, 44), (1, 44, 0, 0), (0, 40, 3, 43), (1, 43, 0, 0), (0, 40, 2, 42), (1, 42, 0, 0), (0, 40, 0, 41), (1, 41, 0, 0), (2, 40, 9, 0), (0, 6, 1, 31), (0, 31, 7, 39), (1, 39, 0, 0), (0, 31, 6, 38), (1, 38, 0, 0), (0, 31, 5, 37), (1, 37, 0, 0), (0, 31, 4, 36), (1, 36, 0, 0), (0, 31, 3, 35), (1, 35, 0, 0), (0, 31, 2, 34), (1, 34, 0, 0), (0, 31, 1, 33), (1, 33, 0, 0), (0, 31, 0, 32), (1, 32, 0, 0), (2, 31, 8, 0), (0, 7, 0, 21), (0, 21, 11, 30), (1, 30, 0, 0), (0, 21, 9, 29), (1, 29, 0, 0), (0, 21, 8, 28), (1, 28, 0, 0), (0, 21, 7, 27), (1, 27, 0, 0), (0, 21, 6, 26), (1, 26, 0, 0), (0, 21, 4, 25), (1, 25, 0, 0), (0, 21, 3, 24), (1, 24, 0, 0), (0, 21, 2, 23), (1, 23, 0, 0), (0, 21, 0, 22), (1, 22, 0, 0), (2, 21, 9, 0), (0, 6, 0, 12), (0, 12, 7, 20), (1, 20, 0, 0), (0, 12, 6, 19), (1, 19, 0, 0), (0, 12, 5, 18), (1, 18, 0, 0), (0, 12, 4, 17), (1, 17, 0, 0), (0, 12, 3, 16), (1, 16, 0, 0), (0, 12, 2, 15), (1, 15, 0, 0), (0, 12, 1, 14), (1, 14, 0, 0), (0, 12, 0, 13), (1, 13, 0, 0), (2, 12, 8, 0), (0, 1, 6, 1), (0, 1, 5, 9), (0, 9, 1, 11), (1, 11, 0, 0), (0, 9, 0, 10), (1, 10, 0, 0), (2, 9, 7, 0), (0, 1, 3, 8), (1, 8, 0, 0), (0, 1, 2, 7), (1, 7, 0, -1), (0, 1, 1, 6), (1, 6, 0, -1), (0, 1, 0, 2), (0, 2, 2, 5), (1, 5, 0, 0), (0, 2, 1, 4), (1, 4, 0, 0), (0, 2, 0, 3), (1, 3, 0, 0), (2, 2, 2, 0), (2, 1, 1, 0), (2, 0, 11, 0)]
theorem m_ct0b : (match mct 3000 3 140 0 (m_ini (m_mls.getD 140 0) [(2, 0)]) [] ([(2, 0, 11, 0)], [(11, 10)], 1, 10) with
  | some (u, k, x, y) => decide (u = m_U0) && (decide (k = m_KD.take 201) && (decide (x = 201) && decide (y = 35593)))
  | none => false) = true := by decide +kernel
theorem m_ct0 : mct 3000 3 140 0 (m_ini (m_mls.getD 140 0) [(2, 0)]) [] ([(2, 0, 11, 0)], [(11, 10)], 1, 10) = some (m_U0, m_KD.take 201, 201, 35593) := by
  have h := m_ct0b
  revert h
  generalize mct 3000 3 140 0 (m_ini (m_mls.getD 140 0) [(2, 0)]) [] ([(2, 0, 11, 0)], [(11, 10)], 1, 10) = r
  intro h
  cases r with
  | none => cases h
  | some r =>
    obtain ⟨u, k, x, y⟩ := r
    simp only [Bool.and_eq_true, decide_eq_true_iff] at h
    obtain ⟨rfl, rfl, rfl, rfl⟩ := h
    rfl
theorem m_ct0d {d : Nat} : mct 3000 (3 + d) 140 0 (m_ini (m_mls.getD 140 0) [(2, 0)]) [] ([(2, 0, 11, 0)], [(11, 10)], 1, 10) = some (m_U0, m_KD.take 201, 201, 35593) := by
  induction d with
  | zero => exact m_ct0
  | succ d ih => exact mct_dep _ _ _ _ _ _ _ _ ih
abbrev D0 : Nat → Prop := fun a => a < 201
theorem gv_no {σ : Nat → Nat} {v : MV} (h : gv (fun _ => False) v) : vm σ v = v := by
  unfold vm
  rw [if_neg (fun e => h e.1 e.2)]
theorem lm_no {σ : Nat → Nat} {ls : ML} (h : gl (fun _ => False) ls) : lm σ ls = ls := by
  unfold lm
  have e : ∀ o ∈ ls, o.map (vm σ) = o := fun o ho => by
    cases o with
    | none => rfl
    | some v =>
      show some (vm σ v) = some v
      rw [gv_no (h v ho)]
  rw [List.map_congr_left e, List.map_id']
theorem st_no {σ : Nat → Nat} {st : List MV} (h : gs (fun _ => False) st) : st.map (vm σ) = st := by
  rw [List.map_congr_left (fun v hv => gv_no (h v hv)), List.map_id']
theorem U0_no : m_U0.all (fun u => decide (u.2.1 ≠ 1000000)) = true ∧ m_U0.all (fun u => decide (u.2.1 ≠ 1000001)) = true := by decide +kernel
theorem kt_201 : (m_KD.take 201).length = 201 := by decide +kernel
theorem kd_le : m_KD.length ≤ 1000000 := by decide +kernel
theorem kd_tk {a : Nat} {k : Nat × Nat} (ha : a < 201) (h : (m_KD.take 201)[a]? = some k) : m_KD[a]? = some k := by
  have h2 : ((m_KD.take 201) ++ (m_KD.drop 201))[a]? = some k := by
    rw [List.getElem?_append_left (by rw [kt_201]; exact ha)]
    exact h
  rw [List.take_append_drop] at h2
  exact h2
theorem new_w {P : MK} {F F2 : MF} (h3 : F2 1000000 = F 1000000) (h4 : F2 1000001 = F 1000001) (hn : P.length + 1 ≤ 1000000) : Wo P ([(2, 0, 11, 0)], [(11, 10)], 1, 10) F (fun b j => if b = P.length then m_dfl (m_fty 11 j) else F2 b j) := by
  refine ⟨fun a b _ _ hab => Nat.add_left_cancel hab, fun a ha => ?_, ?_, ?_, by show 1 ≤ 1000000; decide, by rw [List.length_append]; exact hn⟩
  · have ha : a < 1 := ha
    obtain rfl : a = 0 := by omega
    refine ⟨(11, 10), rfl, ?_, fun j hj => ?_⟩
    · show (P ++ [(11, 10)])[P.length + 0]? = _
      rw [Nat.add_zero, List.getElem?_append_right (Nat.le_refl _), Nat.sub_self]
      rfl
    · have h9 : isR 11 j = true → ¬ 0 ≤ m_dfl (m_fty 11 j) := fun h => by
        have h8 : m_fty 11 j = 4 := eq_of_beq h
        rw [h8]
        decide
      show (if P.length + 0 = P.length then m_dfl (m_fty 11 j) else F2 (P.length + 0) j) = xm _ _ (m_dfl (m_fty 11 j)) ∧ (isR 11 j = true → 0 ≤ m_dfl (m_fty 11 j) → _)
      rw [if_pos (Nat.add_zero _)]
      refine ⟨?_, fun x1 x2 => absurd x2 (h9 x1)⟩
      unfold xm
      rw [if_neg (fun h => h9 h.1 h.2)]
  · funext j
    show (if 1000000 = P.length then m_dfl (m_fty 11 j) else F2 1000000 j) = F 1000000 j
    rw [if_neg (by omega), h3]
  · funext j
    show (if 1000001 = P.length then m_dfl (m_fty 11 j) else F2 1000001 j) = F 1000001 j
    rw [if_neg (by omega), h4]
theorem sp_call {z N n pc : Nat} {ls : ML} {st xs r0 : List MV} {h : MH} {q : LK} (hr : m_recv h (m_own N) n st = true) (hc : m_call N n st = .error (1, N, xs, r0)) (hq : q.2.2.2 = 4) (h1 : q.1 = N) (h2 : q.2.1 = n) : mstep (.invokespecial z) q pc ls st h = .error (1, N, xs, r0) := by
  show (if q.2.2.2 = 9 then _ else if q.2.2.2 = 4 ∨ q.2.2.2 = 5 then (if m_recv h (m_own q.1) q.2.1 st = true then m_call q.1 q.2.1 st else m_ko) else m_ko) = _
  rw [if_neg (by omega), if_pos (Or.inl hq), h1, h2, if_pos hr, hc]
/-- a new object of the class, made where nothing of the picture stood -/
theorem wq_obj {M pc nc ns z1 z2 n3 n4 n5 : Nat} {ls : ML} {st : List MV} {F : MF} {q1 : LK} {r : List (Option (Instr × LK))}
    (hA : At M pc (some (.new z1, (11, 10, n3, n4)) :: none :: none :: some (.dup, q1) :: some (.invokespecial z2, (140, 1, n5, 4)) :: none :: none :: r))
    (hg : 3 < m_hg M) (hl : gl (fun _ => False) ls) (hs : gs (fun _ => False) st) (h8 : m_cats st ≤ 7)
    (K : At M (pc + 7) r → Wq D0 nc ns M (pc + 7) ls ((2, 0) :: st) (apU m_U0 F)) : Wq (fun _ => False) (nc + 201) (ns + 35593) M pc ls st F := by
  intro d hd σ K2 F2 c2 s2 hR hl' hs' hn
  rw [lm_no hl, st_no hs]
  obtain ⟨-, -, b3, b4, -, -⟩ := hR
  cases d with
  | zero => omega
  | succ d =>
    obtain ⟨F3, c1, c3, c4⟩ := mct_w (F := F) (P := K2) _ _ _ _ _ _ _ _ (m_ct0d (d := d - 3)) (by show K2.length + (m_KD.take 201).length ≤ 1000000; rw [kt_201]; omega) _ (c2 + 1) (s2 + 10) (new_w b3 b4 (by omega)) (gl_ini (gs_c.mpr ⟨fun _ _ => by show (0 : Int).toNat < 1; decide, gs_nil⟩)) gs_nil
    rw [lm_ini, show 3 + (d - 3) = d by omega] at c1
    have e0 : ([(2, 0)] : List MV).map (vm (sP K2)) = [(2, (K2.length : Int))] := by
      show [vm (sP K2) (2, ((0 : Nat) : Int))] = _
      rw [vm_nat]
      rfl
    rw [e0] at c1
    obtain ⟨e1, e2, e3, e4, e5, e6⟩ := c3
    have hR2 : HR D0 (sP K2) m_KD (K2 ++ m_KD.take 201) (apU m_U0 F) F3 := by
      refine ⟨fun a b _ _ hab => Nat.add_left_cancel hab, fun a ha => ?_, e3, e4, kd_le, e6⟩
      obtain ⟨k, k1, k2, k3⟩ := e2 a (by show a < (m_KD.take 201).length; rw [kt_201]; exact ha)
      refine ⟨k, kd_tk ha k1, k2, fun j hj => ?_⟩
      obtain ⟨k4, k5⟩ := k3 j hj
      refine ⟨k4, fun x1 x2 => ?_⟩
      have := k5 x1 x2
      rw [show ((m_U0, m_KD.take 201, 201, 35593) : LHp).2.1.length = 201 from kt_201] at this
      exact this
    obtain ⟨f2, X, F4, c5, s5, j1, j2, j3, j5, j6, j7⟩ := K hA.tl3.tl.tl3 (d + 1) hd (sP K2) (K2 ++ m_KD.take 201) F3 (c2 + 201) (s2 + 35593) hR2 (fun v hv h1 h2 => (hl v hv h1 h2).elim) (gs_c.mpr ⟨fun _ _ => by show (0 : Int).toNat < 201; decide, fun v hv h1 h2 => (hs v hv h1 h2).elim⟩) (by rw [List.length_append, kt_201]; omega)
    refine ⟨max 3000 f2 + 3, m_KD.take 201 ++ X, F4, c5, s5, ?_, j2.trans (ap_no _ U0_no.1), j3.trans (ap_no _ U0_no.2), by rw [List.length_append, kt_201]; omega, by omega, by omega⟩
    have w1 : mstep (.new z1) (11, 10, n3, n4) pc ls st (F2, K2, c2, s2) = .ok (pc + 3, ls, (2, (K2.length : Int)) :: st, ((fun b j => if b = K2.length then m_dfl (m_fty 11 j) else F2 b j), K2 ++ [(11, 10)], c2 + 1, s2 + 10)) := rfl
    have w2 : ∀ h : MH, mstep .dup q1 (pc + 3) ls ((2, (K2.length : Int)) :: st) h = .ok (pc + 3 + 1, ls, (2, (K2.length : Int)) :: (2, (K2.length : Int)) :: st, h) := fun h => rfl
    have w3 : mstep (.invokespecial z2) (140, 1, n5, 4) (pc + 3 + 1) ls ((2, (K2.length : Int)) :: (2, (K2.length : Int)) :: st) ((fun b j => if b = K2.length then m_dfl (m_fty 11 j) else F2 b j), K2 ++ [(11, 10)], c2 + 1, s2 + 10) = .error (1, 140, [(2, (K2.length : Int))], (2, (K2.length : Int)) :: st) := by
      refine sp_call (q := (140, 1, n5, 4)) ?_ ?_ rfl rfl rfl
      rotate_left
      · refine m_call_go (xs := [(2, (K2.length : Int))]) (r0 := (2, (K2.length : Int)) :: st) rfl rfl ?_ ml_140 ?_
        · refine Nat.ble_eq.mpr ?_
          show m_cat _ + m_cats st ≤ 8
          have : m_cat (2, (K2.length : Int)) = 1 := rfl
          omega
        · rfl
      · rw [ow_140]
        show ((m_kind ((fun b j => if b = K2.length then m_dfl (m_fty 11 j) else F2 b j), K2 ++ [(11, 10)], c2 + 1, s2 + 10) (K2.length : Int)).1 == 11) = true
        unfold m_kind
        rw [if_pos (by omega), Int.toNat_natCast]
        show ((((K2 ++ [(11, 10)] : MK)[K2.length]?.getD (999, 0)).1 == 11) : Bool) = true
        rw [List.getElem?_append_right (Nat.le_refl _), Nat.sub_self]
        rfl
    have w4 := mx_le (Nat.le_max_left 3000 f2) c1
    have w4 : mx (max 3000 f2) d 140 0 (m_ini (m_mls.getD 140 0) [(2, (K2.length : Int))]) [] ((fun b j => if b = K2.length then m_dfl (m_fty 11 j) else F2 b j), K2 ++ [(11, 10)], c2 + 1, s2 + 10) = some ((0, []), (F3, K2 ++ m_KD.take 201, c2 + 1 + (201 - 1), s2 + 10 + (35593 - 10))) := w4
    rw [show c2 + 1 + (201 - 1) = c2 + 201 by omega, show s2 + 10 + (35593 - 10) = s2 + 35593 by omega] at w4
    have e7 : ((2, 0) :: st : List MV).map (vm (sP K2)) = (2, (K2.length : Int)) :: st := by
      rw [List.map_cons, st_no hs]
      show vm (sP K2) (2, ((0 : Nat) : Int)) :: st = _
      rw [vm_nat]
      rfl
    rw [lm_no hl, e7, List.append_assoc] at j1
    simp only [mx, hA.hd, w1, hA.tl3.hd, w2, hA.tl3.tl.hd, w3, w4]
    exact mx_le (Nat.le_max_right 3000 f2) j1
