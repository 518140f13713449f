/-! THE EIGHT LINES: the law's cells stay within bounds -/
section Mrh
variable {e t r : Nat → Int} {a n k z j : Nat} {v x : Int}
/-- the four cells: tokens ahead of a; the parameter is x alone -/
def EB (e : Nat → Int) (a : Nat) : Prop := (3 ≤ e 0 ∧ e 0 < (a : Int)) ∧ (e 1 = -1 ∨ (3 < e 1 ∧ e 1 < (a : Int))) ∧ (3 ≤ e 2 ∧ e 2 < (a : Int)) ∧ (e 3 = -1 ∨ (3 < e 3 ∧ e 3 < (a : Int)))
theorem EB.wide {b : Nat} (h : EB e a) (hb : a ≤ b) : EB e b := by
  unfold EB at h ⊢
  omega
theorem eb_free (hk : frk k) (ha : 6 ≤ a) (h : EB e a) : EB (ene (k : Int) n (nmt (k : Int) (a : Int) e t r).1) (a + tkz k) := by
  have ly : ∀ m, 2 ≤ m → EB (vup e 1 ((a : Int) + 1)) (a + m) := fun m hm => by
    have e0 : vup e 1 ((a : Int) + 1) 0 = e 0 := rfl
    have e1 : vup e 1 ((a : Int) + 1) 1 = (a : Int) + 1 := rfl
    have e2 : vup e 1 ((a : Int) + 1) 2 = e 2 := rfl
    have e3 : vup e 1 ((a : Int) + 1) 3 = e 3 := rfl
    unfold EB at h ⊢
    rw [e0, e1, e2, e3]
    omega
  have lx : ∀ m, 2 ≤ m → EB (vup e 0 ((a : Int) + 1)) (a + m) := fun m hm => by
    have e0 : vup e 0 ((a : Int) + 1) 0 = (a : Int) + 1 := rfl
    have e1 : vup e 0 ((a : Int) + 1) 1 = e 1 := rfl
    have e2 : vup e 0 ((a : Int) + 1) 2 = e 2 := rfl
    have e3 : vup e 0 ((a : Int) + 1) 3 = e 3 := rfl
    unfold EB at h ⊢
    rw [e0, e1, e2, e3]
    omega
  rcases hk with rfl | rfl | rfl | rfl | rfl | rfl | rfl
  · exact ly 7 (by decide)
  · exact lx 5 (by decide)
  · exact h.wide (Nat.le_add_right _ _)
  · exact h.wide (Nat.le_add_right _ _)
  · exact h.wide (Nat.le_add_right _ _)
  · exact h.wide (Nat.le_add_right _ _)
  · exact ly 6 (by decide)
theorem eb_8 {w : Int} (h : EB e a) (hw : w = 8 ∨ w = 22) : EB (ene w n (nmt w (a : Int) e t r).1) a := by
  have key : EB (vup (vup e 2 (e 0)) 3 (e 1)) a := by
    have e0 : vup (vup e 2 (e 0)) 3 (e 1) 0 = e 0 := rfl
    have e1 : vup (vup e 2 (e 0)) 3 (e 1) 1 = e 1 := rfl
    have e2 : vup (vup e 2 (e 0)) 3 (e 1) 2 = e 0 := rfl
    have e3 : vup (vup e 2 (e 0)) 3 (e 1) 3 = e 1 := rfl
    unfold EB at h ⊢
    rw [e0, e1, e2, e3]
    omega
  rcases hw with rfl | rfl
  · exact key
  · exact key
theorem eb_9 (h : EB e a) : EB (ene 9 n (nmt 9 (a : Int) e t r).1) a := by
  show EB (vup (vup (vup (vup e 0 (e 2)) 1 (e 3)) 2 (vup (vup e 0 (e 2)) 1 (e 3) 0)) 3 (vup (vup e 0 (e 2)) 1 (e 3) 1)) a
  have e0 : vup (vup (vup (vup e 0 (e 2)) 1 (e 3)) 2 (vup (vup e 0 (e 2)) 1 (e 3) 0)) 3 (vup (vup e 0 (e 2)) 1 (e 3) 1) 0 = e 2 := rfl
  have e1 : vup (vup (vup (vup e 0 (e 2)) 1 (e 3)) 2 (vup (vup e 0 (e 2)) 1 (e 3) 0)) 3 (vup (vup e 0 (e 2)) 1 (e 3) 1) 1 = e 3 := rfl
  have e2 : vup (vup (vup (vup e 0 (e 2)) 1 (e 3)) 2 (vup (vup e 0 (e 2)) 1 (e 3) 0)) 3 (vup (vup e 0 (e 2)) 1 (e 3) 1) 2 = e 2 := rfl
  have e3 : vup (vup (vup (vup e 0 (e 2)) 1 (e 3)) 2 (vup (vup e 0 (e 2)) 1 (e 3) 0)) 3 (vup (vup e 0 (e 2)) 1 (e 3) 1) 3 = e 3 := rfl
  unfold EB at h ⊢
  rw [e0, e1, e2, e3]
  omega
theorem eb_3 (h : EB e a) : EB (ene 3 6 (nmt 3 (a : Int) e t r).1) a := by
  show EB (vup (vup e 0 (e 2)) 1 (e 3)) a
  have e0 : vup (vup e 0 (e 2)) 1 (e 3) 0 = e 2 := rfl
  have e1 : vup (vup e 0 (e 2)) 1 (e 3) 1 = e 3 := rfl
  have e2 : vup (vup e 0 (e 2)) 1 (e 3) 2 = e 2 := rfl
  have e3 : vup (vup e 0 (e 2)) 1 (e 3) 3 = e 3 := rfl
  unfold EB at h ⊢
  rw [e0, e1, e2, e3]
  omega
theorem fsz_1 : fsz z 1 = 6 := by
  show fsz z 0 + tkz (kdz z 0) = 6
  rw [kdn_0]
  rfl
theorem fsz_6 (hn : 1 ≤ n) : 6 ≤ fsz z n := by
  have := fsz_le2 (z := z) (n := 1) (m := n) hn
  rw [fsz_1] at this
  exact this
theorem eb_z : ∀ n, n < 7 → EB (nmS z n).1 (fsz z (n + 1))
  | 0, _ => by
    show EB (nmS z 0).1 (fsz z 1)
    rw [fsz_1]
    exact ⟨⟨show (3 : Int) ≤ 3 by decide, show (3 : Int) < ((6 : Nat) : Int) by decide⟩, Or.inl rfl, ⟨show (3 : Int) ≤ 3 by decide, show (3 : Int) < ((6 : Nat) : Int) by decide⟩, Or.inl rfl⟩
  | n + 1, hn => by
    have h := eb_z n (by omega)
    have fs : fsz z (n + 1 + 1) = fsz z (n + 1) + tkz (kdz z (n + 1)) := rfl
    have f6 := fsz_6 (z := z) (n := n + 1) (by omega)
    rw [nmS_s, fs]
    rcases kd_cas (z := z) (n := n + 1) (by omega) (by omega) with ⟨h1, h2⟩ | ⟨h1, h2, h3⟩ | ⟨h1, h2, h3⟩ | ⟨h1, h2, h3, h4⟩
    · exact eb_free h1 f6 h
    · refine EB.wide ?_ (Nat.le_add_right _ _)
      exact eb_8 h (by rcases h1 with e | e <;> rw [e] <;> decide)
    · rw [h1]
      exact EB.wide (eb_9 h) (Nat.le_add_right _ _)
    · have h2 : n = 5 := by omega
      subst h2
      rw [h1]
      exact EB.wide (eb_3 h) (Nat.le_add_right _ _)
theorem r2_214 : r 2 ≤ (ty214 t r v).2 2 ∧ (ty214 t r v).2 2 ≤ r 2 + 1 := by
  unfold ty214
  split
  · show r 2 ≤ vup r 0 v 2 ∧ vup r 0 v 2 ≤ r 2 + 1
    have : vup r 0 v 2 = r 2 := rfl
    omega
  · split
    · show r 2 ≤ vup r 2 (r 2 + 1) 2 ∧ vup r 2 (r 2 + 1) 2 ≤ r 2 + 1
      have : vup r 2 (r 2 + 1) 2 = r 2 + 1 := rfl
      omega
    · show r 2 ≤ r 2 ∧ r 2 ≤ r 2 + 1
      omega
theorem r2_nmt : r 2 ≤ (nmt v x e t r).2.2 2 ∧ (nmt v x e t r).2.2 2 ≤ r 2 + 3 := by
  have a := fun y => r2_213 (t := t) (r := r) (x := y)
  have b := fun (t r : Nat → Int) y => r2_214 (t := t) (r := r) (v := y)
  unfold nmt
  split
  · show r 2 ≤ (ty213 t r (e 0)).2 2 ∧ (ty213 t r (e 0)).2 2 ≤ r 2 + 3
    have := a (e 0)
    omega
  split
  · show r 2 ≤ r 2 ∧ r 2 ≤ r 2 + 3
    omega
  split
  · show r 2 ≤ r 2 ∧ r 2 ≤ r 2 + 3
    omega
  split
  · show r 2 ≤ (if e 0 = 3 ∧ t 3 = 0 ∧ r 0 = 0 then (t, vup r 1 1) else if e 0 = 3 ∧ t 3 = 0 then (vup t 3 (r 0), r) else ty214 t r (t (e 0).toNat)).2 2 ∧ (if e 0 = 3 ∧ t 3 = 0 ∧ r 0 = 0 then (t, vup r 1 1) else if e 0 = 3 ∧ t 3 = 0 then (vup t 3 (r 0), r) else ty214 t r (t (e 0).toNat)).2 2 ≤ r 2 + 3
    split
    · show r 2 ≤ vup r 1 1 2 ∧ vup r 1 1 2 ≤ r 2 + 3
      have : vup r 1 1 2 = r 2 := rfl
      omega
    · split
      · show r 2 ≤ r 2 ∧ r 2 ≤ r 2 + 3
        omega
      · have := b t r (t (e 0).toNat)
        omega
  split
  · show r 2 ≤ (ty214 (ty213 t r (e 1)).1 (ty213 t r (e 1)).2 1).2 2 ∧ (ty214 (ty213 t r (e 1)).1 (ty213 t r (e 1)).2 1).2 2 ≤ r 2 + 3
    have := a (e 1)
    have := b (ty213 t r (e 1)).1 (ty213 t r (e 1)).2 1
    omega
  split
  · show r 2 ≤ vup (ty213 t r (e 0)).2 2 ((ty213 t r (e 0)).2 2 + (if (ty213 t r (e 0)).1 (e 0).toNat = 2 then 1 else 0)) 2 ∧ vup (ty213 t r (e 0)).2 2 ((ty213 t r (e 0)).2 2 + (if (ty213 t r (e 0)).1 (e 0).toNat = 2 then 1 else 0)) 2 ≤ r 2 + 3
    have := a (e 0)
    have e2 : ∀ y, vup (ty213 t r (e 0)).2 2 y 2 = y := fun _ => rfl
    rw [e2]
    split <;> omega
  split
  · show r 2 ≤ (if e 1 < 0 then ty214 t r 2 else if t (e 0).toNat = 0 then ty214 (ty212 t r (e 0) (t (e 1).toNat)).1 (ty212 t r (e 0) (t (e 1).toNat)).2 2 else if t (e 1).toNat = t (e 0).toNat then ty214 t r 2 else ty214 t (vup r 2 (r 2 + 1)) 2).2 2 ∧ (if e 1 < 0 then ty214 t r 2 else if t (e 0).toNat = 0 then ty214 (ty212 t r (e 0) (t (e 1).toNat)).1 (ty212 t r (e 0) (t (e 1).toNat)).2 2 else if t (e 1).toNat = t (e 0).toNat then ty214 t r 2 else ty214 t (vup r 2 (r 2 + 1)) 2).2 2 ≤ r 2 + 3
    split
    · have := b t r 2
      omega
    · split
      · have := b (ty212 t r (e 0) (t (e 1).toNat)).1 (ty212 t r (e 0) (t (e 1).toNat)).2 2
        rw [r2_212] at this
        omega
      · split
        · have := b t r 2
          omega
        · have := b t (vup r 2 (r 2 + 1)) 2
          have e2 : vup r 2 (r 2 + 1) 2 = r 2 + 1 := rfl
          rw [e2] at this
          omega
  split
  · show r 2 ≤ (ty213 t r (e 0)).2 2 ∧ (ty213 t r (e 0)).2 2 ≤ r 2 + 3
    have := a (e 0)
    omega
  · show r 2 ≤ r 2 ∧ r 2 ≤ r 2 + 3
    omega
theorem r2_z : ∀ n, 0 ≤ (nmS z n).2.2 2 ∧ (nmS z n).2.2 2 ≤ 3 * (n : Int)
  | 0 => show (0 : Int) ≤ 0 ∧ (0 : Int) ≤ 3 * ((0 : Nat) : Int) by decide
  | n + 1 => by
    have h := r2_z n
    have h2 := r2_nmt (v := (kdz z (n + 1) : Int)) (x := (fsz z (n + 1) : Int)) (e := (nmS z n).1) (t := (nmS z n).2.1) (r := (nmS z n).2.2)
    have e1 : (nmS z (n + 1)).2.2 2 = (nmt (kdz z (n + 1) : Int) (fsz z (n + 1) : Int) (nmS z n).1 (nmS z n).2.1 (nmS z n).2.2).2.2 2 := rfl
    rw [e1]
    omega
/-! THE EIGHT LINES: each name of a line -/
theorem kn_0 {i : Nat} (hn : n < 8) (hk : kdz z n = k) (hi : i < tkz k) (h : (tkk k i).1 = 0) : kn (ks (XZ z 8) 0) (fsz z n + i) = 0 := by
  rw [ks_z, kn_z hn (by rw [hk]; exact hi), hk, h]
/-- what is told of a name in line n + 1 -/
def BNx (z : Nat) (c : Int × Int) : Prop := ∃ m : Nat, c.1 = (m : Int) ∧ m < fsz z 8 ∧ bnd (XZ z 8) m = c.2
theorem bn_x {i : Nat} {V W : List Int} {o v : Nat} (hn : n < 7) (hk : kdz z (n + 1) = k) (hw : wlk k (fsz z (n + 1)) (tgz z (n + 1)) (n + 1) = V ++ mk o (fsz z (n + 1) + i) v :: W) (ho : o = 8 ∨ o = 14) (hV : ∀ s, V.foldl sstep s = s) (hi : i < tkz k) (h0 : (tkk k i).1 = 0) (hT : txk k i = [120]) : bnd (XZ z 8) (fsz z (n + 1) + i) = (nmS z n).1 0 := by
  have f := fz_lt2 (z := z) (n := n + 1) (by omega)
  have f2 := fsz_lt (z := z) (n := n + 1) (i := i) (by omega) (by rw [hk]; exact hi)
  have f8 := fsz_le (z := z) 8
  rw [bnd_l (n := n + 1) (V := V) (W := W) (o := o) (v := v) (by omega) (by rw [hk]; exact hw) (by rcases ho with h | h; exact Or.inl h; exact Or.inr ⟨h, kn_0 (by omega) hk hi h0⟩) (by omega) hV, tx_k (by omega) hk hi hT]
  exact (nv_z n hn).2.1.1
theorem bn_y {i : Nat} {V W : List Int} {o v : Nat} (hn : n < 7) (hk : kdz z (n + 1) = k) (hw : wlk k (fsz z (n + 1)) (tgz z (n + 1)) (n + 1) = V ++ mk o (fsz z (n + 1) + i) v :: W) (ho : o = 8 ∨ o = 14) (hV : ∀ s, V.foldl sstep s = s) (hi : i < tkz k) (h0 : (tkk k i).1 = 0) (hT : txk k i = [121]) : bnd (XZ z 8) (fsz z (n + 1) + i) = (nmS z n).1 1 := by
  have f := fz_lt2 (z := z) (n := n + 1) (by omega)
  have f2 := fsz_lt (z := z) (n := n + 1) (i := i) (by omega) (by rw [hk]; exact hi)
  have f8 := fsz_le (z := z) 8
  rw [bnd_l (n := n + 1) (V := V) (W := W) (o := o) (v := v) (by omega) (by rw [hk]; exact hw) (by rcases ho with h | h; exact Or.inl h; exact Or.inr ⟨h, kn_0 (by omega) hk hi h0⟩) (by omega) hV, tx_k (by omega) hk hi hT]
  exact (nv_z n hn).2.1.2
theorem bn_t {V : List Int} {i v : Nat} (hn : n < 7) (hk : kdz z (n + 1) = k) (hw : wlk k (fsz z (n + 1)) (tgz z (n + 1)) (n + 1) = V ++ [mk 7 (fsz z (n + 1) + i) v]) (hi : i < tkz k) : bnd (XZ z 8) (fsz z (n + 1) + i) = ((fsz z (n + 1) + i : Nat) : Int) := by
  have f2 := fsz_lt (z := z) (n := n + 1) (i := i) (by omega) (by rw [hk]; exact hi)
  have f8 := fsz_le (z := z) 8
  exact bnd_ll (n := n + 1) (V := V) (v := v) (by omega) (by rw [hk]; exact hw) (by omega)
theorem bnx {i : Nat} {c : Int × Int} (hn : n < 7) (hk : kdz z (n + 1) = k) (hi : i < tkz k) (h1 : c.1 = ((fsz z (n + 1) + i : Nat) : Int)) (h2 : bnd (XZ z 8) (fsz z (n + 1) + i) = c.2) : BNx z c :=
  ⟨fsz z (n + 1) + i, h1, fsz_lt (z := z) (n := n + 1) (i := i) (by omega) (by rw [hk]; exact hi), h2⟩
/-- the names of a line, as they are bound -/
def NMz (z n a : Nat) (k : Nat) (e : Nat → Int) : Prop :=
  (k = 4 → bnd (XZ z 8) (a + 3) = e 0 ∧ bnd (XZ z 8) (a + 1) = ((a + 1 : Nat) : Int)) ∧ (k = 5 ∨ k = 20 → bnd (XZ z 8) (a + 1) = ((a + 1 : Nat) : Int)) ∧ (k = 6 ∨ k = 8 → bnd (XZ z 8) (a + 1) = e 0) ∧ (k = 7 → bnd (XZ z 8) (a + 1) = e 1) ∧ (k = 10 → bnd (XZ z 8) a = e 0 ∧ bnd (XZ z 8) (a + 2) = e 0) ∧ (k = 16 → bnd (XZ z 8) (a + 1) = e 0 ∧ bnd (XZ z 8) (a + 3) = e 1)
theorem nm_z (hn : n < 7) : NMz z n (fsz z (n + 1)) (kdz z (n + 1)) (nmS z n).1 := by
  obtain ⟨a, hA⟩ : ∃ a, a = fsz z (n + 1) := ⟨_, rfl⟩
  rw [← hA]
  refine ⟨fun hk => ⟨?_, ?_⟩, fun hk => ?_, fun hk => ?_, fun hk => ?_, fun hk => ⟨?_, ?_⟩, fun hk => ⟨?_, ?_⟩⟩
  · rw [hA]
    exact bn_x (i := 3) (o := 14) (v := 0) (V := [mk 6 (fsz z (n + 1)) 0]) (W := [mk 14 (fsz z (n + 1) + 5) 0, mk 17 (fsz z (n + 1) + 4) 0, mk 7 (fsz z (n + 1) + 1) (fsz z (n + 1) + 6)]) hn hk rfl (Or.inr rfl) w6 (by decide) rfl txk_x.1.2.1
  · rw [hA]
    exact bn_t (i := 1) (v := fsz z (n + 1) + 6) (V := [mk 6 (fsz z (n + 1)) 0, mk 14 (fsz z (n + 1) + 3) 0, mk 14 (fsz z (n + 1) + 5) 0, mk 17 (fsz z (n + 1) + 4) 0]) hn hk rfl (by decide)
  · rw [hA]
    rcases hk with hk | hk
    · exact bn_t (i := 1) (v := fsz z (n + 1) + 4) (V := [mk 6 (fsz z (n + 1)) 0, mk 14 (fsz z (n + 1) + 3) 0]) hn hk rfl (by decide)
    · exact bn_t (i := 1) (v := fsz z (n + 1) + 5) (V := [mk 6 (fsz z (n + 1)) 0, mk 14 (fsz z (n + 1) + 4) 0, mk 16 (fsz z (n + 1) + 3) 0]) hn hk rfl (by decide)
  · rw [hA]
    rcases hk with hk | hk
    · exact bn_x (i := 1) (o := 14) (v := 0) (V := [mk 6 (fsz z (n + 1)) 0]) (W := [mk 10 (fsz z (n + 1)) 0]) hn hk rfl (Or.inr rfl) w6 (by decide) rfl txk_x.1.2.2.2
    · exact bn_x (i := 1) (o := 14) (v := 0) (V := [mk 6 (fsz z (n + 1)) 0]) (W := [mk 14 (fsz z (n + 1) + 3) 0, mk 17 (fsz z (n + 1) + 2) 0, mk 11 (fsz z (n + 1)) (tgz z (n + 1)), mk 3 (fsz z (n + 1) + 4) 0]) hn hk rfl (Or.inr rfl) w6 (by decide) rfl txk_x.2.1.1
  · rw [hA]
    exact bn_y (i := 1) (o := 14) (v := 0) (V := [mk 6 (fsz z (n + 1)) 0]) (W := [mk 14 (fsz z (n + 1) + 3) 0, mk 17 (fsz z (n + 1) + 2) 0, mk 10 (fsz z (n + 1)) 0]) hn hk rfl (Or.inr rfl) w6 (by decide) rfl txk_x.2.2.1.2.1
  · rw [hA]
    exact bn_x (i := 0) (o := 8) (v := 0) (V := [mk 6 (fsz z (n + 1)) 0, mk 14 (fsz z (n + 1) + 2) 0, mk 14 (fsz z (n + 1) + 4) 0, mk 17 (fsz z (n + 1) + 3) 0]) (W := []) hn hk rfl (Or.inl rfl) (fo_2 (by decide) (by decide) (fo_2 (by decide) (by decide) (fo_2 (by decide) (by decide) (fo_2 (by decide) (by decide) fo_0)))) (by decide) rfl txk_x.2.1.2.1
  · rw [hA]
    exact bn_x (i := 2) (o := 14) (v := 0) (V := [mk 6 (fsz z (n + 1)) 0]) (W := [mk 14 (fsz z (n + 1) + 4) 0, mk 17 (fsz z (n + 1) + 3) 0, mk 8 (fsz z (n + 1)) 0]) hn hk rfl (Or.inr rfl) w6 (by decide) rfl txk_x.2.1.2.2.1
  · rw [hA]
    exact bn_x (i := 1) (o := 14) (v := 0) (V := [mk 6 (fsz z (n + 1)) 0]) (W := [mk 14 (fsz z (n + 1) + 3) 0, mk 17 (fsz z (n + 1) + 2) 0, mk 10 (fsz z (n + 1)) 0]) hn hk rfl (Or.inr rfl) w6 (by decide) rfl txk_x.2.1.2.2.2
  · rw [hA]
    exact bn_y (i := 3) (o := 14) (v := 0) (V := [mk 6 (fsz z (n + 1)) 0, mk 14 (fsz z (n + 1) + 1) 0]) (W := [mk 17 (fsz z (n + 1) + 2) 0, mk 10 (fsz z (n + 1)) 0]) hn hk rfl (Or.inr rfl) (fo_2 (by decide) (by decide) (fo_2 (by decide) (by decide) fo_0)) (by decide) rfl txk_x.2.2.1.2.2.1
theorem tld_s {i : Int} (h : -1 ≤ i ∧ i < 200) : tld i = i := by
  unfold tld trI
  split <;> omega
theorem chk_c {m : Nat} {c : Int × Int} (h1 : c.1 = (m : Int)) (hm : m < fsz z 8) (h2 : bnd (XZ z 8) m = c.2) (hc : -1 ≤ c.2 ∧ c.2 < 200) : isTk (XZ z 8) 0 c.1 ∧ aBn (XZ z 8) 0 c.1 = c.2 := by
  refine ⟨⟨0, m, by decide, by rw [toks_z]; exact hm, rfl, h1⟩, ?_⟩
  unfold aBn
  rw [h1, Int.toNat_natCast, show 200 * (0 : Int).toNat + m = m by show 200 * 0 + m = m; omega, h2]
  exact tld_s hc
theorem chk_z (hn : n < 7) : ∀ c ∈ chk (kdz z (n + 1)) (fsz z (n + 1)) (nmS z n).1, isTk (XZ z 8) 0 c.1 ∧ aBn (XZ z 8) 0 c.1 = c.2 := by
  obtain ⟨b4, b5, b6, b7, b10, b16⟩ := nm_z (z := z) hn
  have eb := eb_z (z := z) n hn
  unfold EB at eb
  have f8 := fsz_le (z := z) (n + 1)
  have lt : ∀ i, i < tkz (kdz z (n + 1)) → fsz z (n + 1) + i < fsz z 8 := fun i hi => fsz_lt (n := n + 1) (by omega) hi
  intro c hc
  unfold chk at hc
  split at hc
  · have hk : kdz z (n + 1) = 4 := by omega
    rw [hk] at lt
    rcases List.mem_cons.mp hc with rfl | hc
    · exact chk_c (m := fsz z (n + 1) + 3) (by show (fsz z (n + 1) : Int) + 3 = _; omega) (lt 3 (by decide)) (b4 hk).1 (by show -1 ≤ (nmS z n).1 0 ∧ (nmS z n).1 0 < 200; omega)
    · obtain rfl := List.mem_singleton.mp hc
      exact chk_c (m := fsz z (n + 1) + 1) (by show (fsz z (n + 1) : Int) + 1 = _; omega) (lt 1 (by decide)) ((b4 hk).2.trans (by show _ = (fsz z (n + 1) : Int) + 1; omega)) (by show -1 ≤ (fsz z (n + 1) : Int) + 1 ∧ (fsz z (n + 1) : Int) + 1 < 200; omega)
  split at hc
  · have hk : kdz z (n + 1) = 5 ∨ kdz z (n + 1) = 20 := by omega
    have l1 : 1 < tkz (kdz z (n + 1)) := by rcases hk with e | e <;> rw [e] <;> decide
    obtain rfl := List.mem_singleton.mp hc
    exact chk_c (m := fsz z (n + 1) + 1) (by show (fsz z (n + 1) : Int) + 1 = _; omega) (lt 1 l1) ((b5 hk).trans (by show _ = (fsz z (n + 1) : Int) + 1; omega)) (by show -1 ≤ (fsz z (n + 1) : Int) + 1 ∧ (fsz z (n + 1) : Int) + 1 < 200; omega)
  split at hc
  · have hk : kdz z (n + 1) = 6 ∨ kdz z (n + 1) = 8 := by omega
    have l1 : 1 < tkz (kdz z (n + 1)) := by rcases hk with e | e <;> rw [e] <;> decide
    obtain rfl := List.mem_singleton.mp hc
    exact chk_c (m := fsz z (n + 1) + 1) (by show (fsz z (n + 1) : Int) + 1 = _; omega) (lt 1 l1) (b6 hk) (by show -1 ≤ (nmS z n).1 0 ∧ (nmS z n).1 0 < 200; omega)
  split at hc
  · have hk : kdz z (n + 1) = 7 := by omega
    rw [hk] at lt
    obtain rfl := List.mem_singleton.mp hc
    exact chk_c (m := fsz z (n + 1) + 1) (by show (fsz z (n + 1) : Int) + 1 = _; omega) (lt 1 (by decide)) (b7 hk) (by show -1 ≤ (nmS z n).1 1 ∧ (nmS z n).1 1 < 200; omega)
  split at hc
  · have hk : kdz z (n + 1) = 10 := by omega
    rw [hk] at lt
    rcases List.mem_cons.mp hc with rfl | hc
    · exact chk_c (m := fsz z (n + 1)) rfl (lt 0 (by decide)) (b10 hk).1 (by show -1 ≤ (nmS z n).1 0 ∧ (nmS z n).1 0 < 200; omega)
    · obtain rfl := List.mem_singleton.mp hc
      exact chk_c (m := fsz z (n + 1) + 2) (by show (fsz z (n + 1) : Int) + 2 = _; omega) (lt 2 (by decide)) (b10 hk).2 (by show -1 ≤ (nmS z n).1 0 ∧ (nmS z n).1 0 < 200; omega)
  split at hc
  · have hk : kdz z (n + 1) = 16 := by omega
    rw [hk] at lt
    rcases List.mem_cons.mp hc with rfl | hc
    · exact chk_c (m := fsz z (n + 1) + 1) (by show (fsz z (n + 1) : Int) + 1 = _; omega) (lt 1 (by decide)) (b16 hk).1 (by show -1 ≤ (nmS z n).1 0 ∧ (nmS z n).1 0 < 200; omega)
    · obtain rfl := List.mem_singleton.mp hc
      exact chk_c (m := fsz z (n + 1) + 3) (by show (fsz z (n + 1) : Int) + 3 = _; omega) (lt 3 (by decide)) (b16 hk).2 (by show -1 ≤ (nmS z n).1 1 ∧ (nmS z n).1 1 < 200; omega)
  · exact absurd hc (List.not_mem_nil)
end Mrh
