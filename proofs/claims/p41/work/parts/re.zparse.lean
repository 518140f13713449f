/-! THE EIGHT LINES: the exprs are read -/
section Mre
variable {K : List Int} {a p n d : Nat} {b st : Int} {S : List (Int × Int)} {C D V : List Int} {E : List (Int × Int × Int)} {Fn : List (Int × Int × Int × Int)} {U : List Int} {L : List Lv}
theorem xrun_s {x y : XS} (h : xst K x = y) (h0 : y.1 = 1 ∨ y.1 = 2) : xrun K (d + 1) x = xrun K d y := by
  show (if (xst K x).1 = 0 ∨ (xst K x).1 = 3 then xst K x else xrun K d (xst K x)) = _
  rw [h, if_neg (by omega)]
theorem xrun_e {x y : XS} (h : xst K x = y) (h0 : y.1 = 3) : xrun K (d + 1) x = y := by
  show (if (xst K x).1 = 0 ∨ (xst K x).1 = 3 then xst K x else xrun K d (xst K x)) = _
  rw [h, if_pos (Or.inr h0)]
/-- a unit -/
abbrev isU (K : List Int) (a : Nat) : Prop := (kn K a = 0 ∧ kn K (a + 1) ≠ 10) ∨ kn K a = 1 ∨ kn K a = 9
abbrev isO (K : List Int) (a : Nat) : Prop := kn K a = 17 ∨ kn K a = 18 ∨ kn K a = 19 ∨ kn K a = 20 ∨ kn K a = 21
theorem xo_u {o s nt tm ad cp : Int} (h : isU K a) : xst K (1, a, [(0, o, s, nt, tm, ad, cp)], C) = (2, a + 1, [(0, o, s, nt, tm, ad, cp)], C ++ [mk 14 a 0]) := by
  show xsh (xop K a (0, o, s, nt, tm, ad, cp) [] C) = _
  unfold isU at h
  unfold xop
  rw [if_neg (fun c => by have := c.1; omega), if_neg (fun c => by have := c.1; have := c.2; omega), if_neg (by omega), if_neg (fun c => by have := c.1; omega), if_pos (by omega)]
  rfl
theorem xo_b {o s tm ad cp : Int} (h : kn K a = 22) : xst K (1, a, [(0, o, s, -1, tm, ad, cp)], C) = (1, a + 1, [(0, o, s, (a : Int), tm, ad, cp)], C) := by
  show xsh (xop K a (0, o, s, -1, tm, ad, cp) [] C) = _
  unfold xop
  rw [if_pos ⟨h, rfl⟩]
  rfl
theorem wd_n {o : Nat} : wd o (-1) = [] := rfl
theorem wd_a {o : Nat} : wd o (a : Int) = [mk o a 0] := by
  unfold wd
  rw [if_neg (by omega), Int.toNat_natCast]
theorem xe_end {o s nt tm ad cp : Int} (h : kn K a = 15 ∨ kn K a = 12) : ∃ L, xst K (2, a, [(0, o, s, nt, tm, ad, cp)], C) = (3, a, L, C ++ (wd 16 nt ++ (wd 17 tm ++ (wd 17 ad ++ wd 17 cp)))) := by
  refine ⟨[(0, o, s, -1, -1, -1, -1)], ?_⟩
  show xsh (xb2 K a (0, o, s, nt, tm, ad, cp) [] (C ++ wd 16 nt ++ wd 17 tm)) = _
  unfold xb2
  rw [if_neg (by omega)]
  unfold xb3
  rw [if_neg (by omega)]
  show xsh (if cp = -1 then (if kn K a = 17 ∨ kn K a = 18 then _ else xcl K a (0, o, s, -1, -1, -1, -1) [] (C ++ wd 16 nt ++ wd 17 tm ++ wd 17 ad)) else xcl K a (0, o, s, -1, -1, -1, -1) [] (C ++ wd 16 nt ++ wd 17 tm ++ wd 17 ad ++ wd 17 cp)) = _
  by_cases c : cp = -1
  · rw [if_pos c, if_neg (by omega), c, wd_n, List.append_nil, ← List.append_assoc, ← List.append_assoc]
    rfl
  · rw [if_neg c, ← List.append_assoc, ← List.append_assoc, ← List.append_assoc]
    rfl
theorem xe_op {o s : Int} (h : isO K a) : ∃ tm ad cp : Int, xst K (2, a, [(0, o, s, -1, -1, -1, -1)], C) = (1, a + 1, [(0, o, s, -1, tm, ad, cp)], C) ∧ wd 17 tm ++ (wd 17 ad ++ wd 17 cp) = [mk 17 a 0] := by
  have e : xst K (2, a, [(0, o, s, -1, -1, -1, -1)], C) = xsh (xb2 K a (0, o, s, -1, -1, -1, -1) [] (C ++ [] ++ [])) := rfl
  rw [List.append_nil, List.append_nil] at e
  unfold isO at h
  unfold xb2 at e
  by_cases c1 : kn K a = 21
  · rw [if_pos c1] at e
    exact ⟨(a : Int), -1, -1, e, by rw [wd_a, wd_n]; rfl⟩
  · rw [if_neg c1] at e
    have e2 : xb3 K a (0, o, s, -1, -1, -1, -1) [] (C ++ []) = xb3 K a (0, o, s, -1, -1, -1, -1) [] C := by rw [List.append_nil]
    change _ = xsh (xb3 K a (0, o, s, -1, -1, -1, -1) [] (C ++ [])) at e
    rw [e2] at e
    unfold xb3 at e
    by_cases c2 : kn K a = 19 ∨ kn K a = 20
    · rw [if_pos c2] at e
      exact ⟨-1, (a : Int), -1, e, by rw [wd_a, wd_n]; rfl⟩
    · rw [if_neg c2, if_pos rfl, if_pos (by omega)] at e
      exact ⟨-1, -1, (a : Int), e, by rw [wd_a, wd_n]; rfl⟩
theorem ex_0 : exr K false a C = xrun K (K.length + 2) (1, a, [(0, (a : Int), 0, -1, -1, -1, -1)], C) := rfl
/-- one unit -/
theorem ex_1 (h : isU K a) (he : kn K (a + 1) = 15 ∨ kn K (a + 1) = 12) : ∃ L, exr K false a C = (3, a + 1, L, C ++ [mk 14 a 0]) := by
  obtain ⟨L, e⟩ := xe_end (C := C ++ [mk 14 a 0]) (o := (a : Int)) (s := 0) (nt := -1) (tm := -1) (ad := -1) (cp := -1) he
  refine ⟨L, ?_⟩
  rw [ex_0, xrun_s (xo_u h) (Or.inr rfl), xrun_e e rfl]
  show (3, a + 1, L, C ++ [mk 14 a 0] ++ []) = _
  rw [List.append_nil]
/-- two units -/
theorem ex_3 (h : isU K a) (ho : isO K (a + 1)) (h2 : isU K (a + 2)) (he : kn K (a + 3) = 15 ∨ kn K (a + 3) = 12) : ∃ L, exr K false a C = (3, a + 3, L, C ++ [mk 14 a 0, mk 14 (a + 2) 0, mk 17 (a + 1) 0]) := by
  have hl := kn_lt (K := K) (i := a + 3) (by omega)
  obtain ⟨m, hm⟩ : ∃ m, K.length + 2 = m + 1 + 1 + 1 + 1 := ⟨K.length - 2, by omega⟩
  obtain ⟨tm, ad, cp, e1, e2⟩ := xe_op (C := C ++ [mk 14 a 0]) (o := (a : Int)) (s := 0) ho
  obtain ⟨L, e⟩ := xe_end (K := K) (a := a + 3) (C := C ++ [mk 14 a 0] ++ [mk 14 (a + 2) 0]) (o := (a : Int)) (s := 0) (nt := -1) (tm := tm) (ad := ad) (cp := cp) he
  refine ⟨L, ?_⟩
  rw [ex_0, hm, xrun_s (xo_u h) (Or.inr rfl), xrun_s e1 (Or.inl rfl), xrun_s (xo_u (a := a + 2) h2) (Or.inr rfl), xrun_e e rfl, wd_n, e2]
  simp only [List.append_assoc, List.nil_append, List.cons_append]
/-- a unit behind NOT -/
theorem ex_b (h : kn K a = 22) (h2 : isU K (a + 1)) (he : kn K (a + 2) = 15 ∨ kn K (a + 2) = 12) : ∃ L, exr K false a C = (3, a + 2, L, C ++ [mk 14 (a + 1) 0, mk 16 a 0]) := by
  have hl := kn_lt (K := K) (i := a + 2) (by omega)
  obtain ⟨m, hm⟩ : ∃ m, K.length + 2 = m + 1 + 1 + 1 := ⟨K.length - 1, by omega⟩
  obtain ⟨L, e⟩ := xe_end (K := K) (a := a + 2) (C := C ++ [mk 14 (a + 1) 0]) (o := (a : Int)) (s := 0) (nt := (a : Int)) (tm := -1) (ad := -1) (cp := -1) he
  refine ⟨L, ?_⟩
  rw [ex_0, hm, xrun_s (xo_b h) (Or.inl rfl), xrun_s (xo_u (a := a + 1) h2) (Or.inr rfl), xrun_e e rfl, wd_n, wd_a]
  simp only [List.append_assoc, List.nil_append, List.cons_append]
/-! THE EIGHT LINES: the statements are read -/
theorem st_7 (h : kn K a = 7) (hx : exr K false (a + 1) C = (3, p, L, D)) (hp : kn K p = 15) : sth K a C = (true, p + 1, D) := by
  unfold sth
  rw [if_neg (by omega), if_pos h, hx]
  show (if 3 = 3 ∧ kn K p = 15 then _ else _) = _
  rw [if_pos ⟨rfl, hp⟩]
theorem st_5 (h : kn K a = 5) (hx : exr K false (a + 1) C = (3, p, L, D)) (hp : kn K p = 12) : sth K a C = (true, p, D) := by
  unfold sth
  rw [if_pos h, hx]
  show (if 3 = 3 ∧ kn K p = 12 then _ else _) = _
  rw [if_pos ⟨rfl, hp⟩]
  rfl
theorem st_4 (h : kn K a = 4) (h1 : kn K (a + 1) = 0) (h2 : kn K (a + 2) = 16) (hx : exr K false (a + 3) C = (3, p, L, D)) (hp : kn K p = 15) : sth K a C = (true, p + 1, D) := by
  unfold sth
  rw [if_neg (by omega), if_neg (by omega), if_neg (fun c => by have := c.1; omega), if_pos h, if_pos h1]
  show (if kn K (a + 2) = 16 then (if (exr K false (a + 3) C).1 = 3 ∧ kn K (exr K false (a + 3) C).2.1 = 15 then (true, (exr K false (a + 3) C).2.1 + 1, (exr K false (a + 3) C).2.2.2) else (false, (exr K false (a + 3) C).2.1, (exr K false (a + 3) C).2.2.2)) else _) = _
  rw [if_pos h2, hx]
  show (if 3 = 3 ∧ kn K p = 15 then _ else _) = _
  rw [if_pos ⟨rfl, hp⟩]
theorem st_s (h : kn K a = 0) (h2 : kn K (a + 1) = 16) (hx : exr K false (a + 2) C = (3, p, L, D)) (hp : kn K p = 15) : sth K a C = (true, p + 1, D) := by
  have e : (if kn K a = 4 then a + 1 else a) = a := if_neg (by omega)
  unfold sth
  rw [if_neg (by omega), if_neg (by omega), if_neg (fun c => by have := c.2; omega), e, if_pos h]
  show (if kn K (a + 1) = 16 then (if (exr K false (a + 2) C).1 = 3 ∧ kn K (exr K false (a + 2) C).2.1 = 15 then (true, (exr K false (a + 2) C).2.1 + 1, (exr K false (a + 2) C).2.2.2) else (false, (exr K false (a + 2) C).2.1, (exr K false (a + 2) C).2.2.2)) else _) = _
  rw [if_pos h2, hx]
  show (if 3 = 3 ∧ kn K p = 15 then _ else _) = _
  rw [if_pos ⟨rfl, hp⟩]
theorem pst_s (h : kn K a = 0 ∨ kn K a = 4 ∨ kn K a = 5 ∨ kn K a = 7) (hx : sth K a (C ++ [mk 6 a 0]) = (true, p, D)) : pst K a b st S C E Fn U = if kn K a = 5 then (p + 1, (2, (D.length : Int)) :: (b, st) :: S, D ++ [mk 11 a 0, mk 3 p 0], E, Fn, U) else if kn K a = 4 then (p, (b, st) :: S, D ++ [mk 7 (a + 1) (p - 1)], E, Fn, U) else (p, (b, st) :: S, D ++ [mk (if kn K a = 7 then 10 else if kn K (a + 1) = 10 then 9 else 8) a 0], E, Fn, U) := by
  have hb : bgn (kn K a) = false := decide_eq_false (by omega)
  unfold pst
  rw [if_neg (by omega), hb, if_neg (by decide), if_neg (by omega), hx]
  show (if true = false then _ else _) = _
  rw [if_neg (by decide)]
/-- the words of a line: of a kind, from a token on, with the place that its jump goes to -/
def wlk (k a j n : Nat) : List Int :=
  if k = 0 then [mk 2 (a + 1) 1, mk 3 (a + 5) 0]
  else if k = 3 then (if n = 7 then [mk 4 a 1, mk 5 0 0] else [mk 4 a 1])
  else if k = 4 then [mk 6 a 0, mk 14 (a + 3) 0, mk 14 (a + 5) 0, mk 17 (a + 4) 0, mk 7 (a + 1) (a + 6)]
  else if k = 5 then [mk 6 a 0, mk 14 (a + 3) 0, mk 7 (a + 1) (a + 4)]
  else if k = 6 then [mk 6 a 0, mk 14 (a + 1) 0, mk 10 a 0]
  else if k = 7 ∨ k = 16 then [mk 6 a 0, mk 14 (a + 1) 0, mk 14 (a + 3) 0, mk 17 (a + 2) 0, mk 10 a 0]
  else if k = 8 then [mk 6 a 0, mk 14 (a + 1) 0, mk 14 (a + 3) 0, mk 17 (a + 2) 0, mk 11 a j, mk 3 (a + 4) 0]
  else if k = 9 then [mk 4 a 1, mk 12 (a + 1) j, mk 3 (a + 2) 0]
  else if k = 10 then [mk 6 a 0, mk 14 (a + 2) 0, mk 14 (a + 4) 0, mk 17 (a + 3) 0, mk 8 a 0]
  else if k = 20 then [mk 6 a 0, mk 14 (a + 4) 0, mk 16 (a + 3) 0, mk 7 (a + 1) (a + 5)]
  else [mk 6 a 0, mk 3 a 0]
/-- the classes of a kind's tokens, from a place on -/
def KA (K : List Int) (k a : Nat) : Prop := ∀ i, i < tkz k → kn K (a + i) = (tkk k i).1
abbrev frk (k : Nat) : Prop := k = 4 ∨ k = 5 ∨ k = 6 ∨ k = 7 ∨ k = 10 ∨ k = 16 ∨ k = 20
theorem ps_free {k j : Nat} (hk : frk k) (h : KA K k a) : pst K a b st S C E Fn U = (a + tkz k, (b, st) :: S, C ++ wlk k a j n, E, Fn, U) := by
  unfold KA at h
  rcases hk with rfl | rfl | rfl | rfl | rfl | rfl | rfl
  · have h0 : kn K a = 4 := h 0 (by decide)
    have h1 : kn K (a + 1) = 0 := h 1 (by decide)
    have h2 : kn K (a + 2) = 16 := h 2 (by decide)
    have h3 : kn K (a + 3) = 0 := h 3 (by decide)
    have h4 : kn K (a + 3 + 1) = 19 := h 4 (by decide)
    have h5 : kn K (a + 3 + 2) = 1 := h 5 (by decide)
    have h6 : kn K (a + 3 + 3) = 15 := h 6 (by decide)
    obtain ⟨L, e⟩ := ex_3 (C := C ++ [mk 6 a 0]) (Or.inl ⟨h3, by omega⟩) (by omega) (Or.inr (Or.inl h5)) (Or.inl h6)
    rw [pst_s (by omega) (st_4 h0 h1 h2 e h6), if_neg (by omega), if_pos h0]
    simp only [List.append_assoc, List.nil_append, List.cons_append]
    rfl
  · have h0 : kn K a = 4 := h 0 (by decide)
    have h1 : kn K (a + 1) = 0 := h 1 (by decide)
    have h2 : kn K (a + 2) = 16 := h 2 (by decide)
    have h3 : kn K (a + 3) = 1 := h 3 (by decide)
    have h4 : kn K (a + 3 + 1) = 15 := h 4 (by decide)
    obtain ⟨L, e⟩ := ex_1 (C := C ++ [mk 6 a 0]) (Or.inr (Or.inl h3)) (Or.inl h4)
    rw [pst_s (by omega) (st_4 h0 h1 h2 e h4), if_neg (by omega), if_pos h0]
    simp only [List.append_assoc, List.nil_append, List.cons_append]
    rfl
  · have h0 : kn K a = 7 := h 0 (by decide)
    have h1 : kn K (a + 1) = 0 := h 1 (by decide)
    have h2 : kn K (a + 1 + 1) = 15 := h 2 (by decide)
    obtain ⟨L, e⟩ := ex_1 (C := C ++ [mk 6 a 0]) (Or.inl ⟨h1, by omega⟩) (Or.inl h2)
    rw [pst_s (by omega) (st_7 h0 e h2), if_neg (by omega), if_neg (by omega), if_pos h0]
    simp only [List.append_assoc, List.nil_append, List.cons_append]
    rfl
  · have h0 : kn K a = 7 := h 0 (by decide)
    have h1 : kn K (a + 1) = 0 := h 1 (by decide)
    have h2 : kn K (a + 1 + 1) = 21 := h 2 (by decide)
    have h3 : kn K (a + 1 + 2) = 1 := h 3 (by decide)
    have h4 : kn K (a + 1 + 3) = 15 := h 4 (by decide)
    obtain ⟨L, e⟩ := ex_3 (C := C ++ [mk 6 a 0]) (Or.inl ⟨h1, by omega⟩) (by omega) (Or.inr (Or.inl h3)) (Or.inl h4)
    rw [pst_s (by omega) (st_7 h0 e h4), if_neg (by omega), if_neg (by omega), if_pos h0]
    simp only [List.append_assoc, List.nil_append, List.cons_append]
    rfl
  · have h0 : kn K a = 0 := h 0 (by decide)
    have h1 : kn K (a + 1) = 16 := h 1 (by decide)
    have h2 : kn K (a + 2) = 0 := h 2 (by decide)
    have h3 : kn K (a + 2 + 1) = 20 := h 3 (by decide)
    have h4 : kn K (a + 2 + 2) = 1 := h 4 (by decide)
    have h5 : kn K (a + 2 + 3) = 15 := h 5 (by decide)
    obtain ⟨L, e⟩ := ex_3 (C := C ++ [mk 6 a 0]) (Or.inl ⟨h2, by omega⟩) (by omega) (Or.inr (Or.inl h4)) (Or.inl h5)
    rw [pst_s (by omega) (st_s h0 h1 e h5), if_neg (by omega), if_neg (by omega), if_neg (by omega), if_neg (by omega)]
    simp only [List.append_assoc, List.nil_append, List.cons_append]
    rfl
  · have h0 : kn K a = 7 := h 0 (by decide)
    have h1 : kn K (a + 1) = 0 := h 1 (by decide)
    have h2 : kn K (a + 1 + 1) = 17 := h 2 (by decide)
    have h3 : kn K (a + 1 + 2) = 0 := h 3 (by decide)
    have h4 : kn K (a + 1 + 3) = 15 := h 4 (by decide)
    have h5 : kn K (a + 1 + 2 + 1) = 15 := h 4 (by decide)
    obtain ⟨L, e⟩ := ex_3 (C := C ++ [mk 6 a 0]) (Or.inl ⟨h1, by omega⟩) (by omega) (Or.inl ⟨h3, by omega⟩) (Or.inl h4)
    rw [pst_s (by omega) (st_7 h0 e h4), if_neg (by omega), if_neg (by omega), if_pos h0]
    simp only [List.append_assoc, List.nil_append, List.cons_append]
    rfl
  · have h0 : kn K a = 4 := h 0 (by decide)
    have h1 : kn K (a + 1) = 0 := h 1 (by decide)
    have h2 : kn K (a + 2) = 16 := h 2 (by decide)
    have h3 : kn K (a + 3) = 22 := h 3 (by decide)
    have h4 : kn K (a + 3 + 1) = 9 := h 4 (by decide)
    have h5 : kn K (a + 3 + 2) = 15 := h 5 (by decide)
    obtain ⟨L, e⟩ := ex_b (C := C ++ [mk 6 a 0]) h3 (Or.inr (Or.inr h4)) (Or.inl h5)
    rw [pst_s (by omega) (st_4 h0 h1 h2 e h5), if_neg (by omega), if_pos h0]
    simp only [List.append_assoc, List.nil_append, List.cons_append]
    rfl
/-- IF opens a block -/
theorem ps_if (h : KA K 8 a) : pst K a b st S C E Fn U = (a + 5, (2, ((C.length + 4 : Nat) : Int)) :: (b, st) :: S, (C ++ [mk 6 a 0, mk 14 (a + 1) 0, mk 14 (a + 3) 0, mk 17 (a + 2) 0]) ++ mk 11 a 0 :: [mk 3 (a + 4) 0], E, Fn, U) := by
  have h0 : kn K a = 5 := h 0 (by decide)
  have h1 : kn K (a + 1) = 0 := h 1 (by decide)
  have h2 : kn K (a + 1 + 1) = 18 := h 2 (by decide)
  have h3 : kn K (a + 1 + 2) = 1 := h 3 (by decide)
  have h4 : kn K (a + 1 + 3) = 12 := h 4 (by decide)
  obtain ⟨L, e⟩ := ex_3 (C := C ++ [mk 6 a 0]) (Or.inl ⟨h1, by omega⟩) (by omega) (Or.inr (Or.inl h3)) (Or.inr h4)
  rw [pst_s (by omega) (st_5 h0 e h4), if_pos h0]
  simp only [List.append_assoc, List.nil_append, List.cons_append, List.length_append, List.length_cons, List.length_nil]
theorem ps_open (h : KA K 22 a) : pst K a b st S C E Fn U = (a + 1, (1, -1) :: (b, st) :: S, C ++ [mk 6 a 0, mk 3 a 0], E, Fn, U) := by
  have h0 : kn K a = 12 := h 0 (by decide)
  have hb : bgn (kn K a) = false := decide_eq_false (by omega)
  unfold pst
  rw [if_neg (by omega), hb, if_neg (by decide), if_pos h0]
theorem set_mid {w v : Int} {Q : List Int} : ∀ P : List Int, (P ++ w :: Q).set P.length v = P ++ v :: Q
  | [] => rfl
  | x :: P => congrArg (x :: ·) (set_mid P)
theorem aim_at {P Q : List Int} {t j p : Nat} {o : Nat} (ho : o < 256) (ht : t < 256) : aim (P ++ mk o t j :: Q) (P.length : Int) p = P ++ mk o t p :: Q := by
  have hg : gx (P ++ mk o t j :: Q) P.length = mk o t j := by rw [gx_app, if_neg (by omega), Nat.sub_self]; rfl
  unfold aim
  rw [if_pos ⟨by omega, by rw [List.length_append, List.length_cons]; omega⟩, Int.toNat_natCast, hg, set_mid]
  have : mk o t j % 65536 + 65536 * (p : Int) = mk o t p := by
    unfold mk
    omega
  rw [this]
/-- the end of a block with ELSE behind it -/
theorem ps_else {P Q : List Int} {t : Nat} (ht : t < 256) (h : KA K 9 a) : pst K a 2 (P.length : Int) S (P ++ mk 11 t 0 :: Q) E Fn U = (a + 3, (3, ((P.length + Q.length + 2 : Nat) : Int)) :: S, P ++ mk 11 t (P.length + Q.length + 3) :: (Q ++ [mk 4 a 1, mk 12 (a + 1) 0, mk 3 (a + 2) 0]), E, Fn, U) := by
  have h0 : kn K a = 13 := h 0 (by decide)
  have h1 : kn K (a + 1) = 6 := h 1 (by decide)
  have h2 : kn K (a + 1 + 1) = 12 := h 2 (by decide)
  have e1 : P ++ mk 11 t 0 :: Q ++ [mk 4 a 1] = P ++ mk 11 t 0 :: (Q ++ [mk 4 a 1]) := by rw [List.append_assoc, List.cons_append]
  have l1 : (P ++ mk 11 t 0 :: (Q ++ [mk 4 a 1])).length = P.length + Q.length + 2 := by simp only [List.length_append, List.length_cons, List.length_nil]; omega
  unfold pst
  rw [if_pos h0]
  show pel K (a + 1) 2 (P.length : Int) S (aim (P ++ mk 11 t 0 :: Q ++ [mk 4 a 1]) (P.length : Int) (P ++ mk 11 t 0 :: Q ++ [mk 4 a 1]).length) E Fn U = _
  rw [e1, l1, aim_at (by decide) ht]
  unfold pel
  rw [if_pos ⟨rfl, h1⟩, if_pos h2]
  have e2 : P ++ mk 11 t (P.length + Q.length + 2) :: (Q ++ [mk 4 a 1]) ++ [mk 12 (a + 1) 0] = P ++ mk 11 t (P.length + Q.length + 2) :: (Q ++ [mk 4 a 1] ++ [mk 12 (a + 1) 0]) := by rw [List.append_assoc, List.cons_append]
  have l2 : (P ++ mk 11 t (P.length + Q.length + 2) :: (Q ++ [mk 4 a 1])).length = P.length + Q.length + 2 := by simp only [List.length_append, List.length_cons, List.length_nil]; omega
  rw [e2, l2, aim_at (by decide) ht]
  simp only [List.append_assoc, List.nil_append, List.cons_append]
/-- the end of the second block -/
theorem ps_end3 {P Q : List Int} {t : Nat} (ht : t < 256) (h : KA K 3 a) : pst K a 3 (P.length : Int) S (P ++ mk 12 t 0 :: Q) E Fn U = (a + 1, S, P ++ mk 12 t (P.length + Q.length + 2) :: (Q ++ [mk 4 a 1]), E, Fn, U) := by
  have h0 : kn K a = 13 := h 0 (by decide)
  have e1 : P ++ mk 12 t 0 :: Q ++ [mk 4 a 1] = P ++ mk 12 t 0 :: (Q ++ [mk 4 a 1]) := by rw [List.append_assoc, List.cons_append]
  have l1 : (P ++ mk 12 t 0 :: (Q ++ [mk 4 a 1])).length = P.length + Q.length + 2 := by simp only [List.length_append, List.length_cons, List.length_nil]; omega
  unfold pst
  rw [if_pos h0]
  show pel K (a + 1) 3 (P.length : Int) S (aim (P ++ mk 12 t 0 :: Q ++ [mk 4 a 1]) (P.length : Int) (P ++ mk 12 t 0 :: Q ++ [mk 4 a 1]).length) E Fn U = _
  rw [e1, l1, aim_at (by decide) ht]
  unfold pel
  rw [if_neg (fun c => by have := c.1; omega)]
/-- the end of a plain block -/
theorem ps_end1 (h : KA K 3 a) : pst K a 1 (-1) S C E Fn U = (a + 1, S, C ++ [mk 4 a 1], E, Fn, U) := by
  have h0 : kn K a = 13 := h 0 (by decide)
  unfold pst
  rw [if_pos h0]
  show pel K (a + 1) 1 (-1) S (C ++ [mk 4 a 1]) E Fn U = _
  unfold pel
  rw [if_neg (fun c => by have := c.1; omega)]
/-- the end of a function -/
theorem ps_end0 {q r s : Int} (h : KA K 3 a) : pst K a 0 (-1) S C E [(q, r, s, -1)] U = (a + 1, S, C ++ [mk 4 a 1, mk 5 0 0], E, [(q, r, s, (a : Int))], U) := by
  have h0 : kn K a = 13 := h 0 (by decide)
  unfold pst
  rw [if_pos h0]
  show pel K (a + 1) 0 (-1) S (C ++ [mk 4 a 1] ++ [mk 5 0 0]) E [(q, r, s, (a : Int))] U = _
  unfold pel
  rw [if_neg (fun c => by have := c.1; omega), List.append_assoc]
  rfl
/-- a header -/
theorem ps_head (h : KA K 0 a) : pit K a C E Fn U = (a + 6, [(0, -1)], C ++ [mk 2 (a + 1) 1, mk 3 (a + 5) 0], E, Fn ++ [(((a + 1 : Nat) : Int), 1, (C.length : Int), -1)], U) := by
  have h0 : kn K a = 3 := h 0 (by decide)
  have h1 : kn K (a + 1) = 0 := h 1 (by decide)
  have h2 : kn K (a + 2) = 10 := h 2 (by decide)
  have h3 : kn K (a + 3) = 0 := h 3 (by decide)
  have h4 : kn K (a + 3 + 1) = 11 := h 4 (by decide)
  have h5 : kn K (a + 3 + 2) = 12 := h 5 (by decide)
  have hl := kn_lt (K := K) (i := a) (by omega)
  obtain ⟨m, hm⟩ : ∃ m, K.length = m + 1 := ⟨K.length - 1, by omega⟩
  have e : fnh K a = (true, a + 5, 1) := by
    unfold fnh
    rw [if_pos h1, if_pos h2, if_neg (by omega), hm]
    show (if kn K (a + 3) = 0 then (if kn K (a + 3 + 1) = 14 then _ else if kn K (a + 3 + 1) = 11 then (if kn K (a + 3 + 2) = 12 then (true, a + 3 + 2, 0 + 1) else _) else _) else _) = _
    rw [if_pos h3, if_neg (by omega), if_pos h4, if_pos h5]
  unfold pit
  rw [if_neg (by omega), if_pos h0, e]
  rfl
end Mre
