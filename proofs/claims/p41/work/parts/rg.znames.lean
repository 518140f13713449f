/-! THE EIGHT LINES: what is declared where a line begins -/
def fsx (X : Nat → List Int) (T : List Int) : List Int → Int
  | [] => -1
  | t :: L => if tx X 0 t.toNat = T then t else fsx X T L
theorem fst_fsx {X : Nat → List Int} {k : Nat} : ∀ L, fst' X 0 k L = fsx X (tx X 0 k) L
  | [] => rfl
  | t :: L => by
    show (if tx X 0 t.toNat = tx X 0 k then t else fst' X 0 k L) = (if tx X 0 t.toNat = tx X 0 k then t else fsx X (tx X 0 k) L)
    rw [fst_fsx L]
theorem fsx_c {X : Nat → List Int} {T : List Int} {t : Int} {L : List Int} : fsx X T (t :: L) = if tx X 0 t.toNat = T then t else fsx X T L := rfl
theorem sat_pre {A B : List Int} : ∀ i, i ≤ A.length → sat (A ++ B) i = sat A i
  | 0, _ => rfl
  | i + 1, h => by
    show sstep (sat (A ++ B) i) (gx (A ++ B) i) = sstep (sat A i) (gx A i)
    rw [sat_pre i (by omega), gx_app, if_pos (by omega)]
theorem gx_mid {A B : List Int} {w : Int} : gx (A ++ w :: B) A.length = w := by
  rw [gx_app, if_neg (by omega), Nat.sub_self]
  rfl
theorem sat_at {A B : List Int} {w : Int} : sat (A ++ w :: B) (A.length + 1) = sstep (sat A A.length) w := by
  show sstep (sat (A ++ w :: B) A.length) (gx (A ++ w :: B) A.length) = _
  rw [sat_pre _ (Nat.le_refl _), gx_mid]
theorem sat_end : ∀ (L A : List Int), sat (A ++ L) (A ++ L).length = L.foldl sstep (sat A A.length)
  | [], A => by
    rw [List.append_nil]
    rfl
  | w :: L, A => by
    have h := sat_end L (A ++ [w])
    rw [List.append_assoc, List.singleton_append] at h
    rw [h]
    have h2 : sat (A ++ [w]) (A ++ [w]).length = sstep (sat A A.length) w := by
      rw [List.length_append]
      exact sat_at (B := [])
    rw [h2]
    rfl
theorem ss_o {s : SS} {o t e : Nat} (ho : o < 256) (h : o ≠ 2 ∧ o ≠ 3 ∧ o ≠ 4 ∧ o ≠ 7) : sstep s (mk o t e) = s := by
  unfold sstep
  rw [wo_mk ho, if_neg (by omega), if_neg (by omega), if_neg (by omega), if_neg (by omega)]
theorem ss_2 {s : SS} {t e : Nat} (ht : t < 256) : sstep s (mk 2 t e) = ([], [], (t : Int), (e : Int)) := by
  unfold sstep
  rw [wo_mk (by decide), if_pos (by decide), wt_mk (by decide) ht, we_mk (by decide) ht]
theorem ss_3 {s : SS} {t e : Nat} : sstep s (mk 3 t e) = ([], s.1 :: s.2.1, s.2.2) := by
  unfold sstep
  rw [wo_mk (by decide), if_neg (by decide), if_pos (by decide)]
theorem ss_4 {c b : List Int} {r : List (List Int)} {q : Int × Int} {t e : Nat} : sstep (c, b :: r, q) (mk 4 t e) = (b, r, q) := by
  unfold sstep
  rw [wo_mk (by decide), if_neg (by decide), if_neg (by decide), if_pos (by decide)]
theorem ss_7 {s : SS} {t e : Nat} (ht : t < 256) : sstep s (mk 7 t e) = ((t : Int) :: s.1, s.2) := by
  unfold sstep
  rw [wo_mk (by decide), if_neg (by decide), if_neg (by decide), if_neg (by decide), if_pos (by decide), wt_mk (by decide) ht]
theorem cand_z {c : List Int} {r : List (List Int)} : cand (c, r, 1, 1) = c ++ r.flatten ++ [3] := rfl
/-- the scope where line n begins -/
def szz (z n : Nat) : SS := sat (wz z n) (wz z n).length
theorem szz_s {z n : Nat} : szz z (n + 1) = (wlk (kdz z n) (fsz z n) (tgz z n) n).foldl sstep (szz z n) := sat_end (wlk (kdz z n) (fsz z n) (tgz z n) n) (wz z n)
/-- the scope holds what the law's four cells say -/
def NV (X : Nat → List Int) (b : Bool) (s : SS) (e : Nat → Int) : Prop := s.2.2 = (1, 1) ∧ (fsx X [120] (cand s) = e 0 ∧ fsx X [121] (cand s) = e 1) ∧ (b = true → ∃ c, s.2.1 = [c, []] ∧ fsx X [120] (c ++ [3]) = e 2 ∧ fsx X [121] (c ++ [3]) = e 3) ∧ (b = false → s.2.1 = [[]])
section Mrg
variable {X : Nat → List Int} {s : SS} {e t r : Nat → Int} {b : Bool} {a j n k z : Nat}
theorem NV.one (h : NV X b s e) : s = (s.1, s.2.1, 1, 1) := by
  have h1 := h.1
  obtain ⟨c, l, q⟩ := s
  have h1 : q = (1, 1) := h1
  rw [h1]
theorem NV.lety (h : NV X b s e) (hy : tx X 0 a = [121]) : NV X b ((a : Int) :: s.1, s.2) (vup e 1 (a : Int)) := by
  obtain ⟨c, l, q⟩ := s
  obtain ⟨h1, ⟨h2, h3⟩, h4, h5⟩ := h
  obtain rfl : q = (1, 1) := h1
  have e1 : cand ((a : Int) :: c, l, 1, 1) = (a : Int) :: cand (c, l, 1, 1) := rfl
  refine ⟨rfl, ⟨?_, ?_⟩, h4, h5⟩
  · show fsx X [120] (cand ((a : Int) :: c, l, 1, 1)) = vup e 1 (a : Int) 0
    rw [e1, fsx_c, Int.toNat_natCast, hy, if_neg (by decide)]
    exact h2
  · show fsx X [121] (cand ((a : Int) :: c, l, 1, 1)) = vup e 1 (a : Int) 1
    rw [e1, fsx_c, Int.toNat_natCast, hy, if_pos rfl]
    rfl
theorem NV.letx (h : NV X b s e) (hy : tx X 0 a = [120]) : NV X b ((a : Int) :: s.1, s.2) (vup e 0 (a : Int)) := by
  obtain ⟨c, l, q⟩ := s
  obtain ⟨h1, ⟨h2, h3⟩, h4, h5⟩ := h
  obtain rfl : q = (1, 1) := h1
  have e1 : cand ((a : Int) :: c, l, 1, 1) = (a : Int) :: cand (c, l, 1, 1) := rfl
  refine ⟨rfl, ⟨?_, ?_⟩, h4, h5⟩
  · show fsx X [120] (cand ((a : Int) :: c, l, 1, 1)) = vup e 0 (a : Int) 0
    rw [e1, fsx_c, Int.toNat_natCast, hy, if_pos rfl]
    rfl
  · show fsx X [121] (cand ((a : Int) :: c, l, 1, 1)) = vup e 0 (a : Int) 1
    rw [e1, fsx_c, Int.toNat_natCast, hy, if_neg (by decide)]
    exact h3
theorem NV.opens (h : NV X false s e) : NV X true ([], s.1 :: s.2.1, s.2.2) (vup (vup e 2 (e 0)) 3 (e 1)) := by
  obtain ⟨c, l, q⟩ := s
  obtain ⟨h1, ⟨h2, h3⟩, h4, h5⟩ := h
  obtain rfl : q = (1, 1) := h1
  obtain rfl : l = [[]] := h5 rfl
  have e1 : cand (c, [[]], 1, 1) = c ++ [3] := by
    rw [cand_z]
    show c ++ [] ++ [3] = _
    rw [List.append_nil]
  have e2 : cand ([], [c, []], 1, 1) = c ++ [3] := by
    rw [cand_z]
    show (c ++ []) ++ [3] = _
    rw [List.append_nil]
  rw [e1] at h2 h3
  refine ⟨rfl, ⟨?_, ?_⟩, fun _ => ⟨c, rfl, h2, h3⟩, fun h => absurd h (by decide)⟩
  · show fsx X [120] (cand ([], [c, []], 1, 1)) = _
    rw [e2]
    exact h2
  · show fsx X [121] (cand ([], [c, []], 1, 1)) = _
    rw [e2]
    exact h3
theorem NV.close (h : NV X true s e) : ∃ c, s.2.1 = [c, []] ∧ NV X false (c, [[]], 1, 1) (vup (vup e 0 (e 2)) 1 (e 3)) := by
  obtain ⟨h1, ⟨h2, h3⟩, h4, h5⟩ := h
  obtain ⟨c, h6, h7, h8⟩ := h4 rfl
  have e1 : cand (c, [[]], 1, 1) = c ++ [3] := by
    rw [cand_z]
    show c ++ [] ++ [3] = _
    rw [List.append_nil]
  refine ⟨c, h6, rfl, ⟨?_, ?_⟩, fun h => absurd h (by decide), fun _ => rfl⟩
  · rw [e1]; exact h7
  · rw [e1]; exact h8
/-- the words of each kind, and what the law's cells become -/
theorem w_k0 : wlk 0 a j n = [mk 2 (a + 1) 1, mk 3 (a + 5) 0] := by
  unfold wlk
  rw [if_pos rfl]
theorem w_k4 : wlk 4 a j n = [mk 6 a 0, mk 14 (a + 3) 0, mk 14 (a + 5) 0, mk 17 (a + 4) 0, mk 7 (a + 1) (a + 6)] := by
  unfold wlk
  rw [if_neg (by decide), if_neg (by decide), if_pos rfl]
theorem w_k5 : wlk 5 a j n = [mk 6 a 0, mk 14 (a + 3) 0, mk 7 (a + 1) (a + 4)] := by
  unfold wlk
  rw [if_neg (by decide), if_neg (by decide), if_neg (by decide), if_pos rfl]
theorem w_k6 : wlk 6 a j n = [mk 6 a 0, mk 14 (a + 1) 0, mk 10 a 0] := by
  unfold wlk
  rw [if_neg (by decide), if_neg (by decide), if_neg (by decide), if_neg (by decide), if_pos rfl]
theorem w_k7 : wlk 7 a j n = [mk 6 a 0, mk 14 (a + 1) 0, mk 14 (a + 3) 0, mk 17 (a + 2) 0, mk 10 a 0] := by
  unfold wlk
  rw [if_neg (by decide), if_neg (by decide), if_neg (by decide), if_neg (by decide), if_neg (by decide), if_pos (by decide)]
theorem w_k16 : wlk 16 a j n = [mk 6 a 0, mk 14 (a + 1) 0, mk 14 (a + 3) 0, mk 17 (a + 2) 0, mk 10 a 0] := by
  unfold wlk
  rw [if_neg (by decide), if_neg (by decide), if_neg (by decide), if_neg (by decide), if_neg (by decide), if_pos (by decide)]
theorem w_k8 : wlk 8 a j n = [mk 6 a 0, mk 14 (a + 1) 0, mk 14 (a + 3) 0, mk 17 (a + 2) 0, mk 11 a j, mk 3 (a + 4) 0] := by
  unfold wlk
  rw [if_neg (by decide), if_neg (by decide), if_neg (by decide), if_neg (by decide), if_neg (by decide), if_neg (by decide), if_pos rfl]
theorem w_k9 : wlk 9 a j n = [mk 4 a 1, mk 12 (a + 1) j, mk 3 (a + 2) 0] := by
  unfold wlk
  rw [if_neg (by decide), if_neg (by decide), if_neg (by decide), if_neg (by decide), if_neg (by decide), if_neg (by decide), if_neg (by decide), if_pos rfl]
theorem w_k10 : wlk 10 a j n = [mk 6 a 0, mk 14 (a + 2) 0, mk 14 (a + 4) 0, mk 17 (a + 3) 0, mk 8 a 0] := by
  unfold wlk
  rw [if_neg (by decide), if_neg (by decide), if_neg (by decide), if_neg (by decide), if_neg (by decide), if_neg (by decide), if_neg (by decide), if_neg (by decide), if_pos rfl]
theorem w_k20 : wlk 20 a j n = [mk 6 a 0, mk 14 (a + 4) 0, mk 16 (a + 3) 0, mk 7 (a + 1) (a + 5)] := by
  unfold wlk
  rw [if_neg (by decide), if_neg (by decide), if_neg (by decide), if_neg (by decide), if_neg (by decide), if_neg (by decide), if_neg (by decide), if_neg (by decide), if_neg (by decide), if_pos rfl]
theorem w_k22 : wlk 22 a j n = [mk 6 a 0, mk 3 a 0] := by
  unfold wlk
  rw [if_neg (by decide), if_neg (by decide), if_neg (by decide), if_neg (by decide), if_neg (by decide), if_neg (by decide), if_neg (by decide), if_neg (by decide), if_neg (by decide), if_neg (by decide)]
theorem w_k3 : wlk 3 a j n = if n = 7 then [mk 4 a 1, mk 5 0 0] else [mk 4 a 1] := by
  unfold wlk
  rw [if_neg (by decide), if_pos rfl]
theorem ene_n {kd : Int} (h : kd ≠ 3 ∧ kd ≠ 8 ∧ kd ≠ 9 ∧ kd ≠ 22) : ene kd n e = e := by
  unfold ene ene1
  rw [if_neg (by omega), if_neg (by omega)]
theorem ene_o {kd : Int} (h : kd = 8 ∨ kd = 22) : ene kd n e = vup (vup e 2 (e 0)) 3 (e 1) := by
  have e1 : ene1 kd n e = e := by
    unfold ene1
    rw [if_neg (by omega)]
  unfold ene
  rw [if_pos (by omega), e1]
theorem ene_9 {kd : Int} (h : kd = 9) : ene kd n e = vup (vup (vup (vup e 0 (e 2)) 1 (e 3)) 2 (vup (vup e 0 (e 2)) 1 (e 3) 0)) 3 (vup (vup e 0 (e 2)) 1 (e 3) 1) := by
  have e1 : ene1 kd n e = vup (vup e 0 (e 2)) 1 (e 3) := by
    unfold ene1
    rw [if_pos (by omega)]
  unfold ene
  rw [if_pos (by omega), e1]
theorem ene_3 {kd : Int} (h : kd = 3) (hn : n < 7) : ene kd n e = vup (vup e 0 (e 2)) 1 (e 3) := by
  unfold ene
  rw [if_neg (by omega)]
  unfold ene1
  rw [if_pos (by omega)]
theorem nmt_y {kd x : Int} (h : kd = 4 ∨ kd = 20) : (nmt kd x e t r).1 = vup e 1 (x + 1) := by
  unfold nmt
  rcases h with h | h
  · rw [if_pos h]
  · rw [if_neg (by omega), if_neg (by omega), if_pos h]
theorem nmt_x {kd x : Int} (h : kd = 5) : (nmt kd x e t r).1 = vup e 0 (x + 1) := by
  unfold nmt
  rw [if_neg (by omega), if_pos h]
theorem nmt_e {kd x : Int} (h : kd ≠ 4 ∧ kd ≠ 5 ∧ kd ≠ 20) : (nmt kd x e t r).1 = e := by
  unfold nmt
  rw [if_neg (by omega), if_neg (by omega), if_neg (by omega)]
  (repeat' split) <;> rfl
/-- lines of one statement -/
theorem fo_2 {o p q : Nat} (ho : o < 256) (h : o ≠ 2 ∧ o ≠ 3 ∧ o ≠ 4 ∧ o ≠ 7) {V : List Int} (k : ∀ s, V.foldl sstep s = s) : ∀ s, (mk o p q :: V).foldl sstep s = s := fun s => by
  show V.foldl sstep (sstep s (mk o p q)) = s
  rw [ss_o ho h]
  exact k s
theorem fo_0 : ∀ s : SS, ([] : List Int).foldl sstep s = s := fun _ => rfl
theorem w6 {p q : Nat} : ∀ s, [mk 6 p q].foldl sstep s = s := fo_2 (by decide) (by decide) fo_0
theorem nv_ly {V : List Int} {v : Nat} {e' : Nat → Int} (hV : ∀ s, V.foldl sstep s = s) (h : NV X b s e) (ha : a + 1 < 256) (hx : tx X 0 (a + 1) = [121]) (he : e' = vup e 1 ((a + 1 : Nat) : Int)) : NV X b ((V ++ [mk 7 (a + 1) v]).foldl sstep s) e' := by
  rw [List.foldl_append, hV, he, List.foldl_cons, List.foldl_nil, ss_7 ha]
  exact h.lety hx
theorem en_y {kd : Int} (hk : kd = 4 ∨ kd = 20) : ene kd n (nmt kd (a : Int) e t r).1 = vup e 1 ((a + 1 : Nat) : Int) := by
  have e1 : ((a + 1 : Nat) : Int) = (a : Int) + 1 := rfl
  rw [ene_n (by omega), nmt_y hk, e1]
theorem nv_k4 (h : NV X b s e) (ha : a + 1 < 256) (hx : tx X 0 (a + 1) = [121]) : NV X b ((wlk 4 a j n).foldl sstep s) (ene ((4 : Nat) : Int) n (nmt ((4 : Nat) : Int) (a : Int) e t r).1) := by
  rw [w_k4]
  exact nv_ly (V := [mk 6 a 0, mk 14 (a + 3) 0, mk 14 (a + 5) 0, mk 17 (a + 4) 0]) (v := a + 6) (fo_2 (by decide) (by decide) (fo_2 (by decide) (by decide) (fo_2 (by decide) (by decide) (fo_2 (by decide) (by decide) fo_0)))) h ha hx (en_y (Or.inl rfl))
theorem nv_k5 (h : NV X b s e) (ha : a + 1 < 256) (hx : tx X 0 (a + 1) = [120]) : NV X b ((wlk 5 a j n).foldl sstep s) (ene ((5 : Nat) : Int) n (nmt ((5 : Nat) : Int) (a : Int) e t r).1) := by
  rw [w_k5, ene_n (by decide), nmt_x (by decide), show (a : Int) + 1 = ((a + 1 : Nat) : Int) by omega]
  simp only [List.foldl_cons, List.foldl_nil]
  rw [ss_o (o := 6) (by decide) (by decide), ss_o (o := 14) (by decide) (by decide), ss_7 ha]
  exact h.letx hx
theorem nv_k6 (h : NV X b s e) : NV X b ((wlk 6 a j n).foldl sstep s) (ene ((6 : Nat) : Int) n (nmt ((6 : Nat) : Int) (a : Int) e t r).1) := by
  rw [w_k6, ene_n (by decide), nmt_e (by decide)]
  simp only [List.foldl_cons, List.foldl_nil]
  rw [ss_o (o := 6) (by decide) (by decide), ss_o (o := 14) (by decide) (by decide), ss_o (o := 10) (by decide) (by decide)]
  exact h
theorem nv_k7 (h : NV X b s e) : NV X b ((wlk 7 a j n).foldl sstep s) (ene ((7 : Nat) : Int) n (nmt ((7 : Nat) : Int) (a : Int) e t r).1) := by
  rw [w_k7, ene_n (by decide), nmt_e (by decide)]
  simp only [List.foldl_cons, List.foldl_nil]
  rw [ss_o (o := 6) (by decide) (by decide), ss_o (o := 14) (by decide) (by decide), ss_o (o := 14) (by decide) (by decide), ss_o (o := 17) (by decide) (by decide), ss_o (o := 10) (by decide) (by decide)]
  exact h
theorem nv_k10 (h : NV X b s e) : NV X b ((wlk 10 a j n).foldl sstep s) (ene ((10 : Nat) : Int) n (nmt ((10 : Nat) : Int) (a : Int) e t r).1) := by
  rw [w_k10, ene_n (by decide), nmt_e (by decide)]
  simp only [List.foldl_cons, List.foldl_nil]
  rw [ss_o (o := 6) (by decide) (by decide), ss_o (o := 14) (by decide) (by decide), ss_o (o := 14) (by decide) (by decide), ss_o (o := 17) (by decide) (by decide), ss_o (o := 8) (by decide) (by decide)]
  exact h
theorem nv_k16 (h : NV X b s e) : NV X b ((wlk 16 a j n).foldl sstep s) (ene ((16 : Nat) : Int) n (nmt ((16 : Nat) : Int) (a : Int) e t r).1) := by
  rw [w_k16, ene_n (by decide), nmt_e (by decide)]
  simp only [List.foldl_cons, List.foldl_nil]
  rw [ss_o (o := 6) (by decide) (by decide), ss_o (o := 14) (by decide) (by decide), ss_o (o := 14) (by decide) (by decide), ss_o (o := 17) (by decide) (by decide), ss_o (o := 10) (by decide) (by decide)]
  exact h
theorem nv_k20 (h : NV X b s e) (ha : a + 1 < 256) (hx : tx X 0 (a + 1) = [121]) : NV X b ((wlk 20 a j n).foldl sstep s) (ene ((20 : Nat) : Int) n (nmt ((20 : Nat) : Int) (a : Int) e t r).1) := by
  rw [w_k20]
  exact nv_ly (V := [mk 6 a 0, mk 14 (a + 4) 0, mk 16 (a + 3) 0]) (v := a + 5) (fo_2 (by decide) (by decide) (fo_2 (by decide) (by decide) (fo_2 (by decide) (by decide) fo_0))) h ha hx (en_y (Or.inr rfl))
theorem nv_free (hk : frk k) (ha : a + 1 < 256) (h : NV X b s e) (hx : k = 5 → tx X 0 (a + 1) = [120]) (hy : k = 4 ∨ k = 20 → tx X 0 (a + 1) = [121]) : NV X b ((wlk k a j n).foldl sstep s) (ene (k : Int) n (nmt (k : Int) (a : Int) e t r).1) := by
  rcases hk with e1 | e1 | e1 | e1 | e1 | e1 | e1
  · have hy := hy (Or.inl e1)
    rw [e1]
    exact nv_k4 h ha hy
  · have hx := hx e1
    rw [e1]
    exact nv_k5 h ha hx
  · rw [e1]
    exact nv_k6 h
  · rw [e1]
    exact nv_k7 h
  · rw [e1]
    exact nv_k10 h
  · rw [e1]
    exact nv_k16 h
  · have hy := hy (Or.inr e1)
    rw [e1]
    exact nv_k20 h ha hy
theorem nv_8 (h : NV X false s e) : NV X true ((wlk 8 a j n).foldl sstep s) (ene ((8 : Nat) : Int) n (nmt ((8 : Nat) : Int) (a : Int) e t r).1) := by
  rw [w_k8, ene_o (by decide), nmt_e (by decide)]
  simp only [List.foldl_cons, List.foldl_nil]
  rw [ss_o (o := 6) (by decide) (by decide), ss_o (o := 14) (by decide) (by decide), ss_o (o := 14) (by decide) (by decide), ss_o (o := 17) (by decide) (by decide), ss_o (o := 11) (by decide) (by decide), ss_3]
  exact h.opens
theorem nv_22 (h : NV X false s e) : NV X true ((wlk 22 a j n).foldl sstep s) (ene ((22 : Nat) : Int) n (nmt ((22 : Nat) : Int) (a : Int) e t r).1) := by
  rw [w_k22, ene_o (by decide), nmt_e (by decide)]
  simp only [List.foldl_cons, List.foldl_nil]
  rw [ss_o (o := 6) (by decide) (by decide), ss_3]
  exact h.opens
theorem nv_9 (h : NV X true s e) : NV X true ((wlk 9 a j n).foldl sstep s) (ene ((9 : Nat) : Int) n (nmt ((9 : Nat) : Int) (a : Int) e t r).1) := by
  obtain ⟨c, h1, h2⟩ := h.close
  rw [w_k9, ene_9 (by decide), nmt_e (by decide), h.one, h1]
  simp only [List.foldl_cons, List.foldl_nil]
  rw [ss_4, ss_o (o := 12) (by decide) (by decide), ss_3]
  exact h2.opens
theorem nv_3 (h : NV X true s e) : NV X false ((wlk 3 a j 6).foldl sstep s) (ene ((3 : Nat) : Int) 6 (nmt ((3 : Nat) : Int) (a : Int) e t r).1) := by
  obtain ⟨c, h1, h2⟩ := h.close
  rw [w_k3, if_neg (by decide), ene_3 (by decide) (by decide), nmt_e (by decide), h.one, h1]
  simp only [List.foldl_cons, List.foldl_nil]
  rw [ss_4]
  exact h2
/-- whether line n begins in a block -/
def inz (z n : Nat) : Bool := decide (0 < z % 3 ∧ 3 ≤ n ∧ n ≤ 6)
theorem kd_cas (h1 : 1 ≤ n) (h6 : n ≤ 6) : (frk (kdz z n) ∧ inz z (n + 1) = inz z n) ∨ ((kdz z n = 8 ∨ kdz z n = 22) ∧ inz z n = false ∧ inz z (n + 1) = true) ∨ (kdz z n = 9 ∧ inz z n = true ∧ inz z (n + 1) = true) ∨ (kdz z n = 3 ∧ n = 6 ∧ inz z n = true ∧ inz z (n + 1) = false) := by
  have hz : z % 3 = 0 ∨ z % 3 = 1 ∨ z % 3 = 2 := by omega
  have it : ∀ m, (0 < z % 3 ∧ 3 ≤ m ∧ m ≤ 6) → inz z m = true := fun m h => decide_eq_true h
  have jf : ∀ m, ¬ (0 < z % 3 ∧ 3 ≤ m ∧ m ≤ 6) → inz z m = false := fun m h => decide_eq_false h
  rcases hz with hz | hz | hz
  · exact Or.inl ⟨kd_free (by omega) (by omega) (fun _ => hz) (fun _ => hz) (fun _ => by omega), by rw [jf n (by omega), jf (n + 1) (by omega)]⟩
  · by_cases c2 : n = 2
    · subst c2
      exact Or.inr (Or.inl ⟨Or.inl (kdn_12 hz), jf 2 (by omega), it 3 (by omega)⟩)
    · by_cases c4 : n = 4
      · subst c4
        exact Or.inr (Or.inr (Or.inl ⟨kdn_14 hz, it 4 (by omega), it 5 (by omega)⟩))
      · by_cases c6 : n = 6
        · subst c6
          exact Or.inr (Or.inr (Or.inr ⟨kdn_6 (by omega), rfl, it 6 (by omega), jf 7 (by omega)⟩))
        · refine Or.inl ⟨kd_free (by omega) (by omega) (fun e => absurd e c6) (fun e => absurd e c2) (fun e => absurd e c4), ?_⟩
          by_cases c1 : n = 1
          · rw [jf n (by omega), jf (n + 1) (by omega)]
          · rw [it n (by omega), it (n + 1) (by omega)]
  · by_cases c2 : n = 2
    · subst c2
      exact Or.inr (Or.inl ⟨Or.inr (kdn_22 hz), jf 2 (by omega), it 3 (by omega)⟩)
    · by_cases c6 : n = 6
      · subst c6
        exact Or.inr (Or.inr (Or.inr ⟨kdn_6 (by omega), rfl, it 6 (by omega), jf 7 (by omega)⟩))
      · refine Or.inl ⟨kd_free (by omega) (by omega) (fun e => absurd e c6) (fun e => absurd e c2) (fun _ => by omega), ?_⟩
        by_cases c1 : n = 1
        · rw [jf n (by omega), jf (n + 1) (by omega)]
        · rw [it n (by omega), it (n + 1) (by omega)]
theorem nv_0 : NV (XZ z 8) (inz z 1) (szz z 1) (nmS z 0).1 := by
  have e1 : szz z 1 = ([], [[]], 1, 1) := by
    have q0 : szz z 0 = ss0 := rfl
    have f0 : fsz z 0 = 0 := rfl
    rw [szz_s, kdn_0, w_k0, q0, f0]
    simp only [List.foldl_cons, List.foldl_nil]
    rw [ss_2 (by decide), ss_3]
    rfl
  have x3 : tx (XZ z 8) 0 3 = [120] := by
    have := tx_z (z := z) (n := 0) (i := 3) (by decide) (by rw [kdn_0]; decide)
    rw [kdn_0, txk_x.1.1] at this
    exact this
  have i1 : inz z 1 = false := decide_eq_false (by omega)
  rw [e1, i1]
  refine ⟨rfl, ⟨?_, ?_⟩, fun h => absurd h (by decide), fun _ => rfl⟩
  · show (if tx (XZ z 8) 0 3 = [120] then (3 : Int) else -1) = 3
    rw [if_pos x3]
  · show (if tx (XZ z 8) 0 3 = [121] then (3 : Int) else -1) = -1
    rw [x3, if_neg (by decide)]
theorem nmS_s : nmS z (n + 1) = (ene (kdz z (n + 1)) (n + 1) (nmt (kdz z (n + 1)) (fsz z (n + 1)) (nmS z n).1 (nmS z n).2.1 (nmS z n).2.2).1, (nmt (kdz z (n + 1)) (fsz z (n + 1)) (nmS z n).1 (nmS z n).2.1 (nmS z n).2.2).2) := rfl
theorem tx_k {i : Nat} {T : List Int} (hn : n < 8) (hk : kdz z n = k) (hi : i < tkz k) (hT : txk k i = T) : tx (XZ z 8) 0 (fsz z n + i) = T := by
  have := tx_z (z := z) (n := n) (i := i) hn (by rw [hk]; exact hi)
  rw [this, hk, hT]
theorem nv_z : ∀ n, n < 7 → NV (XZ z 8) (inz z (n + 1)) (szz z (n + 1)) (nmS z n).1
  | 0, _ => nv_0
  | n + 1, hn => by
    have h := nv_z n (by omega)
    have f := fz_lt2 (z := z) (n := n + 1 + 1) (by omega)
    have fs : fsz z (n + 1 + 1) = fsz z (n + 1) + tkz (kdz z (n + 1)) := rfl
    rw [szz_s, nmS_s]
    rcases kd_cas (z := z) (n := n + 1) (by omega) (by omega) with ⟨h1, h2⟩ | ⟨h1, h2, h3⟩ | ⟨h1, h2, h3⟩ | ⟨h1, h2, h3, h4⟩
    · rw [h2]
      have tz : 3 ≤ tkz (kdz z (n + 1)) := by
        rcases h1 with e | e | e | e | e | e | e <;> rw [e] <;> decide
      exact nv_free h1 (by omega) h (fun e => tx_k (by omega) e (by decide) txk_x.1.2.2.1) (fun e => by
        rcases e with e | e
        · exact tx_k (by omega) e (by decide) txk_x.2.2.1.1
        · exact tx_k (by omega) e (by decide) txk_x.2.2.1.2.2.2)
    · rw [h3]
      rw [h2] at h
      rcases h1 with e | e
      · rw [e]
        exact nv_8 h
      · rw [e]
        exact nv_22 h
    · rw [h3]
      rw [h2] at h
      rw [h1]
      exact nv_9 h
    · rw [h4]
      rw [h3] at h
      have h2 : n = 5 := by omega
      subst h2
      rw [h1]
      exact nv_3 h
/-! THE EIGHT LINES: what names are bound to -/
theorem cz_0 : (200 * ((0 : Nat) : Int)) = 0 := rfl
theorem bnd_w {A B : List Int} {o v : Nat} (hC : Cw (XZ z 8) 0 = A ++ mk o k v :: B) (hb : bset (XZ z 8) 0 (mk o k v) (n : Int)) (hn : n < 600) : bnd (XZ z 8) n = bval (XZ z 8) 0 (sstep (sat A A.length) (mk o k v)) (mk o k v) n := by
  have hl : A.length < (Cw (XZ z 8) 0).length := by
    rw [hC, List.length_append, List.length_cons]
    omega
  have hg : gx (Cw (XZ z 8) 0) A.length = mk o k v := by rw [hC, gx_mid]
  have h := bnd_at (X := XZ z 8) (f := 0) (i := A.length) (id := n) XZ_ok (by decide) hl hn (by rw [hg, cz_0, Int.sub_zero]; exact hb)
  rw [h, hg, hC, sat_at]
theorem bnd_let {A B : List Int} {v : Nat} (hC : Cw (XZ z 8) 0 = A ++ mk 7 k v :: B) (hk : k < 200) : bnd (XZ z 8) k = (k : Int) := by
  rw [bnd_w (n := k) hC ((bset_1 (Or.inl rfl) (by omega)).mpr rfl) (by omega)]
  unfold bval
  rw [wo_mk (by decide), if_neg (by decide), if_neg (by decide)]
theorem bnd_nam {A B : List Int} {o v : Nat} (hC : Cw (XZ z 8) 0 = A ++ mk o k v :: B) (ho : o = 8 ∨ o = 14 ∧ kn (ks (XZ z 8) 0) k = 0) (hk : k < 200) (hs : sat A A.length = s) : bnd (XZ z 8) k = fsx (XZ z 8) (tx (XZ z 8) 0 k) (cand s) := by
  rw [bnd_w (n := k) hC ((bset_1 (by rcases ho with h | h; exact Or.inr (Or.inl h); exact Or.inr (Or.inr (Or.inr h))) (by omega)).mpr rfl) (by omega), hs]
  unfold bval
  rw [ss_o (by omega) (by omega), wo_mk (by omega), wt_mk (by omega) (by omega), if_neg (by omega), if_pos (by omega), Int.toNat_natCast, fst_fsx, cz_0, Int.zero_add]
  by_cases c : fsx (XZ z 8) (tx (XZ z 8) 0 k) (cand s) = -1
  · rw [if_pos c, c]
  · rw [if_neg c]
theorem wz_cut (hn : n < 8) : ∃ B, Cw (XZ z 8) 0 = wz z n ++ (wlk (kdz z n) (fsz z n) (tgz z n) n ++ B) := by
  rw [Cw_z]
  have key : ∀ d, ∃ B, wz z (n + 1 + d) = wz z n ++ (wlk (kdz z n) (fsz z n) (tgz z n) n ++ B) := by
    intro d
    induction d with
    | zero => exact ⟨[], by rw [List.append_nil]; rfl⟩
    | succ d ih =>
      obtain ⟨B, h⟩ := ih
      refine ⟨B ++ wlk (kdz z (n + 1 + d)) (fsz z (n + 1 + d)) (tgz z (n + 1 + d)) (n + 1 + d), ?_⟩
      show wz z (n + 1 + d) ++ wlk (kdz z (n + 1 + d)) (fsz z (n + 1 + d)) (tgz z (n + 1 + d)) (n + 1 + d) = _
      rw [h, List.append_assoc, List.append_assoc]
  have := key (7 - n)
  rwa [show n + 1 + (7 - n) = 8 by omega] at this
/-- a word of a line that speaks of a name -/
theorem bnd_l {V W : List Int} {o v : Nat} (hn : n < 8) (hw : wlk (kdz z n) (fsz z n) (tgz z n) n = V ++ mk o k v :: W) (ho : o = 8 ∨ o = 14 ∧ kn (ks (XZ z 8) 0) k = 0) (hk : k < 200) (hs : ∀ s, V.foldl sstep s = s) : bnd (XZ z 8) k = fsx (XZ z 8) (tx (XZ z 8) 0 k) (cand (szz z n)) := by
  obtain ⟨B, hB⟩ := wz_cut (z := z) hn
  refine bnd_nam (A := wz z n ++ V) (B := W ++ B) (o := o) (v := v) ?_ ho hk ?_
  · rw [hB, hw]
    simp only [List.append_assoc, List.cons_append]
  · rw [sat_end, hs]
    rfl
theorem bnd_ll {V : List Int} {v : Nat} (hn : n < 8) (hw : wlk (kdz z n) (fsz z n) (tgz z n) n = V ++ [mk 7 k v]) (hk : k < 200) : bnd (XZ z 8) k = (k : Int) := by
  obtain ⟨B, hB⟩ := wz_cut (z := z) hn
  refine bnd_let (A := wz z n ++ V) (B := B) (v := v) ?_ hk
  rw [hB, hw]
  simp only [List.append_assoc, List.cons_append, List.nil_append]
theorem bnd_hd (hn : n = 1 ∨ n = 3) : bnd (XZ z 8) n = (n : Int) := by
  obtain ⟨W, hW⟩ := wz_1 (z := z) 7
  have hC : Cw (XZ z 8) 0 = [] ++ mk 2 1 1 :: W := by rw [Cw_z, hW]; rfl
  have hb : bset (XZ z 8) 0 (mk 2 1 1) (n : Int) := by
    refine ⟨Or.inl ?_, fun h => absurd h (by rw [wo_mk (by decide)]; decide)⟩
    rw [wo_mk (by decide), wt_mk (by decide) (by decide), we_mk (by decide) (by decide)]
    omega
  rw [bnd_w hC hb (by omega)]
  unfold bval
  rw [wo_mk (by decide), if_neg (by decide), if_neg (by decide)]
end Mrg
