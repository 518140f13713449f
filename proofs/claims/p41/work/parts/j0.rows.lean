/-! TOKENS BY ROWS; WHICH TOKEN A COLUMN IS IN -/
def rg (L : List (Int × Nat × Nat)) (i : Nat) : Int × Nat × Nat := L.getD i (24, 0, 0)
def rtl (l : List Int) (b : Bool) : List (Int × Nat × Nat) := (lexL 24 l 0 b 0).1
/-- how many tokens a row has; how many stand ahead of a line -/
def nt (X : Nat → List Int) (f m : Nat) : Nat := (rtl (X (8 * f + m)) (md X f m)).length
def fs (X : Nat → List Int) (f : Nat) : Nat → Nat
  | 0 => 0
  | m + 1 => fs X f m + nt X f m
def ron (X : Nat → List Int) (f m i : Nat) : Int × Nat × Nat := rg (rtl (X (8 * f + m)) (md X f m)) i
section Mj0
variable {X : Nat → List Int} {f m i k : Nat}
theorem lexL_c0 : ∀ (k : Nat) (l : List Int) (j : Nat) (b : Bool) (c d : Nat), (lexL k l j b c).1 = (lexL k l j b d).1 ∧ (lexL k l j b c).2.2 = (lexL k l j b d).2.2 := by
  intro k
  induction k with
  | zero => intro l j b c d; exact ⟨rfl, rfl⟩
  | succ k ih =>
    intro l j b c d
    unfold lexL
    split
    · exact ⟨rfl, rfl⟩
    · split
      · exact ih _ _ _ _ _
      · split
        · exact ih _ _ _ _ _
        · split
          · exact ih _ _ _ _ _
          · have h := ih l (j + span l j) b (c + 1) (d + 1)
            exact ⟨by rw [h.1], h.2⟩
theorem rg_at {L : List (Int × Nat × Nat)} (h : i < L.length) : rg L i = L[i]'h := by
  unfold rg
  rw [List.getD_eq_getElem?_getD, List.getElem?_eq_getElem h]
  rfl
theorem rt_eq (hX : ∀ r, r < 24 → Rok (X r)) (hf : f < 3) (hm : m < 8) : (lexL 24 (X (8 * f + m)) 0 (lexTo X f m).2 (lexTo X f m).1.length).1 = rtl (X (8 * f + m)) (md X f m) := by
  unfold rtl
  rw [md_lex hX hf m (by omega)]
  exact (lexL_c0 _ _ _ _ _ _).1
theorem lexTo_fs (hX : ∀ r, r < 24 → Rok (X r)) (hf : f < 3) : ∀ m, m ≤ 8 → (lexTo X f m).1.length = fs X f m
  | 0, _ => rfl
  | m + 1, h => by
    show ((lexTo X f m).1 ++ (lexL 24 (X (8 * f + m)) 0 (lexTo X f m).2 (lexTo X f m).1.length).1.map (fun t => (t.1, m, t.2.1, t.2.2))).length = fs X f m + nt X f m
    rw [List.length_append, List.length_map, rt_eq hX hf (by omega), lexTo_fs hX hf m (by omega)]
    rfl
theorem lexTo_pre : ∀ n m, m ≤ n → ∃ T, (lexTo X f n).1 = (lexTo X f m).1 ++ T := by
  intro n
  induction n with
  | zero => intro m h; obtain rfl : m = 0 := Nat.le_zero.mp h; exact ⟨[], (List.append_nil _).symm⟩
  | succ n ih =>
    intro m h
    by_cases e : m = n + 1
    · subst e; exact ⟨[], (List.append_nil _).symm⟩
    · obtain ⟨T, hT⟩ := ih m (by omega)
      refine ⟨T ++ (lexL 24 (X (8 * f + n)) 0 (lexTo X f n).2 (lexTo X f n).1.length).1.map (fun t => (t.1, n, t.2.1, t.2.2)), ?_⟩
      show (lexTo X f n).1 ++ _ = _
      rw [hT, List.append_assoc]
/-- the i-th token of a line -/
theorem tok_at (hX : ∀ r, r < 24 → Rok (X r)) (hf : f < 3) (hm : m < 8) (hi : i < nt X f m) : fs X f m + i < (toks X f).length ∧ tk (toks X f) (fs X f m + i) = ((ron X f m i).1, m, (ron X f m i).2.1, (ron X f m i).2.2) := by
  obtain ⟨T, hT⟩ := lexTo_pre (X := X) (f := f) 8 (m + 1) (by omega)
  have hl := lexTo_fs hX hf m (by omega)
  have e1 : (lexTo X f (m + 1)).1 = (lexTo X f m).1 ++ (rtl (X (8 * f + m)) (md X f m)).map (fun t => (t.1, m, t.2.1, t.2.2)) := by
    rw [← rt_eq hX hf hm]
    rfl
  have hi2 : i < (rtl (X (8 * f + m)) (md X f m)).length := hi
  have hlen : fs X f m + i < (lexTo X f (m + 1)).1.length := by
    rw [e1, List.length_append, List.length_map, hl]
    omega
  have e2 : toks X f = (lexTo X f (m + 1)).1 ++ T := hT
  refine ⟨by rw [e2, List.length_append]; omega, ?_⟩
  rw [e2, tk_app, if_pos hlen, e1, tk_app, if_neg (by rw [hl]; omega), hl, Nat.add_sub_cancel_left]
  unfold tk ron
  rw [rg_at hi2, List.getD_eq_getElem?_getD, List.getElem?_map, List.getElem?_eq_getElem hi2]
  rfl
theorem tok_tl (hX : ∀ r, r < 24 → Rok (X r)) (hf : f < 3) (hm : m < 8) (hi : i < nt X f m) : kn (ks X f) (fs X f m + i) = (ron X f m i).1 ∧ tl X f (fs X f m + i) = m ∧ tc X f (fs X f m + i) = (ron X f m i).2.1 ∧ ts X f (fs X f m + i) = (ron X f m i).2.2 := by
  have h := tok_at hX hf hm hi
  have h2 := kn_tk h.1
  rw [h.2] at h2
  exact ⟨h2, by show (tk (toks X f) _).2.1 = m; rw [h.2], by show (tk (toks X f) _).2.2.1 = _; rw [h.2], by show (tk (toks X f) _).2.2.2 = _; rw [h.2]⟩
theorem fs_8 (hX : ∀ r, r < 24 → Rok (X r)) (hf : f < 3) : (toks X f).length = fs X f 8 := lexTo_fs hX hf 8 (Nat.le_refl _)
theorem fs_row : ∀ n k, k < fs X f n → ∃ m i, m < n ∧ i < nt X f m ∧ k = fs X f m + i := by
  intro n
  induction n with
  | zero => intro k h; exact absurd h (Nat.not_lt_zero k)
  | succ n ih =>
    intro k h
    by_cases c : k < fs X f n
    · obtain ⟨m, i, h1, h2, h3⟩ := ih k c
      exact ⟨m, i, by omega, h2, h3⟩
    · change k < fs X f n + nt X f n at h
      exact ⟨n, k - fs X f n, by omega, by omega, by omega⟩
theorem tok_row (hX : ∀ r, r < 24 → Rok (X r)) (hf : f < 3) (hk : k < (toks X f).length) : ∃ m i, m < 8 ∧ i < nt X f m ∧ k = fs X f m + i := fs_row 8 k (by rw [← fs_8 hX hf]; exact hk)
/-- the tokens of a line stand one behind the other -/
theorem lexL_srt : ∀ (k : Nat) (l : List Int) (j : Nat) (b : Bool) (c : Nat), (∀ t ∈ (lexL k l j b c).1, j ≤ t.2.1) ∧ (lexL k l j b c).1.Pairwise (fun s t => s.2.1 + s.2.2 ≤ t.2.1) := by
  intro k
  induction k with
  | zero => intro l j b c; exact ⟨fun t h => absurd h (List.not_mem_nil), List.Pairwise.nil⟩
  | succ k ih =>
    intro l j b c
    unfold lexL
    have wk : ∀ s b c, (∀ t ∈ (lexL k l (j + s) b c).1, j ≤ t.2.1) ∧ (lexL k l (j + s) b c).1.Pairwise (fun s t => s.2.1 + s.2.2 ≤ t.2.1) := fun s b c => ⟨fun t ht => by have := (ih l (j + s) b c).1 t ht; omega, (ih l (j + s) b c).2⟩
    split
    · exact ⟨fun t h => absurd h (List.not_mem_nil), List.Pairwise.nil⟩
    · split
      · exact wk 2 _ _
      · split
        · exact wk 1 _ _
        · split
          · exact wk 1 _ _
          · refine ⟨fun t ht => ?_, List.Pairwise.cons (fun t ht => (ih l (j + span l j) b (c + 1)).1 t ht) (ih l (j + span l j) b (c + 1)).2⟩
            rcases List.mem_cons.mp ht with h | h
            · rw [h]; exact Nat.le_refl _
            · exact (wk (span l j) b (c + 1)).1 t h
/-- which token a column is in -/
def ows (L : List (Int × Nat × Nat)) (O : List Int) (c j q : Nat) : Prop := (gx O q < 0 ∧ ∀ t ∈ L, ¬ (t.2.1 ≤ j + q ∧ j + q < t.2.1 + t.2.2)) ∨ ∃ i, i < L.length ∧ gx O q = ((c + i : Nat) : Int) ∧ (rg L i).2.1 ≤ j + q ∧ j + q < (rg L i).2.1 + (rg L i).2.2
theorem ows_skip {L : List (Int × Nat × Nat)} {O : List Int} {v : Int} {c j s q : Nat} (hv : v < 0) (hL : ∀ t ∈ L, j + s ≤ t.2.1) (h : s ≤ q → ows L O c (j + s) (q - s)) : ows L (List.replicate s v ++ O) c j q := by
  have e : gx (List.replicate s v ++ O) q = if q < s then v else gx O (q - s) := by
    rw [gx_app, List.length_replicate]
    by_cases c : q < s
    · rw [if_pos c, if_pos c]
      unfold gx
      rw [List.getD_eq_getElem?_getD, List.getElem?_replicate, if_pos c]
      rfl
    · rw [if_neg c, if_neg c]
  unfold ows
  rw [e]
  by_cases c1 : q < s
  · rw [if_pos c1]
    exact Or.inl ⟨hv, fun t ht => by have := hL t ht; omega⟩
  · rw [if_neg c1]
    have h2 := h (by omega)
    unfold ows at h2
    rw [show j + s + (q - s) = j + q by omega] at h2
    exact h2
theorem lexL_ows : ∀ (k : Nat) (l : List Int) (j : Nat) (b : Bool) (c q : Nat), l.length ≤ j + k → j + q < l.length → ows (lexL k l j b c).1 (lexL k l j b c).2.1 c j q := by
  intro k
  induction k with
  | zero => intro l j b c q h1 h2; omega
  | succ k ih =>
    intro l j b c q h1 h2
    have hs := span_pos l j (by omega)
    have sk : ∀ (s : Nat) (b : Bool) (v : Int), v < 0 → 1 ≤ s → ows (lexL k l (j + s) b c).1 (List.replicate s v ++ (lexL k l (j + s) b c).2.1) c j q := fun s b v hv h3 =>
      ows_skip hv (lexL_srt k l (j + s) b c).1 (fun h => ih l (j + s) b c (q - s) (by omega) (by omega))
    unfold lexL
    rw [if_neg (by omega)]
    split
    · exact sk 2 _ (-2) (by decide) (by decide)
    · split
      · exact sk 1 _ (-2) (by decide) (by decide)
      · split
        · exact sk 1 _ (-1) (by decide) (by decide)
        · by_cases c1 : q < span l j
          · refine Or.inr ⟨0, Nat.succ_pos _, ?_, ?_, ?_⟩
            · rw [gx_app, List.length_replicate, if_pos c1]
              unfold gx
              rw [List.getD_eq_getElem?_getD, List.getElem?_replicate, if_pos c1]
              rfl
            · show j ≤ j + q; omega
            · show j + q < j + span l j; omega
          · have h3 := ih l (j + span l j) b (c + 1) (q - span l j) (by omega) (by omega)
            unfold ows at h3 ⊢
            rw [show j + span l j + (q - span l j) = j + q by omega] at h3
            rw [gx_app, List.length_replicate, if_neg c1]
            rcases h3 with ⟨a1, a2⟩ | ⟨i, a1, a2, a3, a4⟩
            · refine Or.inl ⟨a1, fun t ht => ?_⟩
              rcases List.mem_cons.mp ht with h | h
              · rw [h]
                show ¬ (j ≤ j + q ∧ j + q < j + span l j)
                omega
              · exact a2 t h
            · refine Or.inr ⟨i + 1, by rw [List.length_cons]; omega, by rw [a2]; congr 1; omega, a3, a4⟩
/-- the owner of a column of a line -/
theorem own_tok {q : Nat} (hX : ∀ r, r < 24 → Rok (X r)) (hf : f < 3) (hm : m < 8) (hq : q < (X (8 * f + m)).length) :
    (gx (owns X f m) q < 0 ∧ ∀ k, k < (toks X f).length → tl X f k = m → ¬ (tc X f k ≤ q ∧ q < tc X f k + ts X f k)) ∨ ∃ k, k < (toks X f).length ∧ gx (owns X f m) q = (k : Int) ∧ tl X f k = m ∧ tc X f k ≤ q ∧ q < tc X f k + ts X f k := by
  have hl := (hX (8 * f + m) (by omega)).1
  have h := lexL_ows 24 (X (8 * f + m)) 0 (lexTo X f m).2 (lexTo X f m).1.length q (by omega) (by omega)
  unfold ows at h
  rw [rt_eq hX hf hm, lexTo_fs hX hf m (by omega), Nat.zero_add] at h
  have eo : (lexL 24 (X (8 * f + m)) 0 (lexTo X f m).2 (fs X f m)).2.1 = owns X f m := by
    unfold owns
    rw [lexTo_fs hX hf m (by omega)]
  rw [eo] at h
  rcases h with ⟨a1, a2⟩ | ⟨i, a1, a2, a3, a4⟩
  · refine Or.inl ⟨a1, fun k hk ht => ?_⟩
    obtain ⟨m2, i, h1, h2, rfl⟩ := tok_row hX hf hk
    have t := tok_tl hX hf h1 h2
    rw [t.2.1] at ht
    subst ht
    rw [t.2.2.1, t.2.2.2]
    unfold ron
    rw [rg_at h2]
    exact a2 _ (List.getElem_mem h2)
  · have t := tok_tl hX hf hm a1
    refine Or.inr ⟨fs X f m + i, (tok_at hX hf hm a1).1, a2, t.2.1, ?_, ?_⟩
    · rw [t.2.2.1]; exact a3
    · rw [t.2.2.1, t.2.2.2]; exact a4
end Mj0
