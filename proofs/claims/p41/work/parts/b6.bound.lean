/-! TYPES: what tokens are bound to, once more -/
def Dc (X : Nat → List Int) (v : Nat) : Prop := v < 600 ∧ bnd X v = (v : Int)
section Mb6
variable {X : Nat → List Int} {f g i j t id v n p k : Nat}
theorem bset_tok {t : Int} (hX : ∀ r, r < 24 → Rok (X r)) (hf : f < 3) (hi : i < (Cw X f).length) (h : bset X f (gx (Cw X f) i) t) : ∃ m : Nat, t = (m : Int) ∧ m < (toks X f).length ∧ kn (ks X f) m = 0 := by
  obtain ⟨o, q, e, e1, e2, e3⟩ := Cw_wc hX hf hi
  rw [e1] at h
  unfold bset tin at h
  have ho : o < 256 := by unfold oX at e3; omega
  rw [wo_mk ho, wt_mk ho e2, we_mk ho e2, Int.toNat_natCast] at h
  have fin : ∀ m : Nat, kn (ks X f) m = 0 → t = (m : Int) → ∃ m : Nat, t = (m : Int) ∧ m < (toks X f).length ∧ kn (ks X f) m = 0 := fun m h0 e => ⟨m, e, kn_tok (by rw [h0]; decide), h0⟩
  obtain ⟨⟨h1, h2, h3, h4⟩ | ⟨h1, h2⟩, h5⟩ := h
  · rcases e3 with h' | h' | ⟨-, h'⟩ | h' | h' | h'
    · unfold oX at h'; omega
    · omega
    · exact fin (q + 2 * ((t - q) / 2).toNat) (h' _ (by omega)) (by omega)
    · omega
    · omega
    · omega
  · have hk : kn (ks X f) q = 0 := by
      by_cases e14 : (o : Int) = 14
      · exact h5 e14
      · unfold oX at e3
        rcases e3 with h' | h' | ⟨h', -⟩ | h' | h' | h'
        · omega
        · omega
        · omega
        · omega
        · omega
        · exact h'.2
    exact fin q hk h2
theorem bat_oth {B : Nat → Int} (hX : ∀ r, r < 24 → Rok (X r)) (hg : g < 3) (hid : id < 600) (hne : id / 200 ≠ g) : bat X g B (Cw X g).length id = B id :=
  ((bat_vs (B := B) hX hg _ (Nat.le_refl _)) id hid).2 (fun i _ hi hb => by
    obtain ⟨m, h1, h2, -⟩ := bset_tok hX hg hi hb
    have := toks_len hX hg
    omega)
theorem bnd_at (hX : ∀ r, r < 24 → Rok (X r)) (hf : f < 3) (hi : i < (Cw X f).length) (hid : id < 600) (hb : bset X f (gx (Cw X f) i) ((id : Int) - 200 * (f : Int))) : bnd X id = bval X f (sat (Cw X f) (i + 1)) (gx (Cw X f) i) id := by
  have e : id / 200 = f := by
    obtain ⟨m, h1, h2, -⟩ := bset_tok hX hf hi hb
    have := toks_len hX hf
    omega
  have s : ∀ B : Nat → Int, bat X f B (Cw X f).length id = bval X f (sat (Cw X f) (i + 1)) (gx (Cw X f) i) id := fun B => ((bat_vs (B := B) hX hf _ (Nat.le_refl _)) id hid).1 i (Nat.zero_le _) hi hb
  unfold bnd
  have h3 : f = 0 ∨ f = 1 ∨ f = 2 := by omega
  rcases h3 with rfl | rfl | rfl
  · rw [bat_oth (g := 2) hX (by decide) hid (by omega), bat_oth (g := 1) hX (by decide) hid (by omega)]
    exact s _
  · rw [bat_oth (g := 2) hX (by decide) hid (by omega)]
    exact s _
  · exact s _
theorem bnd_no (hX : ∀ r, r < 24 → Rok (X r)) (hid : id < 600) (h : ∀ f i, f < 3 → i < (Cw X f).length → ¬ bset X f (gx (Cw X f) i) ((id : Int) - 200 * (f : Int))) : bnd X id = -1 := by
  have s : ∀ (f : Nat) (B : Nat → Int), f < 3 → bat X f B (Cw X f).length id = B id := fun f B hf => ((bat_vs (B := B) hX hf _ (Nat.le_refl _)) id hid).2 (fun i _ hi => h f i hf hi)
  unfold bnd
  rw [s 2 _ (by decide), s 1 _ (by decide), s 0 _ (by decide)]
theorem bnd_cas (hX : ∀ r, r < 24 → Rok (X r)) (hid : id < 600) : bnd X id = -1 ∨ ∃ f i, f < 3 ∧ i < (Cw X f).length ∧ bset X f (gx (Cw X f) i) ((id : Int) - 200 * (f : Int)) := by
  by_cases h : ∃ f i, f < 3 ∧ i < (Cw X f).length ∧ bset X f (gx (Cw X f) i) ((id : Int) - 200 * (f : Int))
  · exact Or.inr h
  · exact Or.inl (bnd_no hX hid (fun f i h1 h2 h3 => h ⟨f, i, h1, h2, h3⟩))
theorem sst_par {s : SS} {w : Int} (h : wo w ≠ 2) : (sstep s w).2.2 = s.2.2 := by
  unfold sstep
  rw [if_neg h]
  split
  · rfl
  · split
    · split <;> rfl
    · split <;> rfl
theorem cand_set (hX : ∀ r, r < 24 → Rok (X r)) (hf : f < 3) : ∀ i, i ≤ (Cw X f).length → ∀ t ∈ cand (sat (Cw X f) i), ∃ j, j < (Cw X f).length ∧ bset X f (gx (Cw X f) j) t ∧ (wo (gx (Cw X f) j) = 7 ∨ wo (gx (Cw X f) j) = 2)
  | 0, _, t, ht => absurd (show t ∈ ([] : List Int) from ht) (List.not_mem_nil)
  | i + 1, hi, t, ht => by
    have ih := cand_set hX hf i (by omega)
    change t ∈ nms (sstep (sat (Cw X f) i) (gx (Cw X f) i)) ++ pars (sstep (sat (Cw X f) i) (gx (Cw X f) i)) at ht
    rcases List.mem_append.mp ht with h | h
    · rcases (nms_step (s := sat (Cw X f) i) (w := gx (Cw X f) i)).2.2 t h with h1 | ⟨h1, h2⟩
      · exact ih t (List.mem_append_left _ h1)
      · exact ⟨i, by omega, ⟨Or.inr ⟨Or.inl h1, h2⟩, fun h3 => by omega⟩, Or.inl h1⟩
    · by_cases e : wo (gx (Cw X f) i) = 2
      · have e2 : pars (sstep (sat (Cw X f) i) (gx (Cw X f) i)) = (List.range (we (gx (Cw X f) i)).toNat).map (fun q : Nat => wt (gx (Cw X f) i) + 2 + 2 * (q : Int)) := by
          unfold pars sstep
          rw [if_pos e]
        rw [e2] at h
        obtain ⟨q, h1, h2⟩ := List.mem_map.mp h
        have h3 := List.mem_range.mp h1
        exact ⟨i, by omega, ⟨Or.inl ⟨e, by omega, by omega, by omega⟩, fun h3 => by omega⟩, Or.inr e⟩
      · have e2 : pars (sstep (sat (Cw X f) i) (gx (Cw X f) i)) = pars (sat (Cw X f) i) := by
          unfold pars
          rw [sst_par e]
        rw [e2] at h
        exact ih t (List.mem_append_right _ h)
theorem fst_mem : ∀ L : List Int, fst' X f k L = -1 ∨ fst' X f k L ∈ L
  | [] => Or.inl rfl
  | t :: L => by
    show (if tx X f t.toNat = tx X f k then t else fst' X f k L) = -1 ∨ (if tx X f t.toNat = tx X f k then t else fst' X f k L) ∈ t :: L
    split
    · exact Or.inr (List.mem_cons_self)
    · rcases fst_mem L with h | h
      · exact Or.inl h
      · exact Or.inr (List.mem_cons_of_mem _ h)
theorem bnd_self (hX : ∀ r, r < 24 → Rok (X r)) (hf : f < 3) (hj : j < (Cw X f).length) (hb : bset X f (gx (Cw X f) j) (t : Int)) (h : wo (gx (Cw X f) j) = 7 ∨ wo (gx (Cw X f) j) = 2) : Dc X (200 * f + t) := by
  obtain ⟨m, h1, h2, -⟩ := bset_tok hX hf hj hb
  have := toks_len hX hf
  have e0 : ((200 * f + t : Nat) : Int) - 200 * (f : Int) = (t : Int) := by omega
  refine ⟨by omega, ?_⟩
  rw [bnd_at hX hf hj (by omega) (by rw [e0]; exact hb)]
  unfold bval
  rw [if_neg (by omega), if_neg (by omega)]
theorem fn_D {e : Int × Int × Int × Int} (hX : ∀ r, r < 24 → Rok (X r)) (hf : f < 3) (he : e ∈ Fw X f) (h1 : e.1 = (p : Int)) : Dc X (200 * f + p) ∧ ∀ j : Nat, (j : Int) < e.2.1 → Dc X (200 * f + p + 2 + 2 * j) := by
  obtain ⟨q, n, i, a1, a2, a3, a4, a5, a6, a7⟩ := Fw_tok hX hf he
  have hq : q = p := by omega
  subst hq
  have w1 := wo_mk (o := 2) (t := q) (e := n) (by decide)
  have w2 := wt_mk (o := 2) (t := q) (e := n) (by decide) a1
  have w3 := we_mk (o := 2) (t := q) (e := n) (by decide) a1
  have key : ∀ j, j ≤ n → Dc X (200 * f + (q + 2 * j)) := fun j hj => bnd_self (t := q + 2 * j) hX hf a5 (by
    rw [a6]
    exact ⟨Or.inl ⟨by rw [w1]; rfl, by rw [w2]; omega, by rw [w2, w3]; omega, by rw [w2]; omega⟩, fun h => by rw [w1] at h; omega⟩) (by rw [a6, w1]; exact Or.inr rfl)
  refine ⟨key 0 (Nat.zero_le _), fun j hj => ?_⟩
  have := key (j + 1) (by omega)
  rw [show 200 * f + (q + 2 * (j + 1)) = 200 * f + q + 2 + 2 * j by omega] at this
  exact this
theorem bnd_D (hX : ∀ r, r < 24 → Rok (X r)) (hid : id < 600) (h : bnd X id ≠ -1) : Dc X (bnd X id).toNat ∧ ((bnd X id).toNat : Int) = bnd X id := by
  have br := bnd_rng hX id hid
  refine ⟨?_, by omega⟩
  obtain ⟨f, i, hf, hi, hb⟩ := (bnd_cas hX hid).resolve_left h
  have e := bnd_at hX hf hi hid hb
  unfold bval at e
  split at e
  · rcases fnF_rng (f := f) (k := (wt (gx (Cw X f) i)).toNat) hX with h1 | ⟨g, p, h1, h2, h3, en, h4, h5⟩
    · exact absurd (e.trans h1) h
    · rw [e, h2, Int.toNat_natCast]
      exact (fn_D hX h1 h4 h5).1
  · split at e
    · split at e
      · exact absurd e h
      · next h1 =>
        have hm := (fst_mem (X := X) (f := f) (k := (wt (gx (Cw X f) i)).toNat) (cand (sat (Cw X f) (i + 1)))).resolve_left h1
        obtain ⟨j, j1, j2, j3⟩ := cand_set hX hf (i + 1) (by omega) _ hm
        obtain ⟨m, m1, m2, -⟩ := bset_tok hX hf j1 j2
        rw [m1] at j2 e
        rw [e, show (200 * (f : Int) + (m : Int)).toNat = 200 * f + m by omega]
        exact bnd_self hX hf j1 j2 j3
    · rw [e, Int.toNat_natCast]
      exact ⟨hid, e⟩
theorem fix_mem : ∀ (L : FF) (t : Int) (i : Nat), (∃ e ∈ L, e.1 = t) → fix' L t i ≠ -1
  | [], t, i, ⟨e, h, _⟩ => absurd h (List.not_mem_nil)
  | a :: L, t, i, ⟨e, h, h2⟩ => by
    show (if a.1 = t then (i : Int) else fix' L t (i + 1)) ≠ -1
    split
    · omega
    · next h3 =>
      rcases List.mem_cons.mp h with h4 | h4
      · rw [h4] at h2; exact absurd h2 h3
      · exact fix_mem L t (i + 1) ⟨e, h4, h2⟩
end Mb6
