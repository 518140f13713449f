/-! AN INLINING, AS IT IS MEANT -/
def lte : List Int → Nat → Int
  | [], _ => -1
  | w :: C, t => if wo w = 7 ∧ wt w = (t : Int) then we w else lte C t
def callsX (X : Nat → List Int) (f a b : Nat) : Prop := ∃ k, a ≤ k ∧ k < b ∧ kn (ks X f) k = 0 ∧ kn (ks X f) (k + 1) = 10
/-- what a word is bound to -/
noncomputable def wbd (X : Nat → List Int) (f i : Nat) : Int := bnd X (200 * f + (wt (gx (Cw X f) i)).toNat)
def wrt (X : Nat → List Int) (f t e : Nat) : Prop := ∃ i, i < (Cw X f).length ∧ wo (gx (Cw X f) i) = 8 ∧ wbd X f i ≠ -1 ∧ (wbd X f i = ((200 * f + t : Nat) : Int) ∨ ∃ k, t + 2 ≤ k ∧ k < e ∧ bnd X (200 * f + k) = wbd X f i)
def alk (X : Nat → List Int) (f t e : Nat) : Prop := ∀ i, i < (Cw X f).length → wo (gx (Cw X f) i) = 14 → wbd X f i = ((200 * f + t : Nat) : Int) → ∀ k, t + 2 ≤ k → k < e → kn (ks X f) k = 0 → bnd X (200 * f + k) = idv f (fst' X f k (cand (sat (Cw X f) (i + 1))))
def inl2 (X : Nat → List Int) (f t : Nat) : Prop := ¬ ∃ e : Nat, lte (Cw X f) t = (e : Int) ∧ tl X f (t - 1) = tl X f e ∧ ¬ callsX X f (t + 2) e ∧ ¬ wrt X f t e ∧ alk X f t e
/-- the texts of some tokens, one behind the other -/
def itb (X : Nat → List Int) (f a : Nat) : Nat → List Int
  | 0 => []
  | n + 1 => itb X f a n ++ ((if 0 < n ∧ kn (ks X f) (a + n - 1) < 10 ∧ kn (ks X f) (a + n) < 10 then [32] else []) ++ tx X f (a + n))
def ity (X : Nat → List Int) (f t e : Nat) : List Int := if t + 3 < e then 40 :: (itb X f (t + 2) (e - (t + 2)) ++ [41]) else itb X f (t + 2) (e - (t + 2))
noncomputable def inlX (X : Nat → List Int) (f t : Nat) : Nat → List Int := rwX X (200 * f + t) (ity X f t (lte (Cw X f) t).toNat) ((8 * f + tl X f t : Nat) : Int) (tc X f (t - 1)) (tc X f (lte (Cw X f) t).toNat + 1)
noncomputable def inl3 (X : Nat → List Int) (f t : Nat) : Prop := ¬ AllS X (200 * f + t) (ity X f t (lte (Cw X f) t).toNat) ((8 * f + tl X f t : Nat) : Int) (tc X f (t - 1)) (tc X f (lte (Cw X f) t).toNat + 1) 24
noncomputable def iln (X : Nat → List Int) (f t : Nat) : Int := pif (inl2 X f t) 2 (pif (inl3 X f t) 3 0)
section Mk1
variable {X : Nat → List Int} {C : List Int} {f t e i j k c d p n : Nat}
theorem lte_some : ∀ (C : List Int) (t : Nat), lte C t ≠ -1 → ∃ i, i < C.length ∧ wo (gx C i) = 7 ∧ wt (gx C i) = (t : Int) ∧ lte C t = we (gx C i)
  | [], t, h => absurd rfl h
  | w :: C, t, h => by
    by_cases e : wo w = 7 ∧ wt w = (t : Int)
    · exact ⟨0, Nat.succ_pos _, e.1, e.2, if_pos e⟩
    · have e1 : lte (w :: C) t = lte C t := if_neg e
      rw [e1] at h ⊢
      obtain ⟨i, a, b, c, d⟩ := lte_some C t h
      exact ⟨i + 1, by rw [List.length_cons]; omega, b, c, d⟩
theorem lte_mem : ∀ (C : List Int) (t i : Nat), i < C.length → wo (gx C i) = 7 → wt (gx C i) = (t : Int) → (∀ w ∈ C, 0 ≤ we w) → lte C t ≠ -1
  | [], t, i, h, _, _, _ => absurd h (Nat.not_lt_zero i)
  | w :: C, t, i, h, h7, ht, h0 => by
    by_cases e : wo w = 7 ∧ wt w = (t : Int)
    · have e1 : lte (w :: C) t = we w := if_pos e
      have := h0 w List.mem_cons_self
      rw [e1]
      omega
    · have e1 : lte (w :: C) t = lte C t := if_neg e
      rw [e1]
      cases i with
      | zero => exact absurd ⟨h7, ht⟩ e
      | succ i => exact lte_mem C t i (by rw [List.length_cons] at h; omega) h7 ht (fun w hw => h0 w (List.mem_cons_of_mem _ hw))
theorem bset_7 {w : Int} (h : wo w = 7) : bset X f w (wt w) := ⟨Or.inr ⟨Or.inl h, rfl⟩, fun h2 => by omega⟩
/-- the LET of a token: its word -/
theorem let_at (hX : ∀ r, r < 24 → Rok (X r)) (hf : f < 3) (h : lte (Cw X f) t ≠ -1) : ∃ i e, i < (Cw X f).length ∧ gx (Cw X f) i = mk 7 t e ∧ lte (Cw X f) t = (e : Int) ∧ 1 ≤ t ∧ t + 1 < e ∧ e < (toks X f).length ∧ kn (ks X f) (t - 1) = 4 ∧ kn (ks X f) t = 0 ∧ kn (ks X f) e = 15 ∧ (∀ q, t ≤ q → q < e → okx (kn (ks X f) q)) ∧ bnd X (200 * f + t) = ((200 * f + t : Nat) : Int) := by
  obtain ⟨i, h1, h2, h3, h4⟩ := lte_some _ _ h
  obtain ⟨t', e, e1, e2, e3, e4, e5, e6, e7, e8⟩ := ((Cw_lv hX hf).1 _ (gx_mem h1)).1 h2
  have lk := toks_len hX hf
  rw [e1, wt_mk (by decide) e2] at h3
  have : t' = t := by omega
  subst this
  rw [e1, we_mk (by decide) e2] at h4
  have hb : bset X f (gx (Cw X f) i) (t' : Int) := by rw [e1]; exact (bset_1 (Or.inl rfl) e2).mpr rfl
  obtain ⟨m, m1, m2, m3⟩ := bset_tok hX hf h1 hb
  have : m = t' := by omega
  subst this
  have := bnd_self hX hf h1 hb (Or.inl h2)
  rw [ks_len'] at e6
  exact ⟨i, e, h1, e1, h4, e3, e5, e6, e4, m3, e7, e8, this.2⟩
/-- what is in scope was declared, with no function between -/
theorem cand_dcl (hX : ∀ r, r < 24 → Rok (X r)) (hf : f < 3) : ∀ i, i ≤ (Cw X f).length → ∀ t ∈ cand (sat (Cw X f) i), ∃ j, j < i ∧ bset X f (gx (Cw X f) j) t ∧ ((wo (gx (Cw X f) j) = 7 ∧ t = wt (gx (Cw X f) j)) ∨ (wo (gx (Cw X f) j) = 2 ∧ t ≠ wt (gx (Cw X f) j))) ∧ ∀ q, j < q → q < i → wo (gx (Cw X f) q) ≠ 2
  | 0, _, t, ht => absurd (show t ∈ ([] : List Int) from ht) (List.not_mem_nil)
  | i + 1, hi, t, ht => by
    have ih := cand_dcl hX hf i (by omega)
    have up : (∃ j, j < i ∧ bset X f (gx (Cw X f) j) t ∧ ((wo (gx (Cw X f) j) = 7 ∧ t = wt (gx (Cw X f) j)) ∨ (wo (gx (Cw X f) j) = 2 ∧ t ≠ wt (gx (Cw X f) j))) ∧ ∀ q, j < q → q < i → wo (gx (Cw X f) q) ≠ 2) → wo (gx (Cw X f) i) ≠ 2 → ∃ j, j < i + 1 ∧ bset X f (gx (Cw X f) j) t ∧ ((wo (gx (Cw X f) j) = 7 ∧ t = wt (gx (Cw X f) j)) ∨ (wo (gx (Cw X f) j) = 2 ∧ t ≠ wt (gx (Cw X f) j))) ∧ ∀ q, j < q → q < i + 1 → wo (gx (Cw X f) q) ≠ 2 := by
      rintro ⟨j, a, b, c, d⟩ h2
      refine ⟨j, by omega, b, c, fun q h3 h4 => ?_⟩
      by_cases e : q = i
      · rw [e]; exact h2
      · exact d q h3 (by omega)
    have e1 : sat (Cw X f) (i + 1) = sstep (sat (Cw X f) i) (gx (Cw X f) i) := rfl
    rw [e1] at ht
    by_cases h2 : wo (gx (Cw X f) i) = 2
    · have e2 : cand (sstep (sat (Cw X f) i) (gx (Cw X f) i)) = (List.range (we (gx (Cw X f) i)).toNat).map (fun q : Nat => wt (gx (Cw X f) i) + 2 + 2 * (q : Int)) := by
        unfold cand nms pars sstep
        rw [if_pos h2]
        rfl
      rw [e2] at ht
      obtain ⟨q, q1, q2⟩ := List.mem_map.mp ht
      rw [List.mem_range] at q1
      refine ⟨i, by omega, ⟨Or.inl ⟨h2, by omega, by omega, by omega⟩, fun h => by omega⟩, Or.inr ⟨h2, by omega⟩, fun q h3 h4 => by omega⟩
    · rcases List.mem_append.mp ht with h3 | h3
      · rcases (nms_step (s := sat (Cw X f) i) (w := gx (Cw X f) i)).2.2 t h3 with h4 | ⟨h4, h5⟩
        · exact up (ih t (List.mem_append_left _ h4)) h2
        · rw [h5]
          exact ⟨i, by omega, bset_7 h4, Or.inl ⟨h4, rfl⟩, fun q h6 h7 => by omega⟩
      · have : pars (sstep (sat (Cw X f) i) (gx (Cw X f) i)) = pars (sat (Cw X f) i) := by
          unfold pars
          rw [sst_par h2]
        rw [this] at h3
        exact up (ih t (List.mem_append_right _ h3)) h2
/-- where a variable was declared to which a word is bound -/
theorem dcl_word (hX : ∀ r, r < 24 → Rok (X r)) (hf : f < 3) (hi : i < (Cw X f).length) (ho : wo (gx (Cw X f) i) = 8 ∨ wo (gx (Cw X f) i) = 14) (hb : wbd X f i ≠ -1) :
    ∃ (j tT : Nat), j < i ∧ wbd X f i = ((200 * f + tT : Nat) : Int) ∧ bset X f (gx (Cw X f) j) (tT : Int) ∧ ((wo (gx (Cw X f) j) = 7 ∧ (tT : Int) = wt (gx (Cw X f) j)) ∨ (wo (gx (Cw X f) j) = 2 ∧ (tT : Int) ≠ wt (gx (Cw X f) j))) ∧ ∀ q, j < q → q ≤ i → wo (gx (Cw X f) q) ≠ 2 := by
  have lk := toks_len hX hf
  obtain ⟨o, t0, e0, e1, e2, e3⟩ := Cw_wc hX hf hi
  have ho2 : o = 8 ∨ o = 14 := by
    have : o < 256 := by unfold oX at e3; omega
    rw [e1, wo_mk this] at ho
    omega
  have ew : wt (gx (Cw X f) i) = (t0 : Int) := by rw [e1, wt_mk (by omega) e2]
  have eo : wo (gx (Cw X f) i) = (o : Int) := by rw [e1, wo_mk (by omega)]
  have hb' : bnd X (200 * f + t0) ≠ -1 := by
    have := hb
    unfold wbd at this
    rw [ew, Int.toNat_natCast] at this
    exact this
  have ht0 : t0 < 200 := by
    rcases e3 with (⟨a, b, c⟩ | ⟨a, b⟩ | ⟨-, -, a⟩) | ⟨a, b⟩ | ⟨a, b⟩ | a | a | ⟨a, b⟩
    · have : t0 < (ks X f).length := kn_lt (by unfold kp at c; omega)
      rw [ks_len'] at this
      omega
    · omega
    · omega
    · omega
    · omega
    · omega
    · omega
    · have : t0 < (ks X f).length := kn_lt (by rw [b]; decide)
      rw [ks_len'] at this
      omega
  have hk := bnd_kn hX hf ht0 hb'
  have hbs : bset X f (gx (Cw X f) i) ((200 * f + t0 : Nat) - 200 * (f : Int)) := by
    refine ⟨Or.inr ⟨by omega, by omega⟩, fun _ => ?_⟩
    rw [ew, Int.toNat_natCast]
    exact hk.2
  have hv := bnd_at (id := 200 * f + t0) hX hf hi (by omega) hbs
  have ev : wbd X f i = bnd X (200 * f + t0) := by unfold wbd; rw [ew, Int.toNat_natCast]
  unfold bval at hv
  rw [if_neg (by omega), if_pos (by omega), ew, Int.toNat_natCast] at hv
  have esat : sat (Cw X f) (i + 1) = sat (Cw X f) i := by
    show sstep (sat (Cw X f) i) (gx (Cw X f) i) = _
    unfold sstep
    rw [if_neg (by omega), if_neg (by omega), if_neg (by omega), if_neg (by omega)]
  rw [esat] at hv
  rcases fst_mem (X := X) (f := f) (k := t0) (cand (sat (Cw X f) i)) with h | h
  · rw [h, if_pos rfl] at hv
    exact absurd hv hb'
  · obtain ⟨j, j1, j2, j3, j4⟩ := cand_dcl hX hf i (by omega) _ h
    obtain ⟨m, m1, m2, m3⟩ := bset_tok hX hf (by omega) j2
    rw [m1] at hv j2 j3
    rw [if_neg (by omega)] at hv
    refine ⟨j, m, j1, by rw [ev, hv]; omega, j2, j3, fun q h3 h4 => ?_⟩
    by_cases c : q = i
    · rw [c]; omega
    · exact j4 q h3 (by omega)
/-- the words of a function, among those of a file -/
def FnR (X : Nat → List Int) (f c d : Nat) : Prop := c < d ∧ d ≤ (Cw X f).length ∧ wo (gx (Cw X f) c) = 2 ∧ (∀ q, c < q → q < d → wo (gx (Cw X f) q) ≠ 2) ∧ ∀ q, d ≤ q → q < (Cw X f).length → (∀ q', d ≤ q' → q' ≤ q → wo (gx (Cw X f) q') ≠ 2) → wo (gx (Cw X f) q) = 1
theorem FnR.mem (h : FnR X f c d) (hi : i < (Cw X f).length) (h1 : c ≤ i) (h2 : ∀ q, c < q → q ≤ i → wo (gx (Cw X f) q) ≠ 2) (h3 : wo (gx (Cw X f) i) ≠ 1) : i < d := by
  by_cases e : i < d
  · exact e
  · exact absurd (h.2.2.2.2 i (by omega) hi (fun q a b => h2 q (by have := h.1; omega) b)) h3
/-- a token of the expr of a LET: its word is one of its function -/
theorem exp_word {iL : Nat} (hX : ∀ r, r < 24 → Rok (X r)) (hf : f < 3) (hR : FnR X f c d) (hL : iL < (Cw X f).length) (hw : gx (Cw X f) iL = mk 7 t e) (ht : t < 256) (h1 : c ≤ iL) (h2 : iL < d) (hok : ∀ q, t ≤ q → q < e → okx (kn (ks X f) q)) (hk : t + 2 ≤ k ∧ k < e) (hi : i < (Cw X f).length) (hb : bset X f (gx (Cw X f) i) (k : Int)) : c ≤ i ∧ ∀ q, c < q → q ≤ i → wo (gx (Cw X f) q) ≠ 2 := by
  have hfs := (Cw_lv hX hf).2
  have tL : tin (t : Int) (gx (Cw X f) iL) := by rw [hw]; exact Or.inr ⟨Or.inl (wo_mk (by decide)), (wt_mk (by decide) ht).symm⟩
  have cl : c < iL := by
    by_cases e2 : c = iL
    · have := hR.2.2.1
      rw [e2, hw, wo_mk (by decide)] at this
      exact absurd this (by decide)
    · omega
  have f0 := hfs c (by omega) hR.2.2.1
  have pt := f0.2 iL cl hL _ tL
  refine ⟨?_, fun q q1 q2 q3 => ?_⟩
  · by_cases e2 : c ≤ i
    · exact e2
    · have := f0.1 i (by omega) _ hb.1
      omega
  · have hq : iL < q := by
      by_cases e2 : iL < q
      · exact e2
      · exact absurd q3 (hR.2.2.2.1 q q1 (by omega))
    obtain ⟨p, n, p1, p2, p3, p4⟩ := ((Cw_lv hX hf).1 _ (gx_mem (show q < (Cw X f).length by omega))).2 q3
    have fq := hfs q (by omega) q3
    rw [p1, wt_mk (by decide) p2] at fq
    have a1 := fq.1 iL hq _ tL
    have a2 : (p : Int) ≤ (k : Int) := by
      by_cases e2 : q = i
      · have := hb.1
        rw [← e2, p1] at this
        unfold tin at this
        rw [wo_mk (by decide), wt_mk (by decide) p2] at this
        omega
      · exact fq.2 i (by omega) hi _ hb.1
    have := hok (p - 1) (by omega) (by omega)
    rw [p4] at this
    exact this.2 rfl
/-- a value that is given to the variable, or to what its expr speaks of, is given in its function -/
theorem wrt_in {iL : Nat} (hX : ∀ r, r < 24 → Rok (X r)) (hf : f < 3) (hR : FnR X f c d) (hL : iL < (Cw X f).length) (hw : gx (Cw X f) iL = mk 7 t e) (ht : t < 200) (h1 : c ≤ iL) (h2 : iL < d) (he : e < 200) (hok : ∀ q, t ≤ q → q < e → okx (kn (ks X f) q)) (hi : i < (Cw X f).length) (ho : wo (gx (Cw X f) i) = 8 ∨ wo (gx (Cw X f) i) = 14) (hb : wbd X f i ≠ -1)
    (hx : wbd X f i = ((200 * f + t : Nat) : Int) ∨ ∃ k, t + 2 ≤ k ∧ k < e ∧ bnd X (200 * f + k) = wbd X f i) : c ≤ i ∧ i < d := by
  revert hx
  have lk := toks_len hX hf
  obtain ⟨j, tT, j1, j2, j3, j4, j5⟩ := dcl_word hX hf hi ho hb
  have bL : bset X f (gx (Cw X f) iL) (t : Int) := by rw [hw]; exact (bset_1 (Or.inl rfl) (by omega)).mpr rfl
  have tTl : tT < 200 := by
    obtain ⟨m, m1, m2, -⟩ := bset_tok hX hf (by omega) j3
    omega
  have clL : c ≠ iL := fun e2 => by
    have := hR.2.2.1
    rw [e2, hw, wo_mk (by decide)] at this
    exact absurd this (by decide)
  -- the declaration is one of the function
  have fin : (∃ i0, c ≤ i0 ∧ (∀ q, c < q → q ≤ i0 → wo (gx (Cw X f) q) ≠ 2) ∧ j ≤ i0 ∧ ∀ q, j < q → q ≤ i0 → wo (gx (Cw X f) q) ≠ 2) → c ≤ i ∧ i < d := by
    rintro ⟨i0, a1, a2, a3, a4⟩
    have cj : c ≤ j := by
      by_cases e2 : c ≤ j
      · exact e2
      · exact absurd hR.2.2.1 (a4 c (by omega) a1)
    refine ⟨by omega, hR.mem hi (by omega) (fun q q1 q2 => ?_) (by omega)⟩
    by_cases e2 : q ≤ j
    · exact a2 q q1 (by omega)
    · exact j5 q (by omega) q2
  intro hx
  rcases hx with hx | ⟨k, k1, k2, k3⟩
  · have : tT = t := by omega
    subst this
    have : j = iL := Cw_uniq hX hf (by omega) hL j3 bL
    subst this
    exact fin ⟨j, h1, fun q q1 q2 => hR.2.2.2.1 q q1 (by omega), Nat.le_refl _, fun q q1 q2 => by omega⟩
  · rw [j2] at k3
    rcases bnd_cas (id := 200 * f + k) hX (by omega) with h | ⟨g, ik, hg, hik, hbk⟩
    · omega
    · obtain ⟨m, m1, m2, m3⟩ := bset_tok hX hg hik hbk
      have lg := toks_len hX hg
      have hgf : g = f := by omega
      subst hgf
      have hm : m = k := by omega
      subst hm
      rw [m1] at hbk
      have ex := exp_word hX hf hR hL hw (by omega) h1 h2 hok ⟨k1, k2⟩ hik hbk
      have hv := bnd_at (id := 200 * g + m) hX hf hik (by omega) (by rw [show ((200 * g + m : Nat) : Int) - 200 * (g : Int) = (m : Int) by omega]; exact hbk)
      rw [k3] at hv
      -- where it is a declaration
      have slf : ((200 * g + tT : Nat) : Int) = ((200 * g + m : Nat) : Int) → c ≤ i ∧ i < d := by
        intro e2
        have : tT = m := by omega
        subst this
        have : j = ik := Cw_uniq hX hf (by omega) hik j3 hbk
        subst this
        exact fin ⟨j, ex.1, ex.2, Nat.le_refl _, fun q q1 q2 => by omega⟩
      unfold bval at hv
      by_cases o15 : wo (gx (Cw X g) ik) = 15
      · rw [if_pos o15] at hv
        exfalso
        rcases fnF_rng (X := X) (f := g) (k := (wt (gx (Cw X g) ik)).toNat) hX with h | ⟨g2, p, e1, e2, e3, en, e4, e5⟩
        · omega
        · have lg2 := toks_len hX e1
          have : g2 = g := by omega
          subst this
          have : p = tT := by omega
          subst this
          obtain ⟨p2, n, i2, p3, p4, p5, p6, p7, p8, p9⟩ := Fw_tok hX hf e4
          have : p2 = p := by omega
          subst this
          have b2 : bset X g2 (gx (Cw X g2) i2) (p2 : Int) := by
            rw [p8]
            refine ⟨Or.inl ⟨wo_mk (by decide), ?_, ?_, ?_⟩, fun h => by rw [wo_mk (by decide)] at h; exact absurd h (by decide)⟩
            · rw [wt_mk (by decide) p3]; exact Int.le_refl _
            · rw [wt_mk (by decide) p3, we_mk (by decide) p3]; omega
            · rw [wt_mk (by decide) p3]; omega
          have : j = i2 := Cw_uniq hX hf (by omega) p7 j3 b2
          subst this
          rw [p8, wo_mk (by decide), wt_mk (by decide) p3] at j4
          omega
      · rw [if_neg o15] at hv
        by_cases o8 : wo (gx (Cw X g) ik) = 8 ∨ wo (gx (Cw X g) ik) = 14
        · have ek : wbd X g ik = ((200 * g + tT : Nat) : Int) := by
            have : wt (gx (Cw X g) ik) = (m : Int) := by
              rcases hbk.1 with h | h
              · omega
              · exact h.2.symm
            unfold wbd
            rw [this, Int.toNat_natCast, k3]
          obtain ⟨j', tT', a1, a2, a3, a4, a5⟩ := dcl_word hX hf hik o8 (by rw [ek]; omega)
          have : tT' = tT := by omega
          subst this
          have : j = j' := Cw_uniq hX hf (by omega) (by omega) j3 a3
          subst this
          exact fin ⟨ik, ex.1, ex.2, by omega, a5⟩
        · rw [if_neg o8] at hv
          exact slf (by omega)
end Mk1
