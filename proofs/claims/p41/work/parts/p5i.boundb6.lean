/-! TYPES: what tokens are bound to, once more -/
section Mb6
variable {X : Nat → List Int} {f g i j t id v n p k : Nat}
theorem fix_at : ∀ (L : FF) (t : Int) (i : Nat), fix' L t i ≠ -1 → ∃ e ∈ L, e.1 = t ∧ gx (L.map (fun e => e.2.1)) (fix' L t i - (i : Int)).toNat = e.2.1
  | [], t, i, h => absurd rfl h
  | a :: L, t, i, h => by
    change (if a.1 = t then (i : Int) else fix' L t (i + 1)) ≠ -1 at h
    show ∃ e ∈ a :: L, e.1 = t ∧ gx (a.2.1 :: L.map (fun e => e.2.1)) ((if a.1 = t then (i : Int) else fix' L t (i + 1)) - (i : Int)).toNat = e.2.1
    by_cases e : a.1 = t
    · rw [if_pos e, show ((i : Int) - (i : Int)).toNat = 0 by omega]
      exact ⟨a, List.mem_cons_self, e, rfl⟩
    · rw [if_neg e] at h ⊢
      obtain ⟨e', h1, h2, h3⟩ := fix_at L t (i + 1) h
      have hr := (fix_rng L t (i + 1)).resolve_left h
      refine ⟨e', List.mem_cons_of_mem _ h1, h2, ?_⟩
      rw [← h3, gx_cons, if_neg (by omega)]
      congr 1
      omega
/-- what a call is bound to: a function -/
theorem bnd_call {e : Nat} (hX : ∀ r, r < 24 → Rok (X r)) (hf : f < 3) (hi : i < (Cw X f).length) (hw : gx (Cw X f) i = mk 15 t e) (ht : t < 256) (hv : bnd X (200 * f + t) = (v : Int)) : 200 * f + t < 600 ∧ fix' (Fw X (v / 200)) ((v % 200 : Nat) : Int) 0 ≠ -1 := by
  have hb : bset X f (gx (Cw X f) i) (t : Int) := by
    rw [hw]
    exact (bset_1 (Or.inr (Or.inr (Or.inl rfl))) ht).mpr rfl
  obtain ⟨m, h1, h2, -⟩ := bset_tok hX hf hi hb
  have l1 := toks_len hX hf
  have h6 : 200 * f + t < 600 := by omega
  refine ⟨h6, ?_⟩
  have e0 : ((200 * f + t : Nat) : Int) - 200 * (f : Int) = (t : Int) := by omega
  have e1 := bnd_at hX hf hi h6 (by rw [e0]; exact hb)
  unfold bval at e1
  rw [hw, wo_mk (by decide), if_pos (by decide), wt_mk (by decide) ht, Int.toNat_natCast, hv] at e1
  rcases fnF_rng (f := f) (k := t) hX with h3 | ⟨g, p, h3, h4, h5, en, h7, h8⟩
  · omega
  · have := toks_len hX h3
    have a1 : v / 200 = g := by omega
    have a2 : v % 200 = p := by omega
    rw [a1, a2]
    exact fix_mem _ _ _ ⟨en, h7, h8⟩
end Mb6
