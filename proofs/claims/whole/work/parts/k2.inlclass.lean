/-! AN INLINING, OF THE CLASS -/
section Mk2
variable {F G : MF} {X : Nat → List Int} {C : List Int} {f t e i j k a b n m : Nat}
theorem q_104t (hf : f < 3) (hX : ∀ r, r < 24 → Rok (X r)) (hG : GaC F n f X) (k : Nat) : g_104 F n (k : Int) = kn (ks X f) k ∧ o_104 F n (k : Int) := by
  have lk := toks_len hX hf
  have hc : F n 8 = ((toks X f).length : Int) := hG.1.1
  refine ⟨?_, fun _ => trivial, fun _ => ⟨fun h => ⟨by omega, trivial⟩, fun _ => trivial⟩⟩
  unfold g_104
  rw [if_neg (by omega), hc, Int.toNat_natCast]
  by_cases h : k < (toks X f).length
  · rw [if_pos (by omega), (gac_tok hG h).1]
  · rw [if_neg (by omega), kn_end (by rw [ks_len']; omega)]
theorem q_105 (hf : f < 3) (hX : ∀ r, r < 24 → Rok (X r)) (hG : GaC F n f X) (hk : k < (toks X f).length) : g_105 F n (k : Int) = (tl X f k : Int) ∧ o_105 F n (k : Int) := by
  have lk := toks_len hX hf
  have hc : F n 8 = ((toks X f).length : Int) := hG.1.1
  refine ⟨?_, fun _ => trivial, fun _ => ⟨fun h => ⟨by omega, trivial⟩, fun _ => trivial⟩⟩
  unfold g_105
  rw [if_neg (by omega), hc, Int.toNat_natCast, if_pos (by omega), (gac_tok hG hk).2.1]
/-- the LET of a token -/
theorem s_48 (hS : St F) (hX : ∀ r, r < 24 → Rok (X r)) (hD : DTT F 110 X) (hf : f < 3) : C_48 (f : Int) (t : Int) F (fun r F' => r = lte (Cw X f) t ∧ F' = F) m_no := by
  have i9 : 110 + (20 + 19 * f) ∈ m_I9 := i9_of (by decide) hf
  have hl := Fw_len hX hf
  have hc : F (110 + (20 + 19 * f)) 1 = ((Cw X f).length : Int) := (hD.2 f hf).2.1.1
  have key : ∀ (d i : Nat), i + d = (Cw X f).length → lte ((Cw X f).drop i) t = lte (Cw X f) t → L_48_13 (t : Int) (110 + (20 + 19 * f)) (i : Int) F (fun r F' => r = lte (Cw X f) t ∧ F' = F) m_no := by
    intro d
    induction d with
    | zero =>
      intro i hi he
      rw [List.drop_eq_nil_of_le (by omega)] at he
      refine b_48_13 i9 hS ?_
      rw [hc]
      exact ⟨fun h => by omega, fun _ => ⟨he, rfl⟩⟩
    | succ d ih =>
      intro i hi he
      have hi2 : i < (Cw X f).length := by omega
      have hcw : F (110 + (20 + 19 * f) + 1) i = gx (Cw X f) i := (hD.2 f hf).2.1.2 i hi2
      have w32 := hl.2.2.2 i hi2
      rw [drop_cons hi2] at he
      change (if wo (gx (Cw X f) i) = 7 ∧ wt (gx (Cw X f) i) = (t : Int) then we (gx (Cw X f) i) else lte ((Cw X f).drop (i + 1)) t) = _ at he
      have nx : ¬ (wo (gx (Cw X f) i) = 7 ∧ wt (gx (Cw X f) i) = (t : Int)) → L_48_13 (t : Int) (110 + (20 + 19 * f)) ((i : Int) + 1) F (fun r F' => r = lte (Cw X f) t ∧ F' = F) m_no := fun h => by
        rw [if_neg h] at he
        have := ih (i + 1) (by omega) he
        rw [show ((i + 1 : Nat) : Int) = (i : Int) + 1 by omega] at this
        exact this
      refine b_48_13 i9 hS ?_
      rw [hc, Int.toNat_natCast, hcw, g198 w32, g199 w32, g200 w32]
      exact ⟨fun _ => ⟨by omega, fun h7 => ⟨fun ht => ⟨by rw [← he, if_pos ⟨h7, ht⟩], rfl⟩, fun ht => ⟨by omega, nx (fun h => ht h.2)⟩⟩, fun h7 => ⟨by omega, nx (fun h => h7 h.1)⟩⟩, fun h => by omega⟩
  refine c_48 hS ⟨by omega, ?_⟩
  rw [Int.toNat_natCast]
  exact key (Cw X f).length 0 (by omega) rfl
/-- a call in some tokens -/
theorem s_49 (hS : St F) (hX : ∀ r, r < 24 → Rok (X r)) (hf : f < 3) (hn : n ∈ m_I8) (hG : GaC F n f X) (hb : b ≤ 300) : C_49 n (a : Int) (b : Int) F (fun r F' => r = pif (callsX X f a b) 1 0 ∧ F' = F) m_no := by
  have key : ∀ (d i : Nat), b ≤ i + d → i ≤ 300 + d → a ≤ i → (∀ k, a ≤ k → k < i → ¬ (kn (ks X f) k = 0 ∧ kn (ks X f) (k + 1) = 10)) → L_49_2 n (b : Int) (i : Int) F (fun r F' => r = pif (callsX X f a b) 1 0 ∧ F' = F) m_no := by
    intro d
    induction d with
    | zero =>
      intro i hi hi2 ha hz
      refine b_49_2 hn hS ⟨fun h => by omega, fun _ => ⟨(pif_0 (fun ⟨k, h1, h2, h3, h4⟩ => hz k h1 (by omega) ⟨h3, h4⟩)).symm, rfl⟩⟩
    | succ d ih =>
      intro i hi hi2 ha hz
      have q1 := q_104t hf hX hG i
      have q2 := q_104t hf hX hG (i + 1)
      have nx : i < b → ¬ (kn (ks X f) i = 0 ∧ kn (ks X f) (i + 1) = 10) → L_49_2 n (b : Int) ((i : Int) + 1) F (fun r F' => r = pif (callsX X f a b) 1 0 ∧ F' = F) m_no := fun hb2 h => by
        have := ih (i + 1) (by omega) (by omega) (by omega) (fun k h1 h2 => by
          by_cases e : k = i
          · rw [e]; exact h
          · exact hz k h1 (by omega))
        rw [show ((i + 1 : Nat) : Int) = (i : Int) + 1 by omega] at this
        exact this
      rw [show ((i + 1 : Nat) : Int) = (i : Int) + 1 by omega] at q2
      refine b_49_2 hn hS ?_
      rw [q1.1, q2.1]
      refine ⟨fun h => ⟨q1.2, fun h0 => ⟨by omega, q2.2, fun h10 => ⟨(pif_1 ⟨i, ha, by omega, h0, h10⟩).symm, rfl⟩, fun h10 => ⟨by omega, nx (by omega) (fun h => h10 h.2)⟩⟩, fun h0 => ⟨by omega, nx (by omega) (fun h => h0 h.1)⟩⟩, fun h => ⟨(pif_0 (fun ⟨k, h1, h2, h3, h4⟩ => hz k h1 (by omega) ⟨h3, h4⟩)).symm, rfl⟩⟩
  by_cases c : a ≤ b
  · exact c_49 hn hS (key (b - a) a (by omega) (by omega) (Nat.le_refl _) (fun k h1 h2 => by omega))
  · exact c_49 hn hS (b_49_2 hn hS ⟨fun h => by omega, fun _ => ⟨(pif_0 (fun ⟨k, h1, h2, h3, h4⟩ => by omega)).symm, rfl⟩⟩)
/-- whether the variable, or what its expr speaks of, is given a value -/
theorem s_50 (hS : St F) (hX : ∀ r, r < 24 → Rok (X r)) (hD : DB F 110 X) (hf : f < 3) (ht : t < 200) (he : e < 200) : C_50 (f : Int) ((200 * f + t : Nat) : Int) (e : Int) F (fun r F' => r = pif (wrt X f t e) 1 0 ∧ F' = F) m_no := by
  have i9 : 110 + (20 + 19 * f) ∈ m_I9 := i9_of (by decide) hf
  have hl := Fw_len hX hf
  have lk := toks_len hX hf
  have hc : F (110 + (20 + 19 * f)) 1 = ((Cw X f).length : Int) := (hD.1.2 f hf).2.1.1
  have or1 : ∀ x : Int, x = 0 ∨ x = 1 → m_or x 1 = 1 ∧ m_or x 0 = x := by
    intro x hx
    rcases hx with rfl | rfl <;> exact ⟨by decide, by decide⟩
  have key : ∀ (d i : Nat), i + d = (Cw X f).length → (∀ j, j < i → ¬ (wo (gx (Cw X f) j) = 8 ∧ wbd X f j ≠ -1 ∧ (wbd X f j = ((200 * f + t : Nat) : Int) ∨ ∃ k, t + 2 ≤ k ∧ k < e ∧ bnd X (200 * f + k) = wbd X f j))) →
      L_50_14 (f : Int) ((200 * f + t : Nat) : Int) (e : Int) (110 + (20 + 19 * f)) (i : Int) F (fun r F' => r = pif (wrt X f t e) 1 0 ∧ F' = F) m_no := by
    intro d
    induction d with
    | zero =>
      intro i hi hz
      refine b_50_14 i9 hS ?_
      rw [hc]
      exact ⟨fun h => by omega, fun _ => ⟨(pif_0 (fun ⟨j, h1, h2, h3, h4⟩ => hz j (by omega) ⟨h2, h3, h4⟩)).symm, rfl⟩⟩
    | succ d ih =>
      intro i hi hz
      have hi2 : i < (Cw X f).length := by omega
      have hcw : F (110 + (20 + 19 * f) + 1) i = gx (Cw X f) i := (hD.1.2 f hf).2.1.2 i hi2
      have w32 := hl.2.2.2 i hi2
      have nx : ¬ (wo (gx (Cw X f) i) = 8 ∧ wbd X f i ≠ -1 ∧ (wbd X f i = ((200 * f + t : Nat) : Int) ∨ ∃ k, t + 2 ≤ k ∧ k < e ∧ bnd X (200 * f + k) = wbd X f i)) → L_50_14 (f : Int) ((200 * f + t : Nat) : Int) (e : Int) (110 + (20 + 19 * f)) ((i : Int) + 1) F (fun r F' => r = pif (wrt X f t e) 1 0 ∧ F' = F) m_no := fun h => by
        have := ih (i + 1) (by omega) (fun j hj => by
          by_cases e2 : j = i
          · rw [e2]; exact h
          · exact hz j (by omega))
        rw [show ((i + 1 : Nat) : Int) = (i : Int) + 1 by omega] at this
        exact this
      -- a target that is none
      have none1 : ¬ (wo (gx (Cw X f) i) = 8 ∧ wbd X f i ≠ -1) → ∀ x : Int, L_50_93 (f : Int) ((200 * f + t : Nat) : Int) (e : Int) (110 + (20 + 19 * f)) (i : Int) (-1) 0 x F (fun r F' => r = pif (wrt X f t e) 1 0 ∧ F' = F) m_no := fun h x =>
        b_50_93 i9 hS ⟨fun _ => ⟨fun _ => ⟨by omega, nx (fun h2 => h ⟨h2.1, h2.2.1⟩)⟩, fun h => absurd rfl h⟩, fun h => absurd rfl h⟩
      refine b_50_14 i9 hS ?_
      rw [hc, Int.toNat_natCast, hcw, g198 w32, g199 w32]
      refine ⟨fun _ => ⟨by omega, fun h8 => ?_, fun h8 => ⟨by omega, none1 (fun h => h8 h.1) _⟩⟩, fun h => by omega⟩
      have ht0 : 0 ≤ wt (gx (Cw X f) i) ∧ wt (gx (Cw X f) i) < 200 := by
        obtain ⟨o, t0, e0, e1, e2, e3⟩ := Cw_wc hX hf hi2
        have ho : o < 256 := by unfold oX at e3; omega
        rw [e1, wo_mk ho] at h8
        rw [e1, wt_mk ho e2]
        have hk0 : kn (ks X f) t0 = 0 := by unfold oX at e3; omega
        have : t0 < (ks X f).length := kn_lt (by rw [hk0]; decide)
        rw [ks_len'] at this
        omega
      have ew : ((f : Int) * 200 + wt (gx (Cw X f) i)).toNat = 200 * f + (wt (gx (Cw X f) i)).toNat := by omega
      have eb : F 117 (200 * f + (wt (gx (Cw X f) i)).toNat) = wbd X f i := hD.2 _ (by omega)
      rw [ew, eb]
      refine ⟨by omega, by omega, by omega, fun h1 => ⟨by omega, ?_⟩, fun h1 => ?_⟩
      · rw [h1]
        exact none1 (fun h => h.2 h1) _
      · -- the tokens of the expr
        have lp : ∀ (d k : Nat) (x : Int), e ≤ k + d → k ≤ 500 → ((x = 0 ∧ wbd X f i ≠ ((200 * f + t : Nat) : Int) ∧ ∀ q, t + 2 ≤ q → q < k → bnd X (200 * f + q) ≠ wbd X f i) ∨ (x = 1 ∧ wrt X f t e)) → t + 2 ≤ k → L_50_93 (f : Int) ((200 * f + t : Nat) : Int) (e : Int) (110 + (20 + 19 * f)) (i : Int) (wbd X f i) x ((200 * f + k : Nat) : Int) F (fun r F' => r = pif (wrt X f t e) 1 0 ∧ F' = F) m_no := by
          have stop : ∀ (k : Nat) (x : Int), e ≤ k → k ≤ 1000 → ((x = 0 ∧ wbd X f i ≠ ((200 * f + t : Nat) : Int) ∧ ∀ q, t + 2 ≤ q → q < k → bnd X (200 * f + q) ≠ wbd X f i) ∨ (x = 1 ∧ wrt X f t e)) → L_50_93 (f : Int) ((200 * f + t : Nat) : Int) (e : Int) (110 + (20 + 19 * f)) (i : Int) (wbd X f i) x ((200 * f + k : Nat) : Int) F (fun r F' => r = pif (wrt X f t e) 1 0 ∧ F' = F) m_no := by
            intro k x hk hk2 hx
            refine b_50_93 i9 hS ⟨fun h => absurd h h1, fun _ => ⟨by omega, by omega, fun h => by omega, fun _ => ⟨fun h0 => ⟨by omega, ?_⟩, fun h0 => ?_⟩⟩⟩
            · rcases hx with ⟨-, a1, a2⟩ | ⟨h, -⟩
              · refine nx (fun h => ?_)
                rcases h.2.2 with h2 | ⟨q, q1, q2, q3⟩
                · exact a1 h2
                · exact a2 q q1 (by omega) q3
              · omega
            · rcases hx with ⟨h, -⟩ | ⟨-, h⟩
              · exact absurd h h0
              · exact ⟨(pif_1 h).symm, rfl⟩
          intro d
          induction d with
          | zero =>
            intro k x hk hk2 hx _
            exact stop k x (by omega) (by omega) hx
          | succ d ih2 =>
            intro k x hk hk2 hx hkt
            by_cases hke : e ≤ k
            · exact stop k x hke (by omega) hx
            have ebk : F 117 (200 * f + k) = bnd X (200 * f + k) := hD.2 _ (by omega)
            have hx01 : x = 0 ∨ x = 1 := by
              rcases hx with h | h
              · exact Or.inl h.1
              · exact Or.inr h.1
            refine b_50_93 i9 hS ⟨fun h => absurd h h1, fun _ => ⟨by omega, by omega, fun _ => ⟨by omega, ?_⟩, fun h => by omega⟩⟩
            rw [Int.toNat_natCast, ebk, (or1 x hx01).1, (or1 x hx01).2]
            refine ⟨fun h => ⟨by omega, ?_⟩, fun h => ⟨by omega, ?_⟩⟩
            · have := ih2 (k + 1) 1 (by omega) (by omega) (Or.inr ⟨rfl, i, hi2, h8, h1, Or.inr ⟨k, hkt, by omega, h⟩⟩) (by omega)
              rw [show ((200 * f + (k + 1) : Nat) : Int) = ((200 * f + k : Nat) : Int) + 1 by omega] at this
              exact this
            · have := ih2 (k + 1) x (by omega) (by omega) (by
                rcases hx with ⟨a0, a1, a2⟩ | h
                · refine Or.inl ⟨a0, a1, fun q q1 q2 => ?_⟩
                  by_cases e2 : q = k
                  · rw [e2]; exact h
                  · exact a2 q q1 (by omega)
                · exact Or.inr h) (by omega)
              rw [show ((200 * f + (k + 1) : Nat) : Int) = ((200 * f + k : Nat) : Int) + 1 by omega] at this
              exact this
        have e3 : ((200 * f + t : Nat) : Int) + 2 = ((200 * f + (t + 2) : Nat) : Int) := by omega
        rw [e3]
        exact ⟨fun h2 => ⟨by omega, lp 300 (t + 2) 1 (by omega) (by omega) (Or.inr ⟨rfl, i, hi2, h8, h1, Or.inl h2⟩) (Nat.le_refl _)⟩, fun h2 => ⟨by omega, lp 300 (t + 2) 0 (by omega) (by omega) (Or.inl ⟨rfl, h2, fun q q1 q2 => by omega⟩) (Nat.le_refl _)⟩⟩
  refine c_50 hS ⟨by omega, ?_⟩
  rw [Int.toNat_natCast]
  exact key (Cw X f).length 0 (by omega) (fun j hj => absurd hj (Nat.not_lt_zero j))
end Mk2
