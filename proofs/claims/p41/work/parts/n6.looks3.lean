/-! CALLS THAT LOOK: partners, folds, colours, repairs -/
section Mn6
variable {F F0 G : MF} {X Y S : Nat → List Int} {N : List Int} {L : List CH} {d : Bool} {e : Int} {f m k n q : Nat} {x1 x2 x3 x4 : Int} {nn : Nat → Nat}
/-- colours -/
theorem s_192 (hS : St F) (hX : ∀ r, r < 24 → Rok (X r)) (hD : DB F 1 X) (hf : f < 3) (hk : k < (toks X f).length) : C_192 1 (f : Int) (k : Int) F (fun r F' => r = clr X f k ∧ F' = F) m_no := by
  have lk := toks_len hX hf
  have q := q_104t hf hX (hD.1.2 f hf).1 k
  have eb : F (1 + 7) (200 * f + k) = bnd X (200 * f + k) := hD.2 _ (by omega)
  refine c_192 (n0 := 1) (by decide) hS ?_
  rw [Int.toNat_natCast, q.1, show ((f : Int) * 200 + (k : Int)).toNat = 200 * f + k by omega, eb]
  unfold clr
  refine ⟨by omega, q.2, fun h0 => ⟨by omega, by omega, by omega, fun hb => ⟨by rw [if_pos h0, if_pos hb], rfl⟩, fun hb => ?_⟩, fun h0 => ⟨fun h1 => ⟨by rw [if_neg h0, if_pos h1], rfl⟩, fun h1 => ⟨fun h2 => ⟨by rw [if_neg h0, if_neg h1, if_pos h2], rfl⟩, fun h2 => ⟨fun h3 => ⟨by rw [if_neg h0, if_neg h1, if_neg h2, if_pos h3], rfl⟩, fun h3 => ⟨by rw [if_neg h0, if_neg h1, if_neg h2, if_neg h3], rfl⟩⟩⟩⟩⟩
  obtain ⟨v, v1, v2⟩ := (bnd_rg4 hX (show 200 * f + k < 600 by omega)).resolve_left hb
  rw [if_pos h0, v1, if_neg (show ¬ (v : Int) = -1 by omega), Int.toNat_natCast]
  refine CaI.on (s_18 (n := 1) (by decide) hS hX hD.1 v2) ?_
  rintro r F1 hS1 ⟨rfl, rfl⟩
  by_cases c : fix' (Fw X (v / 200)) ((v % 200 : Nat) : Int) 0 = -1
  · have e : isF X v = false := decide_eq_false (fun h => h c)
    rw [if_pos c, e]
    exact ⟨fun _ => ⟨rfl, rfl⟩, fun h => absurd rfl h⟩
  · have e : isF X v = true := decide_eq_true c
    rw [if_neg c, e]
    exact ⟨fun h => absurd h (by decide), fun _ => ⟨rfl, rfl⟩⟩
theorem q_107 (hf : f < 3) (hm : m < 8) (hG : GaC F n f X) (hq : q < (X (8 * f + m)).length) (hX : ∀ r, r < 24 → Rok (X r)) : g_107 F n (m : Int) (q : Int) = gx (owns X f m) q ∧ o_107 F n (m : Int) (q : Int) := by
  have hl := (hX (8 * f + m) (by omega)).1
  refine ⟨?_, by omega, by omega, fun _ => trivial, fun _ => ⟨fun _ => ⟨by omega, trivial⟩, fun _ => trivial⟩⟩
  unfold g_107
  rw [if_neg (by omega), if_pos (by omega), show ((m : Int) * 24 + (q : Int)).toNat = 24 * m + q by omega]
  exact hG.2.2.2 m q hm hq
theorem f_153 (hS : St F) (h : KC F X S N L d e) : C_153 x1 x2 x3 F (CO F (isCh X x1 x2 x3) (aCl X x1 x2 x3) X S N L d e) (CT F (isCh X x1 x2 x3) X S N L d e) := by
  refine c_153 hS (s_181 hS h.1 (fun f m q hf hm hq e1 e2 e3 => ?_) (fun hn => CT.of h Cn.rf hn))
  subst e1
  subst e2
  subst e3
  refine CaR.on (s_188 hS h) ?_
  rintro r F1 hS1 ⟨rfl, k1, k2, k3⟩
  have q7 := q_107 (n := 1 + (11 + 19 * f)) hf hm (k2.1.2 f hf).1 hq h.hX
  have fin : ∀ r : Int, r = aCl X (f : Int) (m : Int) (q : Int) → CO F (isCh X (f : Int) (m : Int) (q : Int)) (aCl X (f : Int) (m : Int) (q : Int)) X S N L d e r F1 := fun r hr => ⟨⟨f, m, q, hf, hm, hq, rfl, rfl, rfl⟩, hr, k1, k3⟩
  rw [Int.toNat_natCast, q7.1]
  refine ⟨rfl, by omega, q7.2, fun h0 => ⟨fun h2 => fin 1 ?_, fun h2 => fin 0 ?_⟩, fun h0 => ?_⟩
  · simp only [aCl, Int.toNat_natCast]
    rw [if_pos h2]
  · simp only [aCl, Int.toNat_natCast]
    rw [if_neg h2, if_pos h0]
  · obtain ⟨k, hk, ek⟩ := (owns_rng h.hX hf hm hq).resolve_left h0
    rw [ek]
    refine CaI.on (s_192 hS1 h.hX k2 hf hk) ?_
    rintro r F2 hS2 ⟨rfl, rfl⟩
    refine fin _ ?_
    simp only [aCl, Int.toNat_natCast]
    rw [ek, if_neg (by omega), if_neg (by omega), Int.toNat_natCast]
end Mn6
