/-! A FUNCTION OF ONE ROW OF STATEMENTS: the whole of isFunction, out of what is shown of its words -/
/-- variables, types and results behind n lines -/
def nmS (z : Nat) : Nat → (Nat → Int) × RT2
  | 0 => (vup (vup (vup (vup (fun _ => 0) 0 3) 1 (-1)) 2 3) 3 (-1), (fun _ => 0, fun _ => 0))
  | n + 1 => (ene (kdz z (n + 1)) (n + 1) (nmt (kdz z (n + 1)) (fsz z (n + 1)) (nmS z n).1 (nmS z n).2.1 (nmS z n).2.2).1, (nmt (kdz z (n + 1)) (fsz z (n + 1)) (nmS z n).1 (nmS z n).2.1 (nmS z n).2.2).2)
/-- what is to be shown of the words, names and types of the eight lines -/
def QZ (z : Nat) : Prop := RZ z ∧ Shp (XZ z 8) ∧ ((toks (XZ z 8) 0).length = fsz z 8 ∧ (Ew (XZ z 8) 0).length = 0 ∧ (Fw (XZ z 8) 0).length = 1 ∧ aFu (XZ z 8) 0 0 = 101) ∧
  ((isTk (XZ z 8) 0 1 ∧ aBn (XZ z 8) 0 1 = 1) ∧ (isTk (XZ z 8) 0 3 ∧ aBn (XZ z 8) 0 3 = 3)) ∧
  (∀ n, n < 7 → (0 ≤ (nmS z n).1 0 ∧ (nmS z n).1 0 < 60) ∧ (nmS z n).1 1 < 60 ∧ (0 ≤ (nmS z n).2.2 2 ∧ (nmS z n).2.2 2 < 500) ∧ fsz z (n + 1) < 50 ∧ ∀ c ∈ chk (kdz z (n + 1)) (fsz z (n + 1)) (nmS z n).1, isTk (XZ z 8) 0 c.1 ∧ aBn (XZ z 8) 0 c.1 = c.2) ∧
  aTe (XZ z 8) = (nmS z 7).2.2 2 ∧ aTy (XZ z 8) 0 1 = (nmS z 7).2.2 0 ∧ aTy (XZ z 8) 0 3 = (nmS z 7).2.1 3
section Mqd
variable {D : Nat → Prop} {nc ns n z : Nat} {F F1 : MF} {g0 g1 e t r : Nat → Int} {R : Int → MF → Prop}
theorem l_415 (hQ : QZ z) (K : ∀ F2, NR g0 g1 z (nmS z 7).1 (nmS z 7).2.1 (nmS z 7).2.2 F2 → L_389_447 D nc ns (z : Int) 209 211 212 1 F2 R) : ∀ (dd n : Nat) (F : MF), n + dd = 7 → NR g0 g1 z (nmS z n).1 (nmS z n).2.1 (nmS z n).2.2 F →
    L_389_415 D nc ns (z : Int) 209 210 211 212 1 ((n + 1 : Nat) : Int) F R := by
  intro dd
  induction dd with
  | zero =>
    intro n F e h
    obtain rfl : n = 7 := by omega
    exact b_389_415 kd_209 kd_210 kd_211 kd_212 h.1.1 ⟨fun h8 => by omega, fun _ => K F h⟩
  | succ dd ih =>
    intro n F e h
    obtain ⟨q1, q2, q3, q4, q5⟩ := hQ.2.2.2.2.1 n (by omega)
    have hrow := h.1.2.2.1 (n + 1) (by omega)
    refine b_389_415 kd_209 kd_210 kd_211 kd_212 h.1.1 ⟨fun _ => ⟨fun h0 => absurd h0 (by decide), fun _ => CaI.on (s_215 (by omega) h hrow.1 hrow.2 ⟨by omega, by omega⟩ q1 q2 q3 q5) ?_⟩, fun h8 => by omega⟩
    rintro v F2 hS2 ⟨v1, h2⟩
    rw [v1]
    refine ⟨⟨by omega, by omega⟩, ?_⟩
    have := ih (n + 1) F2 (by omega) h2
    rw [show ((n + 1 : Nat) : Int) + 1 = ((n + 1 + 1 : Nat) : Int) by omega]
    exact this
theorem t_165 {k : Int} (hQ : QZ z) (hk : isTk (XZ z 8) 0 k) (h : NR g0 g1 z e t r F) : C_165 0 k F (fun v F' => v = aTy (XZ z 8) 0 k ∧ NR g0 g1 z e t r F') m_no := by
  obtain ⟨a1, ⟨d, e2, a2⟩, a3⟩ := id h.1
  refine EvI.mono (f_165 hQ.2.1 a1 a2) ?_ ?_
  · rintro v F2 hS2 ⟨-, h2, h3, h4⟩
    exact ⟨h2, h.cn (h.1.cn hS2 h3 h4) h4⟩
  · rintro v F2 hS2 ⟨-, h2, -, -⟩
    exact h2 hk
theorem l_447 (hD : ¬ D 213) (hQ : QZ z) (hb : 9 ≤ nc ∧ 540 ≤ ns) (K : ∀ F2, TZ g0 g1 z F2 → R 1 F2) (h : NR g0 g1 z (nmS z 7).1 (nmS z 7).2.1 (nmS z 7).2.2 F) : L_389_447 D nc ns (z : Int) 209 211 212 1 F R := by
  obtain ⟨-, -, -, ⟨b1, b3⟩, -, y1, y2, y3⟩ := id hQ
  obtain ⟨a1, ⟨d, e2, a2⟩, a3⟩ := id h.1
  refine b_389_447 kd_209 kd_211 kd_212 h.1.1 ⟨fun h0 => absurd h0 (by decide), fun _ => CaI.on (f_166 hQ.2.1 a1 a2) ?_⟩
  rintro v F2 hS2 ⟨v1, h2, h3⟩
  have n2 := h.cn (h.1.cn hS2 h2 h3) h3
  rw [show (0 : Int).toNat = 0 from rfl, show (2 : Int).toNat = 2 from rfl, show (3 : Int).toNat = 3 from rfl, n2.2.2.2]
  refine ⟨by decide, fun _ => CaI.on (t_165 hQ b1.1 n2) ?_, fun hne => absurd (v1.trans y1) hne⟩
  rintro w F3 hS3 ⟨w1, n3⟩
  rw [n3.2.2.2]
  refine ⟨by decide, fun _ => CaI.on (t_165 hQ b3.1 n3) ?_, fun hne => absurd (w1.trans y2) hne⟩
  rintro u F4 hS4 ⟨u1, n4⟩
  rw [n4.2.2.1]
  refine ⟨by decide, fun _ => ?_, fun hne => absurd (u1.trans y3) hne⟩
  exact l_499 hD hQ.1 K 7 0 nc ns F4 rfl (by omega) (by omega) n4.1
/-- a look at the whole -/
theorem t_cn {v x0 : Int} {p : Prop} {d : Bool} {e2 : Int} (h : NR g0 g1 z e t r F) (h2 : CO F p v (XZ z 8) (fun _ => []) [] [] d e2 x0 F1) (hS : St F1) : x0 = v ∧ NR g0 g1 z e t r F1 := ⟨h2.2.1, h.cn (h.1.cn hS h2.2.2.1 h2.2.2.2) h2.2.2.2⟩
end Mqd
