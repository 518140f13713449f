/-! A FUNCTION OF ONE ROW OF STATEMENTS: names and types, line by line -/
/-- the variables of now and of ahead, behind a line -/
def ene1 (kd : Int) (n : Nat) (e : Nat → Int) : Nat → Int := if kd = 9 ∨ (kd = 3 ∧ n < 7) then vup (vup e 0 (e 2)) 1 (e 3) else e
def ene (kd : Int) (n : Nat) (e : Nat → Int) : Nat → Int := if kd = 8 ∨ kd = 9 ∨ kd = 22 then vup (vup (ene1 kd n e) 2 (ene1 kd n e 0)) 3 (ene1 kd n e 1) else ene1 kd n e
def NR (g0 g1 : Nat → Int) (z : Nat) (e t r : Nat → Int) (F : MF) : Prop := TZ g0 g1 z F ∧ F 210 = e ∧ F 211 = t ∧ F 212 = r
section Mqa
variable {F F1 : MF} {x y ty kd : Int} {z n i j : Nat} {g0 g1 e t r : Nat → Int}
theorem TZ.upd3 (h : TZ g0 g1 z F) (hS : St F1) (hc : ∀ c, c ≠ 210 → c ≠ 211 → c ≠ 212 → F1 c = F c) : TZ g0 g1 z F1 := by
  obtain ⟨a1, ⟨d, e, a2⟩, a3, a4, a5⟩ := h
  exact ⟨hS, ⟨d, e, a2.lo (fun c h => hc c (by omega) (by omega) (by omega))⟩, fun i hi => by rw [hc 209 (by decide) (by decide) (by decide)]; exact a3 i hi, by rw [hc 1000000 (by decide) (by decide) (by decide)]; exact a4, by rw [hc 1000001 (by decide) (by decide) (by decide)]; exact a5⟩
theorem NR.e2 (h : NR g0 g1 z e t r F) : NR g0 g1 z (vup (vup e i x) j y) t r (m_up (m_up F 210 i x) 210 j y) := by
  obtain ⟨h1, h2, h3, h4⟩ := h
  refine ⟨h1.upd3 (St.arr (St.arr h1.1 kd_210 (by decide)) kd_210 (by decide)) (fun c a b d => by rw [up_row a, up_row a]), by rw [m_upv, m_upv, h2], ?_, ?_⟩
  · rw [up_row (by decide), up_row (by decide)]; exact h3
  · rw [up_row (by decide), up_row (by decide)]; exact h4
/-- the end of a line -/
theorem l_546 (h : NR g0 g1 z e t r F) : L_215_546 210 1 0 F (fun v F' => v = 1 ∧ NR g0 g1 z e t r F') m_no ∧ L_215_546 210 1 1 F (fun v F' => v = 1 ∧ NR g0 g1 z (vup (vup e 2 (e 0)) 3 (e 1)) t r F') m_no := by
  constructor
  · exact b_215_546 kd_210 h.1.1 ⟨fun _ => ⟨Or.inr rfl, rfl, h⟩, fun h0 => absurd rfl h0⟩
  · refine b_215_546 kd_210 h.1.1 ⟨fun h0 => absurd h0 (by decide), fun _ => ?_⟩
    rw [show (0 : Int).toNat = 0 from rfl, show (1 : Int).toNat = 1 from rfl, show (2 : Int).toNat = 2 from rfl, show (3 : Int).toNat = 3 from rfl, h.2.1]
    exact ⟨by decide, by decide, by decide, by decide, Or.inr rfl, rfl, h.e2⟩
theorem l_486 (hn : n < 8) (h : NR g0 g1 z e t r F) : L_215_486 210 (n : Int) kd 1 F (fun v F' => v = 1 ∧ NR g0 g1 z (ene kd n e) t r F') m_no := by
  have up : NR g0 g1 z (vup (vup e 0 (e 2)) 1 (e 3)) t r (m_up (m_up F 210 0 (F 210 2)) 210 1 (F 210 3)) := by rw [h.2.1]; exact h.e2
  have l507 : kd = 8 ∨ kd = 9 ∨ kd = 22 → L_215_507 210 (n : Int) kd 1 F (fun v F' => v = 1 ∧ NR g0 g1 z (ene kd n e) t r F') m_no := fun hk => by
    refine b_215_507 kd_210 h.1.1 ?_
    rw [show (0 : Int).toNat = 0 from rfl, show (1 : Int).toNat = 1 from rfl, show (2 : Int).toNat = 2 from rfl, show (3 : Int).toNat = 3 from rfl]
    refine ⟨fun k9 => ⟨by decide, by decide, by decide, by decide, ?_⟩, fun k9 => ⟨fun k3 => by omega, fun k3 => ?_⟩⟩
    · have e0 : ene kd n e = vup (vup (vup (vup e 0 (e 2)) 1 (e 3)) 2 ((vup (vup e 0 (e 2)) 1 (e 3)) 0)) 3 ((vup (vup e 0 (e 2)) 1 (e 3)) 1) := by
        unfold ene ene1
        rw [if_pos hk, if_pos (Or.inl k9)]
      rw [e0]
      exact (l_546 up).2
    · have e0 : ene kd n e = vup (vup e 2 (e 0)) 3 (e 1) := by
        unfold ene ene1
        rw [if_pos hk, if_neg (by omega)]
      rw [e0]
      exact (l_546 h).2
  refine b_215_486 kd_210 h.1.1 ?_
  rw [show (0 : Int).toNat = 0 from rfl, show (1 : Int).toNat = 1 from rfl, show (2 : Int).toNat = 2 from rfl, show (3 : Int).toNat = 3 from rfl]
  refine ⟨fun k8 => l507 (Or.inl k8), fun k8 => ⟨fun k9 => l507 (Or.inr (Or.inl k9)), fun k9 => ⟨fun k22 => l507 (Or.inr (Or.inr k22)), fun k22 => ⟨fun k3 => ⟨fun n7 => ⟨by decide, by decide, by decide, by decide, ?_⟩, fun n7 => ?_⟩, fun k3 => ?_⟩⟩⟩⟩
  · have e0 : ene kd n e = vup (vup e 0 (e 2)) 1 (e 3) := by
      unfold ene ene1
      rw [if_neg (by omega), if_pos (Or.inr ⟨k3, by omega⟩)]
    rw [e0]
    exact (l_546 up).1
  · have e0 : ene kd n e = e := by
      unfold ene ene1
      rw [if_neg (by omega), if_neg (by omega)]
    rw [e0]
    exact (l_546 h).1
  · have e0 : ene kd n e = e := by
      unfold ene ene1
      rw [if_neg (by omega), if_neg (by omega)]
    rw [e0]
    exact (l_546 h).1
end Mqa
