/-! A FUNCTION OF ONE ROW OF STATEMENTS: a line's names and types -/
def nmt (kd fi : Int) (e t r : Nat → Int) : (Nat → Int) × RT2 :=
  if kd = 4 then (vup e 1 (fi + 1), (vup (ty213 t r (e 0)).1 (fi + 1).toNat 1, (ty213 t r (e 0)).2))
  else if kd = 5 then (vup e 0 (fi + 1), (vup t (fi + 1).toNat 1, r))
  else if kd = 20 then (vup e 1 (fi + 1), (vup t (fi + 1).toNat 2, r))
  else if kd = 6 then (e, if e 0 = 3 ∧ t 3 = 0 ∧ r 0 = 0 then (t, vup r 1 1) else if e 0 = 3 ∧ t 3 = 0 then (vup t 3 (r 0), r) else ty214 t r (t (e 0).toNat))
  else if kd = 7 then (e, ty214 (ty213 t r (e 1)).1 (ty213 t r (e 1)).2 1)
  else if kd = 10 then (e, ((ty213 t r (e 0)).1, vup (ty213 t r (e 0)).2 2 ((ty213 t r (e 0)).2 2 + (if (ty213 t r (e 0)).1 (e 0).toNat = 2 then 1 else 0))))
  else if kd = 16 then (e, if e 1 < 0 then ty214 t r 2 else if t (e 0).toNat = 0 then ty214 (ty212 t r (e 0) (t (e 1).toNat)).1 (ty212 t r (e 0) (t (e 1).toNat)).2 2 else if t (e 1).toNat = t (e 0).toNat then ty214 t r 2 else ty214 t (vup r 2 (r 2 + 1)) 2)
  else if kd = 8 then (e, ty213 t r (e 0))
  else (e, (t, r))
/-- the tokens that are looked at, and what each is bound to -/
def chk (kd fi : Int) (e : Nat → Int) : List (Int × Int) :=
  if kd = 4 then [(fi + 3, e 0), (fi + 1, fi + 1)] else if kd = 5 ∨ kd = 20 then [(fi + 1, fi + 1)] else if kd = 6 ∨ kd = 8 then [(fi + 1, e 0)] else if kd = 7 then [(fi + 1, e 1)] else if kd = 10 then [(fi, e 0), (fi + 2, e 0)] else if kd = 16 then [(fi + 1, e 0), (fi + 3, e 1)] else []
section Mqb
variable {F F1 : MF} {x y ty kd fi : Int} {z n i j : Nat} {g0 g1 e t r : Nat → Int}
theorem r2_212 : (ty212 t r x y).2 2 = r 2 := by
  unfold ty212
  dsimp only
  split
  · rfl
  · rfl
theorem r2_213 : r 2 ≤ (ty213 t r x).2 2 ∧ (ty213 t r x).2 2 ≤ r 2 + 1 := by
  unfold ty213
  by_cases h0 : x < 0
  · rw [if_pos h0]; exact ⟨Int.le_refl _, by show r 2 ≤ r 2 + 1; omega⟩
  · rw [if_neg h0]
    by_cases h1 : t x.toNat = 0
    · rw [if_pos h1, r2_212]; exact ⟨Int.le_refl _, by omega⟩
    · rw [if_neg h1]
      by_cases h2 : t x.toNat = 2
      · rw [if_pos h2]
        show r 2 ≤ r 2 + 1 ∧ r 2 + 1 ≤ r 2 + 1
        omega
      · rw [if_neg h2]; exact ⟨Int.le_refl _, by show r 2 ≤ r 2 + 1; omega⟩
theorem NR.cn (h : NR g0 g1 z e t r F) (hT : TZ g0 g1 z F1) (hC : Cn F F1) : NR g0 g1 z e t r F1 := ⟨hT, by rw [hC 210 (by decide)]; exact h.2.1, by rw [hC 211 (by decide)]; exact h.2.2.1, by rw [hC 212 (by decide)]; exact h.2.2.2⟩
theorem NR.r2 {w : RT2} (h : NR g0 g1 z e t r F) (hS : St F1) (hR : R2 F w F1) : NR g0 g1 z e w.1 w.2 F1 := ⟨h.1.upd3 hS (fun c _ h1 h2 => hR.2.2 c h1 h2), by rw [hR.2.2 210 (by decide) (by decide)]; exact h.2.1, hR.1, hR.2.1⟩
theorem NR.et (h : NR g0 g1 z e t r F) : NR g0 g1 z (vup e i x) (vup t j y) r (m_up (m_up F 210 i x) 211 j y) := by
  obtain ⟨h1, h2, h3, h4⟩ := h
  refine ⟨h1.upd3 (St.arr (St.arr h1.1 kd_210 (by decide)) kd_211 (by decide)) (fun c a b d => by rw [up_row b, up_row a]), by rw [up_row (by decide), m_upv, h2], by rw [m_upv, up_row (by decide), h3], ?_⟩
  rw [up_row (by decide), up_row (by decide)]; exact h4
theorem n_211 (h : NR g0 g1 z e t r F) (hb : isTk (XZ z 8) 0 x ∧ aBn (XZ z 8) 0 x = y) : C_211 x y F (fun v F' => v = 1 ∧ NR g0 g1 z e t r F') m_no :=
  CaI.on (s_211 h.1 hb.1 hb.2) (fun v F2 _ h2 => ⟨h2.1, h.cn h2.2.1 h2.2.2⟩)
theorem n_213 (h : NR g0 g1 z e t r F) (hx : x < 60) (hr : 0 ≤ r 2 ∧ r 2 < 1000) : C_213 211 212 x F (fun F' => NR g0 g1 z e (ty213 t r x).1 (ty213 t r x).2 F') m_no := by
  refine CaV.on (s_213 hx (by rw [h.2.2.2]; exact hr) h.1.1) (fun F2 hS2 h2 => ?_)
  rw [h.2.2.1, h.2.2.2] at h2
  exact h.r2 hS2 h2
theorem n_212 (h : NR g0 g1 z e t r F) (hx : 0 ≤ x ∧ x < 60) : C_212 211 212 x ty F (fun F' => NR g0 g1 z e (ty212 t r x ty).1 (ty212 t r x ty).2 F') m_no := by
  refine CaV.on (s_212 hx h.1.1) (fun F2 hS2 h2 => ?_)
  rw [h.2.2.1, h.2.2.2] at h2
  exact h.r2 hS2 h2
theorem n_214 (h : NR g0 g1 z e t r F) (hr : 0 ≤ r 2 ∧ r 2 < 1000) : C_214 211 212 ty F (fun F' => NR g0 g1 z e (ty214 t r ty).1 (ty214 t r ty).2 F') m_no := by
  refine CaV.on (s_214 (by rw [h.2.2.2]; exact hr) h.1.1) (fun F2 hS2 h2 => ?_)
  rw [h.2.2.1, h.2.2.2] at h2
  exact h.r2 hS2 h2
end Mqb
