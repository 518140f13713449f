/-! A FUNCTION OF ONE ROW OF STATEMENTS: it is run -/
def fzr (z : Nat) : Nat → Int := fun i => if i < 8 then (kdz z i : Int) else (fsz z (i - 8) : Int)
theorem v249_cg {kd fi o t oa ta dn : Int} {v : Nat → Int} {N1 N2 : VN} (h : N1 = N2) : v27 kd fi o t oa ta dn v N1 = v27 kd fi o t oa ta dn v N2 := by rw [h]
theorem vl_cg {f g : Nat → Int} (h : ∀ i, i < 16 → f i = g i) : ∀ d n, n + d ≤ 8 → vl f d n = vl g d n := by
  intro d
  induction d with
  | zero => intro n _; rfl
  | succ d ih =>
    intro n hn
    show (fun o t oa ta dn v => v27 (f n) (f (8 + n)) o t oa ta dn v (vl f d (n + 1))) = (fun o t oa ta dn v => v27 (g n) (g (8 + n)) o t oa ta dn v (vl g d (n + 1)))
    rw [h n (by omega), h (8 + n) (by omega), ih (n + 1) (by omega)]
theorem vof_cg {f g : Nat → Int} {x : Int} (h : ∀ i, i < 16 → f i = g i) : vof f x = vof g x := by
  unfold vof
  rw [vl_cg h 7 1 (by decide)]
theorem CaWL.on {D : Nat → Prop} {nc ns N : Nat} {xs : List MV} {F : MF} {R R' : Int → MF → Prop} (h : CaWL D nc ns N xs F R) (hR : ∀ r F', St F' → R r F' → R' r F') : CaWL D nc ns N xs F R' := Wv.mono h (fun o F' => by
  rintro ⟨hS, ⟨r, h1, h2⟩ | ⟨e, h1, h2⟩⟩
  · exact ⟨hS, Or.inl ⟨r, h1, hR r F' hS h2⟩⟩
  · exact h2.elim)
/-- the class holds the eight lines, the law's row their kinds -/
def TZ (g0 g1 : Nat → Int) (z : Nat) (F : MF) : Prop := St F ∧ (∃ d e, KC F (XZ z 8) (fun _ => []) [] [] d e) ∧ (∀ i, i < 8 → F 209 i = (kdz z i : Int) ∧ F 209 (8 + i) = (fsz z i : Int)) ∧ F 1000000 = g0 ∧ F 1000001 = g1
/-- what is shown of the runs of the eight lines -/
def RZ (z : Nat) : Prop := isFu (XZ z 8) 0 0 ∧ (∀ x y : Int, ∀ f k : Nat, f < 3 → k < (Fw (XZ z 8) f).length → rrun (XZ z 8) 1000000 (ren (XZ z 8) (200 * f + fnt (XZ z 8) f k) 2 [] [y, x] 0 0) = some (aRu (XZ z 8) (f : Int) (k : Int) x y)) ∧
  z < 2147483648 ∧ ∀ x y : Int, -2147483648 ≤ x ∧ x < 2147483648 → aRu (XZ z 8) 0 0 x y = vof (fzr z) x
section Mp8
variable {D : Nat → Prop} {nc ns n z : Nat} {F F1 : MF} {g0 g1 : Nat → Int} {R : Int → MF → Prop} {x y : Int}
theorem TZ.cn {d : Bool} {e : Int} (h : TZ g0 g1 z F) (hS : St F1) (hK : KC F1 (XZ z 8) (fun _ => []) [] [] d e) (hC : Cn F F1) : TZ g0 g1 z F1 :=
  ⟨hS, ⟨d, e, hK⟩, fun i hi => by rw [hC 209 (by decide)]; exact h.2.2.1 i hi, by rw [hC 1000000 (by decide)]; exact h.2.2.2.1, by rw [hC 1000001 (by decide)]; exact h.2.2.2.2⟩
theorem TZ.v (h : TZ g0 g1 z F) (hS : St F1) (hc : ∀ c, c ≠ 213 → F1 c = F c) : TZ g0 g1 z F1 := by
  obtain ⟨a1, ⟨d, e, a2⟩, a3, a4, a5⟩ := h
  exact ⟨hS, ⟨d, e, a2.lo (fun c h => hc c (by omega))⟩, fun i hi => by rw [hc 209 (by decide)]; exact a3 i hi, by rw [hc 1000000 (by decide)]; exact a4, by rw [hc 1000001 (by decide)]; exact a5⟩
theorem TZ.row (h : TZ g0 g1 z F) : ∀ i, i < 16 → F 209 i = fzr z i := fun i hi => by
  unfold fzr
  by_cases c : i < 8
  · rw [if_pos c]; exact (h.2.2.1 i c).1
  · rw [if_neg c]
    have := (h.2.2.1 (i - 8) (by omega)).2
    rw [show 8 + (i - 8) = i by omega] at this
    exact this
theorem t_178 (h : TZ g0 g1 z F) (hR : RZ z) (hx : -2147483648 ≤ x ∧ x < 2147483648) : C_178 0 0 x y F (fun r F' => r = vof (fzr z) x ∧ TZ g0 g1 z F') m_no := by
  obtain ⟨a1, ⟨d, e, a2⟩, a3⟩ := id h
  refine EvL.mono (f_178 (hR.2.1 x y) a1 a2) ?_ ?_
  · rintro r F2 hS2 ⟨-, h2, h3, h4⟩
    exact ⟨h2.trans (hR.2.2.2 x y hx), h.cn hS2 h3 h4⟩
  · rintro t F2 hS2 ⟨-, h2, -, -⟩
    exact h2 hR.1
theorem t_390 (hD : ¬ D 213) (h : TZ g0 g1 z F) : CaWL D 1 60 390 [m_r 209, (1, x)] F (fun r F' => r = vof (fzr z) x ∧ TZ g0 g1 z F') := by
  refine CaWL.on (s_390 hD h.1 (fun i hi => ?_)) (fun r F2 hS2 h2 => ⟨h2.1.trans (vof_cg h.row), h.v hS2 h2.2⟩)
  have h1 := (h.2.2.1 i hi).2
  have h2 := fsz_le (z := z) i
  rw [h1]
  omega
theorem l_545 (hD : ¬ D 213) (h : TZ g0 g1 z F) (hR : RZ z) (hb : 2 ≤ nc ∧ 120 ≤ ns) (K : ∀ F2, TZ g0 g1 z F2 → R 1 F2) : L_389_545 D nc ns (z : Int) 209 1 F R := by
  have hz := hR.2.2.1
  refine b_389_545 kd_209 h.1 ⟨fun h0 => absurd h0 (by decide), fun _ => CaL.on (t_178 h hR ⟨by omega, by omega⟩) ?_⟩
  rintro r F2 hS2 ⟨h1, h2⟩
  refine ⟨⟨by omega, by omega⟩, CaWL.on (t_390 hD h2) ?_⟩
  rintro r2 F3 hS3 ⟨h3, h4⟩
  refine ⟨fun _ => CaL.on (t_178 h4 hR ⟨by omega, by omega⟩) ?_, fun hne => absurd (cz.mpr (h1.trans h3.symm)) hne⟩
  rintro r3 F4 hS4 ⟨h5, h6⟩
  refine ⟨⟨by omega, by omega⟩, CaWL.on (t_390 hD h6) ?_⟩
  rintro r4 F5 hS5 ⟨h7, h8⟩
  exact ⟨fun _ => K F5 h8, fun hne => absurd (cz.mpr (h5.trans h7.symm)) hne⟩
theorem l_499 (hD : ¬ D 213) (hR : RZ z) (K : ∀ F2, TZ g0 g1 z F2 → R 1 F2) : ∀ (dd k nc ns : Nat) (F : MF), k + dd = 7 → dd + 2 ≤ nc → 60 * (dd + 2) ≤ ns → TZ g0 g1 z F → L_389_499 D nc ns (z : Int) 209 1 ((k : Int) - 1) F R := by
  intro dd
  induction dd with
  | zero =>
    intro k nc ns F e h1 h2 h
    exact b_389_499 kd_209 h.1 ⟨fun h3 => by omega, fun _ => l_545 hD h hR ⟨by omega, by omega⟩ K⟩
  | succ dd ih =>
    intro k nc ns F e h1 h2 h
    refine b_389_499 kd_209 h.1 ⟨fun _ => ⟨fun h0 => absurd h0 (by decide), fun _ => CaL.on (t_178 h hR ⟨by omega, by omega⟩) ?_⟩, fun h3 => by omega⟩
    rintro r F2 hS2 ⟨h3, h4⟩
    refine ⟨⟨by omega, by omega⟩, CaWL.on (t_390 hD h4) ?_⟩
    rintro r2 F3 hS3 ⟨h5, h6⟩
    refine ⟨fun _ => ⟨⟨by omega, by omega⟩, ?_⟩, fun hne => absurd (cz.mpr (h3.trans h5.symm)) hne⟩
    rw [show (k : Int) - 1 + 1 = ((k + 1 : Nat) : Int) - 1 by omega]
    exact ih (k + 1) _ _ F3 (by omega) (by omega) (by omega) h6
end Mp8
