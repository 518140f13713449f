/-! READING, OF THE REFERENCE: goesOn with a sign -/
section M87
variable {F F' : MF} {K : List Int} {n0 N a : Nat} {C0 C : List Int} {l l' : Lv} {r : List Lv}
theorem g_38 {pp ps : List Nat} {R : Int → MF → Prop} (hS : St F) (h : EHs F K n0 C0 (l :: r) a N C) (hpl : pl l = pp ++ ps) (hpl' : pl l' = a :: ps) (e1 : shp l' = shp l) (e2 : opn l' = opn l) (e3 : szs l' = szs l) (e4 : nts l' = -1)
    (hx : 1 ≤ rk (kn K a)) (hb1 : rk (kn K a) = 1 → cps l = -1 ∧ cps l' ≠ -1) (hb2 : rk (kn K a) ≠ 1 → cps l' = cps l)
    (hpp : ∀ p ∈ pp, rk (kn K a) ≤ rk (kn K p)) (hps : ∀ p r, ps = p :: r → rk (kn K p) < rk (kn K a)) (hl : pp.length ≤ 4 ∧ ps.length ≤ 4) (hN : N + 4 < 1600) (ha : a < 1000) (hr : r.length < 210)
    (hbd : ∀ s1 q1 lo1 W1, LvB F K n0 C0 (l :: r) s1 q1 lo1 W1 → s1 + 10 < 420 ∧ q1 + 10 < 420)
    (hR : ∀ F', St F' → EW F' K n0 C0 (l' :: r) (a + 1) (N + pp.length) (C ++ wd 16 (nts l) ++ pp.map (fun p => mk 17 p 0)) → TF n0 F F' → R 1 F') :
    L_232_38 (kn K a) F R m_no := by
  have h3 : F 201 54 = (r.length : Int) := h.2.1
  obtain ⟨s1, q1, lo1, W1, h1, -⟩ := h.1
  have h242 : F 242 r.length = (if cps l = -1 then 0 else 1) := h1.1
  have go : ∀ b : Int, b = (if cps l' = -1 then 0 else 1) → _ := fun b hb => g_push (x := rk (kn K a)) (b := b) (R := R) hS h hpl hpl' e1 e2 e3 e4 hb hx hpp hps hl hN ha hbd hR
  refine b_232_38 hS ?_
  rw [h3, Int.toNat_natCast]
  refine ⟨by omega, fun f1 => ⟨fun f2 => ⟨by omega, ?_⟩, fun f2 => ⟨by omega, ?_⟩⟩, fun f1 => ⟨by omega, ?_⟩⟩
  · rw [g_223_rk] at f2
    rw [g_223_rk]
    exact go 1 (by rw [if_neg (hb1 f2).2])
  · rw [g_223_rk] at f2
    rw [g_223_rk]
    have : cps l = -1 := Classical.byContradiction fun x => by rw [h242, if_neg x] at f1; exact absurd f1 (by decide)
    exact go 0 (by rw [hb2 f2, if_pos this])
  · rw [g_223_rk]
    have : cps l ≠ -1 := fun x => by rw [h242, if_pos x] at f1; exact f1 rfl
    have f2 : rk (kn K a) ≠ 1 := fun x => this (hb1 x).1
    exact go 1 (by rw [hb2 f2, if_neg this])
end M87
