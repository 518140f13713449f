/-! READING, OF THE REFERENCE: a sign behind a unit -/
section M83
variable {F F' : MF} {K : List Int} {n0 N a s q lo : Nat} {C0 C W : List Int} {l l' : Lv} {r : List Lv}
/-- another level on top, where only signs differ -/
theorem LvB.re (h : LvB F K n0 C0 (l :: r) s q lo W) (hc : F' 242 r.length = (if cps l' = -1 then 0 else 1)) (z : ∀ c i, ¬ (c = 242 ∧ i = r.length) → F' c i = F c i) (e1 : shp l' = shp l) (e2 : opn l' = opn l) (e3 : szs l' = szs l) : LvB F' K n0 C0 (l' :: r) s q lo W := by
  obtain ⟨-, h⟩ := h
  refine ⟨hc, ?_⟩
  rcases h with ⟨h1, h2, h3⟩ | ⟨s1, q1, lo1, s2, m, W1, W2, h1, h2, h3, h4, h5, h6⟩
  · exact Or.inl ⟨h1, e1.trans h2, h3⟩
  · have ag : ∀ M, Agf F F' M := fun M c i x y _ => z c i (by omega)
    have l1 := LvB.cong (F' := F') _ _ _ _ _ h1 (fun i _ => z 238 i (by omega)) (fun i _ => z 239 i (by omega)) (ag _) (fun c i x y hi => z c i (by omega))
    have l2 := (PE.cong (F' := F') _ _ _ _ _ h2 (fun i _ _ => z 238 i (by omega)) (fun i _ _ => z 239 i (by omega)) (ag _)).1
    refine Or.inr ⟨s1, q1, lo1, s2, m, W1, W2, l1, l2, (z 238 s2 (by omega)).trans h3, h4, (z 243 _ (by omega)).trans h5, ?_⟩
    rw [e1, e2, e3]
    rcases h6 with ⟨e1, e2, e3, e4, e5⟩ | ⟨e1, e2, ⟨e3, e4, e5, e6⟩, k, y, W3, e7, e8, e9, e10, e11, e12⟩
    · exact Or.inl ⟨e1, (z 240 _ (by omega)).trans e2, (z 244 _ (by omega)).trans e3, e4, e5⟩
    · refine Or.inr ⟨e1, (z 240 _ (by omega)).trans e2, ⟨(z 221 m (by omega)).trans e3, (z 222 m (by omega)).trans e4, (z 223 m (by omega)).trans e5, (z 227 m (by omega)).trans e6.1, e6.2⟩, k, y, W3, (z 241 _ (by omega)).trans e7, e8, ?_, e10, fun hy => (z 227 _ (by omega)).trans (e11 hy), e12⟩
      rw [z 224 m (by omega)]
      refine ArL.cong Rpe.rng' (fun a b v W f h hA => h.cong hA) _ _ _ _ _ _ e9 (fun i b1 b2 => ?_)
      exact ⟨z 221 i (by omega), z 222 i (by omega), z 223 i (by omega), z 224 i (by omega), z 225 i (by omega), fun _ => z 227 i (by omega)⟩
theorem g_push {pp ps : List Nat} {x b : Int} {R : Int → MF → Prop} (hS : St F) (h : EHs F K n0 C0 (l :: r) a N C) (hpl : pl l = pp ++ ps) (hpl' : pl l' = a :: ps) (e1 : shp l' = shp l) (e2 : opn l' = opn l) (e3 : szs l' = szs l) (e4 : nts l' = -1) (hb : b = if cps l' = -1 then 0 else 1)
    (hx : 1 ≤ x) (hpp : ∀ p ∈ pp, x ≤ rk (kn K p)) (hps : ∀ p r, ps = p :: r → rk (kn K p) < x) (hl : pp.length ≤ 4 ∧ ps.length ≤ 4) (hN : N + 4 < 1600) (ha : a < 1000)
    (hbd : ∀ s1 q1 lo1 W1, LvB F K n0 C0 (l :: r) s1 q1 lo1 W1 → s1 + 10 < 420 ∧ q1 + 10 < 420)
    (hR : ∀ F', St F' → EW F' K n0 C0 (l' :: r) (a + 1) (N + pp.length) (C ++ wd 16 (nts l) ++ pp.map (fun p => mk 17 p 0)) → TF n0 F F' → R 1 F') :
    C_225 x (m_up F 242 r.length b) (fun F18 => (0 ≤ (F18 201 51) ∧ (F18 201 51) < 420) ∧ (-2147483648 ≤ ((F18 201 51) + 1) ∧ ((F18 201 51) + 1) < 2147483648) ∧ (-2147483648 ≤ ((F18 201 26) + 1) ∧ ((F18 201 26) + 1) < 2147483648) ∧ R 1 (m_up (m_up (m_up F18 238 (F18 201 51).toNat (kn K a)) 201 51 ((F18 201 51) + 1)) 201 26 ((F18 201 26) + 1))) m_no := by
  obtain ⟨⟨s1, q1, lo1, W1, h1, h2⟩, h3, h4, h5, h6⟩ := h
  obtain ⟨bd1, bd2⟩ := hbd _ _ _ _ h1
  change QE F K s1 q1 lo1 W1 (pl l) N (C ++ wd 16 (nts l)) at h2
  rw [hpl] at h2
  obtain ⟨F1, d1⟩ : ∃ F1, F1 = m_up F 242 r.length b := ⟨_, rfl⟩
  rw [← d1]
  have hS1 : St F1 := by rw [d1]; exact hS.arr kd_242 (by decide)
  have z1 : ∀ c i, ¬ (c = 242 ∧ i = r.length) → F1 c i = F c i := fun c i x => by rw [d1, u_ne (by omega)]
  have l1 : LvB F1 K n0 C0 (l' :: r) s1 q1 lo1 W1 := h1.re (by rw [d1, u_eq]; exact hb) z1 e1 e2 e3
  have ag1 : ∀ M, Agf F F1 M := fun M c i x y _ => z1 c i (by omega)
  obtain ⟨m, W, Wt, f, g1, g2, g3, g4, g5, g6⟩ := h2
  have hlo : lo1 ≤ N := by
    have a1 := (PE.rng _ _ _ _ _ g1).2.2
    have a2 := g2.rng
    omega
  have h2' : QE F1 K s1 q1 lo1 W1 (pp ++ ps) N (C ++ wd 16 (nts l)) := ⟨m, W, Wt, f, (PE.cong _ _ _ _ _ g1 (fun i _ _ => z1 238 i (by omega)) (fun i _ _ => z1 239 i (by omega)) (ag1 _)).1, g2.cong (z1 239 _ (by omega)) (ag1 _), g3, (z1 201 27 (by omega)).trans g4, (z1 201 51 (by omega)).trans g5, (z1 201 53 (by omega)).trans g6⟩
  refine CaV.on (s_225 (ps := ps) hx hps bd2 bd1 hl.2 pp F1 N (C ++ wd 16 (nts l)) hS1 hl.1 (by omega) hpp (fun h0 => l1.mark h0) h2') ?_
  rintro F2 hS2 ⟨⟨m2, W2, Wt2, f2, k1, k2, k3, k4, k5, k6⟩, kc⟩
  have l2 := l1.ch kc hlo
  have k26 : F2 201 26 = (a : Int) := (kc.1 26 (by decide) (by decide) (by decide)).trans ((z1 201 26 (by omega)).trans h5)
  rw [k5, k26, Int.toNat_natCast]
  refine ⟨by omega, by omega, by omega, ?_⟩
  obtain ⟨F3, d3⟩ : ∃ F3, F3 = m_up (m_up (m_up F2 238 (s1 + ps.length) (kn K a)) 201 51 (((s1 + ps.length : Nat) : Int) + 1)) 201 26 ((a : Int) + 1) := ⟨_, rfl⟩
  rw [← d3]
  have hS3 : St F3 := by rw [d3]; exact ((hS2.arr kd_238 (by decide)).fld kd_201 rk_12_51).fld kd_201 rk_12_26
  have z : ∀ c i, c ≠ 201 → ¬ (c = 238 ∧ i = s1 + ps.length) → F3 c i = F2 c i := fun c i x y => by rw [d3, u_ne (by omega), u_ne (by omega), u_ne (by omega)]
  have w : ∀ j, j ≠ 26 → j ≠ 51 → F3 201 j = F2 201 j := fun j x y => by rw [d3, u_ne (by omega), u_ne (by omega), u_ne (by omega)]
  have ag3 : ∀ M, Agf F2 F3 M := fun M c i x y _ => z c i (by omega) (by omega)
  have gr := LvB.rng _ _ _ _ _ h1
  refine hR F3 hS3 ⟨⟨s1, q1, lo1, W1, s1 + ps.length + 1, q1 + ps.length + 1, LvB.cong _ _ _ _ _ l2 (fun i hi => z 238 i (by omega) (by omega)) (fun i _ => z 239 i (by omega) (by omega)) (ag3 _) (fun c i x y _ => z c i (by omega) (by omega)), ?_, ?_, ?_⟩, ?_, ?_, ?_, ?_, ?_⟩ ⟨⟨?_, fun c hc => ?_⟩, fun j x1 x2 x3 x4 x5 x6 x7 => ?_⟩
  · show PE F3 K s1 q1 lo1 W1 (pl l') _ _ _ _
    rw [hpl']
    exact ⟨s1 + ps.length, q1 + ps.length, m2, W2, Wt2, f2, (PE.cong _ _ _ _ _ k1 (fun i _ hi => z 238 i (by omega) (by omega)) (fun i _ _ => z 239 i (by omega) (by omega)) (ag3 _)).1, rfl, rfl, by rw [d3, u_ne (by omega), u_ne (by omega), u_eq], k2.cong (z 239 _ (by omega) (by omega)) (ag3 _), k3⟩
  · rw [d3, u_ne (by omega), u_eq]; omega
  · rw [w 53 (by decide) (by decide)]; exact k6
  · rw [w 27 (by decide) (by decide)]; exact k4
  · rw [w 54 (by decide) (by decide), kc.1 54 (by decide) (by decide) (by decide), z1 201 54 (by omega)]; exact h3
  · show F3 201 60 = nts l'
    rw [w 60 (by decide) (by decide), kc.1 60 (by decide) (by decide) (by decide), z1 201 60 (by omega), e4]; exact h4
  · rw [d3, u_eq]; omega
  · rw [w 58 (by decide) (by decide), kc.1 58 (by decide) (by decide) (by decide), z1 201 58 (by omega)]; exact h6
  · exact ((ag1 n0).tr (kc.2.1.le (by omega)) (Nat.le_refl _)).tr (ag3 n0) (Nat.le_refl _)
  · funext i
    rw [z c i (fun e => hc (Or.inl e)) (fun e => hc (by omega)), kc.2.2.2 c (fun e => hc (by omega)), z1 c i (fun e => hc (by omega))]
  · rw [w j x1 x3, kc.1 j x2 x3 x4, z1 201 j (by omega)]
end M83
