/-! READING, OF THE REFERENCE: a bracket is closed, the other ways -/
section M79
variable {F F' : MF} {K : List Int} {n0 lo hi v N q m s dep : Nat} {C0 W Wt V : List Int} {f : Int} {l : Lv} {r : List Lv}
theorem LvB.mark (h : LvB F K n0 C0 (l :: r) s q lo W) (h0 : 0 < s) : F 238 (s - 1) = 0 := by
  obtain ⟨-, ⟨-, -, e, -⟩ | ⟨s1', q1', lo1', s2, m, W1', W2, g1, g2, g3, g4, -⟩⟩ := h
  · omega
  · rw [show s - 1 = s2 by omega]
    exact g3
/-- () behind the name of a call -/
theorem s_230z (hS : St F) (h : LvB F K n0 C0 (l :: r) s q N W) (hsh : shp l = 2) (hop : 0 ≤ opn l) (hN : F 201 27 = (N : Int)) (hq : F 201 53 = (q : Int)) (hs : F 201 51 = (s : Int)) (hd : F 201 54 = (r.length : Int)) (hnt : -1 ≤ nts (hdl r)) (hNl : N < 1600) (hql : q < 420) (hsl : s < 420) (hr : r.length < 210) (x2 : Int) :
    C_230 0 x2 F (CL F K n0 C0 r N (wd 16 (nts (hdl r))).length (W ++ [mk 15 (opn l).toNat (szs l).toNat] ++ wd 16 (nts (hdl r)))) m_no := by
  have hm := h.mark
  have h' := h
  obtain ⟨h0, ⟨-, e0, -⟩ | ⟨s1', q1', lo1', s2, m, W1', W2, g1, g2, g3, g4, g5, g6⟩⟩ := h'
  · rw [hsh] at e0
    exact absurd e0 (by decide)
  rcases g6 with ⟨e1, -⟩ | ⟨e1, e2, -⟩
  · rw [hsh] at e1
    exact absurd e1 (by decide)
  have hcont : (fun F1 : MF => (-2147483648 ≤ ((F1 201 51) - 1) ∧ ((F1 201 51) - 1) < 2147483648)) F := by
    show _ ∧ _
    rw [hs]
    omega
  refine c_230 hS (c_225 hS (b_225_0 hS ?_))
  have fin : L_230_81 (F 240 r.length) (m_up F 201 51 ((s : Int) - 1)) (CL F K n0 C0 r N (wd 16 (nts (hdl r))).length (W ++ [mk 15 (opn l).toNat (szs l).toNat] ++ wd 16 (nts (hdl r)))) m_no := by
    obtain ⟨F2, d2⟩ : ∃ F2, F2 = m_up F 201 51 ((s : Int) - 1) := ⟨_, rfl⟩
    rw [← d2]
    have hS2 : St F2 := by rw [d2]; exact hS.fld kd_201 rk_12_51
    have z : ∀ c, c ≠ 201 → F2 c = F c := fun c hc => by rw [d2, up_row hc]
    have z2 : ∀ j, j ≠ 51 → F2 201 j = F 201 j := fun j hj => by rw [d2, u_ne (Or.inr hj)]
    have z3 : F2 201 51 = (s : Int) - 1 := by rw [d2, u_eq]
    have a2 : ∀ M, Agf F F2 M := fun M c i x y _ => by rw [z c (by omega)]
    have hL2 : LvB F2 K n0 C0 (l :: r) s q N W := LvB.cong _ _ _ _ _ h (fun i _ => by rw [z 238 (by decide)]) (fun i _ => by rw [z 239 (by decide)]) (a2 _) (fun c i x y _ => by rw [z c (by omega)])
    rw [← z 240 (by decide)]
    refine EvV.mono (l_81c hS2 hL2 hsh hop (by rw [z2 27 (by decide)]; exact hN) (by rw [z2 53 (by decide)]; exact hq) (by rw [z3]; omega) (by rw [z2 54 (by decide)]; exact hd) hnt hNl hql hr) (fun F' _ k => ?_) (fun _ _ _ h => h)
    obtain ⟨y1, y4, y5, y6⟩ := k
    have x2 : Cz n0 F F2 := ⟨a2 n0, fun c hc => z c (fun e => hc (Or.inl e))⟩
    exact ⟨y1, y4, fun j a b c d => by rw [y5 j a b c d, z2 j b], x2.tr y6⟩
  rw [hs, hd, show ((s : Int) - 1).toNat = s - 1 by omega, hm (by omega), g_223_rk, Int.toNat_natCast]
  have hbody := fun hc : (0 : Int) < 1 => (⟨by omega, by omega, fun e => by rw [e2] at e; omega, fun _ => ⟨fun _ => fin, fun e => absurd rfl e⟩⟩ : (-2147483648 ≤ ((s : Int) - 1) ∧ ((s : Int) - 1) < 2147483648) ∧ (0 ≤ (r.length : Int) ∧ (r.length : Int) < 210) ∧ (F 240 r.length = -1 → False) ∧ (¬ F 240 r.length = -1 → ((0 : Int) = 0 → L_230_81 (F 240 r.length) (m_up F 201 51 ((s : Int) - 1)) (CL F K n0 C0 r N (wd 16 (nts (hdl r))).length (W ++ [mk 15 (opn l).toNat (szs l).toNat] ++ wd 16 (nts (hdl r)))) m_no) ∧ (¬ (0 : Int) = 0 → False)))
  obtain ⟨o1, o2, o3, o4⟩ := hbody (by decide)
  refine ⟨fun _ => ⟨by omega, by omega, fun _ => ⟨o1, o2, fun e => absurd (o3 e) (fun h => h), fun e => ⟨fun _ => fin, fun e => absurd rfl e⟩⟩, fun e => absurd (by decide : rk 0 < 1) e⟩, fun hp => by omega⟩
/-- ) behind an expr in brackets -/
theorem s_230g (hS : St F) (h : EHb F K n0 C0 (l :: r) N V) (hK : LvK K l) (hsh : shp l = 1) (hop : 0 ≤ opn l) (hd : F 201 54 = (r.length : Int)) (hnt : -1 ≤ nts (hdl r)) (hNl : N + 4 < 1600) (hb : ∀ s1 q1 lo1 W1, LvB F K n0 C0 (l :: r) s1 q1 lo1 W1 → s1 + 10 < 420 ∧ q1 + 10 < 420) (hr : r.length < 210) (x1 x2 : Int) :
    C_230 x1 x2 F (CL F K n0 C0 r N ((pl l).length + (wd 16 (nts (hdl r))).length) (V ++ (wd 17 (tms l) ++ wd 17 (ads l) ++ wd 17 (cps l)) ++ [mk 18 (opn l).toNat (szs l).toNat] ++ wd 16 (nts (hdl r)))) m_no := by
  obtain ⟨s1, q1, lo1, W1, h1, h2⟩ := h
  obtain ⟨hb1, hb2⟩ := hb _ _ _ _ h1
  change QE F K s1 q1 lo1 W1 (pl l) N V at h2
  have hlen := pl_len (l := l)
  refine c_230 hS (CaV.on (s_225 (ps := []) (Int.le_refl 1) (fun p r h => by cases h) hb2 hb1 (by decide) (pl l) F N V hS (by omega) (by omega) (pl_rk hK) (fun h0 => h1.mark h0) (by rw [List.append_nil]; exact h2)) ?_)
  rintro F1 hS1 ⟨k1, k2⟩
  rw [pl_wd hK] at k1
  obtain ⟨m', W', Wt, f', p1, p2, p3, p4, p5, p6⟩ := k1
  obtain ⟨-, -, rfl, rfl⟩ := p1
  change F1 201 51 = ((s1 : Nat) : Int) at p5
  change F1 201 53 = ((q1 + 1 : Nat) : Int) at p6
  change Top F1 K q1 m' _ Wt f' at p2
  have hlo : m' ≤ N := by
    obtain ⟨m2, W2, Wt2, f2, u1, u2, -⟩ := h2
    have a1 := (PE.rng _ _ _ _ _ u1).2.2
    have a2 := u2.rng
    omega
  have g := LvB.rng _ _ _ _ _ h1
  have hL := h1.ch k2 hlo
  have hd1 : F1 201 54 = (r.length : Int) := by rw [k2.1 54 (by decide) (by decide) (by decide)]; exact hd
  obtain ⟨h0, ⟨-, e0, -⟩ | ⟨s1', q1', lo1', s2, m, W1', W2, g1, g2, g3, g4, g5, g6⟩⟩ := hL
  · rw [hsh] at e0
    exact absurd e0 (by decide)
  obtain ⟨e1, e2, e3, rfl, rfl⟩ := g6.resolve_right (fun e => by
    have e1 := e.1
    rw [hsh] at e1
    exact absurd e1 (by decide))
  obtain ⟨v, v1, v2, v3, v4⟩ := p2
  have vr := v4.rng
  obtain ⟨p, hp⟩ : ∃ p : Nat, opn l = (p : Int) := ⟨(opn l).toNat, by omega⟩
  rw [p5, hd1, p6, show ((q1 + 1 : Nat) : Int) - 1 = (q1 : Int) by omega]
  simp only [Int.toNat_natCast]
  rw [v1, e3, hp]
  simp only [Int.toNat_natCast]
  refine ⟨by omega, by omega, fun _ => ⟨by omega, by omega, by omega, by omega, ?_⟩, fun e => absurd e2 e⟩
  obtain ⟨F2, d2⟩ : ∃ F2, F2 = m_up (m_up (m_up F1 201 51 ((s1 : Int) - 1)) 201 53 (q1 : Int)) 223 v (p : Int) := ⟨_, rfl⟩
  rw [← d2]
  have hS2 : St F2 := by rw [d2]; exact ((hS1.fld kd_201 rk_12_51).fld kd_201 rk_12_53).arr kd_223 (by decide)
  have z : ∀ c i, ¬ (c = 201 ∧ i = 51) → ¬ (c = 201 ∧ i = 53) → ¬ (c = 223 ∧ i = v) → F2 c i = F1 c i := fun c i a b d => by rw [d2, u_ne (by omega), u_ne (by omega), u_ne (by omega)]
  have zr : ∀ c, c ≠ 201 → c ≠ 223 → F2 c = F1 c := fun c a b => funext fun i => z c i (by omega) (by omega) (by omega)
  have a2 : Agf F1 F2 m' := fun c i x y w => z c i (by omega) (by omega) (by omega)
  have hAg : Ag F1 F2 m' (N + (pl l).length) (v : Int) := fun i x y => ⟨z 221 i (by omega) (by omega) (by omega), z 222 i (by omega) (by omega) (by omega), z 224 i (by omega) (by omega) (by omega), z 225 i (by omega) (by omega) (by omega), fun e => ⟨z 223 i (by omega) (by omega) (by omega), z 227 i (by omega) (by omega) (by omega)⟩⟩
  have l1 := LvB.cong (F' := F2) _ _ _ _ _ g1 (fun i _ => by rw [zr 238 (by decide) (by decide)]) (fun i _ => by rw [zr 239 (by decide) (by decide)]) (a2.le (PE.rng _ _ _ _ _ g2).2.2) (fun c i x y _ => by rw [zr c (by omega) (by omega)])
  have l2 := (PE.cong (F' := F2) _ _ _ _ _ g2 (fun i _ _ => by rw [zr 238 (by decide) (by decide)]) (fun i _ _ => by rw [zr 239 (by decide) (by decide)]) a2).1
  have l3 := Rpe.grp (o := p) (e := (szs l).toNat) (v4.cong hAg)
  refine EvV.mono (l_81 (v := v) hS2 l1 l2 l3 (by rw [d2, u_eq]) (by rw [z 227 v (by omega) (by omega) (by omega)]; exact v3) (by rw [z 201 27 (by omega) (by omega) (by omega)]; exact p4) (by rw [d2, u_ne (by omega), u_eq]) (by rw [d2, u_ne (by omega), u_ne (by omega), u_eq]; omega) (by rw [z 201 54 (by omega) (by omega) (by omega)]; exact hd1) (by rw [zr 243 (by decide) (by decide)]; exact g5) hnt (by omega) (by omega) hr) (fun F' _ k => ?_) (fun _ _ _ h => h)
  obtain ⟨⟨N', y1, y2⟩, y4, y5, y6⟩ := k
  have hcz : Cz n0 F F2 := by
    have x1 : Cz n0 F F1 := ⟨k2.2.1.le (by omega), k2.2.2.2.mo (fun c h => by omega)⟩
    have x2 : Cz n0 F1 F2 := ⟨a2.le (by omega), fun c hc => zr c (fun e => hc (Or.inl e)) (fun e => hc (by omega))⟩
    exact x1.tr x2
  refine ⟨⟨N', ?_, by omega⟩, y4, fun j a b c d => ?_, hcz.tr y6⟩
  · rw [p3, List.append_assoc W']
    exact y1
  · rw [y5 j a c d, z 201 j (by omega) (by omega) (by omega), k2.1 j a b c]
end M79
