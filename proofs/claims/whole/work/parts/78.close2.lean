/-! READING, OF THE REFERENCE: a bracket is closed, as a whole -/
section M78
variable {F F' : MF} {K : List Int} {n0 lo hi v N q m s dep : Nat} {C0 W Wt V : List Int} {f : Int} {l : Lv} {r : List Lv}
def CL (F : MF) (K : List Int) (n0 : Nat) (C0 : List Int) (r : List Lv) (N B : Nat) (V : List Int) : MF → Prop := fun F' =>
  (∃ N', EHb F' K n0 C0 r N' V ∧ N' = N + B) ∧ F' 201 54 = ((r.length - 1 : Nat) : Int) ∧ (∀ j, j ≠ 27 → j ≠ 51 → j ≠ 53 → j ≠ 54 → F' 201 j = F 201 j) ∧ Cz n0 F F'
/-- the call's node is the one that stands at the level -/
theorem l_81c (hS : St F) (h : LvB F K n0 C0 (l :: r) s q N W) (hsh : shp l = 2) (hop : 0 ≤ opn l) (hN : F 201 27 = (N : Int)) (hq : F 201 53 = (q : Int)) (hs : F 201 51 = ((s - 1 : Nat) : Int)) (hd : F 201 54 = (r.length : Int)) (hnt : -1 ≤ nts (hdl r)) (hNl : N < 1600) (hql : q < 420) (hr : r.length < 210) :
    L_230_81 (F 240 r.length) F (CL F K n0 C0 r N (wd 16 (nts (hdl r))).length (W ++ [mk 15 (opn l).toNat (szs l).toNat] ++ wd 16 (nts (hdl r)))) m_no := by
  obtain ⟨h0, ⟨-, e0, -⟩ | ⟨s1, q1, lo1, s2, m, W1, W2, h1, h2, h3, h4, h5, h6⟩⟩ := h
  · rw [hsh] at e0
    exact absurd e0 (by decide)
  rcases h6 with ⟨e1, -⟩ | ⟨e1, e2, ⟨e3, e4, e5, e6⟩, k, y, W3, e7, e8, e9, e10, e11, e12⟩
  · rw [hsh] at e1
    exact absurd e1 (by decide)
  obtain ⟨p, hp⟩ : ∃ p : Nat, opn l = (p : Int) := ⟨(opn l).toNat, by omega⟩
  have hv := Rpe.call (p := p) (v := m) e9 e3 (e4.trans hp) e11 (by omega)
  rw [e2, e8, hp, Int.toNat_natCast, Int.toNat_natCast]
  refine EvV.mono (l_81 hS h1 h2 hv (e5.trans hp) e6.1 hN hq (by rw [hs]; omega) hd h5 hnt hNl hql hr) (fun F' _ k => ?_) (fun _ _ _ h => h)
  obtain ⟨⟨N', k1, k2⟩, k4, k5, k6⟩ := k
  refine ⟨⟨N', ?_, k2⟩, k4, fun j a _ b c => k5 j a b c, k6⟩
  rw [e12, List.append_assoc W2 W3]
  exact k1
theorem LvB.ch (h : LvB F K n0 C0 (l :: r) s q lo W) (k : Ch N q F F') (hlo : lo ≤ N) : LvB F' K n0 C0 (l :: r) s q lo W :=
  LvB.cong _ _ _ _ _ h (fun i _ => by rw [k.2.2.2 238 (by omega)]) k.2.2.1 (k.2.1.le hlo) (fun c i a b _ => by rw [k.2.2.2 c (by omega)])
theorem s_230c (hS : St F) (h : EHb F K n0 C0 (l :: r) N V) (hK : LvK K l) (hsh : shp l = 2) (hop : 0 ≤ opn l) (hsz : 0 ≤ szs l) (hd : F 201 54 = (r.length : Int)) (hnt : -1 ≤ nts (hdl r)) (hNl : N + 4 < 1600) (hb : ∀ s1 q1 lo1 W1, LvB F K n0 C0 (l :: r) s1 q1 lo1 W1 → s1 + 10 < 420 ∧ q1 + 10 < 420) (hr : r.length < 210) (x2 : Int) :
    C_230 1 x2 F (CL F K n0 C0 r N ((pl l).length + (wd 16 (nts (hdl r))).length) (V ++ (wd 17 (tms l) ++ wd 17 (ads l) ++ wd 17 (cps l)) ++ [mk 15 (opn l).toNat ((szs l).toNat + 1)] ++ wd 16 (nts (hdl r)))) m_no := by
  obtain ⟨s1, q1, lo1, W1, h1, h2⟩ := h
  obtain ⟨hb1, hb2⟩ := hb _ _ _ _ h1
  change QE F K s1 q1 lo1 W1 (pl l) N V at h2
  have hlen := pl_len (l := l)
  refine c_230 hS (CaV.on (s_225 (ps := []) (Int.le_refl 1) (fun p r h => by cases h) hb2 hb1 (by decide) (pl l) F N V hS (by omega) (by omega) (pl_rk hK) (fun h0 => ?_) (by rw [List.append_nil]; exact h2)) ?_)
  · obtain ⟨-, ⟨-, -, e, -⟩ | ⟨s1', q1', lo1', s2, m, W1', W2, g1, g2, g3, g4, -⟩⟩ := h1
    · omega
    · rw [show s1 - 1 = s2 by omega]
      exact g3
  rintro F1 hS1 ⟨k1, k2⟩
  rw [pl_wd hK] at k1
  obtain ⟨m', W', Wt, f', p1, p2, p3, p4, p5, p6⟩ := k1
  obtain ⟨-, -, rfl, rfl⟩ := p1
  change F1 201 51 = ((s1 : Nat) : Int) at p5
  change F1 201 53 = ((q1 + 1 : Nat) : Int) at p6
  change Top F1 K q1 m' _ Wt f' at p2
  have hlo : m' ≤ N := by
    obtain ⟨m2, W2, Wt2, f2, u1, u2, -⟩ := h2
    have a1 := (PE.rng _ _ _ _ _ u1).2.2
    have a2 := u2.rng
    omega
  have hL := h1.ch k2 hlo
  have hd1 : F1 201 54 = (r.length : Int) := by rw [k2.1 54 (by decide) (by decide) (by decide)]; exact hd
  have hL' := hL
  obtain ⟨h0, ⟨-, e0, -⟩ | ⟨s1', q1', lo1', s2, m, W1', W2, g1, g2, g3, g4, g5, g6⟩⟩ := hL'
  · rw [hsh] at e0
    exact absurd e0 (by decide)
  rcases g6 with ⟨e1, -⟩ | ⟨e1, e2, -⟩
  · rw [hsh] at e1
    exact absurd e1 (by decide)
  rw [p5, hd1, Int.toNat_natCast]
  refine ⟨by omega, by omega, fun e => by rw [e2] at e; omega, fun _ => ⟨fun e => absurd e (by decide), fun _ => ?_⟩⟩
  obtain ⟨F2, d2⟩ : ∃ F2, F2 = m_up F1 201 51 ((s1 : Int) - 1) := ⟨_, rfl⟩
  rw [← d2]
  have hS2 : St F2 := by rw [d2]; exact hS1.fld kd_201 rk_12_51
  have z : ∀ c, c ≠ 201 → F2 c = F1 c := fun c hc => by rw [d2, up_row hc]
  have z2 : ∀ j, j ≠ 51 → F2 201 j = F1 201 j := fun j hj => by rw [d2, u_ne (Or.inr hj)]
  have z3 : F2 201 51 = (s1 : Int) - 1 := by rw [d2, u_eq]
  have a2 : ∀ M, Agf F1 F2 M := fun M c i x y _ => by rw [z c (by omega)]
  have hL2 : LvB F2 K n0 C0 (l :: r) s1 q1 m' W' := LvB.cong _ _ _ _ _ hL (fun i _ => by rw [z 238 (by decide)]) (fun i _ => by rw [z 239 (by decide)]) (a2 _) (fun c i x y _ => by rw [z c (by omega)])
  refine CaV.on (s_229 hS2 hL2 hsh (p2.cong (by rw [z 239 (by decide)]) (a2 _)) (by rw [z2 53 (by decide)]; exact p6) (by rw [z2 54 (by decide)]; exact hd1) (by omega) hr (by omega)) ?_
  rintro F3 hS3 ⟨t1, t2, t3, t4, t5⟩
  have e3 : F1 240 r.length = F3 240 r.length := by rw [t5 240 (by omega), z 240 (by decide)]
  rw [e3]
  refine EvV.mono (l_81c hS3 t1 hsh hop (by rw [t3 27 (by decide), z2 27 (by decide)]; exact p4) t2 (by rw [t3 51 (by decide), z3]; omega) (by rw [t3 54 (by decide), z2 54 (by decide)]; exact hd1) hnt (by omega) (by omega) hr) (fun F' _ k => ?_) (fun _ _ _ h => h)
  obtain ⟨⟨N', y1, y2⟩, y4, y5, y6⟩ := k
  have hcz : Cz n0 F F3 := by
    have g := LvB.rng _ _ _ _ _ h1
    have x1 : Cz n0 F F1 := ⟨k2.2.1.le (by omega), k2.2.2.2.mo (fun c h => by omega)⟩
    have x2 : Cz n0 F1 F2 := ⟨a2 n0, fun c hc => z c (fun e => hc (Or.inl e))⟩
    have x3 : Cz n0 F2 F3 := ⟨t4, t5.mo (fun c h => by omega)⟩
    exact (x1.tr x2).tr x3
  refine ⟨⟨N', ?_, by omega⟩, y4, fun j a b c d => ?_, hcz.tr y6⟩
  · rw [p3]
    rw [← show (szs l + 1).toNat = (szs l).toNat + 1 by omega]
    exact y1
  · rw [y5 j a b c d, t3 j c, z2 j b, k2.1 j a b c]
end M78
