/-! READING, OF THE REFERENCE: a call's name, a plain -/
section M81
variable {F F' : MF} {K : List Int} {n0 lo hi v N q m s dep a : Nat} {C0 C W Wt V : List Int} {f : Int} {l : Lv} {r : List Lv}
theorem t_call (hS : St F) (h : EW F K n0 C0 (l :: r) a N C) (hr : r.length + 1 < 210) (hs : ∀ s : Nat, F 201 51 = (s : Int) → s < 420) (ha : a < 256) (hN : N < 1600) {R : Int → MF → Prop}
    (hR : ∀ F', St F' → EW F' K n0 C0 (lv0 2 a :: l :: r) (a + 2) (N + 1) C → Cz n0 F F' → (∀ j, j ≠ 26 → j ≠ 27 → j ≠ 51 → j ≠ 54 → j ≠ 60 → F' 201 j = F 201 j) → R 1 F') :
    C_221 14 (F 201 26) F (fun r10 F7 => C_228 r10 F7 (fun F11 => (-2147483648 ≤ ((F11 201 26) + 2) ∧ ((F11 201 26) + 2) < 2147483648) ∧ R 1 (m_up F11 201 26 ((F11 201 26) + 2))) m_no) m_no := by
  obtain ⟨⟨s0, q0, lo0, W0, s, q, h1, h2, h3, h4⟩, h5, h6, h7, h8, h9⟩ := h
  change F 201 54 = ((r.length : Nat) : Int) at h6
  change F 201 60 = nts l at h7
  rw [h8]
  refine CaI.on (s_221 hS h5 hN) ?_
  rintro v F1 hS1 ⟨rfl, m1, m2, m3, m4, m5⟩
  refine CaV.on (s_228 hS1 ((m4 54 (by decide)).trans h6) ((m4 51 (by decide)).trans h3) ((m4 60 (by decide)).trans h7) hr (hs s h3)) ?_
  rintro F2 hS2 ⟨⟨k1, k2, k3⟩, ⟨k4, k5, k6, k7⟩, k8, k9, k10⟩
  have k26 : F2 201 26 = (a : Int) := (k9 26 (by decide) (by decide) (by decide)).trans ((m4 26 (by decide)).trans h8)
  rw [k26]
  refine ⟨by omega, ?_⟩
  obtain ⟨F3, d3⟩ : ∃ F3, F3 = m_up F2 201 26 ((a : Int) + 2) := ⟨_, rfl⟩
  rw [← d3]
  have hS3 : St F3 := by rw [d3]; exact hS2.fld kd_201 rk_12_26
  have z : ∀ c, c ≠ 201 → F3 c = F2 c := fun c hc => by rw [d3, up_row hc]
  have w : ∀ j, j ≠ 26 → F3 201 j = F2 201 j := fun j x => by rw [d3, u_ne (Or.inr x)]
  have zn : ∀ c, 221 ≤ c → c ≤ 229 → ∀ i, F3 c i = F1 c i := fun c x y i => by rw [z c (by omega), k10 c i (by omega) (by omega) (by omega)]
  have b : ∀ c i, c ≠ 201 → ¬ (221 ≤ c ∧ c ≤ 229 ∧ N ≤ i) → ¬ (c = 238 ∧ i = s) → ¬ (240 ≤ c ∧ c ≤ 243 ∧ i = r.length + 1) → F3 c i = F c i := by
    intro c i x y u t
    rw [z c x, k10 c i x u t]
    by_cases e : 221 ≤ c ∧ c ≤ 229
    · exact m3 c i e.1 e.2 (by omega)
    · rw [m5 c (by omega)]
  have ag : Agf F F3 N := fun c i x y u => b c i (by omega) (by omega) (by omega) (by omega)
  have g := PE.rng _ _ _ _ _ h2
  have g0 := LvB.rng _ _ _ _ _ h1
  have l1 : LvB F3 K n0 C0 (l :: r) s0 q0 lo0 W0 := LvB.cong _ _ _ _ _ h1 (fun i hi => b 238 i (by omega) (by omega) (by omega) (by omega)) (fun i hi => b 239 i (by omega) (by omega) (by omega) (by omega)) (ag.le g.2.2) (fun c i x y hi => b c i (by omega) (by omega) (by omega) (by rw [List.length_cons] at hi; omega))
  have l2 := (PE.cong (F' := F3) _ _ _ _ _ h2 (fun i _ hi => b 238 i (by omega) (by omega) (by omega) (by omega)) (fun i _ _ => b 239 i (by omega) (by omega) (by omega) (by omega)) ag).1
  refine hR F3 hS3 ⟨⟨s + 1, q, N + 1, C, s + 1, q, ⟨?_, Or.inr ⟨s0, q0, lo0, s, N, W0, C, l1, l2, ?_, rfl, ?_, Or.inr ⟨rfl, ?_, ⟨?_, ?_, ?_, ?_⟩, 0, -1, [], ?_, rfl, ⟨rfl, ?_, rfl, rfl⟩, Nat.lt_succ_self N, fun e => absurd rfl e, (List.append_nil C).symm⟩⟩⟩, ⟨rfl, rfl, rfl, rfl⟩, ?_, ?_⟩, ?_, ?_, ?_, ?_, ?_⟩ ⟨ag.le (by omega), fun c hc => funext fun i => b c i (fun e => hc (Or.inl e)) (fun e => hc (by omega)) (fun e => hc (by omega)) (fun e => hc (by omega))⟩ (fun j x x2 y u t => by rw [w j x, k9 j y u t, m4 j x2])
  · show F3 242 (r.length + 1) = 0
    rw [z 242 (by decide)]; exact k6
  · rw [z 238 (by decide)]; exact k8
  · show F3 243 (r.length + 1) = nts l
    rw [z 243 (by decide)]; exact k7
  · show F3 240 (r.length + 1) = (N : Int)
    rw [z 240 (by decide)]; exact k4
  · rw [zn 221 (by decide) (by decide)]; exact m2.1
  · rw [zn 222 (by decide) (by decide)]; exact m2.2.1
  · rw [zn 223 (by decide) (by decide)]; exact m2.2.2.1
  · rw [zn 227 (by decide) (by decide)]; exact ⟨m2.2.2.2.2.2.2.1, by show (a : Int) < 256; omega⟩
  · show F3 241 (r.length + 1) = -1
    rw [z 241 (by decide)]; exact k5
  · rw [zn 224 (by decide) (by decide)]; exact m2.2.2.2.1
  · rw [w 51 (by decide)]; exact k2
  · rw [w 53 (by decide), k9 53 (by decide) (by decide) (by decide), m4 53 (by decide)]; exact h4
  · rw [w 27 (by decide), k9 27 (by decide) (by decide) (by decide)]; exact m1
  · rw [w 54 (by decide)]; exact k1
  · rw [w 60 (by decide)]; exact k3
  · rw [d3, u_eq]; omega
  · rw [w 58 (by decide), k9 58 (by decide) (by decide) (by decide), m4 58 (by decide)]; exact h9
theorem t_plain (hS : St F) (h : EW F K n0 C0 (l :: r) a N C) (hq : ∀ q : Nat, F 201 53 = (q : Int) → q < 420) (ha : a < 1000) (hN : N + 1 < 1600) (hnt : -1 ≤ nts l) {R : Int → MF → Prop}
    (hR : ∀ F', St F' → EHs F' K n0 C0 (l :: r) (a + 1) (N + 1 + (wd 16 (nts l)).length) (C ++ [mk 14 a 0]) → Cz n0 F F' → (∀ j, j ≠ 26 → j ≠ 27 → j ≠ 53 → j ≠ 58 → j ≠ 60 → F' 201 j = F 201 j) → R 0 F') :
    C_221 13 (F 201 26) (m_up (m_up F 201 58 0) 201 60 (-1)) (fun r7 F4 => C_227 r7 (F 201 60) F4 (fun F8 => (-2147483648 ≤ ((F8 201 26) + 1) ∧ ((F8 201 26) + 1) < 2147483648) ∧ R 0 (m_up F8 201 26 ((F8 201 26) + 1))) m_no) m_no := by
  obtain ⟨⟨s0, q0, lo0, W0, s, q, h1, h2, h3, h4⟩, h5, h6, h7, h8, h9⟩ := h
  change F 201 54 = ((r.length : Nat) : Int) at h6
  change F 201 60 = nts l at h7
  change PE F K s0 q0 lo0 W0 (pl l) s q N C at h2
  rw [h8, h7]
  obtain ⟨F1, d1⟩ : ∃ F1, F1 = m_up (m_up F 201 58 0) 201 60 (-1) := ⟨_, rfl⟩
  rw [← d1]
  have hS1 : St F1 := by rw [d1]; exact (hS.fld kd_201 rk_12_58).fld kd_201 rk_12_60
  have z1 : ∀ c, c ≠ 201 → F1 c = F c := fun c hc => by rw [d1, up_row hc, up_row hc]
  have w1 : ∀ j, j ≠ 58 → j ≠ 60 → F1 201 j = F 201 j := fun j x y => by rw [d1, u_ne (Or.inr y), u_ne (Or.inr x)]
  have w58 : F1 201 58 = 0 := by rw [d1, u_ne (Or.inr (by decide)), u_eq]
  have w60 : F1 201 60 = -1 := by rw [d1, u_eq]
  refine CaI.on (s_221 (N := N) hS1 ((w1 27 (by decide) (by decide)).trans h5) (by omega)) ?_
  rintro v F2 hS2 ⟨rfl, m1, m2, m3, m4, m5⟩
  refine CaV.on (s_227 (q := q) (K := K) hS2 (Rpe.plain (p := a) m2.1 m2.2.1 m2.2.2.2.1 m2.2.2.2.2.1) m2.2.2.1 m2.2.2.2.2.2.2.1 m1 hN ((m4 53 (by decide)).trans ((w1 53 (by decide) (by decide)).trans h4)) (hq q h4) hnt) ?_
  rintro F3 hS3 ⟨⟨N', f', k1, k2, k3⟩, k4, k5, k6, k7, k8⟩
  have k26 : F3 201 26 = (a : Int) := (k6 26 (by decide) (by decide)).trans ((m4 26 (by decide)).trans ((w1 26 (by decide) (by decide)).trans h8))
  rw [k26]
  refine ⟨by omega, ?_⟩
  obtain ⟨F4, d4⟩ : ∃ F4, F4 = m_up F3 201 26 ((a : Int) + 1) := ⟨_, rfl⟩
  rw [← d4]
  have hS4 : St F4 := by rw [d4]; exact hS3.fld kd_201 rk_12_26
  have z : ∀ c, c ≠ 201 → F4 c = F3 c := fun c hc => by rw [d4, up_row hc]
  have w : ∀ j, j ≠ 26 → F4 201 j = F3 201 j := fun j x => by rw [d4, u_ne (Or.inr x)]
  have ag : Agf F F4 N := fun c i x y u => by
    rw [z c (by omega), k5 c i x y (by omega), m3 c i x y u, z1 c (by omega)]
  have r238 : F4 238 = F 238 := by rw [z 238 (by decide), k8 238 (by omega), m5 238 (by omega), z1 238 (by decide)]
  have r239 : ∀ i, i ≠ q → F4 239 i = F 239 i := fun i hi => by rw [z 239 (by decide), k7 i hi, m5 239 (by omega), z1 239 (by decide)]
  have rb : ∀ c, 240 ≤ c → F4 c = F c := fun c x => by rw [z c (by omega), k8 c (by omega), m5 c (by omega), z1 c (by omega)]
  have g := PE.rng _ _ _ _ _ h2
  have g0 := LvB.rng _ _ _ _ _ h1
  have l1 : LvB F4 K n0 C0 (l :: r) s0 q0 lo0 W0 := LvB.cong _ _ _ _ _ h1 (fun i hi => by rw [r238]) (fun i hi => r239 i (by omega)) (ag.le g.2.2) (fun c i x y hi => by rw [rb c x])
  have l2 := (PE.cong (F' := F4) _ _ _ _ _ h2 (fun i _ hi => by rw [r238]) (fun i _ hi => r239 i (by omega)) ag).1
  obtain ⟨g1, g2, g3⟩ := g
  subst k3
  refine hR F4 hS4 ⟨⟨s0, q0, lo0, W0, l1, N, C, [mk 14 a 0] ++ wd 16 (nts l), f', ?_, ?_, by rw [List.append_assoc]; rfl, ?_, ?_, ?_⟩, ?_, ?_, ?_, ?_⟩ ⟨ag.le (by omega), fun c hc => ?_⟩ (fun j x1 x2 x3 x4 x5 => by rw [w j x1, k6 j x2 x3, m4 j x2, w1 j x4 x5])
  · show PE F4 K s0 q0 lo0 W0 (pl l) (s0 + (pl l).length) (q0 + (pl l).length) N C
    rw [← g1, ← g2]
    exact l2
  · show Top F4 K (q0 + (pl l).length) N _ _ f'
    rw [← g2]
    exact k1.cong (by rw [z 239 (by decide)]) (fun c i x y u => by rw [z c (by omega)])
  · rw [w 27 (by decide)]; exact k2
  · show F4 201 51 = ((s0 + (pl l).length : Nat) : Int)
    rw [← g1, w 51 (by decide), k6 51 (by decide) (by decide), m4 51 (by decide), w1 51 (by decide) (by decide)]
    exact h3
  · show F4 201 53 = ((q0 + (pl l).length + 1 : Nat) : Int)
    rw [← g2, w 53 (by decide)]
    exact k4
  · rw [w 54 (by decide), k6 54 (by decide) (by decide), m4 54 (by decide), w1 54 (by decide) (by decide)]; exact h6
  · rw [w 60 (by decide), k6 60 (by decide) (by decide), m4 60 (by decide)]; exact w60
  · rw [d4, u_eq]; omega
  · rw [w 58 (by decide), k6 58 (by decide) (by decide), m4 58 (by decide)]; exact w58
  · rw [z c (fun e => hc (Or.inl e)), k8 c (fun e => hc (by omega)), m5 c (fun e => hc (by omega)), z1 c (fun e => hc (Or.inl e))]
end M81
