/-! READING, OF THE REFERENCE: a bracket is closed -/
section M77
variable {F F' : MF} {K : List Int} {n0 lo hi v N q m s dep : Nat} {C0 W Wt V : List Int} {f : Int} {l : Lv} {r : List Lv}
/-- behind a unit: the levels, and what is done -/
def EHb (F : MF) (K : List Int) (n0 : Nat) (C0 : List Int) (L : List Lv) (N : Nat) (V : List Int) : Prop := ∃ (s1 q1 lo1 : Nat) (W1 : List Int), LvB F K n0 C0 L s1 q1 lo1 W1 ∧ QE F K s1 q1 lo1 W1 (pl (hdl L)) N V
def Cz (n0 : Nat) (F F' : MF) : Prop := Agf F F' n0 ∧ fr (fun c => c = 201 ∨ (221 ≤ c ∧ c ≤ 229) ∨ (238 ≤ c ∧ c ≤ 244)) F F'
theorem Cz.tr {F1 F2 : MF} (h : Cz n0 F F1) (k : Cz n0 F1 F2) : Cz n0 F F2 := ⟨h.1.tr k.1 (Nat.le_refl _), h.2.tr k.2⟩
theorem l_81 {s1 q1 lo1 s2 : Nat} {W1 W2 : List Int} (hS : St F) (h1 : LvB F K n0 C0 r s1 q1 lo1 W1) (h2 : PE F K s1 q1 lo1 W1 (pl (hdl r)) s2 q m W2) (hv : Rpe F K m N v Wt f) (v1 : F 223 v = f) (v2 : F 227 v = -1)
    (hN : F 201 27 = (N : Int)) (hq : F 201 53 = (q : Int)) (hs : F 201 51 = (s2 : Int)) (hd : F 201 54 = (r.length : Int)) (hb : F 243 r.length = nts (hdl r)) (hnt : -1 ≤ nts (hdl r)) (hNl : N < 1600) (hql : q < 420) (hr : r.length < 210) :
    L_230_81 (v : Int) F (fun F' => (∃ N', EHb F' K n0 C0 r N' (W2 ++ Wt ++ wd 16 (nts (hdl r))) ∧ N' = N + (wd 16 (nts (hdl r))).length) ∧ F' 201 54 = ((r.length - 1 : Nat) : Int) ∧ (∀ j, j ≠ 27 → j ≠ 53 → j ≠ 54 → F' 201 j = F 201 j) ∧ Cz n0 F F') m_no := by
  have g1 := LvB.rng _ _ _ _ _ h1
  have g2 := PE.rng _ _ _ _ _ h2
  have g3 := hv.rng
  have hpos : 0 < r.length := by
    cases r with
    | nil => exact absurd rfl g1.2
    | cons a b => exact Nat.succ_pos _
  refine b_230_81 hS ?_
  rw [hd, Int.toNat_natCast, hb, show (r.length : Int) - 1 = ((r.length - 1 : Nat) : Int) by omega]
  refine ⟨by omega, by omega, ?_⟩
  obtain ⟨F1, d1⟩ : ∃ F1, F1 = m_up F 201 54 ((r.length - 1 : Nat) : Int) := ⟨_, rfl⟩
  rw [← d1]
  have hS1 : St F1 := by rw [d1]; exact hS.fld kd_201 rk_12_54
  have z : ∀ c, c ≠ 201 → F1 c = F c := fun c hc => by rw [d1, up_row hc]
  have z2 : ∀ j, j ≠ 54 → F1 201 j = F 201 j := fun j hj => by rw [d1, u_ne (Or.inr hj)]
  have z3 : F1 201 54 = ((r.length - 1 : Nat) : Int) := by rw [d1, u_eq]
  have a1 : ∀ M, Agf F F1 M := fun M c i x y _ => by rw [z c (by omega)]
  refine CaV.on (s_227 (q := q) hS1 (hv.cong ((a1 N).ag (Nat.le_refl _))) (by rw [z 223 (by decide)]; exact v1) (by rw [z 227 (by decide)]; exact v2) (by rw [z2 27 (by decide)]; exact hN) hNl (by rw [z2 53 (by decide)]; exact hq) hql hnt) ?_
  rintro F2 hS2 ⟨⟨N', f', k1, k2, k3⟩, k5, k6, k7, k8, k9⟩
  have a2 : Agf F F2 N := (a1 N).tr k6 (Nat.le_refl _)
  have c8 : ∀ i, i < q → F2 239 i = F 239 i := fun i hi => (k8 i (by omega)).trans (by rw [z 239 (by decide)])
  have c7 : F2 238 = F 238 := (k9 238 (by omega)).trans (z 238 (by decide))
  refine ⟨⟨N', ⟨s1, q1, lo1, W1, LvB.cong _ _ _ _ _ h1 (fun i _ => by rw [c7]) (fun i hi => c8 i (by omega)) (a2.le (by omega)) (fun c i x y _ => by rw [k9 c (by omega), z c (by omega)]),
    m, W2, Wt ++ wd 16 (nts (hdl r)), f', ?_, ?_, by rw [List.append_assoc], k2, ?_, ?_⟩, k3⟩, ?_, fun j a b c => ?_, a2.le (by omega), fun c hc => ?_⟩
  · rw [← g2.1, ← g2.2.1]
    exact (PE.cong _ _ _ _ _ h2 (fun i _ _ => by rw [c7]) (fun i _ hi => c8 i hi) (a2.le (by omega))).1
  · rw [← g2.2.1]
    exact k1
  · rw [k7 51 (by decide) (by decide), z2 51 (by decide), hs]
    omega
  · rw [k5]
    omega
  · rw [k7 54 (by decide) (by decide)]; exact z3
  · rw [k7 j a b, z2 j c]
  · rw [k9 c (by omega), z c (by omega)]
/-- the signs that wait are ones -/
def LvK (K : List Int) (l : Lv) : Prop := (tms l = -1 ∨ 0 ≤ tms l ∧ kn K (tms l).toNat = 21) ∧ (ads l = -1 ∨ 0 ≤ ads l ∧ (kn K (ads l).toNat = 19 ∨ kn K (ads l).toNat = 20)) ∧ (cps l = -1 ∨ 0 ≤ cps l ∧ (kn K (cps l).toNat = 17 ∨ kn K (cps l).toNat = 18)) ∧ -1 ≤ nts l
theorem pl_len : (pl l).length ≤ 3 := by
  unfold pl
  simp only [List.length_append]
  split <;> split <;> split <;> simp
theorem pl_rk (h : LvK K l) : ∀ p ∈ pl l, 1 ≤ rk (kn K p) := by
  obtain ⟨h1, h2, h3, -⟩ := h
  intro p hp
  unfold pl at hp
  rcases List.mem_append.mp hp with hp | hp
  · rcases List.mem_append.mp hp with hp | hp
    · split at hp
      · cases hp
      · rw [List.mem_singleton.mp hp, show kn K (tms l).toNat = 21 by omega]
        decide
    · split at hp
      · cases hp
      · rw [List.mem_singleton.mp hp]
        rcases h2 with e | ⟨-, e | e⟩
        · omega
        · rw [e]; decide
        · rw [e]; decide
  · split at hp
    · cases hp
    · rw [List.mem_singleton.mp hp]
      rcases h3 with e | ⟨-, e | e⟩
      · omega
      · rw [e]; decide
      · rw [e]; decide
theorem pl_wd (h : LvK K l) : (pl l).map (fun p => mk 17 p 0) = wd 17 (tms l) ++ wd 17 (ads l) ++ wd 17 (cps l) := by
  unfold pl wd
  rw [List.map_append, List.map_append]
  congr 1
  · congr 1
    · split <;> rfl
    · split <;> rfl
  · split <;> rfl
end M77
