/-! READING, OF THE REFERENCE: blocks of functions and IFs are opened -/
section M9a
variable {F F' : MF} {K : List Int} {n0 N a : Nat} {S : List (Int × Int)} {C : List Int} {E : EE} {Fn : FF} {U : List Int}
def Opd (F F' : MF) (why : Int) (v t i N : Nat) : Prop :=
  (F' 221 N = 3 ∧ F' 222 N = (t : Int) ∧ F' 224 N = -1 ∧ F' 226 N = (v : Int) ∧ F' 227 N = -1 ∧ F' 228 N = -1 ∧ F' 229 N = (if why = 0 then -1 else F 233 (i - 1))) ∧
  F' (if why = 2 then 226 else 225) v = (N : Int) ∧ (∀ c j, 221 ≤ c → c ≤ 229 → j < N → ¬ (c = (if why = 2 then 226 else 225) ∧ j = v) → F' c j = F c j) ∧
  (F' 233 i = (N : Int) ∧ F' 234 i = -1 ∧ F' 235 i = why ∧ F' 236 i = (v : Int)) ∧ (F' 201 41 = ((i + 1 : Nat) : Int) ∧ F' 201 26 = ((t + 1 : Nat) : Int) ∧ F' 201 27 = ((N + 1 : Nat) : Int)) ∧
  (∀ j, j ≠ 26 → j ≠ 27 → j ≠ 41 → F' 201 j = F 201 j) ∧ (∀ c j, c ≠ 201 → ¬ (221 ≤ c ∧ c ≤ 229) → ¬ (233 ≤ c ∧ c ≤ 236 ∧ j = i) → F' c j = F c j)
theorem s_237n {why : Int} {v t i : Nat} (hw : why = 0 ∨ why = 1 ∨ why = 2) (hS : St F) (ht : t < 200) (h27 : F 201 27 = (N : Int)) (hN : N < 1600) (h41 : F 201 41 = (i : Int)) (hi : i < 199) (hi0 : why ≠ 0 → 0 < i) (hv : v < N) :
    C_237 why (v : Int) (t : Int) F (Opd F · why v t i N) m_no := by
  refine c_237 hS ?_
  refine CaI.on (s_221 (N := N) hS h27 hN) ?_
  rintro r F1 hS1 ⟨rfl, m1, m2, m3, m4, m5⟩
  rw [m4 41 (by decide), h41, Int.toNat_natCast, Int.toNat_natCast]
  have go : ∀ (x : Int) (cc : Nat), cc = (if why = 2 then 226 else 225) → x = (if why = 0 then -1 else F 233 (i - 1)) → L_237_85 why (v : Int) (t : Int) (N : Int) (m_up (m_up (m_up F1 229 N x) cc v (N : Int)) 226 N (v : Int)) (Opd F · why v t i N) m_no := by
    intro x cc hcc hx
    have hc2 : cc = 225 ∨ cc = 226 := by
      rw [hcc]
      by_cases e : why = 2
      · rw [if_pos e]; exact Or.inr rfl
      · rw [if_neg e]; exact Or.inl rfl
    obtain ⟨F2, d2⟩ : ∃ F2, F2 = m_up (m_up (m_up F1 229 N x) cc v (N : Int)) 226 N (v : Int) := ⟨_, rfl⟩
    rw [← d2]
    have hS2 : St F2 := by
      rw [d2]
      rcases hc2 with e | e
      · subst e
        exact ((hS1.arr kd_229 (by decide)).arr kd_225 (by decide)).arr kd_226 (by decide)
      · subst e
        exact ((hS1.arr kd_229 (by decide)).arr kd_226 (by decide)).arr kd_226 (by decide)
    have z2 : ∀ c j, ¬ (c = 229 ∧ j = N) → ¬ (c = cc ∧ j = v) → ¬ (c = 226 ∧ j = N) → F2 c j = F1 c j := fun c j p q s => by rw [d2, u_ne (by omega), u_ne (by omega), u_ne (by omega)]
    refine l_85 (i := i) hS2 ((z2 201 41 (by omega) (by omega) (by omega)).trans ((m4 41 (by decide)).trans h41)) (by omega) (by omega) (fun F4 hS4 q1 q2 q3 q4 q5 q6 q7 q8 => ?_)
    have nd : ∀ c j, 221 ≤ c → c ≤ 229 → F4 c j = F2 c j := fun c j p q => q8 c j (by omega) (by omega)
    have bn : ∀ c, 221 ≤ c → c ≤ 228 → c ≠ 226 → F4 c N = F1 c N := fun c p q s => (nd c N p (by omega)).trans (z2 c N (by omega) (by omega) (by omega))
    refine ⟨⟨(bn 221 (by decide) (by decide) (by decide)).trans m2.1, (bn 222 (by decide) (by decide) (by decide)).trans m2.2.1, (bn 224 (by decide) (by decide) (by decide)).trans m2.2.2.2.1, ?_, (bn 227 (by decide) (by decide) (by decide)).trans m2.2.2.2.2.2.2.1, (bn 228 (by decide) (by decide) (by decide)).trans m2.2.2.2.2.2.2.2.1, ?_⟩, ?_, fun c j p q s u => ?_, ⟨q1, q2, q3, q4⟩, ⟨q5, q6, ?_⟩, fun j p q s => ?_, fun c j p q s => ?_⟩
    · rw [nd 226 N (by decide) (by decide), d2, u_eq]
    · rw [nd 229 N (by decide) (by decide), d2, u_ne (by omega), u_ne (by omega), u_eq]; exact hx
    · rw [← hcc, nd cc v (by omega) (by omega), d2, u_ne (by omega), u_eq]
    · rw [← hcc] at u
      rw [nd c j p q, z2 c j (by omega) u (by omega)]
      exact m3 c j p q s
    · rw [q7 27 (by decide) (by decide), z2 201 27 (by omega) (by omega) (by omega)]; exact m1
    · rw [q7 j p s, z2 201 j (by omega) (by omega) (by omega), m4 j q]
    · rw [q8 c j p s, z2 c j (by omega) (by omega) (by omega), m5 c (by omega)]
  rcases hw with e | e | e
  · subst e
    exact ⟨fun _ => ⟨by omega, fun e => absurd e (by decide), fun _ => ⟨fun e => absurd e (by decide), fun _ => ⟨by omega, fun _ => ⟨by omega, go (-1) 225 rfl rfl⟩, fun e => absurd (by decide) e⟩⟩⟩, fun e => absurd rfl e⟩
  · subst e
    have hp := hi0 (by decide)
    rw [show (i : Int) - 1 = ((i - 1 : Nat) : Int) by omega, Int.toNat_natCast, m5 233 (by omega)]
    exact ⟨fun e => absurd e (by decide), fun _ => ⟨by omega, by omega, by omega, fun e => absurd e (by decide), fun _ => ⟨fun e => absurd e (by decide), fun _ => ⟨by omega, fun _ => ⟨by omega, go _ 225 rfl rfl⟩, fun e => absurd (by decide) e⟩⟩⟩⟩
  · subst e
    have hp := hi0 (by decide)
    rw [show (i : Int) - 1 = ((i - 1 : Nat) : Int) by omega, Int.toNat_natCast, m5 233 (by omega)]
    exact ⟨fun e => absurd e (by decide), fun _ => ⟨by omega, by omega, by omega, fun e => absurd e (by decide), fun _ => ⟨fun _ => ⟨by omega, fun _ => ⟨by omega, go _ 226 rfl rfl⟩, fun e => absurd (by decide) e⟩, fun e => absurd rfl e⟩⟩⟩
theorem OB.top : ∀ {S : List (Int × Int)} {b lo : Nat} {C : List Int}, OB F K n0 Fn U S b lo C → F 233 (S.length - 1) = (b : Int)
  | [], _, _, _, h => absurd h (fun h => h)
  | _ :: S, _, _, _, h => by rw [List.length_cons, Nat.add_sub_cancel]; exact h.1.1
theorem PD.rng {i m v : Nat} (h : PD (OB F K n0 Fn U S) F K i m v C) : S ≠ [] ∧ n0 ≤ m ∧ m ≤ v ∧ F 233 (S.length - 1) = F 229 v := by
  obtain ⟨b0, lo0, C0, k, x, y, W, g1, g2, g3, g4, g5, g6, g7, g8, g9⟩ := h
  have := OB.nle _ _ _ _ g1
  exact ⟨OB.ne _ _ _ _ g1, by omega, g4, by rw [OB.top g1, g8]⟩
/-- the pending statement stays, when another block is put on the top -/
theorem Opd.pd {why : Int} {m v t : Nat} (h : PD (OB F K n0 Fn U S) F K (S.length - 1) m v C) (k : Opd F F' why v t S.length N) (hv : v < N) : PD (OB F' K n0 Fn U S) F' K (S.length - 1) m v C := by
  have r := h.rng
  have hpos : 0 < S.length := List.length_pos_iff.mpr r.1
  obtain ⟨k1, k2, k3, k4, k5, k6, k7⟩ := k
  have nn : ∀ c j, 221 ≤ c → c ≤ 229 → j < N → ¬ ((c = 225 ∨ c = 226) ∧ j = v) → F' c j = F c j := fun c j x y z w => k3 c j x y z (fun e => w ⟨by by_cases e2 : why = 2; rw [if_pos e2] at e; exact Or.inr e.1; rw [if_neg e2] at e; exact Or.inl e.1, e.2⟩)
  exact h.cong (fun b0 lo0 C0 g e1 e2 e3 => OB.cong _ _ _ _ g (fun c i x y z _ => e3 c i x y z) (fun c i x y z _ => k7 c i (by omega) (by omega) (by omega)) (k6 48 (by decide) (by decide) (by decide)) (k6 49 (by decide) (by decide) (by decide))) (fun b0 lo0 C0 g => OB.low _ _ _ _ g) (fun c j x y z => nn c j x y (by omega) (by omega)) (k7 234 _ (by decide) (by omega) (by omega)) (nn 227 v (by decide) (by decide) hv (by omega)) (nn 229 v (by decide) (by decide) hv (by omega))
theorem Opd.opr {why : Int} {v t : Nat} {S' : List (Int × Int)} {C' : List Int} (k : Opd F F' why v t S.length N) (hn : n0 ≤ v) (hv : v < N) (hS' : S'.length = S.length + 1) (hC : CU F' K n0 S' C' Fn U (N + 1)) : OpR n0 K F t N S' C' Fn U F' := by
  obtain ⟨k1, k2, k3, k4, k5, k6, k7⟩ := k
  refine ⟨⟨fun j x1 x2 x3 x4 x5 x6 x7 x8 x9 x10 x11 x12 x13 => k6 j x1 x2 x4, fun c i x y z => k3 c i x y (by omega) (by omega), fun c hc => funext fun i => k7 c i (fun e => hc (Or.inl e)) (fun e => hc (by omega)) (fun e => hc (by omega))⟩, k5.2.1, k5.2.2, by rw [hS']; exact k5.1, ⟨k6 37 (by decide) (by decide) (by decide), fun c x y => funext fun i => k7 c i (by omega) (by omega) (by omega)⟩, hC⟩
/-- the block of an IF -/
theorem s_237_1 {m v t : Nat} {We : List Int} (hS : St F) (ht : t < 200) (h27 : F 201 27 = (N : Int)) (hN : N < 1600) (h41 : F 201 41 = (S.length : Int)) (hSl : S.length < 199) (ha : a < 256) (h : PD (OB F K n0 Fn U S) F K (S.length - 1) m v C) (hv : v < N)
    (h1 : F 221 v = 10) (h2 : F 222 v = (a : Int)) (h3 : F 223 v = (a : Int)) (h4 : Xp F K m v (F 224 v) We) (h5 : F 226 v = -1) :
    C_237 1 (v : Int) (t : Int) F (OpR n0 K F t N ((2, ((C.length + 1 + We.length : Nat) : Int)) :: S) (C ++ mk 6 a 0 :: (We ++ [mk 11 a 0, mk 3 t 0])) Fn U) m_no := by
  have r := h.rng
  have hpos : 0 < S.length := List.length_pos_iff.mpr r.1
  refine CaV.on (s_237n (Or.inr (Or.inl rfl)) hS ht h27 hN h41 hSl (fun _ => hpos) hv) ?_
  intro F' hS' k
  have hpd := Opd.pd h k hv
  refine k.opr (by omega) hv (by rw [List.length_cons]) ?_
  obtain ⟨⟨k1, k2, k3, k4, k5, k6, k7⟩, e1, e2, ⟨e3, e4, e5, e6⟩, e7, e8, e9⟩ := k
  rw [if_neg (by decide)] at e1
  rw [if_neg (by decide)] at e2
  rw [if_neg (by decide)] at k7
  have nv : ∀ c, 221 ≤ c → c ≤ 229 → c ≠ 225 → F' c v = F c v := fun c x y z => e2 c v x y hv (by omega)
  refine CU.new (b := N) ⟨⟨e3, k1, k6, rfl⟩, Or.inr (Or.inr (Or.inl ⟨rfl, e5, m, v, a, t, C, We, hpd, e6, (nv 221 (by decide) (by decide) (by decide)).trans h1, (nv 222 (by decide) (by decide) (by decide)).trans h2, (nv 223 (by decide) (by decide) (by decide)).trans h3, ?_, e1, (nv 226 (by decide) (by decide) (by decide)).trans h5, k4, ?_, hv, k2, rfl, rfl, ha⟩))⟩ k3 e4 (Nat.lt_succ_self N)
  · rw [nv 224 (by decide) (by decide) (by decide)]
    exact h4.cong (fun c i x y _ z _ => e2 c i x y (by omega) (by omega))
  · rw [k7, nv 229 (by decide) (by decide) (by decide)]
    exact r.2.2.2
/-- the block behind ELSE -/
theorem s_237_2 {m v t b1 m2 p : Nat} {We W1 : List Int} (hS : St F) (ht : t < 200) (h27 : F 201 27 = (N : Int)) (hN : N < 1600) (h41 : F 201 41 = (S.length : Int)) (hSl : S.length < 199) (hp : p < 256 ∧ a < 256) (h : PD (OB F K n0 Fn U S) F K (S.length - 1) m v C) (hv : v < N)
    (h1 : F 221 v = 10) (h2 : F 222 v = (a : Int)) (h3 : F 223 v = (a : Int)) (h4 : Xp F K m v (F 224 v) We) (h5 : F 225 v = (b1 : Int)) (h6 : F 226 b1 = (v : Int)) (h7 : F 229 b1 = F 229 v) (h8 : Bk (Sme F K) F (v + 1) m2 (C.length + We.length + 2) b1 W1) (h9 : m2 ≤ N) :
    C_237 2 (v : Int) (t : Int) F (OpR n0 K F t N ((3, ((C.length + 2 + We.length + W1.length : Nat) : Int)) :: S) (C ++ mk 6 a 0 :: (We ++ mk 11 a (C.length + We.length + 3 + W1.length) :: (W1 ++ [mk 12 p 0, mk 3 t 0]))) Fn U) m_no := by
  have r := h.rng
  have hpos : 0 < S.length := List.length_pos_iff.mpr r.1
  have g := h8.rng Sme.rng
  refine CaV.on (s_237n (Or.inr (Or.inr rfl)) hS ht h27 hN h41 hSl (fun _ => hpos) hv) ?_
  intro F' hS' k
  have hpd := Opd.pd h k hv
  refine k.opr (by omega) hv (by rw [List.length_cons]) ?_
  obtain ⟨⟨k1, k2, k3, k4, k5, k6, k7⟩, e1, e2, ⟨e3, e4, e5, e6⟩, e7, e8, e9⟩ := k
  rw [if_pos rfl] at e1
  rw [if_pos rfl] at e2
  rw [if_neg (by decide)] at k7
  have nv : ∀ c, 221 ≤ c → c ≤ 229 → c ≠ 226 → F' c v = F c v := fun c x y z => e2 c v x y hv (by omega)
  have nb : ∀ c, 221 ≤ c → c ≤ 229 → F' c b1 = F c b1 := fun c x y => e2 c b1 x y (by omega) (by omega)
  refine CU.new (b := N) ⟨⟨e3, k1, k6, rfl⟩, Or.inr (Or.inr (Or.inr ⟨rfl, e5, m, v, a, t, b1, m2, p, C, We, W1, hpd, e6, (nv 221 (by decide) (by decide) (by decide)).trans h1, (nv 222 (by decide) (by decide) (by decide)).trans h2, (nv 223 (by decide) (by decide) (by decide)).trans h3, ?_, (nv 225 (by decide) (by decide) (by decide)).trans h5, (nb 226 (by decide) (by decide)).trans h6, ?_, h8.cong Sme.rng Sme.cong (fun c i x y _ z _ => e2 c i x y (by omega) (by omega)), h9, e1, k4, ?_, k2, rfl, rfl, hp⟩))⟩ k3 e4 (Nat.lt_succ_self N)
  · rw [nv 224 (by decide) (by decide) (by decide)]
    exact h4.cong (fun c i x y _ z _ => e2 c i x y (by omega) (by omega))
  · rw [nb 229 (by decide) (by decide), nv 229 (by decide) (by decide) (by decide)]; exact h7
  · rw [k7, nv 229 (by decide) (by decide) (by decide)]
    exact r.2.2.2
/-- the block of a function -/
theorem s_237_0 {k m v p n t : Nat} {x y : Int} {C1 : List Int} {Fn1 : FF} (hS : St F) (ht : t < 200) (h27 : F 201 27 = (N : Int)) (hN : N < 1600) (h41 : F 201 41 = 0) (hv : v + n < N) (h1 : IL F K n0 k m x y C1 Fn1 U) (h2 : F 201 49 = (v : Int)) (h3 : if k = 0 then F 201 48 = (v : Int) else F 201 48 = x ∧ F 227 y.toNat = (v : Int)) (h4 : m ≤ v)
    (h5 : F 221 v = 2) (h6 : F 222 v = (p : Int)) (h7 : F 227 v = -1) (h8 : PM F v p n) :
    C_237 0 (v : Int) (t : Int) F (OpR n0 K F t N [(0, -1)] (C1 ++ [mk 2 p n, mk 3 t 0]) (Fn1 ++ [((p : Int), (n : Int), (C1.length : Int), -1)]) U) m_no := by
  have r := IL.rng _ _ _ _ _ _ _ h1
  refine CaV.on (s_237n (i := 0) (Or.inl rfl) hS ht h27 hN h41 (by decide) (fun e => absurd rfl e) (by omega)) ?_
  intro F' hS' kk
  refine Opd.opr (S := []) kk (by omega) (by omega) rfl ?_
  obtain ⟨⟨k1, k2, k3, k4, k5, k6, k7⟩, e1, e2, ⟨e3, e4, e5, e6⟩, e7, e8, e9⟩ := kk
  rw [if_neg (by decide)] at e1
  rw [if_neg (by decide)] at e2
  rw [if_pos rfl] at k7
  have nn : ∀ c j, 221 ≤ c → c ≤ 229 → j < N → c ≠ 225 → F' c j = F c j := fun c j x y z w => e2 c j x y z (by omega)
  have ag : ∀ c j, 221 ≤ c → c ≤ 229 → j < v → F' c j = F c j := fun c j x y z => e2 c j x y (by omega) (by omega)
  refine CU.new (b := N) ⟨⟨e3, k1, k6, rfl⟩, Or.inl ⟨rfl, rfl, e5, k, m, v, p, n, t, x, y, C1, Fn1, IL.cong _ _ _ _ _ _ _ h1 (fun c i x y _ z _ => ag c i x y (by omega)), (e8 49 (by decide) (by decide) (by decide)).trans h2, ?_, h4, hv, (nn 221 v (by decide) (by decide) (by omega) (by decide)).trans h5, (nn 222 v (by decide) (by decide) (by omega) (by decide)).trans h6, (nn 227 v (by decide) (by decide) (by omega) (by decide)).trans h7, h8.cong (nn 224 v (by decide) (by decide) (by omega) (by decide)) (fun c i x y z w => e2 c i x (by omega) (by omega) (by omega)), e1, k4, k7, k2, rfl, rfl⟩⟩ k3 e4 (Nat.lt_succ_self N)
  rw [e8 48 (by decide) (by decide) (by decide)]
  by_cases e : k = 0
  · rw [if_pos e] at h3 ⊢; exact h3
  · rw [if_neg e] at h3 ⊢
    exact ⟨h3.1, (ag 227 _ (by decide) (by decide) (by omega)).trans h3.2⟩
end M9a
