/-! READING, OF THE REFERENCE: signs that wait are coupled -/
def rk (k : Int) : Int := if k = 21 then 3 else if k = 19 ∨ k = 20 then 2 else if k = 17 ∨ k = 18 then 1 else 0
section M74
variable {F F' : MF} {K : List Int} {lo hi v N : Nat} {W : List Int} {f : Int}
def Ch (N q0 : Nat) (F F' : MF) : Prop := (∀ j, j ≠ 27 → j ≠ 51 → j ≠ 53 → F' 201 j = F 201 j) ∧ Agf F F' N ∧ (∀ i, i < q0 → F' 239 i = F 239 i) ∧ fr (fun c => c = 201 ∨ (221 ≤ c ∧ c ≤ 229) ∨ c = 239) F F'
theorem Ch.rf {q0 : Nat} : Ch N q0 F F := ⟨fun _ _ _ _ => rfl, Agf.rf, fun _ _ => rfl, fr.rf⟩
theorem Ch.tr {F1 F2 : MF} {N M q0 q1 : Nat} (h : Ch N q0 F F1) (k : Ch M q1 F1 F2) (hN : N ≤ M) (hq : q0 ≤ q1) : Ch N q0 F F2 :=
  ⟨fun j a b c => (k.1 j a b c).trans (h.1 j a b c), h.2.1.tr k.2.1 hN, fun i hi => (k.2.2.1 i (by omega)).trans (h.2.2.1 i hi), h.2.2.2.tr k.2.2.2⟩
/-- signs that wait, and behind them what is done last; all their words -/
def QE (F : MF) (K : List Int) (s0 q0 lo0 : Nat) (W0 : List Int) (ps : List Nat) (N : Nat) (V : List Int) : Prop :=
  ∃ (m : Nat) (W Wt : List Int) (f : Int), PE F K s0 q0 lo0 W0 ps (s0 + ps.length) (q0 + ps.length) m W ∧ Top F K (q0 + ps.length) m N Wt f ∧ V = W ++ Wt ∧ F 201 27 = (N : Int) ∧ F 201 51 = ((s0 + ps.length : Nat) : Int) ∧ F 201 53 = ((q0 + ps.length + 1 : Nat) : Int)
theorem s_224 {s0 q0 lo0 p : Nat} {W0 V : List Int} {ps : List Nat} (hS : St F) (h : QE F K s0 q0 lo0 W0 (p :: ps) N V) (hl : N < 1600) (hs : s0 + ps.length < 420) (hq : q0 + ps.length + 1 < 420) :
    C_224 F (fun F' => QE F' K s0 q0 lo0 W0 ps (N + 1) (V ++ [mk 17 p 0]) ∧ Ch N q0 F F') m_no := by
  obtain ⟨m, W, Wt, f, h1, h2, rfl, h4, h5, h6⟩ := h
  obtain ⟨s', q', m', W', W1, f1, g1, g2, g3, g4, g5, rfl⟩ := h1
  rw [List.length_cons] at h5 h6 g2 g3 h2
  obtain rfl : s' = s0 + ps.length := by omega
  obtain rfl : q' = q0 + ps.length := by omega
  have hg := PE.rng _ _ _ _ _ g1
  have hr1 := g5.rng
  have hr2 := h2.rng
  refine c_224 hS ?_
  rw [h5, h6]
  have e1 : ((s0 + (ps.length + 1) : Nat) : Int) - 1 = ((s0 + ps.length : Nat) : Int) := by omega
  have e2 : ((q0 + (ps.length + 1) + 1 : Nat) : Int) - 1 = ((q0 + (ps.length + 1) : Nat) : Int) := by omega
  rw [e1, e2, Int.toNat_natCast]
  refine ⟨by omega, by omega, by omega, ?_⟩
  obtain ⟨F1, d1⟩ : ∃ F1, F1 = m_up (m_up F 201 51 ((s0 + ps.length : Nat) : Int)) 201 53 ((q0 + (ps.length + 1) : Nat) : Int) := ⟨_, rfl⟩
  rw [← d1]
  have hS1 : St F1 := by
    rw [d1]
    exact (hS.fld kd_201 rk_12_51).fld kd_201 rk_12_53
  have c1 : ∀ c, c ≠ 201 → F1 c = F c := fun c hc => by rw [d1, up_row hc, up_row hc]
  have c2 : ∀ j, j ≠ 51 → j ≠ 53 → F1 201 j = F 201 j := fun j a b => by rw [d1, u_ne (Or.inr b), u_ne (Or.inr a)]
  have c3 : F1 201 53 = ((q0 + (ps.length + 1) : Nat) : Int) := by rw [d1, u_eq]
  have c4 : F1 201 51 = ((s0 + ps.length : Nat) : Int) := by rw [d1, u_ne (Or.inr (by decide)), u_eq]
  rw [g4]
  refine CaI.on (s_221 hS1 (N := N) (by rw [c2 27 (by decide) (by decide)]; exact h4) hl) ?_
  rintro r F2 hS2 ⟨rfl, m1, m2, m3, m4, m5⟩
  have b1 : F2 239 = F 239 := (m5 239 (by omega)).trans (c1 239 (by decide))
  have b2 : F2 238 = F 238 := (m5 238 (by omega)).trans (c1 238 (by decide))
  have b3 : F2 201 53 = ((q0 + (ps.length + 1) : Nat) : Int) := (m4 53 (by decide)).trans c3
  have b4 : F2 201 51 = ((s0 + ps.length : Nat) : Int) := (m4 51 (by decide)).trans c4
  have a2 : Agf F F2 N := fun c i x y z => (m3 c i x y z).trans (by rw [c1 c (by omega)])
  obtain ⟨u, u1, u2, u3, u4⟩ := g5
  obtain ⟨w, w1, w2, w3, w4⟩ := h2
  have ur := u4.rng
  have wr := w4.rng
  rw [b3, show ((q0 + (ps.length + 1) : Nat) : Int) - 1 = ((q0 + ps.length : Nat) : Int) by omega]
  simp only [Int.toNat_natCast]
  rw [b1, u1, w1]
  simp only [Int.toNat_natCast]
  rw [a2 223 u (by decide) (by decide) (by omega), u2]
  refine ⟨by omega, by omega, by omega, by omega, by omega, by omega, by omega, by omega, by omega, by omega, ?_⟩
  obtain ⟨F3, d3⟩ : ∃ F3, F3 = m_up (m_up (m_up (m_up F2 224 N (u : Int)) 225 N (w : Int)) 223 N f1) 239 (q0 + ps.length) (N : Int) := ⟨_, rfl⟩
  rw [← d3]
  have z1 : ∀ c i, ¬ (221 ≤ c ∧ c ≤ 229 ∧ i = N) → ¬ (c = 239 ∧ i = q0 + ps.length) → F3 c i = F2 c i := fun c i x y => by
    rw [d3, u_ne (by omega), u_ne (by omega), u_ne (by omega), u_ne (by omega)]
  have a3 : Agf F F3 N := fun c i x y z => (z1 c i (by omega) (by omega)).trans (a2 c i x y z)
  have n1 : F3 221 N = 30 := by
    rw [d3, u_ne (by omega), u_ne (by omega), u_ne (by omega), u_ne (by omega)]
    exact m2.1
  have n2 : F3 222 N = kn K p := by
    rw [d3, u_ne (by omega), u_ne (by omega), u_ne (by omega), u_ne (by omega)]
    exact m2.2.1
  have n3 : F3 224 N = (u : Int) := by rw [d3, u_ne (by omega), u_ne (by omega), u_ne (by omega), u_eq]
  have n4 : F3 225 N = (w : Int) := by rw [d3, u_ne (by omega), u_ne (by omega), u_eq]
  have n5 : F3 223 N = f1 := by rw [d3, u_ne (by omega), u_eq]
  have n6 : F3 227 N = -1 := by
    rw [d3, u_ne (by omega), u_ne (by omega), u_ne (by omega), u_ne (by omega)]
    exact m2.2.2.2.2.2.2.1
  have n7 : F3 239 (q0 + ps.length) = (N : Int) := by rw [d3, u_eq]
  have t3 : ∀ j, F3 201 j = F2 201 j := fun j => z1 201 j (by omega) (by omega)
  have hnode : Rpe F3 K m' (N + 1) N (W1 ++ Wt ++ [mk 17 p 0]) f1 :=
    Rpe.pair (u4.cong (a3.ag (by omega))) (w4.cong (a3.ag (Nat.le_refl _))) n1 n2 n3 n4 ((a3 223 u (by decide) (by decide) (by omega)).trans u2) ((a3 223 w (by decide) (by decide) (by omega)).trans w2)
  have hpe := PE.cong (F' := F3) _ _ _ _ _ g1 (fun i _ _ => by rw [z1 238 i (by omega) (by omega), b2]) (fun i x y => by rw [z1 239 i (by omega) (by omega), b1]) (a3.le (by omega))
  refine ⟨⟨m', W', W1 ++ Wt ++ [mk 17 p 0], f1, hpe.1, ⟨N, n7, n5, n6, hnode⟩, by simp only [List.append_assoc], ?_, ?_, ?_⟩, ⟨fun j x y z => ?_, a3, fun i hi => ?_, fun c hc => ?_⟩⟩
  · rw [t3]; exact m1
  · rw [t3]; exact b4
  · rw [t3, b3]; omega
  · rw [t3, m4 j x, c2 j y z]
  · rw [z1 239 i (by omega) (by omega), b1]
  · have hc1 : c ≠ 201 := fun e => hc (Or.inl e)
    rw [← c1 c hc1, ← m5 c (fun e => hc (by omega))]
    exact funext fun i => z1 c i (fun e => hc (by omega)) (fun e => hc (by omega))
theorem g_223_rk {k : Int} : g_223 F k = rk k := by
  unfold g_223 rk
  repeat' split
  all_goals first | rfl | omega
theorem s_225 {s0 q0 lo0 : Nat} {W0 : List Int} {ps : List Nat} {x : Int} (hx : 1 ≤ x) (hps : (∀ p r, ps = p :: r → rk (kn K p) < x)) (hq0 : q0 + 10 < 420) (hs0 : s0 + 10 < 420) (hpl : ps.length ≤ 4) :
    ∀ (pp : List Nat) (F : MF) (N : Nat) (V : List Int), St F → pp.length ≤ 4 → N + pp.length < 1600 → (∀ p ∈ pp, x ≤ rk (kn K p)) → (0 < s0 → F 238 (s0 - 1) = 0) → QE F K s0 q0 lo0 W0 (pp ++ ps) N V →
    C_225 x F (fun F' => QE F' K s0 q0 lo0 W0 ps (N + pp.length) (V ++ pp.map (fun p => mk 17 p 0)) ∧ Ch N q0 F F') m_no := by
  intro pp
  induction pp with
  | nil =>
    intro F N V hS _ _ _ hm h
    have h' := h
    obtain ⟨m, W, Wt, f, h1, h2, h3, h4, h5, h6⟩ := h'
    change F 201 51 = ((s0 + ps.length : Nat) : Int) at h5
    have he : V ++ [].map (fun p : Nat => mk 17 p 0) = V := List.append_nil _
    rw [he]
    refine c_225 hS (b_225_0 hS ?_)
    rw [h5]
    refine ⟨fun hp => ⟨by omega, by omega, fun _ => ⟨h, Ch.rf⟩, fun hg => ?_⟩, fun _ => ⟨h, Ch.rf⟩⟩
    rw [g_223_rk] at hg
    exfalso
    cases ps with
    | nil =>
      have hm' := hm (by have : (0 : Int) < ((s0 + 0 : Nat) : Int) := hp; omega)
      rw [show (((s0 + ([] : List Nat).length : Nat) : Int) - 1).toNat = s0 - 1 by show (((s0 + 0 : Nat) : Int) - 1).toNat = _; omega, hm'] at hg
      exact hg (by show (0 : Int) < x; omega)
    | cons p r =>
      obtain ⟨s', q', m', W', W1, f1, g1, g2, g3, g4, g5, g6⟩ := h1
      have hr := hps p r rfl
      change s0 + (p :: r).length = s' + 1 at g2
      rw [show (((s0 + (p :: r).length : Nat) : Int) - 1).toNat = s' by rw [List.length_cons] at g2 ⊢; omega, g4] at hg
      exact hg hr
  | cons p pp ih =>
    intro F N V hS hp4 hN hpp hm h
    rw [List.length_cons] at hp4 hN
    have h' := h
    obtain ⟨m, W, Wt, f, h1, h2, h3, h4, h5, h6⟩ := h'
    have el : (p :: pp ++ ps).length = pp.length + ps.length + 1 := by simp only [List.cons_append, List.length_cons, List.length_append]
    have el2 : (pp ++ ps).length = pp.length + ps.length := List.length_append
    rw [el] at h5 h6
    obtain ⟨s', q', m', W', W1, f1, g1, g2, g3, g4, g5, g6⟩ := h1
    rw [el] at g2 g3
    have hr := hpp p List.mem_cons_self
    refine c_225 hS (b_225_0 hS ?_)
    rw [h5, show (((s0 + (pp.length + ps.length + 1) : Nat) : Int) - 1).toNat = s' by omega, g4, g_223_rk]
    refine ⟨fun _ => ⟨by omega, by omega, fun hlt => by omega, fun _ => ?_⟩, fun hp => by omega⟩
    refine CaV.on (s_224 hS h (by omega) (by show s0 + (pp ++ ps).length < 420; rw [el2]; omega) (by show q0 + (pp ++ ps).length + 1 < 420; rw [el2]; omega)) ?_
    rintro F2 hS2 ⟨k1, k2⟩
    have := ih F2 (N + 1) (V ++ [mk 17 p 0]) hS2 (by omega) (by omega) (fun r hr => hpp r (List.mem_cons_of_mem _ hr)) (fun h0 => by rw [k2.2.2.2 238 (by omega)]; exact hm h0) k1
    refine EvV.mono this (fun F' _ k => ⟨?_, k2.tr k.2 (by omega) (Nat.le_refl _)⟩) (fun _ _ _ h => h)
    have e1 : N + (p :: pp).length = N + 1 + pp.length := by rw [List.length_cons]; omega
    have e2 : V ++ (p :: pp).map (fun p => mk 17 p 0) = V ++ [mk 17 p 0] ++ pp.map (fun p => mk 17 p 0) := by rw [List.map_cons, List.append_assoc]; rfl
    rw [e1, e2]
    exact k.1
end M74
