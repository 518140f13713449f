/-! READING, OF THE REFERENCE: items -/
/-- a header of a function is being read: its node, and p parameters -/
def HI (F G : MF) (N a p : Nat) : Prop := (∀ j, j ≠ 27 → G 201 j = F 201 j) ∧ Agf F G N ∧ fr (fun c => c = 201 ∨ (221 ≤ c ∧ c ≤ 229)) F G ∧ G 201 27 = ((N + 1 + p : Nat) : Int) ∧ G 221 N = 2 ∧ G 222 N = ((a + 1 : Nat) : Int) ∧ G 227 N = -1 ∧ PM G N (a + 1) p
section M9f
variable {F F' G : MF} {K : List Int} {n0 N a p e : Nat} {C : List Int} {E : EE} {Fn : FF} {U : List Int}
theorem skI_succ {d j : Nat} : skI K (d + 1) j = if bgn (kn K j) = true then j else skI K d (j + 1) := rfl
theorem l_236 {R : MF → Prop} (hQ : SQ F K) (hK : K.length ≤ 195) : ∀ (d j : Nat) (G : MF), St G → (∀ c, c ≠ 201 → G c = F c) → (∀ i, i ≠ 26 → G 201 i = F 201 i) → G 201 26 = (j : Int) → j + d = K.length →
    (∀ G', St G' → (∀ c, c ≠ 201 → G' c = F c) → (∀ i, i ≠ 26 → G' 201 i = F 201 i) → G' 201 26 = ((skI K d j : Nat) : Int) → R G') → L_236_12 G R m_no := by
  intro d
  induction d with
  | zero =>
    intro j G hG z w h26 hd hR
    have hj : j = K.length := by omega
    have ek : kn K j = 24 := kn_end (by omega)
    refine b_236_12 hG ?_
    rw [h26, Int.toNat_natCast, z 220 (by decide), hQ j (by omega), ek]
    exact ⟨by omega, fun _ => hR G hG z w h26, fun e => absurd (show p_234 F 24 from Or.inr (Or.inr rfl)) e⟩
  | succ d ih =>
    intro j G hG z w h26 hd hR
    rw [skI_succ] at hR
    have es : bgn (kn K j) = true ↔ (kn K j = 3 ∨ kn K j = 2 ∨ kn K j = 24) := by unfold bgn; rw [decide_eq_true_iff]
    refine b_236_12 hG ?_
    rw [h26, Int.toNat_natCast, z 220 (by decide), hQ j (by omega)]
    refine ⟨by omega, fun e => ?_, fun e => ⟨by omega, ?_⟩⟩
    · rw [if_pos (es.mpr e)] at hR
      exact hR G hG z w h26
    · rw [if_neg (fun h => e (es.mp h))] at hR
      exact ih (j + 1) _ (hG.fld kd_201 rk_12_26) (fun c hc => by rw [up_row hc, z c hc]) (fun i hi => by rw [u_ne (Or.inr hi), w i hi]) (by rw [u_eq]; omega) (by omega) hR
theorem s_236 (hS : St F) (hQ : SQ F K) (hK : K.length ≤ 195) (he : e ≤ K.length) (hE : ErrM F E) (hEl : E.length < 300) :
    C_236 (e : Int) F (fun F' => F' 201 26 = ((skI K (K.length - e) e : Nat) : Int) ∧ ErrM F' (E ++ [((e : Int), -1, -1)]) ∧ (∀ j, j ≠ 26 → j ≠ 37 → F' 201 j = F 201 j) ∧ fr (fun c => c = 201 ∨ (230 ≤ c ∧ c ≤ 232)) F F') m_no := by
  refine c_236 hS ?_
  refine CaV.on (s_222 hS hE (by omega)) ?_
  rintro F1 hS1 ⟨t1, t2, t3⟩
  have hQ1 : SQ F1 K := fun i hi => by rw [t3 220 (by decide)]; exact hQ i hi
  refine l_236 (F := F1) hQ1 hK (K.length - e) e _ (hS1.fld kd_201 rk_12_26) (fun c hc => by rw [up_row hc]) (fun i hi => by rw [u_ne (Or.inr hi)]) (by rw [u_eq]) (by omega) ?_
  intro G' hG' z w h26
  exact ⟨h26, t1.cong (w 37 (by decide)) (fun c x y => z c (by omega)), fun j h1 h2 => (w j h1).trans (t2 j h2), fun c hc => (z c (fun e => hc (Or.inl e))).trans (t3 c hc)⟩
/-- an item is linked in -/
theorem s_235 {k v : Nat} {x y : Int} (hS : St F) (h1 : IL F K n0 k N x y C Fn U) (h2 : F 201 48 = x) (h3 : F 201 49 = y) (hN : N ≤ 1600) :
    C_235 (v : Int) F (fun F' => F' 201 49 = (v : Int) ∧ (if k = 0 then F' 201 48 = (v : Int) else F' 201 48 = x ∧ F' 227 y.toNat = (v : Int)) ∧ (∀ j, j ≠ 48 → j ≠ 49 → F' 201 j = F 201 j) ∧ (∀ (c i : Nat), ¬ (c = 227 ∧ (i : Int) = y) → c ≠ 201 → F' c i = F c i) ∧ IL F' K n0 k N x y C Fn U) m_no := by
  have r := IL.rng _ _ _ _ _ _ _ h1
  refine c_235 hS ?_
  rw [h2, h3]
  refine ⟨fun e => ?_, fun e => ⟨by omega, ?_⟩⟩
  · have ek : k = 0 := by omega
    have fc : ∀ (c i : Nat), c ≠ 201 → m_up (m_up F 201 48 (v : Int)) 201 49 (v : Int) c i = F c i := fun c i hc => by rw [u_ne (Or.inl hc), u_ne (Or.inl hc)]
    refine ⟨u_eq, ?_, fun j a b => by rw [u_ne (Or.inr b), u_ne (Or.inr a)], fun c i _ hc => fc c i hc, IL.cong _ _ _ _ _ _ _ h1 (fun c i a b _ _ _ => fc c i (by omega))⟩
    rw [if_pos ek, u_ne (Or.inr (by decide)), u_eq]
  · have ek : k ≠ 0 := by omega
    have fc : ∀ (c i : Nat), ¬ (c = 227 ∧ (i : Int) = y) → c ≠ 201 → m_up (m_up F 227 y.toNat (v : Int)) 201 49 (v : Int) c i = F c i := fun c i h hc => by rw [u_ne (Or.inl hc), u_ne (by omega)]
    refine ⟨u_eq, ?_, fun j a b => by rw [u_ne (Or.inr b), u_ne (Or.inl (by decide))], fc, IL.cong _ _ _ _ _ _ _ h1 (fun c i a b _ _ h => fc c i h (by omega))⟩
    rw [if_neg ek]
    exact ⟨by rw [u_ne (Or.inr (by decide)), u_ne (Or.inl (by decide)), h2], by rw [u_ne (Or.inl (by decide)), u_eq]⟩
theorem pit_fn (hk : kn K a = 3) : pit K a C E Fn U = if (fnh K a).1 = true then ((fnh K a).2.1 + 1, [(0, -1)], C ++ [mk 2 (a + 1) (fnh K a).2.2, mk 3 (fnh K a).2.1 0], E, Fn ++ [(((a + 1 : Nat) : Int), ((fnh K a).2.2 : Int), (C.length : Int), -1)], U)
     else (skI K (K.length - (fnh K a).2.1) (fnh K a).2.1, [], C, E ++ [(((fnh K a).2.1 : Int), -1, -1)], Fn, U) := by
  unfold pit
  rw [if_neg (show ¬ kn K a = 2 by omega), if_pos hk]
/-- an item fails -/
theorem RZ.badI {M : Nat} (hS : St G) (hQ : SQ F K) (hK : K.length ≤ 195) (rf : RF n0 F G) (hM : N ≤ M) (hMe : M + 2 * a ≤ N + 2 * e) (h27 : G 201 27 = (M : Int)) (h41 : G 201 41 = 0) (hE : ErrM G E) (hEl : E.length < 300) (hC : CIt G K n0 C Fn U N) (he : e ≤ K.length) :
    C_236 (e : Int) G (RZ K n0 N a F (skI K (K.length - e) e, [], C, E ++ [((e : Int), -1, -1)], Fn, U)) m_no := by
  refine CaV.on (s_236 hS (rf.sq hQ) hK he hE hEl) ?_
  rintro F2 hS2 ⟨t1, t2, t3, t4⟩
  have hge := skI_ge K (K.length - e) e
  refine ⟨rf.tr ⟨fun j x1 x2 x3 x4 x5 x6 x7 x8 x9 x10 x11 x12 x13 => t3 j x1 x3, fun c i x y z => by rw [t4 c (by omega)], fun c hc => t4 c (fun e => hc (by omega))⟩, M, hM, ?_, RS.it t1 ((t3 27 (by decide) (by decide)).trans h27) ((t3 41 (by decide) (by decide)).trans h41) t2 ?_⟩
  · show M + 2 * a ≤ N + 2 * skI K (K.length - e) e
    omega
  · exact (hC.wid hM).cong (fun c i x y z => by rw [t4 c (by omega)]) (t3 48 (by decide) (by decide)) (t3 49 (by decide) (by decide))
theorem HI.rf (h : HI F G N a p) (hn : n0 ≤ N) : RF n0 F G := ⟨fun j _ x _ _ _ _ _ _ _ _ _ _ _ => h.1 j x, h.2.1.le hn, h.2.2.1.mo (fun c hc => by omega)⟩
/-- the end of a header -/
theorem l_239e (hS : St G) (hK : K.length ≤ 195) (hx : RS F K n0 N (a, [], C, E, Fn, U)) (hn : n0 ≤ N) (hN : N ≤ n0 + 2 * a) (hn2 : n0 + 2 * K.length + 12 < 1600) (h : HI F G N a p) (he : e < K.length) (hpe : a + 3 + 2 * p ≤ e + 1) :
    L_239_268 (e : Int) (N : Int) 1 G (RZ K n0 N a F (e + 1, [(0, -1)], C ++ [mk 2 (a + 1) p, mk 3 e 0], E, Fn ++ [(((a + 1 : Nat) : Int), (p : Int), (C.length : Int), -1)], U)) m_no := by
  obtain ⟨h26, h27, h41, hE, hC, -⟩ := hx
  obtain ⟨k, x, y, i1, i2, i3, i4⟩ := hC rfl
  change IL F K n0 k N x y C Fn U at i1
  change ErrM F E at hE
  change F 201 41 = 0 at h41
  have rf := h.rf hn
  obtain ⟨g1, g2, g3, g4, g5, g6, g7, g8⟩ := h
  have r := IL.rng _ _ _ _ _ _ _ i1
  refine b_239_268 hS ⟨fun h => absurd h (by decide), fun _ => ?_⟩
  have j1 : IL G K n0 k N x y C Fn U := IL.cong _ _ _ _ _ _ _ i1 (fun c i a b _ z _ => g2 c i a b z)
  refine CaV.on (s_235 (v := N) hS j1 ((g1 48 (by decide)).trans i2) ((g1 49 (by decide)).trans i3) (by omega)) ?_
  rintro F3 hS3 ⟨t1, t2, t3, t4, t5⟩
  have n3 : ∀ c i, 221 ≤ c → c ≤ 229 → N ≤ i → F3 c i = G c i := fun c i a b d => t4 c i (by omega) (by omega)
  have z3 : ∀ c, c ≠ 201 → c ≠ 227 → F3 c = G c := fun c a b => funext fun i => t4 c i (by omega) a
  have rf3 : RF n0 F F3 := rf.tr ⟨fun j x1 x2 x3 x4 x5 x6 x7 x8 x9 x10 x11 x12 x13 => t3 j x5 x6, fun c i x y z => t4 c i (by omega) (by omega), fun c hc => z3 c (fun e => hc (Or.inl e)) (fun e => hc (by omega))⟩
  refine CaV.on (s_237_0 (k := k) (m := N) (v := N) (p := a + 1) (n := p) (t := e) (N := N + 1 + p) hS3 (by omega) ((t3 27 (by decide) (by decide)).trans g4) (by omega) ((t3 41 (by decide) (by decide)).trans ((g1 41 (by decide)).trans h41)) (by omega) t5 t1 t2 (Nat.le_refl _) ((n3 221 N (by decide) (by decide) (Nat.le_refl _)).trans g5) ((n3 222 N (by decide) (by decide) (Nat.le_refl _)).trans g6) ((n3 227 N (by decide) (by decide) (Nat.le_refl _)).trans g7) (g8.cong (n3 224 N (by decide) (by decide) (Nat.le_refl _)) (fun c i a b d _ => n3 c i a (by omega) (by omega)))) ?_
  rintro F4 hS4 ⟨u1, u2, u3, u4, u5, u6⟩
  have e3 : ErrM F3 E := hE.cong ((t3 37 (by decide) (by decide)).trans (g1 37 (by decide))) (fun c x y => (z3 c (by omega) (by omega)).trans (g3 c (by omega)))
  refine ⟨rf3.tr u1, N + 1 + p + 1, by omega, ?_, RS.lv u2 u3 u4 (e3.cong u5.1 u5.2) u6⟩
  show N + 1 + p + 1 + 2 * a ≤ N + 2 * (e + 1)
  omega
theorem l_239f (hS : St G) (hQ : SQ F K) (hK : K.length ≤ 195) (hx : RS F K n0 N (a, [], C, E, Fn, U)) (hEl : E.length < 300) (hn : n0 ≤ N) (h : HI F G N a p) (he : e ≤ K.length) (hpe : a + 3 + p ≤ e + 1) :
    C_236 (e : Int) G (RZ K n0 N a F (skI K (K.length - e) e, [], C, E ++ [((e : Int), -1, -1)], Fn, U)) m_no := by
  obtain ⟨h26, h27, h41, hE, hC, -⟩ := hx
  have hC := hC rfl
  change ErrM F E at hE
  change F 201 41 = 0 at h41
  have rf := h.rf hn
  obtain ⟨g1, g2, g3, g4, g5, g6, g7, g8⟩ := h
  exact RZ.badI (M := N + 1 + p) hS hQ hK rf (by omega) (by omega) g4 ((g1 41 (by decide)).trans h41) (hE.cong (g1 37 (by decide)) (fun c x y => g3 c (by omega))) hEl (hC.cong g2 (g1 48 (by decide)) (g1 49 (by decide))) he
/-- one parameter more -/
theorem HI.more {G1 G2 : MF} (h : HI F G N a p) (hm : Mk G G1 (N + 1 + p) 31 ((a + 3 + 2 * p : Nat) : Int)) (h2 : G2 = if p = 0 then m_up G1 224 N ((N + 1 + p : Nat) : Int) else m_up G1 227 (N + p) ((N + 1 + p : Nat) : Int)) : HI F G2 N a (p + 1) := by
  obtain ⟨g1, g2, g3, g4, g5, g6, g7, g8, g9⟩ := h
  obtain ⟨m1, m2, m3, m4, m5⟩ := hm
  have q : ∀ c i, ¬ (c = 224 ∧ i = N ∧ p = 0) → ¬ (c = 227 ∧ i = N + p ∧ p ≠ 0) → G2 c i = G1 c i := fun c i x y => by
    rw [h2]
    split
    · exact u_ne (by omega)
    · exact u_ne (by omega)
  have qm : ∀ c i, 221 ≤ c → c ≤ 229 → i < N + 1 + p → ¬ (c = 224 ∧ i = N ∧ p = 0) → ¬ (c = 227 ∧ i = N + p ∧ p ≠ 0) → G2 c i = G c i := fun c i a b d x y => (q c i x y).trans (m3 c i a b d)
  refine ⟨fun j hj => (q 201 j (by omega) (by omega)).trans ((m4 j hj).trans (g1 j hj)), fun c i a b d => (qm c i a b (by omega) (by omega) (by omega)).trans (g2 c i a b d), fun c hc => (funext fun i => q c i (fun e => hc (by omega)) (fun e => hc (by omega))).trans ((m5 c hc).trans (g3 c hc)), (q 201 27 (by omega) (by omega)).trans (m1.trans (by omega)), (qm 221 N (by decide) (by decide) (by omega) (by omega) (by omega)).trans g5, (qm 222 N (by decide) (by decide) (by omega) (by omega) (by omega)).trans g6, (qm 227 N (by decide) (by decide) (by omega) (by omega) (by omega)).trans g7, ?_, fun i hi => ?_⟩
  · rw [if_neg (show ¬ p + 1 = 0 by omega)]
    by_cases e : p = 0
    · rw [h2, if_pos e, u_eq, e]
    · rw [qm 224 N (by decide) (by decide) (by omega) (by omega) (by omega), g8, if_neg e]
  · by_cases e : i = p
    · subst e
      rw [q 221 _ (by omega) (by omega), q 222 _ (by omega) (by omega), q 227 _ (by omega) (by omega), m2.1, m2.2.1, m2.2.2.2.2.2.2.1, if_neg (show ¬ i + 1 < i + 1 by omega)]
      exact ⟨rfl, by omega, rfl⟩
    · have := g9 i (by omega)
      rw [qm 221 _ (by decide) (by decide) (by omega) (by omega) (by omega), qm 222 _ (by decide) (by decide) (by omega) (by omega) (by omega), if_pos (show i + 1 < p + 1 by omega)]
      refine ⟨this.1, this.2.1, ?_⟩
      by_cases e2 : i + 1 = p
      · rw [h2, if_neg (show ¬ p = 0 by omega), show N + 1 + i = N + p by omega, u_eq]
        omega
      · rw [qm 227 _ (by decide) (by decide) (by omega) (by omega) (by omega), this.2.2, if_pos (show i + 1 < p by omega)]
/-- the parameters -/
theorem l_239 (hQ : SQ F K) (hK : K.length ≤ 195) (hx : RS F K n0 N (a, [], C, E, Fn, U)) (hEl : E.length < 300) (hn : n0 ≤ N) (hN : N ≤ n0 + 2 * a) (hn2 : n0 + 2 * K.length + 12 < 1600) (z : PS) : ∀ (d p : Nat) (G : MF), d + p = K.length → a + 3 + 2 * p ≤ K.length → St G → HI F G N a p →
    z = (if (hdr K d (a + 3 + 2 * p) p).1 = true then ((hdr K d (a + 3 + 2 * p) p).2.1 + 1, [(0, -1)], C ++ [mk 2 (a + 1) (hdr K d (a + 3 + 2 * p) p).2.2, mk 3 (hdr K d (a + 3 + 2 * p) p).2.1 0], E, Fn ++ [(((a + 1 : Nat) : Int), ((hdr K d (a + 3 + 2 * p) p).2.2 : Int), (C.length : Int), -1)], U)
     else (skI K (K.length - (hdr K d (a + 3 + 2 * p) p).2.1) (hdr K d (a + 3 + 2 * p) p).2.1, [], C, E ++ [(((hdr K d (a + 3 + 2 * p) p).2.1 : Int), -1, -1)], Fn, U)) →
    L_239_109 ((a + 3 + 2 * p : Nat) : Int) (N : Int) 1 (if p = 0 then -1 else ((N + p : Nat) : Int)) 1 G (RZ K n0 N a F z) m_no := by
  intro d
  induction d with
  | zero => intro p G hd hp; omega
  | succ d ih =>
    intro p G hd hp hS hI hz
    rw [hdr_succ] at hz
    have hQG : SQ G K := (hI.rf hn).sq hQ
    refine b_239_109 hS ⟨fun h => absurd h (by decide), fun _ => ⟨fun h => absurd h (by decide), fun _ => ⟨by omega, ?_⟩⟩⟩
    rw [Int.toNat_natCast, hQG _ (by omega)]
    refine ⟨fun e0 => ?_, fun e0 => ?_⟩
    · have hl := kn_lt (K := K) (i := a + 3 + 2 * p) (by rw [e0]; decide)
      rw [if_pos e0] at hz
      refine CaI.on (s_221 (N := N + 1 + p) hS hI.2.2.2.1 (by omega)) ?_
      rintro r G1 hS1 ⟨rfl, hm⟩
      have nxt : ∀ G2, St G2 → (G2 = if p = 0 then m_up G1 224 N ((N + 1 + p : Nat) : Int) else m_up G1 227 (N + p) ((N + 1 + p : Nat) : Int)) → L_239_172 ((a + 3 + 2 * p : Nat) : Int) (N : Int) ((N + 1 + p : Nat) : Int) G2 (RZ K n0 N a F z) m_no := by
        intro G2 hS2 h2
        have hI2 := hI.more hm h2
        have hQ2 : SQ G2 K := (hI2.rf hn).sq hQ
        refine b_239_172 hS2 ?_
        rw [show ((a + 3 + 2 * p : Nat) : Int) + 1 = ((a + 3 + 2 * p + 1 : Nat) : Int) by omega, Int.toNat_natCast, hQ2 _ (by omega)]
        refine ⟨by omega, by omega, fun e14 => ⟨by omega, ?_⟩, fun e14 => ⟨by omega, fun e11 => ⟨by omega, ?_⟩, fun e11 => ⟨by omega, ?_⟩⟩⟩
        · have hl1 := kn_lt (K := K) (i := a + 3 + 2 * p + 1) (by rw [e14]; decide)
          rw [if_pos e14] at hz
          have := ih (p + 1) G2 (by omega) (by omega) hS2 hI2 (by rw [show a + 3 + 2 * (p + 1) = a + 3 + 2 * p + 2 by omega]; exact hz)
          rw [if_neg (show ¬ p + 1 = 0 by omega)] at this
          rw [show ((a + 3 + 2 * p + 1 : Nat) : Int) + 1 = ((a + 3 + 2 * (p + 1) : Nat) : Int) by omega, show N + 1 + p = N + (p + 1) by omega]
          exact this
        · have hl1 := kn_lt (K := K) (i := a + 3 + 2 * p + 1) (by rw [e11]; decide)
          rw [if_neg e14, if_pos e11] at hz
          refine b_239_109 hS2 ⟨fun _ => ?_, fun h => absurd rfl h⟩
          refine b_239_235 hS2 ⟨fun h => absurd h (by decide), fun _ => ?_⟩
          rw [show ((a + 3 + 2 * p + 1 : Nat) : Int) + 0 + 1 = ((a + 3 + 2 * p + 2 : Nat) : Int) by omega, Int.toNat_natCast, hQ2 _ (by omega)]
          refine ⟨by omega, by omega, fun e12 => ?_, fun e12 => ?_⟩
          · have hl2 := kn_lt (K := K) (i := a + 3 + 2 * p + 2) (by rw [e12]; decide)
            rw [if_pos e12, if_pos rfl] at hz
            rw [hz]
            exact l_239e (e := a + 3 + 2 * p + 2) (p := p + 1) hS2 hK hx hn hN hn2 hI2 hl2 (by omega)
          · rw [if_neg e12, if_neg (show ¬ (false : Bool) = true by decide)] at hz
            rw [hz]
            exact b_239_268 hS2 ⟨fun _ => l_239f hS2 hQ hK hx hEl hn hI2 (by omega) (by omega), fun h => absurd rfl h⟩
        · rw [if_neg e14, if_neg e11, if_neg (show ¬ (false : Bool) = true by decide)] at hz
          rw [hz]
          refine b_239_109 hS2 ⟨fun _ => ?_, fun h => absurd rfl h⟩
          refine b_239_235 hS2 ⟨fun _ => ⟨by omega, ?_⟩, fun h => absurd rfl h⟩
          rw [Int.add_zero, Int.add_zero]
          exact b_239_268 hS2 ⟨fun _ => l_239f hS2 hQ hK hx hEl hn hI2 (by omega) (by omega), fun h => absurd rfl h⟩
      refine ⟨fun ep => ?_, fun ep => ?_⟩
      · have e : p = 0 := by
          by_cases e : p = 0
          · exact e
          · rw [if_neg e] at ep; omega
        exact ⟨by omega, nxt _ (hS1.arr kd_224 (by decide)) (by rw [if_pos e, Int.toNat_natCast])⟩
      · have e : p ≠ 0 := fun e => ep (by rw [if_pos e])
        rw [if_neg e, Int.toNat_natCast]
        exact ⟨by omega, nxt _ (hS1.arr kd_227 (by decide)) (by rw [if_neg e])⟩
    · rw [if_neg e0, if_neg (show ¬ (false : Bool) = true by decide)] at hz
      rw [hz]
      refine b_239_109 hS ⟨fun h => absurd h (by decide), fun _ => ⟨fun _ => ?_, fun h => absurd rfl h⟩⟩
      refine b_239_235 hS ⟨fun _ => ⟨by omega, ?_⟩, fun h => absurd rfl h⟩
      rw [Int.add_zero]
      exact b_239_268 hS ⟨fun _ => l_239f hS hQ hK hx hEl hn hI (by omega) (by omega), fun h => absurd rfl h⟩
theorem s_239 (hS : St F) (hQ : SQ F K) (hK : K.length ≤ 195) (hx : RS F K n0 N (a, [], C, E, Fn, U)) (hEl : E.length < 300) (hn : n0 ≤ N) (hN : N ≤ n0 + 2 * a) (hn2 : n0 + 2 * K.length + 12 < 1600) (hk : kn K a = 3) :
    C_239 F (RZ K n0 N a F (pit K a C E Fn U)) m_no := by
  have hl := kn_lt (K := K) (i := a) (by rw [hk]; decide)
  have hx' := hx
  obtain ⟨h26, h27, h41, hE, hC, -⟩ := hx'
  have hC := hC rfl
  change F 201 26 = (a : Int) at h26
  change ErrM F E at hE
  change F 201 41 = 0 at h41
  rw [pit_fn hk]
  have bad : ∀ e, e ≤ K.length → a + 1 ≤ e → C_236 (e : Int) F (RZ K n0 N a F (skI K (K.length - e) e, [], C, E ++ [((e : Int), -1, -1)], Fn, U)) m_no := fun e h1 h2 =>
    RZ.badI (M := N) hS hQ hK RF.rf (Nat.le_refl _) (by omega) h27 h41 hE hEl hC h1
  have bad2 : ∀ e, e ≤ K.length → a + 1 ≤ e → L_239_58 (e : Int) (N : Int) F (RZ K n0 N a F (skI K (K.length - e) e, [], C, E ++ [((e : Int), -1, -1)], Fn, U)) m_no := fun e h1 h2 => by
    refine b_239_58 hS ⟨by omega, ?_⟩
    rw [Int.add_zero]
    exact b_239_268 hS ⟨fun _ => bad e h1 h2, fun h => absurd rfl h⟩
  unfold fnh
  refine c_239 hS ?_
  rw [h26, h27, show (a : Int) + 1 = ((a + 1 : Nat) : Int) by omega, show ((a + 1 : Nat) : Int) + 1 = ((a + 2 : Nat) : Int) by omega, show ((a + 2 : Nat) : Int) + 1 = ((a + 3 : Nat) : Int) by omega, Int.toNat_natCast, Int.toNat_natCast, Int.toNat_natCast, hQ (a + 1) (by omega), hQ (a + 2) (by omega)]
  refine ⟨by omega, by omega, fun e0 => ⟨by omega, by omega, fun e10 => ⟨by omega, by omega, ?_⟩, fun e10 => ?_⟩, fun e0 => ⟨by omega, ?_⟩⟩
  · have hl1 := kn_lt (K := K) (i := a + 1) (by rw [e0]; decide)
    have hl2 := kn_lt (K := K) (i := a + 2) (by rw [e10]; decide)
    rw [if_pos e0, if_pos e10]
    refine CaI.on (s_221 (N := N) hS h27 (by omega)) ?_
    rintro r F1 hS1 ⟨rfl, m1, m2, m3, m4, m5⟩
    have hI : HI F F1 N a 0 := ⟨m4, m3, m5, m1, m2.1, m2.2.1, m2.2.2.2.2.2.2.1, by rw [m2.2.2.2.1, if_pos rfl], fun i hi => absurd hi (Nat.not_lt_zero i)⟩
    have hQ1 : SQ F1 K := (hI.rf hn).sq hQ
    rw [hQ1 (a + 3) (by omega)]
    refine ⟨by omega, fun e11 => ?_, fun e11 => ?_⟩
    · have hl3 := kn_lt (K := K) (i := a + 3) (by rw [e11]; decide)
      rw [if_pos e11]
      refine b_239_109 hS1 ⟨fun _ => ?_, fun h => absurd rfl h⟩
      refine b_239_235 hS1 ⟨fun h => absurd h (by decide), fun _ => ?_⟩
      rw [show ((a + 3 : Nat) : Int) + 1 = ((a + 4 : Nat) : Int) by omega, Int.toNat_natCast, hQ1 (a + 4) (by omega)]
      refine ⟨by omega, by omega, fun e12 => ?_, fun e12 => ?_⟩
      · have hl4 := kn_lt (K := K) (i := a + 4) (by rw [e12]; decide)
        rw [if_pos e12]
        exact l_239e (p := 0) hS1 hK hx hn hN hn2 hI hl4 (by omega)
      · rw [if_neg e12]
        exact b_239_268 hS1 ⟨fun _ => l_239f (p := 0) hS1 hQ hK hx hEl hn hI (by omega) (by omega), fun h => absurd rfl h⟩
    · rw [if_neg e11]
      have := l_239 hQ hK hx hEl hn hN hn2 _ K.length 0 F1 (by omega) (by omega) hS1 hI rfl
      rw [if_pos rfl] at this
      exact this
  · have hl1 := kn_lt (K := K) (i := a + 1) (by rw [e0]; decide)
    rw [if_pos e0, if_neg e10]
    exact bad2 (a + 2) (by omega) (by omega)
  · rw [if_neg e0, Int.add_zero]
    exact bad2 (a + 1) (by omega) (by omega)
/-- an item -/
theorem s_240 (hS : St F) (hQ : SQ F K) (hK : K.length ≤ 195) (hx : RS F K n0 N (a, [], C, E, Fn, U)) (hEl : E.length < 300) (hn : n0 ≤ N) (hN : N ≤ n0 + 2 * a) (hn2 : n0 + 2 * K.length + 12 < 1600) (hl : a < K.length) :
    C_240 F (RZ K n0 N a F (pit K a C E Fn U)) m_no := by
  have hx' := hx
  obtain ⟨h26, h27, h41, hE, hC, -⟩ := hx'
  have hC := hC rfl
  change F 201 26 = (a : Int) at h26
  change ErrM F E at hE
  change F 201 41 = 0 at h41
  have bad : ∀ e, e ≤ K.length → a ≤ e → C_236 (e : Int) F (RZ K n0 N a F (skI K (K.length - e) e, [], C, E ++ [((e : Int), -1, -1)], Fn, U)) m_no := fun e h1 h2 =>
    RZ.badI (M := N) hS hQ hK RF.rf (Nat.le_refl _) (by omega) h27 h41 hE hEl hC h1
  refine c_240 hS ?_
  rw [h26, show (a : Int) + 1 = ((a + 1 : Nat) : Int) by omega, show (a : Int) + 2 = ((a + 2 : Nat) : Int) by omega, Int.toNat_natCast, Int.toNat_natCast, Int.toNat_natCast, hQ a (by omega), hQ (a + 1) (by omega), hQ (a + 2) (by omega)]
  refine ⟨by omega, fun e3 => s_239 hS hQ hK hx hEl hn hN hn2 e3, fun e3 => ⟨fun e2 => ⟨by omega, by omega, fun e0 => ⟨by omega, by omega, fun e15 => ⟨by omega, ?_⟩, fun e15 => ⟨by omega, ?_⟩⟩, fun e0 => ⟨by omega, ?_⟩⟩, fun e2 => ?_⟩⟩
  · have hl1 := kn_lt (K := K) (i := a + 1) (by rw [e0]; decide)
    have hl2 := kn_lt (K := K) (i := a + 2) (by rw [e15]; decide)
    have ez : pit K a C E Fn U = (a + 3, [], C ++ [mk 1 (a + 1) 0], E, Fn, U ++ [((a + 1 : Nat) : Int)]) := by
      unfold pit
      rw [if_pos e2, if_pos e0, if_pos e15]
    rw [ez]
    obtain ⟨k, x, y, i1, i2, i3, i4⟩ := hC
    change IL F K n0 k N x y C Fn U at i1
    refine CaI.on (s_221 (N := N) hS h27 (by omega)) ?_
    rintro r F1 hS1 ⟨rfl, m1, m2, m3, m4, m5⟩
    have j1 : IL F1 K n0 k N x y C Fn U := IL.cong _ _ _ _ _ _ _ i1 (fun c i a b _ z _ => m3 c i a b z)
    have r := IL.rng _ _ _ _ _ _ _ i1
    refine CaV.on (s_235 (v := N) hS1 j1 ((m4 48 (by decide)).trans i2) ((m4 49 (by decide)).trans i3) (by omega)) ?_
    rintro F3 hS3 ⟨t1, t2, t3, t4, t5⟩
    rw [t3 26 (by decide) (by decide), m4 26 (by decide), h26]
    refine ⟨by omega, ?_⟩
    obtain ⟨F4, d4⟩ : ∃ F4, F4 = m_up F3 201 26 ((a : Int) + 3) := ⟨_, rfl⟩
    rw [← d4]
    have z4 : ∀ c i, c ≠ 201 → F4 c i = F3 c i := fun c i hc => by rw [d4, u_ne (Or.inl hc)]
    have w4 : ∀ j, j ≠ 26 → F4 201 j = F3 201 j := fun j hj => by rw [d4, u_ne (Or.inr hj)]
    have n4 : ∀ c i, 221 ≤ c → c ≤ 229 → N ≤ i → F4 c i = F1 c i := fun c i a b d => (z4 c i (by omega)).trans (t4 c i (by omega) (by omega))
    have rf : RF n0 F F4 := ⟨fun j x1 x2 x3 x4 x5 x6 x7 x8 x9 x10 x11 x12 x13 => (w4 j x1).trans ((t3 j x5 x6).trans (m4 j x2)), fun c i x y z => (z4 c i (by omega)).trans ((t4 c i (by omega) (by omega)).trans (m3 c i x y (by omega))), fun c hc => funext fun i => (z4 c i (fun e => hc (Or.inl e))).trans ((t4 c i (fun e => hc (by omega)) (fun e => hc (Or.inl e))).trans (by rw [m5 c (fun e => hc (by omega))]))⟩
    have e4 : ErrM F4 E := hE.cong ((w4 37 (by decide)).trans ((t3 37 (by decide) (by decide)).trans (m4 37 (by decide)))) (fun c x y => funext fun i => (z4 c i (by omega)).trans ((t4 c i (by omega) (by omega)).trans (by rw [m5 c (by omega)])))
    refine ⟨rf, N + 1, by omega, ?_, RS.it (by rw [d4, u_eq]; omega) ((w4 27 (by decide)).trans ((t3 27 (by decide) (by decide)).trans m1)) ((w4 41 (by decide)).trans ((t3 41 (by decide) (by decide)).trans ((m4 41 (by decide)).trans h41))) e4 ?_⟩
    · show N + 1 + 2 * a ≤ N + 2 * (a + 3)
      omega
    · refine ⟨k + 1, F4 201 48, (N : Int), ⟨N, N, x, y, C, [mk 1 (a + 1) 0], Fn, U, IL.cong _ _ _ _ _ _ _ t5 (fun c i a b _ _ _ => z4 c i (by omega)), rfl, rfl, Nat.le_refl _, Nat.lt_succ_self _, ?_, Or.inl ⟨a + 1, (n4 221 N (by decide) (by decide) (Nat.le_refl _)).trans m2.1, (n4 222 N (by decide) (by decide) (Nat.le_refl _)).trans m2.2.1, rfl, rfl, rfl⟩⟩, rfl, (w4 49 (by decide)).trans t1, fun _ => ?_⟩
      · rw [w4 48 (by decide)]
        by_cases ek : k = 0
        · rw [if_pos ek] at t2 ⊢; exact t2
        · rw [if_neg ek] at t2 ⊢; exact ⟨t2.1, (z4 227 _ (by decide)).trans t2.2⟩
      · rw [Int.toNat_natCast]
        exact (n4 227 N (by decide) (by decide) (Nat.le_refl _)).trans m2.2.2.2.2.2.2.1
  · have hl1 := kn_lt (K := K) (i := a + 1) (by rw [e0]; decide)
    have ez : pit K a C E Fn U = (skI K (K.length - (a + 2)) (a + 2), [], C, E ++ [(((a + 2 : Nat) : Int), -1, -1)], Fn, U) := by
      unfold pit
      rw [if_pos e2, if_pos e0, if_neg e15]
    rw [ez]
    exact bad (a + 2) (by omega) (by omega)
  · have ez : pit K a C E Fn U = (skI K (K.length - (a + 1)) (a + 1), [], C, E ++ [(((a + 1 : Nat) : Int), -1, -1)], Fn, U) := by
      unfold pit
      rw [if_pos e2, if_neg e0]
    rw [ez]
    exact bad (a + 1) (by omega) (by omega)
  · have ez : pit K a C E Fn U = (skI K (K.length - a) a, [], C, E ++ [((a : Int), -1, -1)], Fn, U) := by
      unfold pit
      rw [if_neg e2, if_neg e3]
    rw [ez]
    exact bad a (by omega) (Nat.le_refl _)
end M9f
