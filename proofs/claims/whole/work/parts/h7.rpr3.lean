/-! REPAIR, OF THE REFERENCE: all rules -/
/-- a table on the way -/
def TbF (K : Nat → Int) (n : Nat) (F0 G : MF) : Prop := In5 K n F0 G ∧ (G 201 92 = 0 ∨ G 201 92 = 1)
/-- within a round: G0 where it began, the rules that are done -/
def ItF (K : Nat → Int) (n : Nat) (F0 G0 G : MF) (U : List (Nat × Nat)) (B : List (Nat × Nat × Nat)) : Prop := TbF K n F0 G ∧ (∀ a i j, a < 31 → i ≤ 10 → j ≤ 10 → UUg G a i j ≤ UUg G0 a i j) ∧
  ((∀ p ∈ U, p.1 < 31 ∧ ∀ i j, i ≤ j → j ≤ n → UUg G p.1 i j ≤ UUg G0 p.2 i j) ∧ ∀ p ∈ B, p.1 < 31 ∧ ∀ i k j, i ≤ k → k ≤ j → j ≤ n → UUg G p.1 i j ≤ UUg G0 p.2.1 i k + UUg G0 p.2.2 k j) ∧
  (G 201 92 = 0 ∧ (∀ q, q < 3751 → G 262 q = G0 262 q) ∨ G 201 92 = 1 ∧ tot G 3751 + 1 ≤ tot G0 3751)
/-- the rules that are done hold of the table itself -/
def ClF (n : Nat) (G : MF) (U : List (Nat × Nat)) (B : List (Nat × Nat × Nat)) : Prop := (∀ p ∈ U, ∀ i j, i ≤ j → j ≤ n → UUg G p.1 i j ≤ UUg G p.2 i j) ∧ ∀ p ∈ B, ∀ i k j, i ≤ k → k ≤ j → j ≤ n → UUg G p.1 i j ≤ UUg G p.2.1 i k + UUg G p.2.2 k j
def UdF : List (Nat × Nat) := [(19, 18), (18, 13), (13, 14), (14, 15), (15, 16), (16, 17), (17, 0)]
def BdF : List (Nat × Nat × Nat) := [(18, 26, 13), (26, 18, 4), (13, 25, 14), (25, 14, 11), (14, 24, 15), (24, 14, 10), (15, 23, 16), (23, 15, 9), (16, 12, 17), (17, 20, 2), (17, 3, 22), (22, 21, 2), (21, 1, 19), (20, 1, 13)]
section Mh7
variable {F G G0 G' F0 : MF} {A b b2 i j k n q : Nat} {R : Int → MF → Prop} {K : Nat → Int} {U : List (Nat × Nat)} {B : List (Nat × Nat × Nat)}
theorem RwI.mo (h : RwI (tcs K) n A G G') {a : Nat} (ha : a < 31) (hi : i ≤ 10) (hj : j ≤ 10) : UUg G' a i j ≤ UUg G a i j := by
  by_cases e : a = A
  · rw [e]; exact h.2.2.1 i j hi hj
  · rw [h.2.1 a i j ha hi hj e]; exact Int.le_refl _
theorem RwI.tb (h : RwI (tcs K) n A G G') (hn : n ≤ 10) (h0 : TbF K n F0 G) : TbF K n F0 G' := by
  obtain ⟨⟨⟨⟨a1, a2⟩, a3, a4⟩, a5, a6⟩, a7⟩ := h0
  have h' := h
  obtain ⟨⟨b1, b1a⟩, b2, b3, b4, b5, b6⟩ := h'
  refine ⟨⟨⟨⟨fun c x y => (b1 c x y).trans (a1 c x y), fun q hq => (b1a q hq).trans (a2 q hq)⟩, b4, fun a i j ha u z => ?_⟩, fun A' i j ha u z => Int.le_trans (h.mo (by omega) (by omega) (by omega)) (a5 A' i j ha u z), fun i j u z => Int.le_trans (h.mo (by decide) (by omega) (by omega)) (a6 i j u z)⟩, ?_⟩
  · by_cases e : a = A
    · rw [e]; exact b5 i j u z
    · rw [b2 a i j ha (by omega) (by omega) e]; exact a4 a i j ha u z
  · rcases b6 with ⟨e, -⟩ | ⟨e, -⟩
    · rw [e]; exact a7
    · exact Or.inr e
theorem ItF.mo (h : ItF K n F0 G0 G U B) (hn : n ≤ 10) (h2 : RwI (tcs K) n A G G') : TbF K n F0 G' ∧ (∀ a i j, a < 31 → i ≤ 10 → j ≤ 10 → UUg G' a i j ≤ UUg G0 a i j) ∧
    ((∀ p ∈ U, p.1 < 31 ∧ ∀ i j, i ≤ j → j ≤ n → UUg G' p.1 i j ≤ UUg G0 p.2 i j) ∧ ∀ p ∈ B, p.1 < 31 ∧ ∀ i k j, i ≤ k → k ≤ j → j ≤ n → UUg G' p.1 i j ≤ UUg G0 p.2.1 i k + UUg G0 p.2.2 k j) ∧
    (G' 201 92 = 0 ∧ (∀ q, q < 3751 → G' 262 q = G0 262 q) ∨ G' 201 92 = 1 ∧ tot G' 3751 + 1 ≤ tot G0 3751) := by
  obtain ⟨a1, a2, ⟨a3, a3b⟩, a4⟩ := h
  refine ⟨h2.tb hn a1, fun a i j ha u z => Int.le_trans (h2.mo ha u z) (a2 a i j ha u z), ⟨fun p hp => ⟨(a3 p hp).1, fun i j u z => Int.le_trans (h2.mo (a3 p hp).1 (by omega) (by omega)) ((a3 p hp).2 i j u z)⟩, fun p hp => ⟨(a3b p hp).1, fun i k j u w z => Int.le_trans (h2.mo (a3b p hp).1 (by omega) (by omega)) ((a3b p hp).2 i k j u w z)⟩⟩, ?_⟩
  rcases h2.2.2.2.2.2 with ⟨e, e2⟩ | ⟨e, e2⟩
  · rcases a4 with ⟨e3, e4⟩ | ⟨e3, e4⟩
    · exact Or.inl ⟨e.trans e3, fun q hq => (e2 q hq).trans (e4 q hq)⟩
    · exact Or.inr ⟨e.trans e3, by rw [tot_eq 3751 e2]; exact e4⟩
  · rcases a4 with ⟨e3, e4⟩ | ⟨e3, e4⟩
    · have := tot_eq (G := G) (F := G0) 3751 e4
      exact Or.inr ⟨e, by omega⟩
    · exact Or.inr ⟨e, by omega⟩
theorem ItF.bin (hS : St G) (hn : n ≤ 10) (h91 : F0 201 91 = (n : Int)) (h : ItF K n F0 G0 G U B) (hA : A < 31 ∧ b < 31 ∧ b2 < 31 ∧ b ≠ A ∧ b2 ≠ A) (hm : (A, b, b2) ∈ BgF) : C_296 (A : Int) (b : Int) (b2 : Int) G (fun G' => ItF K n F0 G0 G' U ((A, b, b2) :: B)) m_no := by
  have tb := h.1
  refine CaV.on (s_296 (t := tcs K) (n := n) hA.1 hA.2.1 hA.2.2.1 hA.2.2.2 hm hn hS ((tb.1.1.1.2 91 (by decide)).trans h91) tb.2 tb.1.1.2.1 tb.1.1.2.2) ?_
  rintro G' hS' ⟨k1, k2⟩
  obtain ⟨m1, m2, ⟨m3, m3b⟩, m4⟩ := h.mo hn k1
  refine ⟨m1, m2, ⟨m3, fun p hp => ?_⟩, m4⟩
  rcases List.mem_cons.mp hp with rfl | hp
  · refine ⟨hA.1, fun i k j u w z => ?_⟩
    have e1 := h.2.1 b i k hA.2.1 (by omega) (by omega)
    have e2 := h.2.1 b2 k j hA.2.2.1 (by omega) (by omega)
    have e3 := k2 i k j u w z
    show UUg G' A i j ≤ UUg G0 b i k + UUg G0 b2 k j
    omega
  · exact m3b p hp
theorem ItF.una (hS : St G) (hn : n ≤ 10) (h91 : F0 201 91 = (n : Int)) (h : ItF K n F0 G0 G U B) (hA : A < 31 ∧ b < 31 ∧ b ≠ A) (hm : (A, b) ∈ UgF) : C_297 (A : Int) (b : Int) G (fun G' => ItF K n F0 G0 G' ((A, b) :: U) B) m_no := by
  have tb := h.1
  refine CaV.on (s_297 (t := tcs K) (n := n) hA.1 hA.2.1 hA.2.2 hm hn hS ((tb.1.1.1.2 91 (by decide)).trans h91) tb.2 tb.1.1.2.1 tb.1.1.2.2) ?_
  rintro G' hS' ⟨k1, k2⟩
  obtain ⟨m1, m2, ⟨m3, m3b⟩, m4⟩ := h.mo hn k1
  refine ⟨m1, m2, ⟨fun p hp => ?_, m3b⟩, m4⟩
  rcases List.mem_cons.mp hp with rfl | hp
  · refine ⟨hA.1, fun i j u z => ?_⟩
    have e1 := h.2.1 b i j hA.2.1 (by omega) (by omega)
    have e3 := k2 i j u z
    show UUg G' A i j ≤ UUg G0 b i j
    omega
  · exact m3 p hp
theorem ClF.bin (hS : St G) (hn : n ≤ 10) (h91 : F0 201 91 = (n : Int)) (tb : TbF K n F0 G) (h : ClF n G U B) (hA : A < 31 ∧ b < 31 ∧ b2 < 31 ∧ b ≠ A ∧ b2 ≠ A) (hm : (A, b, b2) ∈ BgF) (hU : ∀ p ∈ U, p.1 < 31 ∧ p.2 < 31 ∧ p.2 ≠ A) (hB : ∀ p ∈ B, p.1 < 31 ∧ p.2.1 < 31 ∧ p.2.2 < 31 ∧ p.2.1 ≠ A ∧ p.2.2 ≠ A) :
    C_296 (A : Int) (b : Int) (b2 : Int) G (fun G' => TbF K n F0 G' ∧ ClF n G' U ((A, b, b2) :: B)) m_no := by
  refine CaV.on (s_296 (t := tcs K) (n := n) hA.1 hA.2.1 hA.2.2.1 hA.2.2.2 hm hn hS ((tb.1.1.1.2 91 (by decide)).trans h91) tb.2 tb.1.1.2.1 tb.1.1.2.2) ?_
  rintro G' hS' ⟨k1, k2⟩
  refine ⟨k1.tb hn tb, fun p hp i j u z => ?_, fun p hp i k j u w z => ?_⟩
  · have q := hU p hp
    rw [k1.2.1 p.2 i j q.2.1 (by omega) (by omega) q.2.2]
    exact Int.le_trans (k1.mo q.1 (by omega) (by omega)) (h.1 p hp i j u z)
  · rcases List.mem_cons.mp hp with rfl | hp
    · show UUg G' A i j ≤ UUg G' b i k + UUg G' b2 k j
      rw [k1.2.1 b i k hA.2.1 (by omega) (by omega) hA.2.2.2.1, k1.2.1 b2 k j hA.2.2.1 (by omega) (by omega) hA.2.2.2.2]
      exact k2 i k j u w z
    · have q := hB p hp
      rw [k1.2.1 p.2.1 i k q.2.1 (by omega) (by omega) q.2.2.2.1, k1.2.1 p.2.2 k j q.2.2.1 (by omega) (by omega) q.2.2.2.2]
      exact Int.le_trans (k1.mo q.1 (by omega) (by omega)) (h.2 p hp i k j u w z)
/-- what the costs are in the end -/
def RpO (K : Nat → Int) (n : Nat) (F0 : MF) (r : Int) (G : MF) : Prop := ((∀ c, c ≠ 201 → c ≠ 262 → G c = F0 c) ∧ ∀ q, q ≠ 92 → G 201 q = F0 201 q) ∧ ∃ Tr : Nat → Nat → Nat → Int, ClT Tr (tcs K) UgF BgF 19 n ∧ (Tr 30 0 n ≤ 1000 ∧ (Tr 30 0 n = 1000 ∨ Lg (tcs K) UgF BgF 19 30 0 n (Tr 30 0 n))) ∧ r = Tr 30 0 n
theorem l_298f (hn : n ≤ 10) (h91 : F0 201 91 = (n : Int)) (hS : St G) (tb : TbF K n F0 G) (h0 : G 201 92 = 0) (h : ClF n G UdF BdF) : L_298_9 G (RpO K n F0) m_no := by
  refine b_298_9 hS ⟨fun _ => ?_, fun c => absurd h0 c⟩
  refine CaV.on (ClF.bin (A := 27) (b := 3) (b2 := 6) hS hn h91 tb h (by decide) (by decide) (by decide) (by decide)) ?_
  rintro G1 hS1 ⟨tb1, h1⟩
  refine CaV.on (ClF.bin (A := 28) (b := 7) (b2 := 27) hS1 hn h91 tb1 h1 (by decide) (by decide) (by decide) (by decide)) ?_
  rintro G2 hS2 ⟨tb2, h2⟩
  refine CaV.on (ClF.bin (A := 29) (b := 27) (b2 := 13) hS2 hn h91 tb2 h2 (by decide) (by decide) (by decide) (by decide)) ?_
  rintro G3 hS3 ⟨tb3, h3⟩
  refine CaV.on (ClF.bin (A := 29) (b := 28) (b2 := 13) hS3 hn h91 tb3 h3 (by decide) (by decide) (by decide) (by decide)) ?_
  rintro G4 hS4 ⟨tb4, h4⟩
  refine CaV.on (ClF.bin (A := 29) (b := 8) (b2 := 13) hS4 hn h91 tb4 h4 (by decide) (by decide) (by decide) (by decide)) ?_
  rintro G5 hS5 ⟨tb5, h5⟩
  refine CaV.on (ClF.bin (A := 29) (b := 3) (b2 := 22) hS5 hn h91 tb5 h5 (by decide) (by decide) (by decide) (by decide)) ?_
  rintro G6 hS6 ⟨tb6, h6⟩
  refine CaV.on (ClF.bin (A := 30) (b := 29) (b2 := 5) hS6 hn h91 tb6 h6 (by decide) (by decide) (by decide) (by decide)) ?_
  rintro G7 hS7 ⟨tb7, h7⟩
  have e91 : G7 201 91 = (n : Int) := (tb7.1.1.1.2 91 (by decide)).trans h91
  obtain ⟨f1, f2⟩ := q_292 (F := G7) (show 30 < 31 by decide) (show 0 ≤ 10 by decide) hn
  rw [e91]
  change g_292 G7 30 0 (n : Int) = _ at f1
  change o_292 G7 30 0 (n : Int) at f2
  rw [f1]
  have v := tb7.1.1.2.1 _ (ixg_lt (show 30 < 31 by decide) (show 0 ≤ 10 by decide) hn)
  refine ⟨f2, tb7.1.1.1, UUg G7, ⟨tb7.1.2.1, fun i j _ u z => tb7.1.2.2 i j u z, fun A b i j m u z => ?_, fun A b b2 i k j m u w z => ?_⟩, ⟨v.2, tb7.1.1.2.2 30 0 n (by decide) (Nat.zero_le _) (Nat.le_refl _)⟩, rfl⟩
  · exact h7.1 (A, b) ((show ∀ p ∈ UgF, p ∈ UdF by decide) _ m) i j u z
  · exact h7.2 (A, b, b2) ((show ∀ p ∈ BgF, p ∈ (30, 29, 5) :: (29, 3, 22) :: (29, 8, 13) :: (29, 28, 13) :: (29, 27, 13) :: (28, 7, 27) :: (27, 3, 6) :: BdF by decide) _ m) i k j u w z
theorem l_298 (hn : n ≤ 10) (h91 : F0 201 91 = (n : Int)) : ∀ (N : Nat) (G : MF), tot G 3751 < (N : Int) → St G → TbF K n F0 G → G 201 92 = 1 → L_298_9 G (RpO K n F0) m_no := by
  intro N
  induction N with
  | zero =>
    intro G hN hS tb _
    have := tot_0 (G := G) 3751 (fun q hq => (tb.1.1.2.1 q hq).1)
    omega
  | succ N ih =>
    intro G hN hS tb h1
    refine b_298_9 hS ⟨fun c => by omega, fun _ => ?_⟩
    obtain ⟨G0, e0⟩ : ∃ G0, G0 = m_up G 201 92 0 := ⟨_, rfl⟩
    rw [← e0]
    have r0 : ∀ c, c ≠ 201 → G0 c = G c := fun c hc => by rw [e0, up_row hc]
    have hS0 : St G0 := by rw [e0]; exact hS.fld kd_201 rk_12_92
    have i0 : ItF K n F0 G0 G0 [] [] := by
      obtain ⟨⟨⟨⟨a1, a2⟩, a3, a4⟩, a5, a6⟩, a7⟩ := tb
      have eU : UUg G0 = UUg G := by unfold UUg; rw [r0 262 (by decide)]
      have e92 : G0 201 92 = 0 := by rw [e0, u_eq]
      refine ⟨⟨⟨⟨⟨fun c x y => by rw [r0 c x]; exact a1 c x y, fun q hq => by rw [e0, u_ne (Or.inr hq)]; exact a2 q hq⟩, by rw [r0 262 (by decide)]; exact a3, by rw [eU]; exact a4⟩, by rw [eU]; exact a5, by rw [eU]; exact a6⟩, Or.inl e92⟩, fun _ _ _ _ _ _ => Int.le_refl _, ⟨fun p hp => absurd hp (List.not_mem_nil), fun p hp => absurd hp (List.not_mem_nil)⟩, Or.inl ⟨e92, fun _ _ => rfl⟩⟩
    refine CaV.on (ItF.bin (A := 20) (b := 1) (b2 := 13) hS0 hn h91 i0 (by decide) (by decide)) ?_
    rintro G1 hS1 i1
    refine CaV.on (ItF.bin (A := 21) (b := 1) (b2 := 19) hS1 hn h91 i1 (by decide) (by decide)) ?_
    rintro G2 hS2 i2
    refine CaV.on (ItF.bin (A := 22) (b := 21) (b2 := 2) hS2 hn h91 i2 (by decide) (by decide)) ?_
    rintro G3 hS3 i3
    refine CaV.on (ItF.una (A := 17) (b := 0) hS3 hn h91 i3 (by decide) (by decide)) ?_
    rintro G4 hS4 i4
    refine CaV.on (ItF.bin (A := 17) (b := 3) (b2 := 22) hS4 hn h91 i4 (by decide) (by decide)) ?_
    rintro G5 hS5 i5
    refine CaV.on (ItF.bin (A := 17) (b := 20) (b2 := 2) hS5 hn h91 i5 (by decide) (by decide)) ?_
    rintro G6 hS6 i6
    refine CaV.on (ItF.una (A := 16) (b := 17) hS6 hn h91 i6 (by decide) (by decide)) ?_
    rintro G7 hS7 i7
    refine CaV.on (ItF.bin (A := 16) (b := 12) (b2 := 17) hS7 hn h91 i7 (by decide) (by decide)) ?_
    rintro G8 hS8 i8
    refine CaV.on (ItF.una (A := 15) (b := 16) hS8 hn h91 i8 (by decide) (by decide)) ?_
    rintro G9 hS9 i9
    refine CaV.on (ItF.bin (A := 23) (b := 15) (b2 := 9) hS9 hn h91 i9 (by decide) (by decide)) ?_
    rintro G10 hS10 i10
    refine CaV.on (ItF.bin (A := 15) (b := 23) (b2 := 16) hS10 hn h91 i10 (by decide) (by decide)) ?_
    rintro G11 hS11 i11
    refine CaV.on (ItF.una (A := 14) (b := 15) hS11 hn h91 i11 (by decide) (by decide)) ?_
    rintro G12 hS12 i12
    refine CaV.on (ItF.bin (A := 24) (b := 14) (b2 := 10) hS12 hn h91 i12 (by decide) (by decide)) ?_
    rintro G13 hS13 i13
    refine CaV.on (ItF.bin (A := 14) (b := 24) (b2 := 15) hS13 hn h91 i13 (by decide) (by decide)) ?_
    rintro G14 hS14 i14
    refine CaV.on (ItF.una (A := 13) (b := 14) hS14 hn h91 i14 (by decide) (by decide)) ?_
    rintro G15 hS15 i15
    refine CaV.on (ItF.bin (A := 25) (b := 14) (b2 := 11) hS15 hn h91 i15 (by decide) (by decide)) ?_
    rintro G16 hS16 i16
    refine CaV.on (ItF.bin (A := 13) (b := 25) (b2 := 14) hS16 hn h91 i16 (by decide) (by decide)) ?_
    rintro G17 hS17 i17
    refine CaV.on (ItF.una (A := 18) (b := 13) hS17 hn h91 i17 (by decide) (by decide)) ?_
    rintro G18 hS18 i18
    refine CaV.on (ItF.bin (A := 26) (b := 18) (b2 := 4) hS18 hn h91 i18 (by decide) (by decide)) ?_
    rintro G19 hS19 i19
    refine CaV.on (ItF.bin (A := 18) (b := 26) (b2 := 13) hS19 hn h91 i19 (by decide) (by decide)) ?_
    rintro G20 hS20 i20
    refine CaV.on (ItF.una (A := 19) (b := 18) hS20 hn h91 i20 (by decide) (by decide)) ?_
    rintro G21 hS21 i21
    have et : tot G0 3751 = tot G 3751 := tot_eq 3751 (fun q _ => by rw [r0 262 (by decide)])
    obtain ⟨q1, q2, ⟨q3, q3b⟩, q4⟩ := i21
    rcases q4 with ⟨e, e2⟩ | ⟨e, e2⟩
    · have eq : ∀ a i j, a < 31 → i ≤ 10 → j ≤ 10 → UUg G21 a i j = UUg G0 a i j := fun a i j ha u z => e2 _ (ixg_lt ha u z)
      have lU : ∀ p ∈ UdF, p.2 < 31 := by decide
      have lB : ∀ p ∈ BdF, p.2.1 < 31 ∧ p.2.2 < 31 := by decide
      refine l_298f hn h91 hS21 q1 e ⟨fun p hp i j u z => ?_, fun p hp i k j u w z => ?_⟩
      · rw [eq p.2 i j (lU p hp) (by omega) (by omega)]
        exact (q3 p hp).2 i j u z
      · rw [eq p.2.1 i k (lB p hp).1 (by omega) (by omega), eq p.2.2 k j (lB p hp).2 (by omega) (by omega)]
        exact (q3b p hp).2 i k j u w z
    · exact ih G21 (by omega) hS21 q1 e
theorem s_298 (hS : St F0) (hn : n ≤ 10) (h91 : F0 201 91 = (n : Int)) (hK : ∀ q, q < n → F0 263 q = K q) : C_298 F0 (RpO K n F0) m_no := by
  refine c_298 hS ?_
  refine CaV.on (s_295 hS hn h91 hK) ?_
  rintro G hSG h
  obtain ⟨⟨⟨a1, a2⟩, a3, a4⟩, a5, a6⟩ := h
  obtain ⟨G1, e1⟩ : ∃ G1, G1 = m_up G 201 92 1 := ⟨_, rfl⟩
  rw [← e1]
  have r1 : ∀ c, c ≠ 201 → G1 c = G c := fun c hc => by rw [e1, up_row hc]
  have eU : UUg G1 = UUg G := by unfold UUg; rw [r1 262 (by decide)]
  have tb : TbF K n F0 G1 := ⟨⟨⟨⟨fun c x y => by rw [r1 c x]; exact a1 c x y, fun q hq => by rw [e1, u_ne (Or.inr hq)]; exact a2 q hq⟩, by rw [r1 262 (by decide)]; exact a3, by rw [eU]; exact a4⟩, by rw [eU]; exact a5, by rw [eU]; exact a6⟩, Or.inr (by rw [e1, u_eq])⟩
  have t0 := tot_0 (G := G1) 3751 (fun q hq => (tb.1.1.2.1 q hq).1)
  exact l_298 hn h91 ((tot G1 3751).toNat + 1) G1 (by omega) (by rw [e1]; exact hSG.fld kd_201 rk_12_92) tb (by rw [e1, u_eq])
end Mh7
