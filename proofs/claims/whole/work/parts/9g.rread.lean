/-! READING, OF THE REFERENCE: read -/
theorem Ev.and {M pc : Nat} {ls : ML} {st : List MV} {F : MF} {Q R : Nat × List MV → MF → Prop} (h : Ev M pc ls st F Q) (k : Ev M pc ls st F R) : Ev M pc ls st F (fun o F' => Q o F' ∧ R o F') := by
  intro d hd c s
  obtain ⟨f, o, F', c', s', h1, h2, h3, h4⟩ := h d hd c s
  obtain ⟨g, p, G', c2, s2, k1, k2, k3, k4⟩ := k d hd c s
  have e1 := mx_le (Nat.le_max_left f g) h1
  have e2 := mx_le (Nat.le_max_right f g) k1
  rw [e1] at e2
  injection e2 with e2
  injection e2 with e3 e4
  injection e4 with e4 e5
  subst e3
  subst e4
  exact ⟨f, o, F', c', s', h1, h2, h3, h4, k4⟩
theorem CaV.and {N : Nat} {xs : List MV} {F : MF} {R R' : MF → Prop} (h : CaV N xs F R m_no) (k : CaV N xs F R' m_no) : CaV N xs F (fun F' => R F' ∧ R' F') m_no := by
  refine Ev.mono (Ev.and h k) ?_
  rintro o F' ⟨⟨h1, h2⟩, ⟨k1, k2⟩⟩
  refine ⟨h1, Or.inl ?_⟩
  rcases h2 with h2 | ⟨e, -, h2⟩
  · rcases k2 with k2 | ⟨e, -, k2⟩
    · exact ⟨h2.1, h2.2, k2.2⟩
    · exact k2.elim
  · exact h2.elim
/-- what the reading may change -/
def RG (n0 : Nat) (F F' : MF) : Prop := (∀ j, j ≠ 26 → j ≠ 27 → j ≠ 37 → j ≠ 41 → j ≠ 46 → j ≠ 48 → j ≠ 49 → j ≠ 51 → j ≠ 53 → j ≠ 54 → j ≠ 58 → j ≠ 59 → j ≠ 60 → j ≠ 63 → F' 201 j = F 201 j) ∧ Agf F F' n0 ∧ fr (fun c => c = 201 ∨ (221 ≤ c ∧ c ≤ 244)) F F'
/-- what is done at END -/
def EZ (F F' : MF) : Prop := (∀ c, c ≠ 201 → c ≠ 237 → ¬ (230 ≤ c ∧ c ≤ 232) → F' c = F c) ∧ (∀ j, j ≠ 37 → j ≠ 41 → j ≠ 46 → F' 201 j = F 201 j)
/-- the state in which the last token was taken -/
def pre (K : List Int) : Nat → PS → PS
  | 0, x => x
  | d + 1, x => if x.1 < K.length then pre K d (pstep K x) else x
/-- the blocks that END ended -/
def AE (F : MF) (K : List Int) (n0 N : Nat) (y : PS) : Prop := (y.2.1 = [] → F 201 46 = 0) ∧ (y.2.1 ≠ [] → F 201 46 = (y.2.1.length : Int) ∧ (∀ k, k < y.2.1.length → F 237 k = F 233 k) ∧ CU F K n0 y.2.1 y.2.2.1 y.2.2.2.2.1 y.2.2.2.2.2 N)
section M9g
variable {F F' G : MF} {K : List Int} {n0 N a : Nat} {S : List (Int × Int)} {C : List Int} {E : EE} {Fn : FF} {U : List Int}
theorem RF.rg (h : RF n0 F F') : RG n0 F F' := ⟨fun j a b c d _ e f g i x y z w u => h.1 j a b c d e f g i x y z w u, h.2.1, h.2.2.mo (fun c hc => by omega)⟩
theorem RG.rf : RG n0 F F := ⟨fun _ _ _ _ _ _ _ _ _ _ _ _ _ _ _ => rfl, Agf.rf, fr.rf⟩
theorem RG.tr {F1 : MF} (h : RG n0 F F1) (k : RG n0 F1 F') : RG n0 F F' := ⟨fun j a b c d e f g i x y z w u v => (k.1 j a b c d e f g i x y z w u v).trans (h.1 j a b c d e f g i x y z w u v), h.2.1.tr k.2.1 (Nat.le_refl _), h.2.2.tr k.2.2⟩
theorem RG.sq (h : RG n0 F F') (hQ : SQ F K) : SQ F' K := fun i hi => by rw [h.2.2 220 (by omega)]; exact hQ i hi
theorem EZ.rf : EZ F F := ⟨fun _ _ _ _ => rfl, fun _ _ _ _ => rfl⟩
theorem EZ.tr {F1 : MF} (h : EZ F F1) (k : EZ F1 F') : EZ F F' := ⟨fun c x y z => (k.1 c x y z).trans (h.1 c x y z), fun j x y z => (k.2 j x y z).trans (h.2 j x y z)⟩
theorem EZ.rg (h : EZ F F') : RG n0 F F' := ⟨fun j _ _ c d e _ _ _ _ _ _ _ _ _ => h.2 j c d e, fun c i x y _ => by rw [h.1 c (by omega) (by omega) (by omega)], fun c hc => h.1 c (fun e => hc (Or.inl e)) (fun e => hc (by omega)) (fun e => hc (by omega))⟩
theorem EZ.cu (h : EZ F F') (k : CU F K n0 S C Fn U N) : CU F' K n0 S C Fn U N := k.cong (fun c i x y _ => by rw [h.1 c (by omega) (by omega) (by omega)]) (fun c i x y _ => by rw [h.1 c (by omega) (by omega) (by omega)]) (h.2 48 (by decide) (by decide) (by decide)) (h.2 49 (by decide) (by decide) (by decide))
theorem pel_up {q st : Int} : a + E.length ≤ (pel K a q st S C E Fn U).1 + (pel K a q st S C E Fn U).2.2.2.1.length := by
  unfold pel
  split
  · split
    · show a + E.length ≤ a + 2 + E.length
      omega
    · show a + E.length ≤ skS K (K.length - (a + 1)) (a + 1) + (E ++ _).length
      have := skS_ge K (K.length - (a + 1)) (a + 1)
      rw [List.length_append]
      omega
  · exact Nat.le_refl _
theorem pit_up (ha : a < K.length) : a + E.length < (pit K a C E Fn U).1 + (pit K a C E Fn U).2.2.2.1.length := by
  have bad : ∀ e, a ≤ e → a + E.length < skI K (K.length - e) e + (E ++ [((e : Int), (-1 : Int), (-1 : Int))]).length := fun e h => by
    have := skI_ge K (K.length - e) e
    rw [List.length_append, List.length_singleton]
    omega
  by_cases k3 : kn K a = 3
  · rw [pit_fn k3]
    have := fnh_le ha
    split
    · show a + E.length < (fnh K a).2.1 + 1 + E.length
      omega
    · exact bad _ (by omega)
  · unfold pit
    split
    · split
      · split
        · show a + E.length < a + 3 + E.length
          omega
        · exact bad _ (by omega)
      · exact bad _ (by omega)
    · exact bad a (Nat.le_refl _)
theorem pst_up {q st : Int} (hK : K.length ≤ 195) (ha : a ≤ K.length) : a + E.length < (pst K a q st S C E Fn U).1 + (pst K a q st S C E Fn U).2.2.2.1.length := by
  have pc : ∀ cl : Bool, a + E.length < (pcb K a cl q st S C E Fn U).1 + (pcb K a cl q st S C E Fn U).2.2.2.1.length := by
    intro cl
    have h0 : a + E.length < (if cl = true then a + 1 else a) + (if cl = true then E else E ++ [((a : Int), (-1 : Int), (-1 : Int))]).length := by
      cases cl with
      | true => show a + E.length < a + 1 + E.length; omega
      | false => show a + E.length < a + (E ++ _).length; rw [List.length_append, List.length_singleton]; omega
    rw [pcb_pc2]
    unfold pc2
    split
    · exact Nat.lt_of_lt_of_le h0 pel_up
    · split
      · exact Nat.lt_of_lt_of_le h0 pel_up
      · exact Nat.lt_of_lt_of_le h0 pel_up
  by_cases h13 : kn K a = 13
  · unfold pst
    rw [if_pos h13]
    exact pc true
  by_cases hb : bgn (kn K a) = true
  · unfold pst
    rw [if_neg h13, if_pos hb]
    exact pc false
  have hl : a < K.length := kn_lt (fun e => hb (by rw [e]; decide))
  have so := SO_sth (W := C ++ [mk 6 a 0]) hK hl
  unfold pst
  rw [if_neg h13, if_neg hb]
  split
  · show a + E.length < a + 1 + E.length
    omega
  · show a + E.length < (ite _ _ _ : PS).1 + (ite _ _ _ : PS).2.2.2.1.length
    have h1 := so.1
    have h4 := so.2.2.2
    split
    · show a + E.length < skS K (K.length - _) _ + (E ++ _).length
      have := skS_ge K (K.length - (sth K a (C ++ [mk 6 a 0])).2.1) (sth K a (C ++ [mk 6 a 0])).2.1
      rw [List.length_append, List.length_singleton]
      omega
    · next e =>
      have h5 := (h4 (by cases h : (sth K a (C ++ [mk 6 a 0])).1 with | true => rfl | false => exact absurd h e)).1
      split
      · show a + E.length < _ + 1 + E.length
        omega
      · split
        · show a + E.length < _ + E.length
          omega
        · show a + E.length < _ + E.length
          omega
theorem pstep_up {x : PS} (hK : K.length ≤ 195) (hx : x.1 ≤ K.length) (h1 : x.1 < K.length ∨ x.2.1 ≠ []) : x.1 + x.2.2.2.1.length < (pstep K x).1 + (pstep K x).2.2.2.1.length := by
  obtain ⟨a, S, C, E, Fn, U⟩ := x
  cases S with
  | nil =>
    rcases h1 with h1 | h1
    · exact pit_up h1
    · exact absurd rfl h1
  | cons y S =>
    obtain ⟨q, st⟩ := y
    exact pst_up hK hx
theorem pst_end {q st : Int} (hk : kn K a = 24) : (pst K a q st S C E Fn U).1 = a ∧ (pst K a q st S C E Fn U).2.1 = S := by
  have e : pst K a q st S C E Fn U = pc2 K a q st (-1) S (C ++ [mk 4 a 0]) (E ++ [((a : Int), -1, -1)]) Fn U := by
    unfold pst
    rw [if_neg (show ¬ kn K a = 13 by omega), if_pos (by rw [hk]; decide)]
    exact pcb_pc2
  rw [e]
  unfold pc2
  split
  · rw [pel_no (fun e => by have := e.2; omega)]
    exact ⟨rfl, rfl⟩
  · split
    · rw [pel_no (fun e => by have := e.2; omega)]
      exact ⟨rfl, rfl⟩
    · rw [pel_no (fun e => by have := e.2; omega)]
      exact ⟨rfl, rfl⟩
/-- a block is closed at END: no node changes -/
theorem l_243e {b i : Nat} (hS : St F) (h41 : F 201 41 = ((i + 1 : Nat) : Int)) (hi : i < 200) (hb : F 233 i = (b : Int)) (hbl : b < 1600) (h228 : F 228 b = -1) (h26 : F 201 26 = (a : Int)) (ha : a < 200) (hk : F 220 a = 24) :
    C_243 (-1) F (fun F' => (∀ c, c ≠ 201 → F' c = F c) ∧ (∀ j, j ≠ 41 → F' 201 j = F 201 j)) m_no := by
  have fin : ∀ F1, F1 = m_up (m_up F 201 41 (i : Int)) 228 b (-1) → (∀ c, c ≠ 201 → F1 c = F c) ∧ (∀ j, j ≠ 41 → F1 201 j = F 201 j) := by
    rintro F1 rfl
    refine ⟨fun c hc => funext fun j => ?_, fun j hj => by rw [u_ne (Or.inl (by decide)), u_ne (Or.inr hj)]⟩
    by_cases e : c = 228 ∧ j = b
    · rw [e.1, e.2, u_eq, h228]
    · rw [u_ne (by omega), u_ne (Or.inl hc)]
  refine c_243 hS ?_
  rw [h41, show ((i + 1 : Nat) : Int) - 1 = (i : Int) by omega, Int.toNat_natCast, hb, Int.toNat_natCast, h26, Int.toNat_natCast, hk]
  exact ⟨by omega, by omega, by omega, by omega, fun _ => ⟨by omega, fun e => absurd e (by decide), fun _ => fin _ rfl⟩, fun _ => fin _ rfl⟩
theorem l_245e {q st : Int} (hS : St F) (hQ : SQ F K) (hK : K.length ≤ 195) (hx : RS F K n0 N (a, (q, st) :: S, C, E, Fn, U)) (hP : PI K (a, (q, st) :: S, C, E, Fn, U)) (hn : n0 ≤ N) (hN : N ≤ n0 + 2 * a) (hn2 : n0 + 2 * K.length + 12 < 1600) (hk : kn K a = 24) :
    C_222 (a : Int) (-1) (-1) F (fun F1 => C_243 (-1) F1 (fun F' => RS F' K n0 N (pst K a q st S C E Fn U) ∧ EZ F F' ∧ F' 201 46 = F 201 46 ∧ F' 237 = F 237) m_no) m_no := by
  obtain ⟨h26, h27, h41, hE, -, hC⟩ := hx
  have hC := hC (by simp)
  change CU F K n0 ((q, st) :: S) C Fn U N at hC
  change F 201 26 = (a : Int) at h26
  change F 201 41 = (((q, st) :: S).length : Int) at h41
  change ErrM F E at hE
  have h41' : F 201 41 = ((S.length + 1 : Nat) : Int) := by rw [h41, List.length_cons]
  have hp3 : E.length + (S.length + 1) ≤ a := hP.2.2.1
  have ha : a ≤ K.length := hP.1
  refine CaV.on (s_222 hS hE (by omega)) ?_
  rintro F1 hS1 ⟨t1, t2, t3⟩
  have rf1 : RF n0 F F1 := ⟨fun j x1 x2 x3 x4 x5 x6 x7 x8 x9 x10 x11 x12 x13 => t2 j x3, fun c i x y z => by rw [t3 c (by omega)], fun c hc => t3 c (fun e => hc (by omega))⟩
  have hC1 : CU F1 K n0 ((q, st) :: S) C Fn U N := hC.cong (fun c i x y _ => by rw [t3 c (by omega)]) (fun c i x y _ => by rw [t3 c (by omega)]) (t2 48 (by decide)) (t2 49 (by decide))
  have e : pst K a q st S C E Fn U = pc2 K a q st (-1) S (C ++ [mk 4 a 0]) (E ++ [((a : Int), -1, -1)]) Fn U := by
    unfold pst
    rw [if_neg (show ¬ kn K a = 13 by omega), if_pos (by rw [hk]; decide)]
    exact pcb_pc2
  obtain ⟨b, hb, hbl, h228⟩ : ∃ b : Nat, F1 233 S.length = (b : Int) ∧ b < 1600 ∧ F1 228 b = -1 := by
    have hC2 := hC1
    obtain ⟨b, lo, C1, k, x, y, W, g1, g2, -⟩ := hC2
    have r := (SLq.rng Sme.rng _ _ _ _ _ _ _ g2).1
    have hlo := OB.low _ _ _ _ g1
    exact ⟨b, g1.1.1, by omega, g1.1.2.2.1⟩
  have A := s_243 (e := a) (cl := 0) (a2 := a) (x1 := (-1 : Int)) hS1 (rf1.sq hQ) hK ((t2 26 (by decide)).trans h26) (by omega) ((t2 27 (by decide)).trans h27) (by omega) ((t2 41 (by decide)).trans h41') (by omega) t1 (by rw [List.length_append]; simp only [List.length_cons, List.length_nil]; omega) hC1 hn (by decide) rfl
  have B := l_243e (a := a) hS1 ((t2 41 (by decide)).trans h41') (by omega) hb hbl h228 ((t2 26 (by decide)).trans h26) (by omega) (by rw [t3 220 (by decide), hQ a (by omega), hk])
  refine CaV.on (A.and B) ?_
  rintro F2 hS2 ⟨⟨u1, N', u2, u3, u4⟩, v1, v2⟩
  have eN : N' = N := by
    have := u4.2.1
    rw [v2 27 (by decide), t2 27 (by decide), h27] at this
    omega
  rw [eN] at u4
  rw [e]
  exact ⟨u4, ⟨fun c x y z => (v1 c x).trans (t3 c (by omega)), fun j x y z => (v2 j y).trans (t2 j x)⟩, (v2 46 (by decide)).trans (t2 46 (by decide)), (v1 237 (by decide)).trans (t3 237 (by decide))⟩
theorem RS.ez {x : PS} (h : RS F K n0 N x) (k : ∀ c, c ≠ 201 → c ≠ 237 → F' c = F c) (w : ∀ j, j ≠ 46 → F' 201 j = F 201 j) : RS F' K n0 N x := by
  obtain ⟨h1, h2, h3, h4, h5, h6⟩ := h
  exact ⟨(w 26 (by decide)).trans h1, (w 27 (by decide)).trans h2, (w 41 (by decide)).trans h3, h4.cong (w 37 (by decide)) (fun c x y => k c (by omega) (by omega)), fun e => (h5 e).cong (fun c i x y _ => by rw [k c (by omega) (by omega)]) (w 48 (by decide)) (w 49 (by decide)), fun e => (h6 e).cong (fun c i x y _ => by rw [k c (by omega) (by omega)]) (fun c i x y _ => by rw [k c (by omega) (by omega)]) (w 48 (by decide)) (w 49 (by decide))⟩
theorem s_245e {q st : Int} (hS : St F) (hQ : SQ F K) (hK : K.length ≤ 195) (hx : RS F K n0 N (a, (q, st) :: S, C, E, Fn, U)) (hP : PI K (a, (q, st) :: S, C, E, Fn, U)) (hn : n0 ≤ N) (hN : N ≤ n0 + 2 * a) (hn2 : n0 + 2 * K.length + 12 < 1600) (hk : kn K a = 24) :
    C_245 F (fun F' => RS F' K n0 N (pst K a q st S C E Fn U) ∧ EZ F F' ∧ F' 201 46 = (if F 201 46 = 0 then ((S.length + 1 : Nat) : Int) else F 201 46) ∧ (F 201 46 = 0 → ∀ k, k < S.length + 1 → F' 237 k = F 233 k) ∧ (F 201 46 ≠ 0 → F' 237 = F 237)) m_no := by
  have hp3 : E.length + (S.length + 1) ≤ a := hP.2.2.1
  have ha : a ≤ K.length := hP.1
  have h26 : F 201 26 = (a : Int) := hx.1
  have h41 : F 201 41 = ((S.length + 1 : Nat) : Int) := by have : F 201 41 = (((q, st) :: S).length : Int) := hx.2.2.1; rw [this, List.length_cons]
  refine c_245 hS ?_
  rw [h26, Int.toNat_natCast, hQ a (by omega), hk]
  refine ⟨by omega, fun e => absurd e (by decide), fun _ => ⟨fun _ => ⟨fun _ => ⟨fun e46 => ?_, fun e46 => ?_⟩, fun e => absurd rfl e⟩, fun e => absurd (show p_234 F 24 from Or.inr (Or.inr rfl)) e⟩⟩
  · have key : ∀ (d i : Nat) (G : MF), i + d = S.length + 1 → St G → (∀ c, c ≠ 201 → c ≠ 237 → G c = F c) → (∀ j, j ≠ 46 → G 201 j = F 201 j) → G 201 46 = ((S.length + 1 : Nat) : Int) → (∀ k, k < i → G 237 k = F 233 k) →
        L_245_69 (i : Int) G (fun F' => RS F' K n0 N (pst K a q st S C E Fn U) ∧ EZ F F' ∧ F' 201 46 = (if F 201 46 = 0 then ((S.length + 1 : Nat) : Int) else F 201 46) ∧ (F 201 46 = 0 → ∀ k, k < S.length + 1 → F' 237 k = F 233 k) ∧ (F 201 46 ≠ 0 → F' 237 = F 237)) m_no := by
      intro d
      induction d with
      | zero =>
        intro i G hi hG z w w46 hk2
        refine b_245_69 hG ⟨fun h => ?_, fun _ => ?_⟩
        · rw [w 41 (by decide), h41] at h; omega
        · rw [w 26 (by decide), h26]
          refine CaV.on (l_245e (F := G) hG (fun i hi => by rw [z 220 (by decide) (by decide)]; exact hQ i hi) hK (hx.ez z w) hP hn hN hn2 hk) ?_
          intro F1 hS1 h1
          refine CaV.on h1 ?_
          rintro F2 hS2 ⟨t1, t2, t3, t4⟩
          refine ⟨t1, ⟨fun c x y v => (t2.1 c x y v).trans (z c x y), fun j x y v => (t2.2 j x y v).trans (w j v)⟩, ?_, fun _ k hk3 => ?_, fun e => absurd e46 e⟩
          · rw [t3, w46, if_pos e46]
          · rw [t4]; exact hk2 k (by omega)
      | succ d ih =>
        intro i G hi hG z w w46 hk2
        refine b_245_69 hG ⟨fun _ => ⟨by omega, by omega, by omega, ?_⟩, fun h => absurd (by rw [w 41 (by decide), h41]; omega) h⟩
        rw [Int.toNat_natCast, show (i : Int) + 1 = ((i + 1 : Nat) : Int) by omega]
        refine ih (i + 1) _ (by omega) (hG.arr kd_237 (by decide)) (fun c x y => by rw [up_row y, z c x y]) (fun j hj => by rw [u_ne (Or.inl (by decide)), w j hj]) (by rw [u_ne (Or.inl (by decide)), w46]) (fun k hk3 => ?_)
        by_cases e : k = i
        · rw [e, u_eq, z 233 (by decide) (by decide)]
        · rw [u_ne (Or.inr e)]; exact hk2 k (by omega)
    rw [h41]
    exact key (S.length + 1) 0 _ (by omega) (hS.fld kd_201 rk_12_46) (fun c x _ => by rw [up_row x]) (fun j hj => by rw [u_ne (Or.inr hj)]) u_eq (fun k h => absurd h (Nat.not_lt_zero k))
  · refine CaV.on (l_245e hS hQ hK hx hP hn hN hn2 hk) ?_
    intro F1 hS1 h1
    refine CaV.on h1 ?_
    rintro F2 hS2 ⟨t1, t2, t3, t4⟩
    exact ⟨t1, t2, by rw [t3, if_neg e46], fun e => absurd e e46, fun _ => t4⟩
theorem l_246b (hQ : SQ F K) (hK : K.length ≤ 195) (hN : ∀ i, i < K.length → kn K i ≠ 24) (hn : n0 ≤ N) (hNl : N ≤ n0 + 2 * K.length) (hn2 : n0 + 2 * K.length + 12 < 1600) : ∀ (d : Nat) (x : PS) (G : MF), x.1 = K.length → PI K x → St G → RS G K n0 N x → EZ F G → G 201 46 ≠ 0 → 391 ≤ d + (x.1 + x.2.2.2.1.length) →
    L_246_30 G (fun F' => RS F' K n0 N (prun K d x) ∧ (prun K d x).2.1 = [] ∧ EZ F F' ∧ F' 201 46 = G 201 46 ∧ F' 237 = G 237) m_no := by
  intro d
  induction d with
  | zero =>
    intro x G ha hP hS hx hz h46 hf
    have := hP.2.2.1
    omega
  | succ d ih =>
    intro x G ha hP hS hx hz h46 hf
    obtain ⟨a, S, C, E, Fn, U⟩ := x
    change a = K.length at ha
    have hQG : SQ G K := fun i hi => by rw [hz.1 220 (by decide) (by decide) (by decide)]; exact hQ i hi
    have h26 : G 201 26 = (a : Int) := hx.1
    have hk : kn K a = 24 := kn_end (by omega)
    rw [prun_succ]
    cases S with
    | nil =>
      have h41 : G 201 41 = 0 := hx.2.2.1
      rw [if_neg (show ¬ (a < K.length ∨ ([] : List (Int × Int)) ≠ []) from fun h => by rcases h with h | h; omega; exact absurd rfl h)]
      refine b_246_30 hS ?_
      rw [h41, h26, Int.toNat_natCast, hQG a (by omega), hk]
      exact ⟨fun h => absurd h (by decide), fun _ => ⟨by omega, fun _ => ⟨hx, rfl, hz, rfl, rfl⟩, fun h => absurd rfl h⟩⟩
    | cons y S =>
      obtain ⟨q, st⟩ := y
      have h41 : G 201 41 = ((S.length + 1 : Nat) : Int) := by have : G 201 41 = (((q, st) :: S).length : Int) := hx.2.2.1; rw [this, List.length_cons]
      rw [if_pos (show a < K.length ∨ ((q, st) :: S) ≠ [] from Or.inr (by simp))]
      refine b_246_30 hS ?_
      rw [h41]
      refine ⟨fun _ => ⟨fun h => by omega, fun _ => ?_⟩, fun h => absurd (by omega) h⟩
      refine CaV.on (s_245e hS hQG hK hx hP hn (by omega) hn2 hk) ?_
      rintro F1 hS1 ⟨t1, t2, t3, -, t5⟩
      rw [if_neg h46] at t3
      have up := pstep_up (x := (a, (q, st) :: S, C, E, Fn, U)) hK (by show a ≤ K.length; omega) (Or.inr (by simp))
      have := ih (pst K a q st S C E Fn U) F1 (by rw [(pst_end hk).1]; exact ha) (PI_pst hK hP) hS1 t1 (hz.tr t2) (by rw [t3]; exact h46) (by
        change 391 ≤ d + 1 + (a + E.length) at hf
        change a + E.length < (pst K a q st S C E Fn U).1 + (pst K a q st S C E Fn U).2.2.2.1.length at up
        omega)
      refine EvV.mono this ?_ (fun _ _ _ h => h)
      rintro F' _ ⟨u1, u2, u3, u4, u5⟩
      exact ⟨u1, u2, u3, u4.trans t3, u5.trans (t5 h46)⟩
theorem l_246a (hQ : SQ F K) (hK : K.length ≤ 195) (hN : ∀ i, i < K.length → kn K i ≠ 24) (hn2 : n0 + 2 * K.length + 12 < 1600) : ∀ (d : Nat) (x : PS) (N : Nat) (G : MF), PI K x → St G → RG n0 F G → RS G K n0 N x → n0 ≤ N → N ≤ n0 + 2 * x.1 → G 201 46 = 0 → 391 ≤ d + (x.1 + x.2.2.2.1.length) →
    L_246_30 G (fun F' => RG n0 F F' ∧ ∃ N', n0 ≤ N' ∧ N' ≤ n0 + 2 * K.length ∧ RS F' K n0 N' (prun K d x) ∧ (prun K d x).2.1 = [] ∧ AE F' K n0 N' (pre K d x)) m_no := by
  intro d
  induction d with
  | zero =>
    intro x N G hP hS hz hx hn hNl h46 hf
    have := hP.2.2.1
    have := hP.1
    omega
  | succ d ih =>
    intro x N G hP hS hz hx hn hNl h46 hf
    obtain ⟨a, S, C, E, Fn, U⟩ := x
    have hQG : SQ G K := hz.sq hQ
    have h26 : G 201 26 = (a : Int) := hx.1
    have ha : a ≤ K.length := hP.1
    change N ≤ n0 + 2 * a at hNl
    have hE3 : E.length + S.length ≤ a := hP.2.2.1
    by_cases hl : a < K.length
    · have hka := hN a hl
      rw [prun_succ, if_pos (show a < K.length ∨ S ≠ [] from Or.inl hl)]
      have ep : pre K (d + 1) (a, S, C, E, Fn, U) = pre K d (pstep K (a, S, C, E, Fn, U)) := if_pos hl
      rw [ep]
      have up := pstep_up (x := (a, S, C, E, Fn, U)) hK ha (Or.inl hl)
      have hPn := PI_pstep hK hN hP (Or.inl hl)
      have go : ∀ F1, St F1 → RZ K n0 N a G (pstep K (a, S, C, E, Fn, U)) F1 → F1 201 46 = 0 → L_246_30 F1 (fun F' => RG n0 F F' ∧ ∃ N', n0 ≤ N' ∧ N' ≤ n0 + 2 * K.length ∧ RS F' K n0 N' (prun K d (pstep K (a, S, C, E, Fn, U))) ∧ (prun K d (pstep K (a, S, C, E, Fn, U))).2.1 = [] ∧ AE F' K n0 N' (pre K d (pstep K (a, S, C, E, Fn, U)))) m_no := by
        rintro F1 hS1 ⟨t1, N', t2, t3, t4⟩ t5
        refine ih _ N' F1 hPn hS1 (hz.tr t1.rg) t4 (by omega) (by omega) t5 ?_
        change 391 ≤ d + 1 + (a + E.length) at hf
        change a + E.length < (pstep K (a, S, C, E, Fn, U)).1 + (pstep K (a, S, C, E, Fn, U)).2.2.2.1.length at up
        omega
      cases S with
      | nil =>
        have h41 : G 201 41 = 0 := hx.2.2.1
        refine b_246_30 hS ?_
        rw [h41, h26, Int.toNat_natCast, hQG a (by omega)]
        refine ⟨fun h => absurd h (by decide), fun _ => ⟨by omega, fun h => absurd h hka, fun _ => ⟨fun _ => ?_, fun h => absurd rfl h⟩⟩⟩
        refine CaV.on (s_240 hS hQG hK hx (by omega) hn hNl hn2 hl) ?_
        intro F1 hS1 h1
        exact go F1 hS1 h1 ((h1.1.1 46 (by decide) (by decide) (by decide) (by decide) (by decide) (by decide) (by decide) (by decide) (by decide) (by decide) (by decide) (by decide) (by decide)).trans h46)
      | cons y S =>
        obtain ⟨q, st⟩ := y
        have h41 : G 201 41 = ((S.length + 1 : Nat) : Int) := by have : G 201 41 = (((q, st) :: S).length : Int) := hx.2.2.1; rw [this, List.length_cons]
        refine b_246_30 hS ?_
        rw [h41]
        refine ⟨fun _ => ⟨fun h => by omega, fun _ => ?_⟩, fun h => absurd (by omega) h⟩
        refine CaV.on (s_245 hS hQG hK hx hP hn hNl hn2 hka) ?_
        intro F1 hS1 h1
        exact go F1 hS1 h1 ((h1.1.1 46 (by decide) (by decide) (by decide) (by decide) (by decide) (by decide) (by decide) (by decide) (by decide) (by decide) (by decide) (by decide) (by decide)).trans h46)
    · have hk : kn K a = 24 := kn_end (by omega)
      have ep : pre K (d + 1) (a, S, C, E, Fn, U) = (a, S, C, E, Fn, U) := if_neg hl
      rw [ep, prun_succ]
      cases S with
      | nil =>
        have h41 : G 201 41 = 0 := hx.2.2.1
        rw [if_neg (show ¬ (a < K.length ∨ ([] : List (Int × Int)) ≠ []) from fun h => by rcases h with h | h; omega; exact absurd rfl h)]
        refine b_246_30 hS ?_
        rw [h41, h26, Int.toNat_natCast, hQG a (by omega), hk]
        exact ⟨fun h => absurd h (by decide), fun _ => ⟨by omega, fun _ => ⟨hz, N, hn, by omega, hx, rfl, fun _ => h46, fun h => absurd rfl h⟩, fun h => absurd rfl h⟩⟩
      | cons y S =>
        obtain ⟨q, st⟩ := y
        have h41 : G 201 41 = ((S.length + 1 : Nat) : Int) := by have : G 201 41 = (((q, st) :: S).length : Int) := hx.2.2.1; rw [this, List.length_cons]
        rw [if_pos (show a < K.length ∨ ((q, st) :: S) ≠ [] from Or.inr (by simp))]
        refine b_246_30 hS ?_
        rw [h41]
        refine ⟨fun _ => ⟨fun h => by omega, fun _ => ?_⟩, fun h => absurd (by omega) h⟩
        refine CaV.on (s_245e hS hQG hK hx hP hn hNl hn2 hk) ?_
        rintro F1 hS1 ⟨t1, t2, t3, t4, -⟩
        rw [if_pos h46] at t3
        have up := pstep_up (x := (a, (q, st) :: S, C, E, Fn, U)) hK ha (Or.inr (by simp))
        have := l_246b (F := F1) (N := N) ((hz.tr t2.rg).sq hQ) hK hN hn (by omega) hn2 d (pst K a q st S C E Fn U) F1 (by rw [(pst_end hk).1]; omega) (PI_pst hK hP) hS1 t1 EZ.rf (by omega) (by
          change 391 ≤ d + 1 + (a + E.length) at hf
          change a + E.length < (pst K a q st S C E Fn U).1 + (pst K a q st S C E Fn U).2.2.2.1.length at up
          omega)
        refine EvV.mono this ?_ (fun _ _ _ h => h)
        rintro F' _ ⟨u1, u2, u3, u4, u5⟩
        refine ⟨(hz.tr t2.rg).tr u3.rg, N, hn, by omega, u1, u2, fun h => absurd h (by simp), fun _ => ⟨?_, fun k hk3 => ?_, (t2.tr u3).cu (hx.2.2.2.2.2 (by simp))⟩⟩
        · rw [u4, t3]
          show ((S.length + 1 : Nat) : Int) = (((q, st) :: S).length : Int)
          rw [List.length_cons]
        · rw [List.length_cons] at hk3
          rw [u5, (t2.tr u3).1 233 (by decide) (by decide) (by decide)]
          exact t4 h46 k hk3
/-- what the reading of a row of classes leaves -/
def RdM (F : MF) (K : List Int) (n0 N : Nat) : Prop := RS F K n0 N (prs K) ∧ (prs K).2.1 = [] ∧ AE F K n0 N (pre K 600 (0, [], [], [], [], []))
theorem s_246 (hS : St F) (hQ : SQ F K) (hK : K.length ≤ 195) (hN : ∀ i, i < K.length → kn K i ≠ 24) (hn2 : n0 + 2 * K.length + 12 < 1600) (h27 : F 201 27 = (n0 : Int)) :
    C_246 F (fun F' => RG n0 F F' ∧ ∃ N', n0 ≤ N' ∧ N' ≤ n0 + 2 * K.length ∧ RdM F' K n0 N') m_no := by
  refine c_246 hS ?_
  obtain ⟨G, hG⟩ : ∃ G, G = m_up (m_up (m_up (m_up (m_up (m_up F 201 26 0) 201 41 0) 201 46 0) 201 48 (-1)) 201 49 (-1)) 201 37 0 := ⟨_, rfl⟩
  rw [← hG]
  have hSG : St G := by
    rw [hG]
    exact (((((hS.fld kd_201 rk_12_26).fld kd_201 rk_12_41).fld kd_201 rk_12_46).fld kd_201 rk_12_48).fld kd_201 rk_12_49).fld kd_201 rk_12_37
  have z : ∀ c, c ≠ 201 → G c = F c := fun c hc => by rw [hG, up_row hc, up_row hc, up_row hc, up_row hc, up_row hc, up_row hc]
  have w : ∀ j, j ≠ 26 → j ≠ 37 → j ≠ 41 → j ≠ 46 → j ≠ 48 → j ≠ 49 → G 201 j = F 201 j := fun j a b c d e f => by rw [hG, u_ne (Or.inr b), u_ne (Or.inr f), u_ne (Or.inr e), u_ne (Or.inr d), u_ne (Or.inr c), u_ne (Or.inr a)]
  have w26 : G 201 26 = 0 := by rw [hG, u_ne (Or.inr (by decide)), u_ne (Or.inr (by decide)), u_ne (Or.inr (by decide)), u_ne (Or.inr (by decide)), u_ne (Or.inr (by decide)), u_eq]
  have w41 : G 201 41 = 0 := by rw [hG, u_ne (Or.inr (by decide)), u_ne (Or.inr (by decide)), u_ne (Or.inr (by decide)), u_ne (Or.inr (by decide)), u_eq]
  have w46 : G 201 46 = 0 := by rw [hG, u_ne (Or.inr (by decide)), u_ne (Or.inr (by decide)), u_ne (Or.inr (by decide)), u_eq]
  have w48 : G 201 48 = -1 := by rw [hG, u_ne (Or.inr (by decide)), u_ne (Or.inr (by decide)), u_eq]
  have w49 : G 201 49 = -1 := by rw [hG, u_ne (Or.inr (by decide)), u_eq]
  have w37 : G 201 37 = 0 := by rw [hG, u_eq]
  have hx : RS G K n0 n0 (0, [], [], [], [], []) := ⟨w26, (w 27 (by decide) (by decide) (by decide) (by decide) (by decide) (by decide)).trans h27, w41, ⟨w37, fun i hi => absurd hi (Nat.not_lt_zero i), fun i hi => absurd hi (Nat.not_lt_zero i), fun i hi => absurd hi (Nat.not_lt_zero i)⟩, fun _ => ⟨0, -1, -1, ⟨Nat.le_refl _, rfl, rfl, rfl, rfl, rfl⟩, w48, w49, fun h => absurd rfl h⟩, fun h => absurd rfl h⟩
  have rg : RG n0 F G := ⟨fun j a b c d e f g _ _ _ _ _ _ _ => w j a c d e f g, fun c i x y _ => by rw [z c (by omega)], fun c hc => z c (fun e => hc (Or.inl e))⟩
  refine EvV.mono (l_246a hQ hK hN hn2 600 (0, [], [], [], [], []) n0 G PI_0 hSG rg hx (Nat.le_refl _) (by show n0 ≤ n0 + 2 * 0; omega) w46 (by show 391 ≤ 600 + (0 + 0); omega)) ?_ (fun _ _ _ h => h)
  rintro F' _ ⟨t1, N', t2, t3, t4, t5, t6⟩
  exact ⟨t1, N', t2, t3, t4, t5, t6⟩
/-- the row of classes is laid -/
theorem l_247 {f m : Nat} (hf : f < 3) (hm : m ≤ 192) : ∀ (d i : Nat) (G : MF), i + d = m → St G → (∀ c, c ≠ 220 → G c = F c) → (∀ j, j < i → G 220 j = F 213 (200 * f + j)) →
    L_247_2 (f : Int) (m : Int) (i : Int) G (fun F' => (∀ c, c ≠ 220 → c ≠ 201 → F' c = F c) ∧ (∀ j, j ≠ 25 → F' 201 j = F 201 j) ∧ F' 201 25 = (m : Int) ∧ (∀ j, j < m → F' 220 j = F 213 (200 * f + j)) ∧ ∀ j, m ≤ j → j < m + 3 → F' 220 j = 24) m_no := by
  intro d
  induction d with
  | zero =>
    intro i G hi hS hz hk
    obtain rfl : i = m := by omega
    refine b_247_2 hS ⟨fun h => absurd h (by omega), fun _ => ⟨by omega, by omega, by omega, by omega, by omega, ?_⟩⟩
    rw [show (i : Int) + 1 = ((i + 1 : Nat) : Int) by omega, show (i : Int) + 2 = ((i + 2 : Nat) : Int) by omega, Int.toNat_natCast, Int.toNat_natCast, Int.toNat_natCast]
    refine ⟨fun c h1 h2 => by rw [up_row h2, up_row h1, up_row h1, up_row h1, hz c h1], fun j hj => by rw [u_ne (Or.inr hj), u_ne (Or.inl (by decide)), u_ne (Or.inl (by decide)), u_ne (Or.inl (by decide)), hz 201 (by decide)], u_eq, fun j hj => ?_, fun j h1 h2 => ?_⟩
    · rw [u_ne (by omega), u_ne (by omega), u_ne (by omega), u_ne (by omega)]
      exact hk j hj
    · rw [u_ne (by omega)]
      by_cases e2 : j = i + 2
      · rw [e2, u_eq]
      · rw [u_ne (Or.inr e2)]
        by_cases e1 : j = i + 1
        · rw [e1, u_eq]
        · rw [u_ne (Or.inr e1), show j = i by omega, u_eq]
  | succ d ih =>
    intro i G hi hS hz hk
    refine b_247_2 hS ⟨fun _ => ⟨by omega, by omega, by omega, by omega, by omega, ?_⟩, fun h => absurd (by omega) h⟩
    rw [show (200 * (f : Int)) + (i : Int) = ((200 * f + i : Nat) : Int) by omega, Int.toNat_natCast, Int.toNat_natCast, show (i : Int) + 1 = ((i + 1 : Nat) : Int) by omega, hz 213 (by decide)]
    refine ih (i + 1) _ (by omega) (hS.arr kd_220 (by decide)) (fun c hc => by rw [up_row hc, hz c hc]) (fun j hj => ?_)
    by_cases e : j = i
    · rw [e, u_eq]
    · rw [u_ne (Or.inr e)]; exact hk j (by omega)
theorem s_247 {f m : Nat} (hS : St F) (hf : f < 3) (hm : m ≤ 192) :
    C_247 (f : Int) (m : Int) F (fun F' => (∀ c, c ≠ 220 → c ≠ 201 → F' c = F c) ∧ (∀ j, j ≠ 25 → F' 201 j = F 201 j) ∧ F' 201 25 = (m : Int) ∧ (∀ j, j < m → F' 220 j = F 213 (200 * f + j)) ∧ ∀ j, m ≤ j → j < m + 3 → F' 220 j = 24) m_no :=
  c_247 hS (l_247 hf hm m 0 F (by omega) hS (fun _ _ => rfl) (fun j h => absurd h (Nat.not_lt_zero j)))
end M9g
