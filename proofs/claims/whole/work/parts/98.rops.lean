/-! READING, OF THE REFERENCE: errors told, statements added, blocks opened -/
def ErrM (F : MF) (E : EE) : Prop := F 201 37 = (E.length : Int) ∧ AL (F 230) (E.map (fun e => e.1)) ∧ AL (F 231) (E.map (fun e => e.2.1)) ∧ AL (F 232) (E.map (fun e => e.2.2))
/-- the innermost open block and what is in it -/
def CU (F : MF) (K : List Int) (n0 : Nat) (S : List (Int × Int)) (C : List Int) (Fn : FF) (U : List Int) (N : Nat) : Prop :=
  ∃ (b lo : Nat) (C1 : List Int) (k : Nat) (x y : Int) (W : List Int), OB F K n0 Fn U S b lo C1 ∧ SLq (Sme F K) F b k lo N C1.length x y W ∧ F 224 b = x ∧ F 234 (S.length - 1) = y ∧ (y ≠ -1 → F 227 y.toNat = -1) ∧ C = C1 ++ W
/-- the items, where no block is open -/
def CIt (F : MF) (K : List Int) (n0 : Nat) (C : List Int) (Fn : FF) (U : List Int) (N : Nat) : Prop :=
  ∃ (k : Nat) (x y : Int), IL F K n0 k N x y C Fn U ∧ F 201 48 = x ∧ F 201 49 = y ∧ (y ≠ -1 → F 227 y.toNat = -1)
section M98
variable {F F' : MF} {K : List Int} {n0 N a : Nat} {S : List (Int × Int)} {C : List Int} {E : EE} {Fn : FF} {U : List Int}
theorem CU.rng (h : CU F K n0 S C Fn U N) : S ≠ [] ∧ 0 < N := by
  obtain ⟨b, lo, C1, k, x, y, W, h1, h2, -⟩ := h
  have := (SLq.rng Sme.rng _ _ _ _ _ _ _ h2).1
  have := OB.low _ _ _ _ h1
  exact ⟨OB.ne _ _ _ _ h1, by omega⟩
theorem CU.cong (h : CU F K n0 S C Fn U N) (h1 : Agf F F' N) (h2 : ∀ c i, 233 ≤ c → c ≤ 236 → i < S.length → F' c i = F c i) (h3 : F' 201 48 = F 201 48) (h4 : F' 201 49 = F 201 49) : CU F' K n0 S C Fn U N := by
  have hne := h.rng.1
  obtain ⟨b, lo, C1, k, x, y, W, g1, g2, g3, g4, g5, g6⟩ := h
  have r := SLq.rng Sme.rng _ _ _ _ _ _ _ g2
  have el := OB.low _ _ _ _ g1
  have hpos : 0 < S.length := List.length_pos_iff.mpr hne
  refine ⟨b, lo, C1, k, x, y, W, OB.cong _ _ _ _ g1 (fun c i x y z _ => h1 c i x y (by omega)) (fun c i x y z _ => h2 c i x y z) h3 h4, SLq.cong Sme.rng Sme.cong _ _ _ _ _ _ _ g2 (fun c i x y _ z _ => h1 c i x y z), (h1 224 b (by decide) (by decide) (by omega)).trans g3, (h2 234 _ (by decide) (by decide) (by omega)).trans g4, fun hy => ?_, g6⟩
  rw [h1 227 y.toNat (by decide) (by decide) (by omega)]
  exact g5 hy
theorem CU.wid {M : Nat} (h : CU F K n0 S C Fn U N) (hM : N ≤ M) : CU F K n0 S C Fn U M := by
  obtain ⟨b, lo, C1, k, x, y, W, g1, g2, g3⟩ := h
  exact ⟨b, lo, C1, k, x, y, W, g1, g2.hi_le Sme.wid hM, g3⟩
theorem CIt.cong (h : CIt F K n0 C Fn U N) (h1 : Agf F F' N) (h3 : F' 201 48 = F 201 48) (h4 : F' 201 49 = F 201 49) : CIt F' K n0 C Fn U N := by
  obtain ⟨k, x, y, g1, g2, g3, g4⟩ := h
  have r := IL.rng _ _ _ _ _ _ _ g1
  refine ⟨k, x, y, IL.cong _ _ _ _ _ _ _ g1 (fun c i x y _ z _ => h1 c i x y z), h3.trans g2, h4.trans g3, fun hy => ?_⟩
  rw [h1 227 y.toNat (by decide) (by decide) (by omega)]
  exact g4 hy
theorem IL.wid {k M : Nat} {x y : Int} (h : IL F K n0 k N x y C Fn U) (hM : N ≤ M) : IL F K n0 k M x y C Fn U := by
  cases k with
  | zero => exact ⟨by have := h.1; omega, h.2⟩
  | succ k =>
    obtain ⟨m, v, x', y', C', W, Fn', U', h1, h2, h3, h4, h5, h6, h7⟩ := h
    refine ⟨m, v, x', y', C', W, Fn', U', h1, h2, h3, h4, by omega, h6, ?_⟩
    rcases h7 with h7 | ⟨p, n, b, W1, e1, e2, e3, e4, e5, e6, e7, e8⟩
    · exact Or.inl h7
    · exact Or.inr ⟨p, n, b, W1, e1, e2, e3, e4, e5, e6, e7.hi_le Sme.wid hM, e8⟩
theorem CIt.wid {M : Nat} (h : CIt F K n0 C Fn U N) (hM : N ≤ M) : CIt F K n0 C Fn U M := by
  obtain ⟨k, x, y, g1, g2⟩ := h
  exact ⟨k, x, y, g1.wid hM, g2⟩
theorem OB.nle : ∀ (S : List (Int × Int)) (b lo : Nat) (C : List Int), OB F K n0 Fn U S b lo C → n0 ≤ b := by
  intro S
  induction S with
  | nil => intro b lo C h; exact absurd h (fun h => h)
  | cons x S ih =>
    obtain ⟨q, st⟩ := x
    rintro b lo C ⟨-, h⟩
    have pd : ∀ m v C2, PD (OB F K n0 Fn U S) F K (S.length - 1) m v C2 → n0 ≤ m ∧ m ≤ v := by
      rintro m v C2 ⟨b0, lo0, C0, k, x, y, W, g1, g2, g3, g4, -⟩
      have := ih _ _ _ g1
      omega
    rcases h with ⟨e1, e2, e3, k, m, v, p, n, t, x, y, C1, Fn1, g1, g2, g3, g4, g5, -⟩ | ⟨e1, e2, m, a, C2, e3, -⟩ | ⟨e1, e2, m, v, a, t, C2, We, e3, e4, e5, e6, e7, e8, e9, e10, e11, e12, e13, -⟩ | ⟨e1, e2, m, v, a, t, b1, m2, p, C2, We, W1, e3, e4, e5, e6, e7, e8, e9, e10, e11, e12, e13, -⟩
    · have := (IL.rng _ _ _ _ _ _ _ g1).1
      omega
    · have := pd _ _ _ e3
      omega
    · have := pd _ _ _ e3
      omega
    · have := pd _ _ _ e3
      have := e12.rng Sme.rng
      omega
theorem s_222 {x1 x2 x3 : Int} (hS : St F) (h : ErrM F E) (hl : E.length < 600) : C_222 x1 x2 x3 F (fun F' => ErrM F' (E ++ [(x1, x2, x3)]) ∧ (∀ j, j ≠ 37 → F' 201 j = F 201 j) ∧ fr (fun c => c = 201 ∨ (230 ≤ c ∧ c ≤ 232)) F F') m_no := by
  obtain ⟨h1, h2, h3, h4⟩ := h
  have hm : ∀ g : Int × Int × Int → Int, (E ++ [(x1, x2, x3)]).map g = E.map g ++ [g (x1, x2, x3)] := fun g => by rw [List.map_append]; rfl
  refine c_222 hS ?_
  rw [h1, Int.toNat_natCast]
  refine ⟨by omega, by omega, by omega, by omega, ⟨?_, ?_, ?_, ?_⟩, fun j hj => ?_, (((fr.rf.up (Or.inr ⟨by decide, by decide⟩)).up (Or.inr ⟨by decide, by decide⟩)).up (Or.inr ⟨by decide, by decide⟩)).up (Or.inl rfl)⟩
  · rw [u_eq, List.length_append, List.length_singleton]; omega
  · rw [hm, up_row (by decide), up_row (by decide), up_row (by decide)]
    have := h2.up (F := F) (x := x1)
    rwa [List.length_map] at this
  · rw [hm, up_row (by decide), up_row (by decide)]
    have : AL (m_up F 230 E.length x1 231) (E.map (fun e => e.2.1)) := by rw [up_row (by decide)]; exact h3
    have := this.up (x := x2)
    rwa [List.length_map] at this
  · rw [hm, up_row (by decide)]
    have : AL (m_up (m_up F 230 E.length x1) 231 E.length x2 232) (E.map (fun e => e.2.2)) := by rw [up_row (by decide), up_row (by decide)]; exact h4
    have := this.up (x := x3)
    rwa [List.length_map] at this
  · rw [u_ne (Or.inr hj), u_ne (by omega), u_ne (by omega), u_ne (by omega)]
/-- a statement is linked in -/
theorem s_238 {v m : Nat} (hS : St F) (h : CU F K n0 S C Fn U m) (h41 : F 201 41 = (S.length : Int)) (hm : m ≤ v) (hv : v < 1600) (h227 : F 227 v = -1) (hSl : S.length < 200) :
    C_238 (v : Int) F (fun F' => PD (OB F' K n0 Fn U S) F' K (S.length - 1) m v C ∧ (∀ j, F' 201 j = F 201 j) ∧ (∀ c i, 221 ≤ c → c ≤ 229 → m ≤ i → ¬ (c = 229 ∧ i = v) → F' c i = F c i) ∧ (∀ c i, 233 ≤ c → c ≤ 236 → ¬ (c = 234 ∧ i + 1 = S.length) → F' c i = F c i) ∧ Agf F F' n0 ∧ fr (fun c => (221 ≤ c ∧ c ≤ 229) ∨ c = 234) F F') m_no := by
  have hne := h.rng.1
  have hpos : 0 < S.length := List.length_pos_iff.mpr hne
  obtain ⟨b, lo, C1, k, x, y, W, g1, g2, g3, g4, g5, rfl⟩ := h
  have r := SLq.rng Sme.rng _ _ _ _ _ _ _ g2
  have el := OB.low _ _ _ _ g1
  have hb0 := OB.nle _ _ _ _ g1
  have b233 : F 233 (S.length - 1) = (b : Int) := by
    cases S with
    | nil => exact absurd rfl hne
    | cons z S =>
      obtain ⟨q, st⟩ := z
      obtain ⟨⟨e1, -⟩, -⟩ := g1
      rw [List.length_cons, Nat.add_sub_cancel]
      exact e1
  -- what a run leaves
  have fin : ∀ F1 : MF, (∀ c i, ¬ (c = 229 ∧ i = v) → ¬ (c = 224 ∧ i = b ∧ k = 0) → ¬ (c = 227 ∧ (i : Int) = y ∧ 0 < k) → ¬ (c = 234 ∧ i + 1 = S.length) → F1 c i = F c i) → F1 229 v = (b : Int) → F1 234 (S.length - 1) = (v : Int) → (k = 0 → F1 224 b = (v : Int)) → (0 < k → F1 227 y.toNat = (v : Int)) →
      PD (OB F1 K n0 Fn U S) F1 K (S.length - 1) m v (C1 ++ W) ∧ (∀ j, F1 201 j = F 201 j) ∧ (∀ c i, 221 ≤ c → c ≤ 229 → m ≤ i → ¬ (c = 229 ∧ i = v) → F1 c i = F c i) ∧ (∀ c i, 233 ≤ c → c ≤ 236 → ¬ (c = 234 ∧ i + 1 = S.length) → F1 c i = F c i) ∧ Agf F F1 n0 ∧ fr (fun c => (221 ≤ c ∧ c ≤ 229) ∨ c = 234) F F1 := by
    intro F1 z z1 z2 z3 z4
    refine ⟨⟨b, lo, C1, k, x, y, W, OB.cong _ _ _ _ g1 (fun c i p q s t => z c i (by omega) (by omega) (by omega) (by omega)) (fun c i p q s t => z c i (by omega) (by omega) (by omega) t) (z 201 48 (by omega) (by omega) (by omega) (by omega)) (z 201 49 (by omega) (by omega) (by omega) (by omega)), SLq.cong Sme.rng Sme.cong _ _ _ _ _ _ _ g2 (fun c i p q s t u => z c i (by omega) (by omega) (by omega) (by omega)), by omega, hm, z2, ?_, ?_, z1, rfl⟩, fun j => z 201 j (by omega) (by omega) (by omega) (by omega), fun c i p q s t => z c i (by omega) (by omega) (by omega) (by omega), fun c i p q s => z c i (by omega) (by omega) (by omega) s, fun c i p q s => z c i (by omega) (by omega) (by omega) (by omega), fun c hc => funext fun i => z c i (fun e => hc (by omega)) (fun e => hc (by omega)) (fun e => hc (by omega)) (fun e => hc (by omega))⟩
    · unfold Lk
      by_cases e : k = 0
      · rw [if_pos e]; exact z3 e
      · rw [if_neg e]; exact ⟨(z 224 b (by omega) (by omega) (by omega) (by omega)).trans g3, z4 (by omega)⟩
    · rw [z 227 v (by omega) (by omega) (by omega) (by omega)]; exact h227
  refine c_238 hS ?_
  rw [h41, show (S.length : Int) - 1 = ((S.length - 1 : Nat) : Int) by omega, Int.toNat_natCast, Int.toNat_natCast, b233, g4, Int.toNat_natCast]
  refine ⟨by omega, by omega, by omega, by omega, by omega, fun ey => ⟨by omega, by omega, by omega, ?_⟩, fun ey => ⟨by omega, by omega, by omega, by omega, by omega, ?_⟩⟩
  · have ek : k = 0 := by omega
    refine fin _ (fun c i p q s t => ?_) ?_ ?_ (fun _ => ?_) (fun h => by omega)
    · rw [u_ne (by omega), u_ne (by omega), u_ne (by omega)]
    · rw [u_ne (by omega), u_ne (by omega), u_eq]
    · rw [u_eq]
    · rw [u_ne (by omega), u_eq]
  · have ek : 0 < k := by omega
    refine fin _ (fun c i p q s t => ?_) ?_ ?_ (fun h => by omega) (fun _ => ?_)
    · rw [u_ne (by omega), u_ne (by omega), u_ne (by omega)]
    · rw [u_ne (by omega), u_ne (by omega), u_eq]
    · rw [u_eq]
    · rw [u_ne (by omega), u_eq]
/-- a statement is done -/
theorem PD.done {m v c : Nat} {W2 : List Int} (h : PD (OB F K n0 Fn U S) F K (S.length - 1) m v C) (hW : Sme F K m N c v W2) (hc : c = C.length) : CU F K n0 S (C ++ W2) Fn U N := by
  subst hc
  obtain ⟨b, lo, C1, k, x, y, W, g1, g2, g3, g4, g5, g6, g7, g8, rfl⟩ := h
  rw [List.length_append] at hW
  refine ⟨b, lo, C1, k + 1, F 224 b, (v : Int), W ++ W2, g1, ⟨m, v, x, y, W, W2, g2, rfl, hW, g8, rfl, ?_⟩, rfl, g5, fun _ => by rw [Int.toNat_natCast]; exact g7, by rw [List.append_assoc]⟩
  unfold Lk at g6
  by_cases e : k = 0
  · rw [if_pos e] at g6 ⊢; exact g6
  · rw [if_neg e] at g6 ⊢; exact g6
/-- tokens are skipped behind an error in a statement -/
theorem skS_succ {d j : Nat} : skS K (d + 1) j = if stp (kn K j) = true then (if kn K j = 15 then j + 1 else j) else skS K d (j + 1) := rfl
theorem l_241 {R : MF → Prop} (hQ : ∀ i, i < K.length + 3 → F 220 i = kn K i) (hK : K.length ≤ 195) : ∀ (d j : Nat) (G : MF), St G → (∀ c, c ≠ 201 → G c = F c) → (∀ i, i ≠ 26 → G 201 i = F 201 i) → G 201 26 = (j : Int) → j + d = K.length →
    (∀ G', St G' → (∀ c, c ≠ 201 → G' c = F c) → (∀ i, i ≠ 26 → G' 201 i = F 201 i) → G' 201 26 = ((skS K d j : Nat) : Int) → R G') → L_241_0 G R m_no := by
  intro d
  induction d with
  | zero =>
    intro j G hG z w h26 hd hR
    have hj : j = K.length := by omega
    have ek : kn K j = 24 := kn_end (by omega)
    refine b_241_0 hG ?_
    rw [h26, Int.toNat_natCast, z 220 (by decide), hQ j (by omega), ek]
    refine ⟨by omega, fun e => absurd e (by decide), fun _ => ⟨by omega, fun e => absurd e (by decide), fun _ => ⟨by omega, fun e => absurd e (by decide), fun _ => ⟨by omega, fun _ => ?_, fun e => absurd (show p_234 F 24 from Or.inr (Or.inr rfl)) e⟩⟩⟩⟩
    refine b_241_70 hG ?_
    rw [h26, Int.toNat_natCast, z 220 (by decide), hQ j (by omega), ek]
    refine ⟨by omega, fun e => absurd e (by decide), fun _ => ⟨by omega, hR _ (hG.fld kd_201 rk_12_26) (fun c hc => by rw [up_row hc, z c hc]) (fun i hi => by rw [u_ne (Or.inr hi), w i hi]) ?_⟩⟩
    rw [u_eq]
    show (j : Int) + 0 = ((j : Nat) : Int)
    omega
  | succ d ih =>
    intro j G hG z w h26 hd hR
    rw [skS_succ] at hR
    have fin : stp (kn K j) = true → L_241_70 G R m_no := by
      intro hs
      rw [if_pos hs] at hR
      refine b_241_70 hG ?_
      rw [h26, Int.toNat_natCast, z 220 (by decide), hQ j (by omega)]
      refine ⟨by omega, fun e => ⟨by omega, ?_⟩, fun e => ⟨by omega, ?_⟩⟩
      · rw [if_pos e] at hR
        exact hR _ (hG.fld kd_201 rk_12_26) (fun c hc => by rw [up_row hc, z c hc]) (fun i hi => by rw [u_ne (Or.inr hi), w i hi]) (by rw [u_eq]; omega)
      · rw [if_neg e] at hR
        exact hR _ (hG.fld kd_201 rk_12_26) (fun c hc => by rw [up_row hc, z c hc]) (fun i hi => by rw [u_ne (Or.inr hi), w i hi]) (by rw [u_eq]; omega)
    have es : stp (kn K j) = true ↔ (kn K j = 15 ∨ kn K j = 12 ∨ kn K j = 13) ∨ (kn K j = 3 ∨ kn K j = 2 ∨ kn K j = 24) := by
      unfold stp bgn
      rw [Bool.or_eq_true, decide_eq_true_iff, decide_eq_true_iff]
    refine b_241_0 hG ?_
    rw [h26, Int.toNat_natCast, z 220 (by decide), hQ j (by omega)]
    refine ⟨by omega, fun e => fin (es.mpr (Or.inl (Or.inl e))), fun e1 => ⟨by omega, fun e => fin (es.mpr (Or.inl (Or.inr (Or.inl e)))), fun e2 => ⟨by omega, fun e => fin (es.mpr (Or.inl (Or.inr (Or.inr e)))), fun e3 => ⟨by omega, fun e => fin (es.mpr (Or.inr e)), fun e4 => ⟨by omega, ?_⟩⟩⟩⟩⟩
    have hns : ¬ stp (kn K j) = true := fun hs => by
      rcases es.mp hs with h | h
      · omega
      · exact e4 h
    rw [if_neg hns] at hR
    exact ih (j + 1) _ (hG.fld kd_201 rk_12_26) (fun c hc => by rw [up_row hc, z c hc]) (fun i hi => by rw [u_ne (Or.inr hi), w i hi]) (by rw [u_eq]; omega) (by omega) hR
theorem s_241 (hS : St F) (hQ : SQ F K) (hK : K.length ≤ 195) (h26 : F 201 26 = (a : Int)) (ha : a ≤ K.length) : C_241 F (fun F' => (∀ c, c ≠ 201 → F' c = F c) ∧ (∀ i, i ≠ 26 → F' 201 i = F 201 i) ∧ F' 201 26 = ((skS K (K.length - a) a : Nat) : Int)) m_no :=
  c_241 hS (l_241 hQ hK (K.length - a) a F hS (fun _ _ => rfl) (fun _ _ => rfl) h26 (by omega) (fun G' _ h1 h2 h3 => ⟨h1, h2, h3⟩))
end M98
