/-! THE READER OF THE CLASS: items -/
def wtk (k : Int) : Nat := if k = 2 then 3 else 1
/-- how many chars some tokens have at least -/
def wts (K : List Int) : Nat → Nat
  | 0 => 0
  | a + 1 => wts K a + wtk (kn K a)
theorem wts_mo {K : List Int} {a : Nat} : ∀ d, wts K a + d ≤ wts K (a + d) := by
  intro d
  induction d with
  | zero => exact Nat.le_refl _
  | succ d ih =>
    show _ ≤ wts K (a + d) + wtk (kn K (a + d))
    unfold wtk
    split <;> omega
def pns : List (Int × Int) → Nat
  | [] => 0
  | (b, _) :: r => (if b = 0 then 2 else 1) + pns r
def W32 (C : List Int) : Prop := ∀ k, k < C.length → 0 ≤ gx C k ∧ gx C k < 2147483648
/-- bounds that hold while a file is read -/
def PI (K : List Int) (x : PS) : Prop := x.1 ≤ K.length ∧ x.2.2.1.length + pns x.2.1 ≤ 3 * x.1 ∧ x.2.2.2.1.length + x.2.1.length ≤ x.1 ∧ 5 * x.2.2.2.2.1.length ≤ x.1 ∧ 5 * x.2.2.2.2.2.length ≤ wts K x.1 ∧ W32 x.2.2.1
def RCp (F : MF) (n t b : Nat) (K : List Int) (x : PS) : Prop := RC F n t b K x.1 x.2.1 x.2.2.1 x.2.2.2.1 x.2.2.2.2.1 x.2.2.2.2.2
theorem skI_ge (K : List Int) : ∀ d j, j ≤ skI K d j := by
  intro d
  induction d with
  | zero => intro j; exact Nat.le_refl _
  | succ d ih =>
    intro j
    unfold skI
    split
    · exact Nat.le_refl _
    · have := ih (j + 1)
      omega
theorem skI_le (K : List Int) : ∀ d j, skI K d j ≤ j + d := by
  intro d
  induction d with
  | zero => intro j; exact Nat.le_refl _
  | succ d ih =>
    intro j
    unfold skI
    split
    · omega
    · have := ih (j + 1)
      omega
theorem skS_le (K : List Int) : ∀ d j, skS K d j ≤ j + d := by
  intro d
  induction d with
  | zero => intro j; exact Nat.le_refl _
  | succ d ih =>
    intro j
    unfold skS
    split
    · split <;> omega
    · have := ih (j + 1)
      omega
section M65
variable {F : MF} {n t b z a : Nat} {K : List Int} {S : List (Int × Int)} {C : List Int} {E : EE} {Fn : FF} {U : List Int}
theorem fr_n2 {v : Int} : fr (RP n t) F (m_up F n 2 v) := fr.rf.up (Or.inl rfl)
theorem s_63 (hX : RX n t b z K) (hS : St F) (h : RC F n t b K a [] C E Fn U) (ha : a ≤ K.length) (hk : kn K a = 2) (hC : C.length < 640) (hU : U.length < 40) :
    C_63 n F (fun v F' => fr (RP n t) F F' ∧ (if kn K (a + 1) = 0 ∧ kn K (a + 2) = 15 then v = 1 ∧ RC F' n t b K (a + 3) [] (C ++ [mk 1 (a + 1) 0]) E Fn (U ++ [((a + 1 : Nat) : Int)])
      else v = 0 ∧ RC F' n t b K (if kn K (a + 1) = 0 then a + 2 else a + 1) [] C E Fn U)) m_no := by
  have hK := hX.2.2.2.2.1
  refine c_63 hX.1 hS ?_
  rw [h.2.1]
  refine ⟨by omega, CaI.on (s_eatY hX hS h hk (by omega)) ?_⟩
  rintro v F1 hS1 ⟨rfl, h1, e1⟩
  refine ⟨fun h0 => absurd h0 (by decide), fun _ => ?_⟩
  by_cases k1 : kn K (a + 1) = 0
  · refine CaI.on (s_eatY hX hS1 h1 k1 (by omega)) ?_
    rintro v F2 hS2 ⟨rfl, h2, e2⟩
    refine ⟨fun h0 => absurd h0 (by decide), fun _ => ?_⟩
    have hf2 : fr (RP n t) F F2 := by rw [e2, e1]; exact fr_n2.up (Or.inl rfl)
    by_cases k2 : kn K (a + 2) = 15
    · refine CaI.on (s_eatY hX hS2 h2 k2 (by omega)) ?_
      rintro v F3 hS3 ⟨rfl, h3, e3⟩
      refine ⟨fun h0 => absurd h0 (by decide), fun _ => ⟨t, h3.1.2.2.1, hX.2.1, ?_⟩⟩
      have hf3 : fr (RP n t) F F3 := by rw [e3]; exact hf2.up (Or.inl rfl)
      refine CaV.on (s_127 hX.2.1 hS3 h3.2.2.2 hU) ?_
      rintro F4 hS4 ⟨k3, k4⟩
      have h4 := h3.tree hX k4 k3
      refine ⟨t, h4.1.2.2.1, hX.2.1, ?_⟩
      rw [show (a : Int) + 1 = ((a + 1 : Nat) : Int) by omega] at h4 ⊢
      refine CaV.on (s_121 (o := 1) (p := a + 1) (e := 0) hX.2.1 hS4 h4.2.2.2 hC (by omega) (by omega) (by omega)) ?_
      rintro F5 hS5 ⟨k5, k6⟩
      refine ⟨(hf3.tr (k4.mo TP_RP)).tr (k6.mo TP_RP), ?_⟩
      rw [if_pos ⟨k1, k2⟩]
      exact ⟨rfl, h4.tree hX k6 k5⟩
    · refine CaI.on (s_eatN hX hS2 h2 k2) ?_
      rintro v F3 hS3 ⟨rfl, rfl⟩
      refine ⟨fun _ => ⟨hf2, ?_⟩, fun h0 => absurd rfl h0⟩
      rw [if_neg (fun e => k2 e.2), if_pos k1]
      exact ⟨rfl, h2⟩
  · refine CaI.on (s_eatN hX hS1 h1 k1) ?_
    rintro v F2 hS2 ⟨rfl, rfl⟩
    refine ⟨fun _ => ⟨by rw [e1]; exact fr_n2, ?_⟩, fun h0 => absurd rfl h0⟩
    rw [if_neg (fun e => k1 e.1), if_neg k1]
    exact ⟨rfl, h1⟩
/-- the end of a header -/
theorem l_64e {p x : Nat} {R : Int → MF → Prop} (hX : RX n t b z K) (hS : St F) (h : RC F n t b K a [] C E Fn U) (ha : a ≤ K.length) (hx : x < 200) (hp : p < 200) (hC : C.length + 1 < 640) (hF : Fn.length < 40)
    (Ky : ∀ F2, kn K a = 11 → kn K (a + 1) = 12 → RC F2 n t b K (a + 2) [(0, -1)] (C ++ [mk 2 x p, mk 3 (a + 1) 0]) E (Fn ++ [((x : Int), (p : Int), (C.length : Int), -1)]) U → fr (RP n t) F F2 → R 1 F2)
    (Kn : ∀ F2 e, (kn K a ≠ 11 ∧ e = a ∨ kn K a = 11 ∧ kn K (a + 1) ≠ 12 ∧ e = a + 1) → RC F2 n t b K e [] C E Fn U → fr (RP n t) F F2 → R 0 F2) :
    L_64_97 n (x : Int) (p : Int) F R m_no := by
  have hK := hX.2.2.2.2.1
  refine b_64_97 hX.1 hS ?_
  by_cases k1 : kn K a = 11
  · refine CaI.on (s_eatY hX hS h k1 (by omega)) ?_
    rintro v F1 hS1 ⟨rfl, h1, e1⟩
    refine ⟨fun h0 => absurd h0 (by decide), fun _ => ?_⟩
    have hf1 : fr (RP n t) F F1 := by rw [e1]; exact fr_n2
    rw [h1.2.1]
    refine CaI.on (s_59 hX hS1 h1.1) ?_
    rintro v F2 hS2 ⟨rfl, rfl⟩
    refine ⟨fun k2 => ⟨t, h1.1.2.2.1, hX.2.1, ?_⟩, fun k2 => Kn _ (a + 1) (Or.inr ⟨k1, k2, rfl⟩) h1 hf1⟩
    refine CaV.on (s_125 hX.2.1 hS2 h1.2.2.2 hF) ?_
    rintro F3 hS3 ⟨k3, k4⟩
    have h3 := h1.tree hX k4 k3
    refine ⟨t, h3.1.2.2.1, hX.2.1, ?_⟩
    refine CaV.on (s_121 (o := 2) (p := x) (e := p) hX.2.1 hS3 h3.2.2.2 (by omega) (by omega) (by have := hX.2.2.2.2.1; omega) (by omega)) ?_
    rintro F4 hS4 ⟨k5, k6⟩
    have h4 := h3.tree hX k6 k5
    refine CaV.on (s_65 (x := 0) (y := -1) hX hS4 h4 (by rw [List.length_append, List.length_singleton]; omega) (by omega) (by decide)) ?_
    rintro F5 hS5 ⟨k7, k8⟩
    refine Ky F5 k1 k2 ?_ (((hf1.tr (k4.mo TP_RP)).tr (k6.mo TP_RP)).tr k8)
    rw [List.append_assoc] at k7
    exact k7
  · refine CaI.on (s_eatN hX hS h k1) ?_
    rintro v F1 hS1 ⟨rfl, rfl⟩
    exact ⟨fun _ => Kn _ a (Or.inl ⟨k1, rfl⟩) h fr.rf, fun h0 => absurd rfl h0⟩
end M65
