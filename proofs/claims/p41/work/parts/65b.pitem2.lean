/-! THE READER OF THE CLASS: headers and items -/
theorem hdr_succ {K : List Int} {d a p : Nat} : hdr K (d + 1) a p = (if kn K a = 0 then (if kn K (a + 1) = 14 then hdr K d (a + 2) (p + 1) else if kn K (a + 1) = 11 then (if kn K (a + 2) = 12 then (true, a + 2, p + 1) else (false, a + 2, p + 1)) else (false, a + 1, p + 1)) else (false, a, p)) := rfl
theorem hdr_le {K : List Int} : ∀ (d a p : Nat), a ≤ K.length → (hdr K d a p).2.1 ≤ K.length ∧ a ≤ (hdr K d a p).2.1 ∧ ((hdr K d a p).1 = true → (hdr K d a p).2.1 + 1 ≤ K.length) := by
  intro d
  induction d with
  | zero => intro a p h; exact ⟨h, Nat.le_refl _, fun e => absurd e (by decide : ¬ false = true)⟩
  | succ d ih =>
    intro a p h
    rw [hdr_succ]
    by_cases k1 : kn K a = 0
    · rw [if_pos k1]
      have l1 := kn_lt (K := K) (i := a) (by rw [k1]; decide)
      by_cases k2 : kn K (a + 1) = 14
      · rw [if_pos k2]
        have l2 := kn_lt (K := K) (i := a + 1) (by rw [k2]; decide)
        have := ih (a + 2) (p + 1) (by omega)
        exact ⟨this.1, by omega, this.2.2⟩
      · rw [if_neg k2]
        by_cases k3 : kn K (a + 1) = 11
        · rw [if_pos k3]
          have l2 := kn_lt (K := K) (i := a + 1) (by rw [k3]; decide)
          by_cases k4 : kn K (a + 2) = 12
          · rw [if_pos k4]
            have l3 := kn_lt (K := K) (i := a + 2) (by rw [k4]; decide)
            exact ⟨by show a + 2 ≤ _; omega, by show a ≤ a + 2; omega, fun _ => by show a + 2 + 1 ≤ _; omega⟩
          · rw [if_neg k4]
            exact ⟨by show a + 2 ≤ _; omega, by show a ≤ a + 2; omega, fun e => absurd e (by decide : ¬ false = true)⟩
        · rw [if_neg k3]
          exact ⟨by show a + 1 ≤ _; omega, by show a ≤ a + 1; omega, fun e => absurd e (by decide : ¬ false = true)⟩
    · rw [if_neg k1]
      exact ⟨h, Nat.le_refl _, fun e => absurd e (by decide : ¬ false = true)⟩
theorem fnh_le {K : List Int} {a : Nat} (h : a < K.length) : (fnh K a).2.1 ≤ K.length ∧ a + 1 ≤ (fnh K a).2.1 ∧ ((fnh K a).1 = true → (fnh K a).2.1 + 1 ≤ K.length ∧ a + 4 ≤ (fnh K a).2.1) := by
  unfold fnh
  by_cases k1 : kn K (a + 1) = 0
  · have l1 := kn_lt (K := K) (i := a + 1) (by rw [k1]; decide)
    rw [if_pos k1]
    by_cases k2 : kn K (a + 2) = 10
    · have l2 := kn_lt (K := K) (i := a + 2) (by rw [k2]; decide)
      rw [if_pos k2]
      by_cases k3 : kn K (a + 3) = 11
      · have l3 := kn_lt (K := K) (i := a + 3) (by rw [k3]; decide)
        rw [if_pos k3]
        by_cases k4 : kn K (a + 4) = 12
        · have l4 := kn_lt (K := K) (i := a + 4) (by rw [k4]; decide)
          rw [if_pos k4]
          exact ⟨by show a + 4 ≤ _; omega, by show a + 1 ≤ a + 4; omega, fun _ => ⟨by show a + 4 + 1 ≤ _; omega, by show a + 4 ≤ a + 4; omega⟩⟩
        · rw [if_neg k4]
          exact ⟨by show a + 4 ≤ _; omega, by show a + 1 ≤ a + 4; omega, fun e => absurd e (by decide : ¬ false = true)⟩
      · rw [if_neg k3]
        have := hdr_le (K := K) K.length (a + 3) 0 (by omega)
        obtain ⟨u1, u2, u3⟩ := this
        refine ⟨u1, by omega, fun e => ⟨u3 e, ?_⟩⟩
        obtain ⟨d, hd⟩ : ∃ d, K.length = d + 1 := ⟨K.length - 1, by omega⟩
        rw [hd, hdr_succ] at e ⊢
        by_cases k5 : kn K (a + 3) = 0
        · rw [if_pos k5] at e ⊢
          have l5 := kn_lt (K := K) (i := a + 3) (by rw [k5]; decide)
          by_cases k6 : kn K (a + 3 + 1) = 14
          · rw [if_pos k6] at e ⊢
            have l6 := kn_lt (K := K) (i := a + 3 + 1) (by rw [k6]; decide)
            have := (hdr_le (K := K) d (a + 3 + 2) (0 + 1) (by omega)).2.1
            omega
          · rw [if_neg k6] at e ⊢
            by_cases k7 : kn K (a + 3 + 1) = 11
            · rw [if_pos k7]
              split
              · show a + 4 ≤ a + 3 + 2; omega
              · show a + 4 ≤ a + 3 + 2; omega
            · rw [if_neg k7] at e; exact absurd e (by decide : ¬ false = true)
        · rw [if_neg k5] at e; exact absurd e (by decide : ¬ false = true)
    · rw [if_neg k2]
      exact ⟨by show a + 2 ≤ _; omega, by show a + 1 ≤ a + 2; omega, fun e => absurd e (by decide : ¬ false = true)⟩
  · rw [if_neg k1]
    exact ⟨by show a + 1 ≤ _; omega, by show a + 1 ≤ a + 1; omega, fun e => absurd e (by decide : ¬ false = true)⟩
def HQ (F : MF) (n t b : Nat) (K : List Int) (C : List Int) (E : EE) (Fn : FF) (U : List Int) (x : Nat) (o : Bool × Nat × Nat) : Int → MF → Prop := fun v F' =>
  fr (RP n t) F F' ∧ (if o.1 = true then v = 1 ∧ RC F' n t b K (o.2.1 + 1) [(0, -1)] (C ++ [mk 2 x o.2.2, mk 3 o.2.1 0]) E (Fn ++ [((x : Int), (o.2.2 : Int), (C.length : Int), -1)]) U else v = 0 ∧ RC F' n t b K o.2.1 [] C E Fn U)
section M65b
variable {F : MF} {n t b z a : Nat} {K : List Int} {S : List (Int × Int)} {C : List Int} {E : EE} {Fn : FF} {U : List Int}
theorem HQ.y {F' : MF} {x e p : Nat} (hf : fr (RP n t) F F') (h : RC F' n t b K (e + 1) [(0, -1)] (C ++ [mk 2 x p, mk 3 e 0]) E (Fn ++ [((x : Int), (p : Int), (C.length : Int), -1)]) U) : HQ F n t b K C E Fn U x (true, e, p) 1 F' := by
  unfold HQ
  rw [if_pos rfl]
  exact ⟨hf, rfl, h⟩
theorem HQ.no {F' : MF} {x e p : Nat} (hf : fr (RP n t) F F') (h : RC F' n t b K e [] C E Fn U) : HQ F n t b K C E Fn U x (false, e, p) 0 F' := by
  show fr (RP n t) F F' ∧ (if false = true then _ else _)
  rw [if_neg (show ¬ false = true by decide)]
  exact ⟨hf, rfl, h⟩
theorem l_64 {x : Nat} (hX : RX n t b z K) (hx : x < 200) (hC : C.length + 1 < 640) (hF : Fn.length < 40) : ∀ (d a p : Nat) (F : MF), d + p = K.length → 2 * p + 3 ≤ a → a ≤ K.length → St F → RC F n t b K a [] C E Fn U →
    L_64_58 n (x : Int) (p : Int) 1 (p : Int) F (HQ F n t b K C E Fn U x (hdr K d a p)) m_no := by
  have hK := hX.2.2.2.2.1
  intro d
  induction d with
  | zero => intro a p F h1 h2 h3 _ _; exact absurd h3 (by omega)
  | succ d ih =>
    intro a p F h1 h2 h3 hS h
    rw [hdr_succ]
    refine b_64_58 hX.1 hS ⟨fun e => absurd e (by decide), fun _ => ⟨fun _ => ?_, fun e => absurd (by rw [h.1.2.1]; omega) e⟩⟩
    by_cases k1 : kn K a = 0
    · rw [if_pos k1]
      refine CaI.on (s_eatY hX hS h k1 (by omega)) ?_
      rintro v F1 hS1 ⟨rfl, hr1, e1⟩
      have hf1 : fr (RP n t) F F1 := by rw [e1]; exact fr_n2
      have l1 := kn_lt (K := K) (i := a) (by rw [k1]; decide)
      refine ⟨fun h0 => absurd h0 (by decide), fun _ => ⟨by omega, ?_⟩⟩
      by_cases k2 : kn K (a + 1) = 14
      · rw [if_pos k2]
        refine CaI.on (s_eatY hX hS1 hr1 k2 (by omega)) ?_
        rintro v F2 hS2 ⟨rfl, hr2, e2⟩
        have hf2 : fr (RP n t) F F2 := by rw [e2]; exact hf1.up (Or.inl rfl)
        have l2 := kn_lt (K := K) (i := a + 1) (by rw [k2]; decide)
        have := ih (a + 2) (p + 1) F2 (by omega) (by omega) (by omega) hS2 hr2
        rw [show ((p + 1 : Nat) : Int) = (p : Int) + 1 by omega] at this
        exact ⟨by omega, EvI.mono this (fun v F' _ k => ⟨hf2.tr k.1, k.2⟩) (fun _ _ _ h => h)⟩
      · rw [if_neg k2]
        refine CaI.on (s_eatN hX hS1 hr1 k2) ?_
        rintro v F2 hS2 ⟨rfl, rfl⟩
        refine ⟨by omega, b_64_58 hX.1 hS1 ⟨fun _ => ?_, fun h => absurd rfl h⟩⟩
        rw [show (p : Int) + 1 = ((p + 1 : Nat) : Int) by omega]
        refine l_64e hX hS1 hr1 (by omega) hx (by omega) hC hF ?_ ?_
        · intro F3 k3 k4 hr2 hf2
          rw [if_pos k3, if_pos (show kn K (a + 2) = 12 from k4)]
          exact HQ.y (hf1.tr hf2) hr2
        · rintro F3 e (⟨k3, rfl⟩ | ⟨k3, k4, rfl⟩) hr2 hf2
          · rw [if_neg k3]
            exact HQ.no (hf1.tr hf2) hr2
          · rw [if_pos k3, if_neg (show ¬ kn K (a + 2) = 12 from k4)]
            exact HQ.no (hf1.tr hf2) hr2
    · rw [if_neg k1]
      refine CaI.on (s_eatN hX hS h k1) ?_
      rintro v F1 hS1 ⟨rfl, rfl⟩
      exact ⟨fun _ => HQ.no fr.rf h, fun h0 => absurd rfl h0⟩
theorem s_64 (hX : RX n t b z K) (hS : St F) (h : RC F n t b K a [] C E Fn U) (ha : a ≤ K.length) (hk : kn K a = 3) (hC : C.length + 1 < 640) (hF : Fn.length < 40) :
    C_64 n F (HQ F n t b K C E Fn U (a + 1) (fnh K a)) m_no := by
  have hK := hX.2.2.2.2.1
  refine c_64 hX.1 hS ?_
  rw [h.2.1]
  refine ⟨by omega, CaI.on (s_eatY hX hS h hk (by omega)) ?_⟩
  rintro v F1 hS1 ⟨rfl, h1, e1⟩
  have hf1 : fr (RP n t) F F1 := by rw [e1]; exact fr_n2
  refine ⟨fun h0 => absurd h0 (by decide), fun _ => ?_⟩
  unfold fnh
  by_cases k1 : kn K (a + 1) = 0
  · rw [if_pos k1]
    have l1 := kn_lt (K := K) (i := a + 1) (by rw [k1]; decide)
    refine CaI.on (s_eatY hX hS1 h1 k1 (by omega)) ?_
    rintro v F2 hS2 ⟨rfl, h2, e2⟩
    have hf2 : fr (RP n t) F F2 := by rw [e2]; exact hf1.up (Or.inl rfl)
    refine ⟨fun h0 => absurd h0 (by decide), fun _ => ?_⟩
    by_cases k2 : kn K (a + 2) = 10
    · rw [if_pos k2]
      have l2 := kn_lt (K := K) (i := a + 2) (by rw [k2]; decide)
      refine CaI.on (s_eatY hX hS2 h2 k2 (by omega)) ?_
      rintro v F3 hS3 ⟨rfl, h3, e3⟩
      have hf3 : fr (RP n t) F F3 := by rw [e3]; exact hf2.up (Or.inl rfl)
      refine ⟨fun h0 => absurd h0 (by decide), fun _ => ?_⟩
      rw [h3.2.1]
      refine CaI.on (s_59 hX hS3 h3.1) ?_
      rintro v F4 hS4 ⟨rfl, rfl⟩
      rw [show (a : Int) + 1 = ((a + 1 : Nat) : Int) by omega]
      refine ⟨fun k3 => ?_, fun k3 => ?_⟩
      · have k3' : kn K (a + 3) = 11 := k3
        rw [if_pos k3']
        refine b_64_58 hX.1 hS3 ⟨fun _ => ?_, fun h => absurd rfl h⟩
        refine l_64e (p := 0) hX hS3 h3 (by omega) (by omega) (by decide) hC hF ?_ ?_
        · intro F5 _ k4 hr hf
          rw [if_pos (show kn K (a + 4) = 12 from k4)]
          exact HQ.y (hf3.tr hf) hr
        · rintro F5 e (⟨k4, -⟩ | ⟨-, k4, rfl⟩) hr hf
          · exact absurd k3 k4
          · rw [if_neg (show ¬ kn K (a + 4) = 12 from k4)]
            exact HQ.no (hf3.tr hf) hr
      · have k3' : ¬ kn K (a + 3) = 11 := k3
        rw [if_neg k3']
        have := l_64 (x := a + 1) hX (by omega) hC hF K.length (a + 3) 0 _ (by omega) (by omega) (by omega) hS3 h3
        exact EvI.mono this (fun v F' _ k => ⟨hf3.tr k.1, k.2⟩) (fun _ _ _ h => h)
    · rw [if_neg k2]
      refine CaI.on (s_eatN hX hS2 h2 k2) ?_
      rintro v F3 hS3 ⟨rfl, rfl⟩
      exact ⟨fun _ => HQ.no hf2 h2, fun h0 => absurd rfl h0⟩
  · rw [if_neg k1]
    refine CaI.on (s_eatN hX hS1 h1 k1) ?_
    rintro v F2 hS2 ⟨rfl, rfl⟩
    exact ⟨fun _ => HQ.no hf1 h1, fun h0 => absurd rfl h0⟩
theorem l_62c {G : MF} {e : Nat} (hX : RX n t b z K) (hS : St F) (h : RC F n t b K e [] C E Fn U) (he : e ≤ K.length) (hE : E.length < 200) (hG : fr (RP n t) G F) :
    C_123 t (e : Int) (-1) (-1) F (fun F1 => L_62_61 n (F1 n 2) F1 (fun F' => fr (RP n t) G F' ∧ RC F' n t b K (skI K (K.length - e) e) [] C (E ++ [((e : Int), -1, -1)]) Fn U) m_no) m_no := by
  refine CaV.on (s_123 hX.2.1 hS h.2.2.2 hE) ?_
  rintro F1 hS1 ⟨k1, k2⟩
  have h1 := h.tree hX k2 k1
  rw [h1.2.1]
  exact EvV.mono (l_62 hX (K.length - e) e F1 (by omega) hS1 h1) (fun F' _ k => ⟨hG.tr ((k2.mo TP_RP).tr (k.2.mo (fun c h => Or.inl h))), k.1⟩) (fun _ _ _ h => h)
theorem l_62b {G : MF} {e : Nat} (hX : RX n t b z K) (hS : St F) (h : RC F n t b K e [] C E Fn U) (he : e ≤ K.length) (hE : E.length < 200) (hG : fr (RP n t) G F) :
    L_62_37 n F (fun F' => fr (RP n t) G F' ∧ RC F' n t b K (skI K (K.length - e) e) [] C (E ++ [((e : Int), -1, -1)]) Fn U) m_no := by
  refine b_62_37 hX.1 hS ⟨t, h.1.2.2.1, hX.2.1, ?_⟩
  rw [h.2.1]
  exact l_62c hX hS h he hE hG
theorem s_62 (hX : RX n t b z K) (hS : St F) (h : RC F n t b K a [] C E Fn U) (ha : a < K.length) (hC : C.length + 1 < 640) (hE : E.length < 200) (hF : Fn.length < 40) (hU : U.length < 40) :
    C_62 n F (fun F' => fr (RP n t) F F' ∧ RCp F' n t b K (pit K a C E Fn U)) m_no := by
  have hK := hX.2.2.2.2.1
  refine c_62 hX.1 hS ?_
  rw [h.2.1]
  refine CaI.on (s_59 hX hS h.1) ?_
  rintro v F1 hS1 ⟨rfl, rfl⟩
  unfold pit
  refine ⟨fun k1 => ?_, fun k1 => ⟨fun k2 => ?_, fun k2 => ?_⟩⟩
  · rw [if_pos k1]
    refine CaI.on (s_63 hX hS h (by omega) k1 (by omega) hU) ?_
    rintro v F2 hS2 ⟨hf, hq⟩
    by_cases k3 : kn K (a + 1) = 0
    · rw [if_pos k3]
      have l1 := kn_lt (K := K) (i := a + 1) (by rw [k3]; decide)
      by_cases k4 : kn K (a + 2) = 15
      · rw [if_pos ⟨k3, k4⟩] at hq
        rw [if_pos k4]
        obtain ⟨rfl, hq⟩ := hq
        exact ⟨fun h0 => absurd h0 (by decide), fun _ => ⟨hf, hq⟩⟩
      · rw [if_neg (fun e => k4 e.2), if_pos k3] at hq
        rw [if_neg k4]
        obtain ⟨rfl, hq⟩ := hq
        refine ⟨fun _ => ⟨t, hq.1.2.2.1, hX.2.1, ?_⟩, fun h0 => absurd rfl h0⟩
        rw [hq.2.1]
        exact l_62c hX hS2 hq (by omega) hE hf
    · rw [if_neg (fun e => k3 e.1), if_neg k3] at hq
      rw [if_neg k3]
      obtain ⟨rfl, hq⟩ := hq
      refine ⟨fun _ => ⟨t, hq.1.2.2.1, hX.2.1, ?_⟩, fun h0 => absurd rfl h0⟩
      rw [hq.2.1]
      exact l_62c hX hS2 hq (by omega) hE hf
  · rw [if_neg k1, if_pos k2]
    have hle := fnh_le ha
    refine CaI.on (s_64 hX hS h (by omega) k2 hC hF) ?_
    rintro v F2 hS2 ⟨hf, hq⟩
    by_cases k3 : (fnh K a).1 = true
    · rw [if_pos k3] at hq ⊢
      obtain ⟨rfl, hq⟩ := hq
      exact ⟨fun h0 => absurd h0 (by decide), fun _ => ⟨hf, hq⟩⟩
    · rw [if_neg k3] at hq ⊢
      obtain ⟨rfl, hq⟩ := hq
      exact ⟨fun _ => l_62b hX hS2 hq hle.1 hE hf, fun h0 => absurd rfl h0⟩
  · rw [if_neg k1, if_neg k2]
    exact l_62b hX hS h (by omega) hE fr.rf
end M65b
