/-! THE READER OF THE CLASS: a statement as a whole -/
section M68
variable {F G : MF} {n t b z a : Nat} {K : List Int} {S : List (Int × Int)} {C W : List Int} {E : EE} {Fn : FF} {U : List Int}
theorem fi_y {x : XS} {k : Int} {m : Nat} (h : x.1 = 3 ∧ kn K x.2.1 = k) : fi K x k m = (true, x.2.1 + m, x.2.2.2) := if_pos h
theorem fi_n {x : XS} {k : Int} {m : Nat} (h : ¬ (x.1 = 3 ∧ kn K x.2.1 = k)) : fi K x k m = (false, x.2.1, x.2.2.2) := if_neg h
/-- what holds of a place behind the first tokens of a statement -/
def SX (n t b : Nat) (K : List Int) (a : Nat) (q st : Int) (S : List (Int × Int)) (C : List Int) (E : EE) (Fn : FF) (U : List Int) (W : List Int) (G F : MF) (e : Nat) : Prop :=
  RC F n t b K e ((q, st) :: S) W E Fn U ∧ W = C ++ [mk 6 a 0] ∧ a ≤ e ∧ e ≤ K.length ∧ fr (RP n t) G F
def SB (K : List Int) (a : Nat) (S : List (Int × Int)) (C : List Int) (E : EE) : Prop := a < K.length ∧ C.length ≤ 3 * a ∧ E.length < 200 ∧ S.length + 1 < 200
theorem SX.px {q st : Int} {e : Nat} (h : SX n t b K a q st S C E Fn U W G F e) (ha : a < 200) : Px C W ∧ W.length = C.length + 1 := by
  rw [h.2.1]
  exact ⟨Px.rf.one (mk_w (by decide) (by omega) (by decide)), by rw [List.length_append, List.length_singleton]⟩
theorem SX.no {q st k f : Int} {e : Nat} (hX : RX n t b z K) (hS : St F) (h : SX n t b K a q st S C E Fn U W G F e) (hB : SB K a S C E) :
    L_68_276 n k (a : Int) (C.length : Int) f 0 F (PQ n t b K G (psx K a q st S C E Fn U (false, e, W))) m_no := by
  have hK := hX.2.2.2.2.1
  obtain ⟨b1, b2, b3, b4⟩ := hB
  exact l_276n hX hS h.1 (h.px (by omega)).1 h.2.2.2.1 (by omega) (by omega) b3 h.2.2.2.2
/-- an expr and ; behind it -/
theorem l_semi {q st v f : Int} {cl : Bool} {e : Nat} (hX : RX n t b z K) (hS : St F) (h : SX n t b K a q st S C E Fn U W G F e) (hB : SB K a S C E) (hv : v = bi cl) (hcl : cl = true → e + 2 ≤ K.length) (h5 : kn K a ≠ 5)
    (hf : kn K a ≠ 7 → kn K a ≠ 5 → kn K a ≠ 4 → f = if kn K (a + 1) = 10 then 1 else 0) :
    C_69 n v F (fun r16 F13 => ((r16 = 0 → L_68_276 n (kn K a) (a : Int) (C.length : Int) f 0 F13 (PQ n t b K G (psx K a q st S C E Fn U (fi K (exr K cl e W) 15 1))) m_no) ∧ (¬ (r16 = 0) → C_60 n 15 F13 (fun r22 F19 => ((r22 = 0 → L_68_276 n (kn K a) (a : Int) (C.length : Int) f 0 F19 (PQ n t b K G (psx K a q st S C E Fn U (fi K (exr K cl e W) 15 1))) m_no) ∧ (¬ (r22 = 0) → L_68_276 n (kn K a) (a : Int) (C.length : Int) f 1 F19 (PQ n t b K G (psx K a q st S C E Fn U (fi K (exr K cl e W) 15 1))) m_no))) m_no))) m_no := by
  have hK := hX.2.2.2.2.1
  obtain ⟨b1, b2, b3, b4⟩ := hB
  obtain ⟨p1, p2⟩ := h.px (by omega)
  obtain ⟨hR, hWe, g1, g2, g3⟩ := h
  obtain ⟨o1, o2, o3, o4, o5⟩ := exr_ok (C := W) hK g2 hcl
  refine CaI.on (s_69 (cl := cl) hX hS hR (by omega) g2 hv hcl) ?_
  rintro r F1 hS1 ⟨rfl, k1, k2⟩
  have hno : ∀ F2, St F2 → ¬ ((exr K cl e W).1 = 3 ∧ kn K (exr K cl e W).2.1 = 15) → RC F2 n t b K (exr K cl e W).2.1 ((q, st) :: S) (exr K cl e W).2.2.2 E Fn U → fr (RP n t) G F2 → L_68_276 n (kn K a) (a : Int) (C.length : Int) f 0 F2 (PQ n t b K G (psx K a q st S C E Fn U (fi K (exr K cl e W) 15 1))) m_no := by
    intro F2 hS2 hn k3 k4
    rw [fi_n hn]
    exact l_276n hX hS2 k3 (p1.mid o5) o3 (by omega) (by omega) b3 k4
  by_cases c1 : (exr K cl e W).1 = 3
  · rw [if_pos c1]
    refine ⟨fun h0 => absurd h0 (by decide), fun _ => ?_⟩
    by_cases c2 : kn K (exr K cl e W).2.1 = 15
    · have l1 := kn_lt (K := K) (by rw [c2]; decide)
      refine CaI.on (s_eatY hX hS1 k1 c2 (by omega)) ?_
      rintro v2 F2 hS2 ⟨rfl, k3, k4⟩
      refine ⟨fun h0 => absurd h0 (by decide), fun _ => ?_⟩
      rw [fi_y ⟨c1, c2⟩]
      exact l_276y hX hS2 k3 (by omega) (by omega) (by omega) (by omega) b4 (by rw [k4]; exact (g3.tr k2).up (Or.inl rfl)) hf
    · refine CaI.on (s_eatN hX hS1 k1 c2) ?_
      rintro v2 F2 hS2 ⟨rfl, rfl⟩
      exact ⟨fun _ => hno _ hS2 (fun e => c2 e.2) k1 (g3.tr k2), fun h0 => absurd rfl h0⟩
  · rw [if_neg c1]
    exact ⟨fun _ => hno _ hS1 (fun e => c1 e.1) k1 (g3.tr k2), fun h0 => absurd rfl h0⟩
/-- the expr of IF and the bracket behind it -/
theorem l_ifx {q st f : Int} {e : Nat} (hX : RX n t b z K) (hS : St F) (h : SX n t b K a q st S C E Fn U W G F e) (hB : SB K a S C E) (h5 : kn K a = 5) (he : a < e) :
    C_69 n 0 F (fun r42 F39 => ((r42 = 0 → L_68_276 n (kn K a) (a : Int) (C.length : Int) f 0 F39 (PQ n t b K G (psx K a q st S C E Fn U (fi K (exr K false e W) 12 0))) m_no) ∧ (¬ (r42 = 0) → C_59 n (F39 n 2) F39 (fun r48 F45 => ((r48 = 12 → L_68_276 n (kn K a) (a : Int) (C.length : Int) f 1 F45 (PQ n t b K G (psx K a q st S C E Fn U (fi K (exr K false e W) 12 0))) m_no) ∧ (¬ (r48 = 12) → L_68_276 n (kn K a) (a : Int) (C.length : Int) f 0 F45 (PQ n t b K G (psx K a q st S C E Fn U (fi K (exr K false e W) 12 0))) m_no))) m_no))) m_no := by
  have hK := hX.2.2.2.2.1
  obtain ⟨b1, b2, b3, b4⟩ := hB
  obtain ⟨p1, p2⟩ := h.px (by omega)
  obtain ⟨hR, hWe, g1, g2, g3⟩ := h
  obtain ⟨o1, o2, o3, o4, o5⟩ := exr_ok (cl := false) (C := W) hK g2 (fun e => absurd e (by decide))
  refine CaI.on (s_69 (cl := false) hX hS hR (by omega) g2 rfl (fun e => absurd e (by decide))) ?_
  rintro r F1 hS1 ⟨rfl, k1, k2⟩
  have hno : ∀ F2, St F2 → ¬ ((exr K false e W).1 = 3 ∧ kn K (exr K false e W).2.1 = 12) → RC F2 n t b K (exr K false e W).2.1 ((q, st) :: S) (exr K false e W).2.2.2 E Fn U → fr (RP n t) G F2 → L_68_276 n (kn K a) (a : Int) (C.length : Int) f 0 F2 (PQ n t b K G (psx K a q st S C E Fn U (fi K (exr K false e W) 12 0))) m_no := by
    intro F2 hS2 hn k3 k4
    rw [fi_n hn]
    exact l_276n hX hS2 k3 (p1.mid o5) o3 (by omega) (by omega) b3 k4
  by_cases c1 : (exr K false e W).1 = 3
  · rw [if_pos c1]
    refine ⟨fun h0 => absurd h0 (by decide), fun _ => ?_⟩
    rw [k1.2.1]
    refine CaI.on (s_59 hX hS1 k1.1) ?_
    rintro v2 F2 hS2 ⟨rfl, rfl⟩
    refine ⟨fun c2 => ?_, fun c2 => hno _ hS2 (fun e => c2 e.2) k1 (g3.tr k2)⟩
    have l1 := kn_lt (K := K) (by rw [c2]; decide)
    rw [fi_y ⟨c1, c2⟩]
    exact l_276y hX hS2 k1 (by omega) (by omega) (by omega) (by omega) b4 (g3.tr k2) (fun _ h => absurd h5 h)
  · rw [if_neg c1]
    exact ⟨fun _ => hno _ hS1 (fun e => c1 e.1) k1 (g3.tr k2), fun h0 => absurd rfl h0⟩
theorem SX.eat {F' : MF} {q st : Int} {e : Nat} (h : SX n t b K a q st S C E Fn U W G F e) (hl : e < K.length) (h1 : RC F' n t b K (e + 1) ((q, st) :: S) W E Fn U) (h2 : F' = m_up F n 2 ((e : Int) + 1)) : SX n t b K a q st S C E Fn U W G F' (e + 1) :=
  ⟨h1, h.2.1, by have := h.2.2.1; omega, hl, by rw [h2]; exact h.2.2.2.2.up (Or.inl rfl)⟩
/-- LET or an assignment -/
theorem l_235 {q st : Int} {s : Nat} (hX : RX n t b z K) (hS : St F) (h : SX n t b K a q st S C E Fn U W G F s) (hB : SB K a S C E) (h5 : kn K a ≠ 5) (hf : kn K s = 0 → kn K a ≠ 7 → kn K a ≠ 5 → kn K a ≠ 4 → (0 : Int) = if kn K (a + 1) = 10 then 1 else 0) :
    L_68_235 n (kn K a) (a : Int) (C.length : Int) 0 F (PQ n t b K G (psx K a q st S C E Fn U (if kn K s = 0 then (if kn K (s + 1) = 16 then fi K (exr K false (s + 2) W) 15 1 else (false, s + 1, W)) else (false, s, W)))) m_no := by
  have hK := hX.2.2.2.2.1
  refine b_68_235 hX.1 hS ?_
  by_cases k1 : kn K s = 0
  · rw [if_pos k1]
    have l1 := kn_lt (K := K) (i := s) (by rw [k1]; decide)
    refine CaI.on (s_eatY hX hS h.1 k1 (by omega)) ?_
    rintro v F1 hS1 ⟨rfl, h1, e1⟩
    have h1 := h.eat l1 h1 e1
    refine ⟨fun h0 => absurd h0 (by decide), fun _ => ?_⟩
    by_cases k2 : kn K (s + 1) = 16
    · rw [if_pos k2]
      have l2 := kn_lt (K := K) (i := s + 1) (by rw [k2]; decide)
      refine CaI.on (s_eatY hX hS1 h1.1 k2 (by omega)) ?_
      rintro v F2 hS2 ⟨rfl, h2, e2⟩
      have h2 := h1.eat l2 h2 e2
      refine ⟨fun h0 => absurd h0 (by decide), fun _ => ?_⟩
      exact l_semi (cl := false) hX hS2 h2 hB rfl (fun e => absurd e (by decide)) h5 (hf k1)
    · rw [if_neg k2]
      refine CaI.on (s_eatN hX hS1 h1.1 k2) ?_
      rintro v F2 hS2 ⟨rfl, rfl⟩
      exact ⟨fun _ => h1.no hX hS2 hB, fun h0 => absurd rfl h0⟩
  · rw [if_neg k1]
    refine CaI.on (s_eatN hX hS h.1 k1) ?_
    rintro v F1 hS1 ⟨rfl, rfl⟩
    exact ⟨fun _ => h.no hX hS1 hB, fun h0 => absurd rfl h0⟩
theorem l_88 {q st : Int} (hX : RX n t b z K) (hS : St F) (h : SX n t b K a q st S C E Fn U W G F a) (hB : SB K a S C E) (h12 : kn K a ≠ 12) (hc : ¬ (kn K a = 0 ∧ kn K (a + 1) = 10)) :
    L_68_88 n (kn K a) (a : Int) (C.length : Int) F (PQ n t b K G (psx K a q st S C E Fn U (sth K a W))) m_no := by
  have hK := hX.2.2.2.2.1
  have hB' := hB
  obtain ⟨b1, b2, b3, b4⟩ := hB'
  rw [sth_fi]
  refine b_68_88 hX.1 hS ⟨fun k => absurd k h12, fun _ => ⟨fun k5 => ?_, fun k5 => ⟨fun k7 => ?_, fun k7 => ⟨fun k4 => ?_, fun k4 => ?_⟩⟩⟩⟩
  · rw [if_pos k5]
    refine CaI.on (s_eatY hX hS h.1 k5 (by omega)) ?_
    rintro v F1 hS1 ⟨rfl, h1, e1⟩
    have h1 := h.eat b1 h1 e1
    refine ⟨fun h0 => absurd h0 (by decide), fun _ => ?_⟩
    exact l_ifx hX hS1 h1 hB k5 (by omega)
  · rw [if_neg k5, if_pos k7]
    refine CaI.on (s_eatY hX hS h.1 k7 (by omega)) ?_
    rintro v F1 hS1 ⟨rfl, h1, e1⟩
    have h1 := h.eat b1 h1 e1
    refine ⟨fun h0 => absurd h0 (by decide), fun _ => ?_⟩
    exact l_semi (cl := false) hX hS1 h1 hB rfl (fun e => absurd e (by decide)) k5 (fun h => absurd k7 h)
  · rw [if_neg k5, if_neg k7, if_neg hc, if_pos k4]
    refine CaI.on (s_eatY hX hS h.1 k4 (by omega)) ?_
    rintro v F1 hS1 ⟨rfl, h1, e1⟩
    have h1 := h.eat b1 h1 e1
    refine ⟨fun h0 => absurd h0 (by decide), fun _ => ?_⟩
    exact l_235 hX hS1 h1 hB k5 (fun _ _ _ h => absurd k4 h)
  · rw [if_neg k5, if_neg k7, if_neg hc, if_neg k4]
    exact l_235 hX hS h hB k5 (fun k0 _ _ _ => by rw [if_neg (fun e => hc ⟨k0, e⟩)])
theorem s_68 {q st : Int} (hX : RX n t b z K) (hS : St F) (h : RC F n t b K a ((q, st) :: S) C E Fn U) (ha : a ≤ K.length) (hC : C.length ≤ 3 * a) (hW : W32 C) (hE : E.length + 1 < 200) (hF : Fn.length ≤ 40) (hSl : S.length + 2 < 200) :
    C_68 n F (PQ n t b K F (pst K a q st S C E Fn U)) m_no := by
  have hK := hX.2.2.2.2.1
  rw [pst_psx]
  refine c_68 hX.1 hS ?_
  rw [h.2.1]
  refine CaI.on (s_59 hX hS h.1) ?_
  rintro v F1 hS1 ⟨rfl, rfl⟩
  refine ⟨fun k1 => ?_, fun k1 => ⟨fun k2 => ?_, fun k2 => ⟨t, h.row, hX.2.1, t, h.row, hX.2.1, ?_⟩⟩⟩
  · rw [if_pos k1]
    exact s_66 (cl := true) hX hS h ha (fun _ => kn_lt (by rw [k1]; decide)) (by omega) hW hE hF (by omega)
  · rw [if_neg k1, if_pos (bgn_61.mp k2)]
    exact s_66 (cl := false) hX hS h ha (fun e => absurd e (by decide)) (by omega) hW hE hF (by omega)
  · have k2' : ¬ bgn (kn K a) = true := fun e => k2 (bgn_61.mpr e)
    rw [if_neg k1, if_neg k2', h.2.1, h.cnt]
    have hlt : a < K.length := kn_lt (fun e => k2' (by rw [e]; decide))
    refine CaV.on (s_121 (o := 6) (p := a) (e := 0) hX.2.1 hS h.2.2.2 (by omega) (by omega) (by omega) (by omega)) ?_
    rintro F2 hS2 ⟨k3, k4⟩
    have h2 := h.tree hX k4 k3
    have hf2 : fr (RP n t) F1 F2 := k4.mo TP_RP
    have hx : SX n t b K a q st S C E Fn U (C ++ [mk 6 a 0]) F1 F2 a := ⟨h2, rfl, Nat.le_refl _, ha, hf2⟩
    have hB : SB K a S C E := ⟨hlt, hC, by omega, by omega⟩
    refine ⟨fun k5 => ?_, fun k5 => ?_⟩
    · rw [if_neg (by omega), h2.2.1, show (a : Int) + 1 = ((a + 1 : Nat) : Int) by omega]
      refine ⟨by omega, CaI.on (s_59 hX hS2 h2.1) ?_⟩
      rintro v F3 hS3 ⟨rfl, rfl⟩
      refine ⟨fun k6 => ⟨fun k7 => by omega, fun _ => ⟨fun k7 => by omega, fun _ => ⟨fun k7 => by omega, fun _ => ?_⟩⟩⟩, fun k6 => ?_⟩
      · have l1 := kn_lt (K := K) (i := a + 1) (by rw [k6]; decide)
        have := l_semi (v := 1) (f := 1) (cl := true) hX hS2 hx hB rfl (fun _ => l1) (by omega) (fun _ _ _ => by rw [if_pos k6])
        rw [sth_fi, if_neg (by omega), if_neg (by omega), if_pos ⟨k5, k6⟩]
        exact this
      · exact l_88 hX hS2 hx hB (by omega) (fun e => k6 e.2)
    · by_cases k6 : kn K a = 12
      · rw [if_pos k6, k6]
        refine b_68_88 hX.1 hS2 ⟨fun _ => ?_, fun h => absurd rfl h⟩
        refine CaV.on (s_65 (x := 1) (y := -1) hX hS2 h2 (by rw [List.length_append, List.length_singleton]; omega) (by omega) (by rw [List.length_cons]; omega)) ?_
        rintro F4 hS4 ⟨k7, k8⟩
        rw [List.append_assoc] at k7
        exact ⟨hf2.tr k8, k7⟩
      · rw [if_neg k6]
        exact l_88 hX hS2 hx hB k6 (fun e => k5 e.1)
end M68
