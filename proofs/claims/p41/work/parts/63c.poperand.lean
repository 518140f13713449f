/-! THE READER OF THE CLASS: a unit -/
section M63
variable {F : MF} {n t b z a : Nat} {K : List Int} {S : List (Int × Int)} {C : List Int} {E : EE} {Fn : FF} {U : List Int} {L r : List Lv} {l : Lv} {c0 a0 : Nat}
theorem xop_1 (h : kn K a = 22 ∧ nts l = -1) : xop K a l r C = (1, a + 1, (shp l, opn l, szs l, (a : Int), tms l, ads l, cps l) :: r, C) := if_pos h
theorem xop_2 (h1 : ¬ (kn K a = 22 ∧ nts l = -1)) (h2 : kn K a = 0 ∧ kn K (a + 1) = 10) : xop K a l r C = (1, a + 2, lv0 2 a :: l :: r, C) := (if_neg h1).trans (if_pos h2)
theorem xop_3 (h1 : ¬ (kn K a = 22 ∧ nts l = -1)) (h2 : ¬ (kn K a = 0 ∧ kn K (a + 1) = 10)) (h3 : kn K a = 10) : xop K a l r C = (1, a + 1, lv0 1 a :: l :: r, C) := (if_neg h1).trans ((if_neg h2).trans (if_pos h3))
theorem xop_4 (h1 : ¬ (kn K a = 22 ∧ nts l = -1)) (h2 : ¬ (kn K a = 0 ∧ kn K (a + 1) = 10)) (h3 : kn K a ≠ 10) (h4 : kn K a = 11 ∧ shp l = 2 ∧ (a : Int) = opn l + 2) : xop K a l r C = (4, a, l :: r, C) := (if_neg h1).trans ((if_neg h2).trans ((if_neg h3).trans (if_pos h4)))
theorem xop_5 (h1 : ¬ (kn K a = 22 ∧ nts l = -1)) (h2 : ¬ (kn K a = 0 ∧ kn K (a + 1) = 10)) (h3 : kn K a ≠ 10) (h4 : ¬ (kn K a = 11 ∧ shp l = 2 ∧ (a : Int) = opn l + 2)) (h5 : kn K a = 0 ∨ kn K a = 1 ∨ kn K a = 8 ∨ kn K a = 9) : xop K a l r C = (2, a + 1, l :: r, C ++ [mk 14 a 0]) := (if_neg h1).trans ((if_neg h2).trans ((if_neg h3).trans ((if_neg h4).trans (if_pos h5))))
theorem xop_0 (h1 : ¬ (kn K a = 22 ∧ nts l = -1)) (h2 : ¬ (kn K a = 0 ∧ kn K (a + 1) = 10)) (h3 : kn K a ≠ 10) (h4 : ¬ (kn K a = 11 ∧ shp l = 2 ∧ (a : Int) = opn l + 2)) (h5 : ¬ (kn K a = 0 ∨ kn K a = 1 ∨ kn K a = 8 ∨ kn K a = 9)) : xop K a l r C = (0, a, l :: r, C) := (if_neg h1).trans ((if_neg h2).trans ((if_neg h3).trans ((if_neg h4).trans (if_neg h5))))
theorem l_71c (hX : RX n t b z K) (hS : St F) (h : RC F n t b K a S C E Fn U) (hL : LvC F n (l :: r)) (ha : a < 198) (hC : C.length + 4 < 640)
    (h1 : ¬ (kn K a = 22 ∧ nts l = -1)) (h2 : ¬ (kn K a = 0 ∧ kn K (a + 1) = 10)) (h3 : kn K a ≠ 10) (h4 : ¬ (kn K a = 11 ∧ shp l = 2 ∧ (a : Int) = opn l + 2)) (h5 : kn K a = 0 ∨ kn K a = 1 ∨ kn K a = 8 ∨ kn K a = 9) :
    L_71_177 n F (XQ n t b K S E Fn U F (xop K a l r C)) m_no := by
  rw [xop_5 h1 h2 h3 h4 h5]
  refine b_71_177 hX.1 hS ⟨t, h.1.2.2.1, hX.2.1, ?_⟩
  rw [h.2.1]
  refine CaV.on (s_121 (o := 14) (p := a) (e := 0) hX.2.1 hS h.2.2.2 (by omega) (by omega) (by omega) (by omega)) ?_
  rintro F1 hS1 ⟨k1, k2⟩
  have h6 := h.tree hX k2 k1
  rw [h6.2.1]
  exact ⟨by omega, rfl, ⟨h6.pos (a' := a + 1) hX (by omega), (LvC.emit hX hL k2).pos⟩, (k2.mo TP_RP).up (Or.inl rfl)⟩
theorem l_71b (hX : RX n t b z K) (hS : St F) (h : RC F n t b K a S C E Fn U) (hL : LvC F n (l :: r)) (ha : a < 198) (hr : r.length < 198) (hz : LOk a l) (hC : C.length + 4 < 640)
    (h1 : ¬ (kn K a = 22 ∧ nts l = -1)) (h2 : ¬ (kn K a = 0 ∧ kn K (a + 1) = 10)) : L_71_94 n (kn K a) (r.length : Int) F (XQ n t b K S E Fn U F (xop K a l r C)) m_no := by
  obtain ⟨l1, l2, l3, l4, l5, l6, l7, l8⟩ := hL.2
  have hop : 0 ≤ opn l ∧ opn l < 200 := hz.2.1
  have hlen : (l :: r).length < 200 := by rw [List.length_cons]; omega
  refine b_71_94 hX.1 hS ?_
  rw [Int.toNat_natCast, l1, l2, h.2.1]
  have rest : kn K a ≠ 10 → ¬ (kn K a = 11 ∧ shp l = 2 ∧ (a : Int) = opn l + 2) → ¬ (kn K a = 0 ∨ kn K a = 1 ∨ kn K a = 8 ∨ kn K a = 9) → XQ n t b K S E Fn U F (xop K a l r C) 0 F := fun h3 h4 h5 => by
    rw [xop_0 h1 h2 h3 h4 h5]
    exact ⟨rfl, ⟨h, hL⟩, fr.rf⟩
  have leaf := l_71c hX hS h hL ha hC h1 h2
  refine ⟨fun h3 => ?_, fun h3 => ⟨fun h4 => ⟨by omega, ⟨fun h5 => ⟨by omega, by omega, ⟨fun h6 => ?_, fun h6 => ?_⟩⟩, fun h5 => ?_⟩⟩, fun h4 => ?_⟩⟩
  · rw [xop_3 h1 h2 h3]
    refine CaV.on (s_70 (x := 1) (o := a) hX hS h hL hlen) ?_
    rintro F1 hS1 ⟨k1, k2, k3⟩
    rw [k1.2.1]
    exact ⟨by omega, rfl, ⟨k1.pos (a' := a + 1) hX (by omega), k2.pos⟩, (k3.mo (fun c h => by unfold RP; omega)).up (Or.inl rfl)⟩
  · rw [xop_4 h1 h2 h3 ⟨h4, h5, h6⟩]
    exact ⟨rfl, ⟨h, hL⟩, fr.rf⟩
  · have h8 : ¬ (kn K a = 11 ∧ shp l = 2 ∧ (a : Int) = opn l + 2) := fun e => h6 e.2.2
    exact ⟨fun e => leaf h3 h8 (by omega), fun e1 => ⟨fun e => leaf h3 h8 (by omega), fun e2 => ⟨fun e => leaf h3 h8 (by omega), fun e3 => ⟨fun e => leaf h3 h8 (by omega), fun e4 => rest h3 h8 (by omega)⟩⟩⟩⟩
  · have h8 : ¬ (kn K a = 11 ∧ shp l = 2 ∧ (a : Int) = opn l + 2) := fun e => h5 e.2.1
    exact ⟨fun e => leaf h3 h8 (by omega), fun e1 => ⟨fun e => leaf h3 h8 (by omega), fun e2 => ⟨fun e => leaf h3 h8 (by omega), fun e3 => ⟨fun e => leaf h3 h8 (by omega), fun e4 => rest h3 h8 (by omega)⟩⟩⟩⟩
  · have h8 : ¬ (kn K a = 11 ∧ shp l = 2 ∧ (a : Int) = opn l + 2) := fun e => h4 e.1
    exact ⟨fun e => leaf h3 h8 (by omega), fun e1 => ⟨fun e => leaf h3 h8 (by omega), fun e2 => ⟨fun e => leaf h3 h8 (by omega), fun e3 => ⟨fun e => leaf h3 h8 (by omega), fun e4 => rest h3 h8 (by omega)⟩⟩⟩⟩
theorem l_71a (hX : RX n t b z K) (hS : St F) (h : RC F n t b K a S C E Fn U) (hL : LvC F n (l :: r)) (ha : a < 198) (hr : r.length < 198) (hz : LOk a l) (hC : C.length + 4 < 640)
    (h1 : ¬ (kn K a = 22 ∧ nts l = -1)) : L_71_54 n (kn K a) (r.length : Int) F (XQ n t b K S E Fn U F (xop K a l r C)) m_no := by
  have hlen : (l :: r).length < 200 := by rw [List.length_cons]; omega
  refine b_71_54 hX.1 hS ?_
  rw [h.2.1]
  refine ⟨fun h2 => ⟨by omega, ?_⟩, fun h2 => l_71b hX hS h hL ha hr hz hC h1 (fun h3 => h2 h3.1)⟩
  rw [show (a : Int) + 1 = ((a + 1 : Nat) : Int) by omega]
  refine CaI.on (s_59 hX hS h.1) ?_
  rintro v F1 hS1 ⟨rfl, rfl⟩
  refine ⟨fun h3 => ?_, fun h3 => l_71b hX hS h hL ha hr hz hC h1 (fun h4 => h3 h4.2)⟩
  rw [xop_2 h1 ⟨h2, h3⟩, h.2.1]
  refine CaV.on (s_70 (x := 2) (o := a) hX hS1 h hL hlen) ?_
  rintro F2 hS2 ⟨k1, k2, k3⟩
  rw [k1.2.1]
  exact ⟨by omega, rfl, ⟨k1.pos (a' := a + 2) hX (by omega), k2.pos⟩, (k3.mo (fun c h => by unfold RP; omega)).up (Or.inl rfl)⟩
theorem s_71 (hX : RX n t b z K) (hS : St F) (h : RC F n t b K a S C E Fn U) (hL : LvC F n (l :: r)) (ha : a < 198) (hr : r.length < 198) (hz : LOk a l) (hC : C.length + 4 < 640) :
    C_71 n F (XQ n t b K S E Fn U F (xop K a l r C)) m_no := by
  obtain ⟨l1, l2, l3, l4, l5, l6, l7, l8⟩ := hL.2
  have e14 : F n 14 - 1 = (r.length : Int) := by
    rw [hL.1, List.length_cons]
    omega
  refine c_71 hX.1 hS ?_
  rw [h.2.1]
  refine CaI.on (s_59 hX hS h.1) ?_
  rintro v F1 hS1 ⟨rfl, rfl⟩
  rw [e14, Int.toNat_natCast, l4, h.2.1]
  refine ⟨by omega, ⟨fun h1 => ⟨by omega, ⟨fun h2 => ⟨by omega, by omega, ?_⟩, fun h2 => l_71a hX hS h hL ha hr hz hC (fun h3 => h2 h3.2)⟩⟩, fun h1 => l_71a hX hS h hL ha hr hz hC (fun h3 => h1 h3.1)⟩⟩
  rw [xop_1 ⟨h1, h2⟩]
  exact ⟨rfl, ⟨(h.lv1 hX (by omega)).pos (a' := a + 1) hX (by omega), hL.w7.pos⟩, (fr.rf.up (RP.lv (by omega))).up (Or.inl rfl)⟩
end M63
