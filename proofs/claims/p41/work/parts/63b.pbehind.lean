/-! THE READER OF THE CLASS: behind a unit -/
section M63
variable {F : MF} {n t b z a : Nat} {K : List Int} {S : List (Int × Int)} {C : List Int} {E : EE} {Fn : FF} {U : List Int} {L r : List Lv} {l : Lv} {c0 a0 : Nat}
theorem s_73 (hX : RX n t b z K) (hS : St F) (h : RC F n t b K a S C E Fn U) (hL : LvC F n (l :: r)) (ha : a < 1000) (hr : r.length < 200) (hz : -1 ≤ szs l ∧ szs l < 1000) :
    C_73 n (kn K a) (r.length : Int) F (XQ n t b K S E Fn U F (xcl K a l r C)) m_no := by
  obtain ⟨l1, l2, l3, l4, l5, l6, l7, l8⟩ := hL.2
  unfold xcl
  refine c_73 hX.1 hS ?_
  rw [Int.toNat_natCast, l1, l3, h.2.1]
  refine ⟨by omega, ⟨fun h1 => ?_, fun h1 => ⟨by omega, ⟨fun h2 => ⟨by omega, by omega, by omega, ⟨fun h3 => ⟨by omega, ?_⟩, fun h3 => ⟨fun h4 => ?_, fun h4 => ?_⟩⟩⟩, fun h2 => ⟨fun h4 => ?_, fun h4 => ?_⟩⟩⟩⟩⟩
  · rw [if_pos h1]
    exact ⟨rfl, ⟨h, hL⟩, fr.rf⟩
  · rw [if_neg h1, if_pos h2, if_pos h3]
    exact ⟨rfl, ⟨(h.lv1 hX (by omega)).pos (a' := a + 1) hX (by omega), hL.w6.pos⟩, (fr.rf.up (RP.lv (by omega))).up (Or.inl rfl)⟩
  · rw [if_neg h1, if_pos h2, if_neg h3, if_pos h4]
    exact ⟨rfl, ⟨h.lv1 hX (by omega), hL.w6⟩, fr.rf.up (RP.lv (by omega))⟩
  · rw [if_neg h1, if_pos h2, if_neg h3, if_neg h4]
    exact ⟨rfl, ⟨h.lv1 hX (by omega), hL.w6⟩, fr.rf.up (RP.lv (by omega))⟩
  · rw [if_neg h1, if_neg h2, if_pos h4]
    exact ⟨rfl, ⟨h, hL⟩, fr.rf⟩
  · rw [if_neg h1, if_neg h2, if_neg h4]
    exact ⟨rfl, ⟨h, hL⟩, fr.rf⟩
/-- a word for what waited, if anything did -/
theorem s_wd {o : Nat} {p : Int} (hX : RX n t b z K) (hS : St F) (h : RC F n t b K a S C E Fn U) (hC : C.length < 640) (ho : o < 256) (hp : 0 ≤ p ∧ p < 200) :
    C_121 t (o : Int) p 0 F (fun F' => RC F' n t b K a S (C ++ wd o p) E Fn U ∧ fr (TP t) F F') m_no := by
  obtain ⟨k, rfl⟩ := Int.eq_ofNat_of_zero_le hp.1
  have hw : wd o (k : Int) = [mk o k 0] := by
    unfold wd
    rw [if_neg (by omega), Int.toNat_natCast]
  rw [hw]
  refine EvV.mono (s_121 (o := o) (p := k) (e := 0) hX.2.1 hS h.2.2.2 hC ho (by omega) (by omega)) (fun F' _ k => ⟨h.tree hX k.2 k.1, k.2⟩) (fun _ _ _ h => h)
theorem TP_RP : ∀ c, TP t c → RP n t c := fun c h => Or.inr (Or.inr h)
theorem l_72d {x1 x2 x3 x7 : Int} (hX : RX n t b z K) (hS : St F) (h : RC F n t b K a S C E Fn U) (hL : LvC F n ((x1, x2, x3, -1, -1, -1, x7) :: r)) (ha : a < 200) (hr : r.length < 200) (hz : LOk a (x1, x2, x3, -1, -1, -1, x7)) (hC : C.length + 1 < 640) :
    L_72_143 n (kn K a) (r.length : Int) F (XQ n t b K S E Fn U F (xb3 K a (x1, x2, x3, -1, -1, -1, x7) r C)) m_no := by
  obtain ⟨l1, l2, l3, l4, l5, l6, l7, l8⟩ := hL.2
  change F (n + 10) r.length = x7 at l7
  have hk : -1 ≤ x7 ∧ x7 < 200 := hz.2.2.2.2.2.2
  have hz3 : 0 ≤ x3 ∧ x3 ≤ (a : Int) := hz.2.2.1
  have add : (kn K a = 19 ∨ kn K a = 20) → XQ n t b K S E Fn U F (xb3 K a (x1, x2, x3, -1, -1, -1, x7) r C) 1 (m_up (m_up F (n + 9) r.length (F n 2)) n 2 (F n 2 + 1)) := fun h1 => by
    unfold xb3
    rw [if_pos h1, h.2.1]
    exact ⟨rfl, ⟨(h.lv1 hX (by omega)).pos (a' := a + 1) hX (by omega), hL.w9.pos⟩, (fr.rf.up (RP.lv (by omega))).up (Or.inl rfl)⟩
  have cmp : ¬ (kn K a = 19 ∨ kn K a = 20) → x7 = -1 → (kn K a = 17 ∨ kn K a = 18) → XQ n t b K S E Fn U F (xb3 K a (x1, x2, x3, -1, -1, -1, x7) r C) 1 (m_up (m_up F (n + 10) r.length (F n 2)) n 2 (F n 2 + 1)) := fun h0 h3 h1 => by
    unfold xb3
    rw [if_neg h0, if_pos h3, if_pos h1, h.2.1]
    exact ⟨rfl, ⟨(h.lv1 hX (by omega)).pos (a' := a + 1) hX (by omega), hL.w10.pos⟩, (fr.rf.up (RP.lv (by omega))).up (Or.inl rfl)⟩
  have hat := h.2.1
  refine b_72_143 hX.1 hS ?_
  rw [Int.toNat_natCast, l7]
  refine ⟨fun h1 => ⟨by omega, by omega, add (Or.inl h1)⟩, fun h1 => ⟨fun h2 => ⟨by omega, by omega, add (Or.inr h2)⟩, fun h2 => ⟨by omega, ⟨fun h3 => ⟨fun h4 => ⟨by omega, by omega, cmp (by omega) h3 (Or.inl h4)⟩, fun h4 => ⟨fun h5 => ⟨by omega, by omega, cmp (by omega) h3 (Or.inr h5)⟩, fun h5 => ?_⟩⟩, fun h3 => ?_⟩⟩⟩⟩
  · have he : xb3 K a (x1, x2, x3, -1, -1, -1, x7) r C = xcl K a (x1, x2, x3, -1, -1, -1, -1) r C := by
      unfold xb3
      rw [if_neg (by omega), if_pos h3, if_neg (by omega)]
    rw [he]
    subst h3
    exact s_73 hX hS h hL (by omega) hr ⟨by show -1 ≤ x3; omega, by show x3 < 1000; omega⟩
  · have he : xb3 K a (x1, x2, x3, -1, -1, -1, x7) r C = xcl K a (x1, x2, x3, -1, -1, -1, -1) r (C ++ wd 17 x7) := by
      unfold xb3
      rw [if_neg (by omega), if_neg h3]
    rw [he]
    refine ⟨t, h.1.2.2.1, hX.2.1, by omega, ?_⟩
    refine CaV.on (s_wd (o := 17) hX hS h (by omega) (by omega) ⟨by omega, hk.2⟩) ?_
    rintro F1 hS1 ⟨k1, k2⟩
    have hL1 : LvC F1 n ((x1, x2, x3, -1, -1, -1, x7) :: r) := LvC.emit hX hL k2
    refine ⟨by omega, ?_⟩
    refine CaI.on (s_73 (l := (x1, x2, x3, -1, -1, -1, -1)) hX (hS1.arr (ka_4_13 hX.1) (by decide)) (k1.lv1 hX (by omega)) hL1.w10 (by omega) hr ⟨by show -1 ≤ x3; omega, by show x3 < 1000; omega⟩) ?_
    rintro v F2 _ ⟨k3, k4, k5⟩
    exact ⟨k3, k4, ((k2.mo TP_RP).up (RP.lv (by omega))).tr k5⟩
theorem l_72c {x1 x2 x3 x6 x7 : Int} (hX : RX n t b z K) (hS : St F) (h : RC F n t b K a S C E Fn U) (hL : LvC F n ((x1, x2, x3, -1, -1, x6, x7) :: r)) (ha : a < 200) (hr : r.length < 200) (hz : LOk a (x1, x2, x3, -1, -1, x6, x7)) (hC : C.length + 2 < 640) :
    L_72_82 n (kn K a) (r.length : Int) F (XQ n t b K S E Fn U F (xb2 K a (x1, x2, x3, -1, -1, x6, x7) r C)) m_no := by
  obtain ⟨l1, l2, l3, l4, l5, l6, l7, l8⟩ := hL.2
  change F (n + 9) r.length = x6 at l6
  have hk : -1 ≤ x6 ∧ x6 < 200 := hz.2.2.2.2.2.1
  have hat := h.2.1
  unfold xb2
  refine b_72_82 hX.1 hS ?_
  rw [Int.toNat_natCast, l6]
  refine ⟨fun h1 => ⟨by omega, by omega, ?_⟩, fun h1 => ⟨by omega, ⟨fun h2 => ?_, fun h2 => ⟨t, h.1.2.2.1, hX.2.1, by omega, ?_⟩⟩⟩⟩
  · rw [if_pos h1, h.2.1]
    exact ⟨rfl, ⟨(h.lv1 hX (by omega)).pos (a' := a + 1) hX (by omega), hL.w8.pos⟩, (fr.rf.up (RP.lv (by omega))).up (Or.inl rfl)⟩
  · rw [if_neg h1]
    subst h2
    show L_72_143 n (kn K a) (r.length : Int) F (XQ n t b K S E Fn U F (xb3 K a (x1, x2, x3, -1, -1, -1, x7) r (C ++ []))) m_no
    rw [List.append_nil]
    exact l_72d hX hS h hL ha hr hz (by omega)
  · rw [if_neg h1]
    refine CaV.on (s_wd (o := 17) hX hS h (by omega) (by omega) ⟨by omega, hk.2⟩) ?_
    rintro F1 hS1 ⟨k1, k2⟩
    have hL1 := (LvC.emit hX hL k2).w9 (v := -1)
    refine ⟨by omega, EvI.mono (l_72d (x1 := x1) (x2 := x2) (x3 := x3) (x7 := x7) hX (hS1.arr (ka_4_12 hX.1) (by decide)) (k1.lv1 hX (by omega)) hL1 ha hr ⟨hz.1, hz.2.1, hz.2.2.1, hz.2.2.2.1, hz.2.2.2.2.1, (by decide : (-1 : Int) ≤ -1 ∧ (-1 : Int) < 200), hz.2.2.2.2.2.2⟩ (by rw [List.length_append, wd_len]; unfold pn1; split <;> omega)) ?_ (fun _ _ _ h => h)⟩
    rintro v F2 _ ⟨k3, k4, k5⟩
    exact ⟨k3, k4, ((k2.mo TP_RP).up (RP.lv (by omega))).tr k5⟩
theorem l_72b {x1 x2 x3 x5 x6 x7 : Int} (hX : RX n t b z K) (hS : St F) (h : RC F n t b K a S C E Fn U) (hL : LvC F n ((x1, x2, x3, -1, x5, x6, x7) :: r)) (ha : a < 200) (hr : r.length < 200) (hz : LOk a (x1, x2, x3, -1, x5, x6, x7)) (hC : C.length + 3 < 640) :
    L_72_49 n (kn K a) (r.length : Int) F (XQ n t b K S E Fn U F (xb2 K a (x1, x2, x3, -1, -1, x6, x7) r (C ++ wd 17 x5))) m_no := by
  obtain ⟨l1, l2, l3, l4, l5, l6, l7, l8⟩ := hL.2
  change F (n + 8) r.length = x5 at l5
  have hk : -1 ≤ x5 ∧ x5 < 200 := hz.2.2.2.2.1
  refine b_72_49 hX.1 hS ?_
  rw [Int.toNat_natCast, l5]
  refine ⟨by omega, ⟨fun h2 => ?_, fun h2 => ⟨t, h.1.2.2.1, hX.2.1, by omega, ?_⟩⟩⟩
  · subst h2
    show L_72_82 n (kn K a) (r.length : Int) F (XQ n t b K S E Fn U F (xb2 K a (x1, x2, x3, -1, -1, x6, x7) r (C ++ []))) m_no
    rw [List.append_nil]
    exact l_72c hX hS h hL ha hr hz (by omega)
  · refine CaV.on (s_wd (o := 17) hX hS h (by omega) (by omega) ⟨by omega, hk.2⟩) ?_
    rintro F1 hS1 ⟨k1, k2⟩
    have hL1 := (LvC.emit hX hL k2).w8 (v := -1)
    refine ⟨by omega, EvI.mono (l_72c (x1 := x1) (x2 := x2) (x3 := x3) (x6 := x6) (x7 := x7) hX (hS1.arr (ka_4_11 hX.1) (by decide)) (k1.lv1 hX (by omega)) hL1 ha hr ⟨hz.1, hz.2.1, hz.2.2.1, hz.2.2.2.1, (by decide : (-1 : Int) ≤ -1 ∧ (-1 : Int) < 200), hz.2.2.2.2.2⟩ (by rw [List.length_append, wd_len]; unfold pn1; split <;> omega)) ?_ (fun _ _ _ h => h)⟩
    rintro v F2 _ ⟨k3, k4, k5⟩
    exact ⟨k3, k4, ((k2.mo TP_RP).up (RP.lv (by omega))).tr k5⟩
theorem s_72 (hX : RX n t b z K) (hS : St F) (h : RC F n t b K a S C E Fn U) (hL : LvC F n (l :: r)) (ha : a < 200) (hr : r.length < 200) (hz : LOk a l) (hC : C.length + 4 < 640) :
    C_72 n F (XQ n t b K S E Fn U F (xbh K a l r C)) m_no := by
  obtain ⟨x1, x2, x3, x4, x5, x6, x7⟩ := l
  obtain ⟨l1, l2, l3, l4, l5, l6, l7, l8⟩ := hL.2
  change F (n + 7) r.length = x4 at l4
  have hk : -1 ≤ x4 ∧ x4 < 200 := hz.2.2.2.1
  have e14 : F n 14 - 1 = (r.length : Int) := by
    rw [hL.1, List.length_cons]
    omega
  have hb2 : xbh K a (x1, x2, x3, x4, x5, x6, x7) r C = xb2 K a (x1, x2, x3, -1, -1, x6, x7) r (C ++ wd 16 x4 ++ wd 17 x5) := rfl
  rw [hb2]
  refine c_72 hX.1 hS ?_
  rw [h.2.1]
  refine CaI.on (s_59 hX hS h.1) ?_
  rintro v F1 hS1 ⟨rfl, rfl⟩
  rw [e14, Int.toNat_natCast, l4]
  refine ⟨by omega, by omega, ⟨fun h2 => ?_, fun h2 => ⟨t, h.1.2.2.1, hX.2.1, by omega, ?_⟩⟩⟩
  · subst h2
    show L_72_49 n (kn K a) (r.length : Int) F1 (XQ n t b K S E Fn U F1 (xb2 K a (x1, x2, x3, -1, -1, x6, x7) r (C ++ [] ++ wd 17 x5))) m_no
    rw [List.append_nil]
    exact l_72b hX hS h hL ha hr hz (by omega)
  · refine CaV.on (s_wd (o := 16) hX hS h (by omega) (by omega) ⟨by omega, hk.2⟩) ?_
    rintro F2 hS2 ⟨k1, k2⟩
    have hL1 := (LvC.emit hX hL k2).w7 (v := -1)
    refine ⟨by omega, EvI.mono (l_72b (x1 := x1) (x2 := x2) (x3 := x3) (x5 := x5) (x6 := x6) (x7 := x7) hX (hS2.arr (ka_4_10 hX.1) (by decide)) (k1.lv1 hX (by omega)) hL1 ha hr ⟨hz.1, hz.2.1, hz.2.2.1, (by decide : (-1 : Int) ≤ -1 ∧ (-1 : Int) < 200), hz.2.2.2.2⟩ (by rw [List.length_append, wd_len]; unfold pn1; split <;> omega)) ?_ (fun _ _ _ h => h)⟩
    rintro v F3 _ ⟨k3, k4, k5⟩
    exact ⟨k3, k4, ((k2.mo TP_RP).up (RP.lv (by omega))).tr k5⟩
end M63
