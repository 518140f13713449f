/-! COMPLETIONS, OF THE CLASS: gather -/
section Mi5
variable {F G : MF} {X : Nat → List Int} {f g k m n : Nat} {A L M : List Nat} {N : List Int}
/-- the functions of the files that are used -/
theorem l_3 {n2 : Nat} {R : MF → Prop} (hn : n ∈ m_I1) (h2 : m_KD[n2]? = some (102, 6)) (hX : ∀ r, r < 24 → Rok (X r)) (hf : f < 3) (hA : A.length ≤ 97) {B : List Nat} (hB : B.length ≤ 120) {x : Int}
    (hR : ∀ G, St G → DTT G n X → FD G (A ++ B) → FP F G → C_8 n n2 x G R m_no) : ∀ (d i : Nat) (G : MF) (M : List Nat), i + d = (Uw X f).length → St G → DTT G n X → (∀ y ∈ M, VI X y) → FD G (A ++ M) → FP F G → dd X M (fnsU X f ((Uw X f).drop i)) = B →
    L_3_81 n (f : Int) n2 x (A.length : Int) (n + (20 + 19 * f)) (i : Int) G R m_no := by
  have hUl := (Fw_len hX hf).2.1
  have pU := (Cw_pv hX hf).1.2.2
  change ∀ u ∈ Uw X f, _ at pU
  have i9 := i9_of hn hf
  intro d
  induction d with
  | zero =>
    intro i G M hi hS hD hM hF hP he
    have hc : G (n + (20 + 19 * f)) 12 = ((Uw X f).length : Int) := (hD.2 f hf).2.2.2.2.1
    rw [List.drop_eq_nil_of_le (by omega)] at he
    change M = B at he
    refine b_3_81 hn h2 i9 hS ?_
    rw [hc]
    refine ⟨fun h => by omega, fun _ => ?_⟩
    refine CaV.on (hR G hS hD (by rw [← he]; exact hF) hP) ?_
    intro F' _ h
    exact h
  | succ d ih =>
    intro i G M hi hS hD hM hF hP he
    have hc : G (n + (20 + 19 * f)) 12 = ((Uw X f).length : Int) := (hD.2 f hf).2.2.2.2.1
    have hi2 : i < (Uw X f).length := by omega
    obtain ⟨u, u1, u2, u3⟩ := pU _ (List.getElem_mem hi2)
    have hv : G (n + (20 + 19 * f) + 9) i = (u : Int) := by
      have h9 : G (n + (20 + 19 * f) + 9) i = gx (Uw X f) i := (hD.2 f hf).2.2.2.2.2 i hi2
      rw [h9, ← u1]
      unfold gx
      rw [List.getD_eq_getElem?_getD, List.getElem?_eq_getElem hi2]
      rfl
    have ed : fnsU X f ((Uw X f).drop i) = fnsI X (uf X f u) ++ fnsU X f ((Uw X f).drop (i + 1)) := by
      rw [List.drop_eq_getElem_cons hi2]
      show fnsI X (uf X f ((Uw X f)[i]'hi2).toNat) ++ _ = _
      rw [u1, Int.toNat_natCast]
    rw [ed, dd_app] at he
    have hbl := dd_len (X := X) (fnsU X f ((Uw X f).drop (i + 1))) (dd X M (fnsI X (uf X f u)))
    rw [he] at hbl
    refine b_3_81 hn h2 i9 hS ?_
    rw [hc, Int.toNat_natCast, hv]
    refine ⟨fun _ => ⟨by omega, ?_⟩, fun h => by omega⟩
    refine CaI.on (s_16 hn hS hX hD hf u3) ?_
    rintro r G1 hS1 ⟨rfl, rfl⟩
    refine CaV.on (s_6 (A := A) hn hX hS1 hD hM hF (by omega)) ?_
    rintro G2 hS2 ⟨k1, k2⟩
    refine ⟨by omega, ?_⟩
    have := ih (i + 1) G2 _ (by omega) hS2 (k2.dtt hn hD) (VI.dd hM (fnsI_vi hX)) k1 (hP.tr k2) he
    rw [show ((i + 1 : Nat) : Int) = (i : Int) + 1 by omega] at this
    exact this
theorem FP.cp (h : FP F G) : CP n F G := ⟨fun c a _ b _ _ => h.1 c a b, h.2⟩
/-- gather -/
theorem s_3 {n2 : Nat} (hn : n ∈ m_I1) (h2 : m_KD[n2]? = some (102, 6)) (h96 : n2 ≠ 108) (h97 : n2 ≠ 96) (h98 : n2 ≠ 97 ∧ ¬ RP (n + 68) 98 n2 ∧ ¬ (n + 8 ≤ n2 ∧ n2 ≤ n + 10)) (hX : ∀ r, r < 24 → Rok (X r)) (hS : St F) (hD : DTT F n X) (hf : f < 3) (hm : m ≤ (toks X f).length) (hN : AL (F n2) N) (hNl : N.length ≤ 6) :
    C_3 n (f : Int) (m : Int) n2 (N.length : Int) F (fun F' => FD F' (cmpl X f m N) ∧ CP n F F') m_no := by
  have hn2 := I1n hn
  have hmk : m ≤ (ks X f).length := by rw [ks_len']; exact hm
  have hfi : (0 : Int) ≤ (f : Int) ∧ (f : Int) < 3 := by omega
  have i8 := i8_of hn hf
  have hkl := ks_len hX hf
  have h98' : 98 ∈ m_I9 := by decide
  have hS0 : St (m_up F 96 3 0) := hS.fld kd_96 rk_0_3
  have c0 : CP n F (m_up F 96 3 0) := ⟨fun c a _ _ _ _ => up_row a, fun j hj => u_ne (Or.inr hj)⟩
  have hD0 := c0.dtt hn hD
  refine c_3 hn h2 hS ?_
  refine CaI.on (s_1 hn hS0 hX hD0 hf hm) ?_
  rintro r F2 hS2 ⟨rfl, k2⟩
  have f96 : F2 96 = m_up F 96 3 0 96 := k2 96 (by unfold MP RP; omega)
  have c2 : CP n F F2 := c0.tr (k2.cpp (fun c h => h) hn2)
  have hF2 : FD F2 [] := by
    refine ⟨?_, fun i hi => absurd hi (Nat.not_lt_zero i)⟩
    rw [f96, u_eq]
    rfl
  have hD2 := c2.dtt hn hD
  refine ⟨fun h => ?_, fun h => ?_⟩
  · have hb := msk_and.mp h
    have e : cmpl X f m N = [] := if_pos hb
    rw [e]
    exact ⟨hF2, c2⟩
  · have hb : ¬ bad X f m 0 = true := fun e => h (msk_and.mpr e)
    have ec : cmpl X f m N = (dd X [] (lcs X f m) ++ dd X [] (fns X f ++ fnsU X f (Uw X f))).filter (beg X N) := if_neg hb
    refine ⟨hfi, ?_⟩
    rw [Int.toNat_natCast]
    refine CaI.on (s_2 i8 hS2 (hD2.2 f hf).1.1 hm (toks_len hX hf)) ?_
    rintro r F8 hS8 ⟨rfl, k3, k4⟩
    have hRX : RX (n + 68) 98 97 200 (mK (ks X f) m 24) := by
      have hl := mK_193 (z := 24) hX hf hmk
      refine ⟨io_1_4 hn, h98', kd_97, by omega, by omega, fun c hc e => ?_, ?_⟩
      · unfold RP at hc
        omega
      · omega
    have hKl : (mK (ks X f) m 24).length = m := by rw [mK_len hmk, if_pos rfl, Nat.add_zero]
    have hA8 : AL (F8 97) (mK (ks X f) m 24) := fun i hi => by
      rw [hKl] at hi
      rw [← kn_gx (by rw [hKl]; exact hi), k4 i hi, mK_lt hmk hi]
    have c8 : CP n F F8 := c2.tr ⟨fun c _ a _ _ _ => k3 c a, fun j _ => by rw [k3 96 (by decide)]⟩
    have s58 := s_58 hRX hS8 hA8 (fun i hi => mK_no hmk (fun i hi => ks_no hX hf hi) hi) (mK_wt hX hf hmk)
    rw [hKl] at s58
    refine CaV.on s58 ?_
    rintro F12 hS12 ⟨k5, k6⟩
    obtain ⟨-, -, -, t0, -⟩ := k6
    have c12 : CP n F F12 := c8.tr (k5.cpp (fun c h => Or.inr h) hn2)
    have hF12 : FD F12 [] := by
      refine ⟨?_, fun i hi => absurd hi (Nat.not_lt_zero i)⟩
      rw [k5 96 (by unfold RP; omega), k3 96 (by decide)]
      exact hF2.1
    refine CaV.on (s_4 hn hX hS12 (c12.dtt hn hD) hf hmk t0 hF12) ?_
    rintro F16 hS16 ⟨k7, k8⟩
    have lo := lcs_ok hX hf hmk
    have hAv : ∀ y ∈ dd X [] (lcs X f m), VI X y := VI.dd (fun y hy => absurd hy (List.not_mem_nil)) lo.1
    have hAl : (dd X [] (lcs X f m)).length ≤ 97 := by
      have := dd_le (X := X) (lcs X f m) []
      have := lo.2
      rw [List.length_nil] at *
      omega
    have c16 : CP n F F16 := c12.tr k8.cp
    have hD16 := c16.dtt hn hD
    have hBl : (dd X [] (fns X f ++ fnsU X f (Uw X f))).length ≤ 120 := fn_len hX (fun y hy => (List.mem_append.mp hy).elim (fns_all hf y) (fnsU_all _ y))
    have hBv : ∀ y ∈ dd X [] (fns X f ++ fnsU X f (Uw X f)), VI X y := VI.dd (fun y hy => absurd hy (List.not_mem_nil)) (fun y hy => (List.mem_append.mp hy).elim (fns_vi hX hf y) (fun h => by
      have : ∀ U : List Int, y ∈ fnsU X f U → VI X y := by
        intro U
        induction U with
        | nil => exact fun h => absurd h (List.not_mem_nil)
        | cons u U ih => exact fun h => (List.mem_append.mp h).elim (fnsI_vi hX y) ih
      exact this _ h))
    have efn : fnsI X (f : Int) = fns X f := by unfold fnsI; rw [if_pos hfi, Int.toNat_natCast]
    have hb1 : (dd X [] (lcs X f m)).length + (dd X [] (fnsI X (f : Int))).length ≤ 300 := by
      rw [efn]
      have := fn_len (X := X) (M := fns X f) hX (fns_all hf)
      omega
    rw [k7.1]
    have s6 := s_6 (A := dd X [] (lcs X f m)) (L := []) (x := (f : Int)) hn hX hS16 hD16 (fun y hy => absurd hy (List.not_mem_nil)) (by rw [List.append_nil]; exact k7) hb1
    refine CaV.on s6 ?_
    rintro F20 hS20 ⟨k9, k10⟩
    refine ⟨hfi, ?_⟩
    have c20 : CP n F F20 := c16.tr k10.cp
    have hN20 : ∀ G, CP n F G → AL (G n2) N := fun G h => by
      rw [h.1 n2 h97 h98.1 h96 h98.2.1 h98.2.2]
      exact hN
    refine l_3 (A := dd X [] (lcs X f m)) (B := dd X [] (fns X f ++ fnsU X f (Uw X f))) (F := F20) (x := (N.length : Int)) hn h2 hX hf hAl hBl ?_ (Uw X f).length 0 F20 (dd X [] (fnsI X (f : Int))) (by omega) hS20 (c20.dtt hn hD) (VI.dd (fun y hy => absurd hy (List.not_mem_nil)) (fnsI_vi hX)) k9 FP.rf ?_
    · intro G hSG hDG hFG hPG
      refine CaV.on (s_8 (N := N) hn h2 h96 h97 hX hSG hDG (hN20 G (c20.tr hPG.cp)) hNl (by decide) (fun y hy => (List.mem_append.mp hy).elim (hAv y) (hBv y)) hFG (by rw [List.length_append]; omega)) ?_
      rintro F' _ ⟨k11, k12⟩
      rw [ec]
      exact ⟨k11, c20.tr (hPG.cp.tr k12.cp)⟩
    · rw [List.drop_zero, efn, dd_app]
end Mi5
