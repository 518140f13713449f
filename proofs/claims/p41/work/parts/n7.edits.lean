/-! CALLS THAT CHANGE SOMETHING, OF THE CLASS -/
/-- what a call answers: code k (0 well), value v, and what stands then -/
def EOk (F : MF) (k v : Int) (X S : Nat → List Int) (N : List Int) (L : List CH) (d : Bool) (e : Int) (r : Int) (F' : MF) : Prop := k = 0 ∧ r = v ∧ KC F' X S N L d e ∧ Cn F F'
def ET (F : MF) (k : Int) (g : Nat → Int) (X S : Nat → List Int) (N : List Int) (L : List CH) (d : Bool) (e : Int) (t : Nat) (F' : MF) : Prop := k = g t ∧ KC F' X S N L d e ∧ Cn F F'
def isIn (X : Nat → List Int) (x y z : Int) : Prop := ∃ f m q : Nat, f < 3 ∧ m < 8 ∧ q ≤ (X (8 * f + m)).length ∧ x = (f : Int) ∧ y = (m : Int) ∧ z = (q : Int)
def rw8 (x y : Int) : Nat := 8 * x.toNat + y.toNat
noncomputable def kIn (X : Nat → List Int) (x y z c : Int) : Int := pif (isIn X x y z) (pif (32 ≤ c ∧ c ≤ 126) (pif ((X (rw8 x y)).length < 24) 0 3) 2) 1
def xIn (X : Nat → List Int) (x y z c : Int) : Nat → List Int := rupd X (rw8 x y) (ins (X (rw8 x y)) z.toNat c)
def xEr (X : Nat → List Int) (x y z : Int) : Nat → List Int := rupd X (rw8 x y) (del (X (rw8 x y)) z.toNat)
/-- the text of a fragment -/
def ptx (k : Nat) : List Int := m_ct (k + 5)
noncomputable def kPa (X : Nat → List Int) (x y z : Int) : Int := pif (isLn x y) (pif (0 ≤ z ∧ z < 24) (pif ((X (rw8 x y)).length + (ptx z.toNat).length ≤ 24) 0 3) 2) 1
def xPa (X : Nat → List Int) (x y z : Int) : Nat → List Int := rupd X (rw8 x y) (X (rw8 x y) ++ ptx z.toNat)
def xCl (X : Nat → List Int) (x y : Int) : Nat → List Int := rupd X (rw8 x y) []
def rlI (X Y : Nat → List Int) (x y : Int) : Int := (relx X Y x.toNat y.toNat : Nat)
theorem ptx_ok : ∀ k, k < 24 → (ptx k).all (fun c => decide (32 ≤ c ∧ c ≤ 126)) = true := by decide +kernel
theorem ptx_len : ∀ k, k < 24 → (ptx k).length ≤ 24 := by decide +kernel
section Mn7
variable {F F0 G : MF} {X Y S : Nat → List Int} {N : List Int} {L : List CH} {d : Bool} {e : Int} {f m k n q : Nat} {x1 x2 x3 x4 : Int}
theorem g193a : ∀ k : Nat, k < 24 → g_193 (fun _ _ => 0) (k : Int) = k := by decide +kernel
theorem g193 (hk : k < 24) : g_193 F (k : Int) = k := g193a k hk
/-- behind an edit of a row -/
theorem s_187k {l : List Int} {w : Int} (hf : f < 3) (hm : m < 8) (hS : St G) (h : KC F X S N L d e) (hY : Y = rupd X (8 * f + m) l) (hL : LinC G 2 Y) (hk : fr (fun c => c = 3 ∨ c = 4 ∨ c = 5) F G) :
    C_187 (f : Int) (m : Int) w G (fun F' => KC F' Y S N L (if w = 0 then d else true) (relx X Y f m : Nat) ∧ LinC F' 2 Y ∧ Cn F F') m_no := by
  obtain ⟨a1, a2, a3, a4, ⟨b1, b2, b3, b4⟩, a6, a7, a8⟩ := h
  have hE : Ends G X := fun g hg k hk' => by rw [hk _ (by omega)]; exact a3 g hg k hk'
  refine CaV.on (s_187 hf hm hS hY hL hE) ?_
  rintro F1 hS1 ⟨u1, u2, u3, u4, u5, u6, u7, u8⟩
  have hL1 : LinC F1 2 Y := by
    show Rws (F1 3) (F1 4) Y
    rw [u8 3 (by omega), u8 4 (by omega)]
    exact hL
  have hc : ∀ c, 80 ≤ c → c ≠ 109 → F1 c = F c := fun c p q => by rw [u8 c (by omega), hk c (by omega)]
  refine ⟨⟨hL1, ?_, u1, fun h6 => by rw [u3] at h6; exact absurd h6 (by decide), ⟨by rw [u5 8 (by decide), hk 0 (by decide)]; exact b1, by rw [hc 200 (by decide) (by decide)]; exact b2, b3, b4⟩, u2, a7.cg (by rw [u7 7 (by decide), hk 109 (by decide)]) (fun c p q => hc c (by omega) (by omega)), fun hl => ?_⟩, hL1, fun c hc' => hc c (by omega) (by omega)⟩
  · show Rws (F1 81) (F1 82) S
    rw [hc 81 (by decide) (by decide), hc 82 (by decide) (by decide)]
    exact a2
  · rw [u4]
    by_cases c : w = 0
    · rw [if_pos c, if_pos c, hk 109 (by decide)]
      exact a8 hl
    · rw [if_neg c, if_neg c]
      exact ⟨fun _ => rfl, fun _ => by decide⟩
theorem f_141 (hS : St F) (h : KC F X S N L d e) : C_141 x1 x2 x3 x4 F (EOk F (kIn X x1 x2 x3 x4) ((X (rw8 x1 x2)).length + 1) (xIn X x1 x2 x3 x4) S N L true (rlI X (xIn X x1 x2 x3 x4) x1 x2)) (ET F (kIn X x1 x2 x3 x4) (fun t => (t : Int) + 1) X S N L d e) := by
  refine c_141 hS (s_180 hS (fun f m hf hm e1 e2 => ?_) (fun hn => ⟨by unfold kIn; rw [pif_0 (fun ⟨f, m, q, a, b, c, a1, a2, a3⟩ => hn ⟨f, m, a, b, a1, a2⟩)]; rfl, h, Cn.rf⟩))
  subst e1
  subst e2
  have e8 : rw8 (f : Int) (m : Int) = 8 * f + m := by unfold rw8; omega
  have hl := (h.hX (8 * f + m) (by omega)).1
  have bad : ¬ (0 ≤ x3 ∧ x3 ≤ ((X (8 * f + m)).length : Int)) → ET F (kIn X (f : Int) (m : Int) x3 x4) (fun t => (t : Int) + 1) X S N L d e 0 F := fun hb => ⟨by
    unfold kIn
    rw [pif_0 ?_]
    · rfl
    · rintro ⟨f', m', q, a, b, c, a1, a2, a3⟩
      have e1 : f' = f := by omega
      have e2 : m' = m := by omega
      subst e1
      subst e2
      omega, h, Cn.rf⟩
  rw [show (f : Int) * 8 + (m : Int) = ((8 * f + m : Nat) : Int) by omega, q_21 h.1 (show 8 * f + m < 24 by omega)]
  refine ⟨by omega, by omega, fun h3 => bad (by omega), fun h3 => ⟨fun h4 => bad (by omega), fun h4 => ?_⟩⟩
  obtain ⟨q, rfl⟩ : ∃ q : Nat, x3 = (q : Int) := ⟨x3.toNat, by omega⟩
  have hin : isIn X (f : Int) (m : Int) (q : Int) := ⟨f, m, q, hf, hm, by omega, rfl, rfl, rfl⟩
  have bad2 : ¬ (32 ≤ x4 ∧ x4 ≤ 126) → ET F (kIn X (f : Int) (m : Int) (q : Int) x4) (fun t => (t : Int) + 1) X S N L d e 1 F := fun hb => ⟨by
    unfold kIn
    rw [pif_1 hin, pif_0 hb]
    rfl, h, Cn.rf⟩
  refine ⟨fun h5 => bad2 (by omega), fun h5 => ⟨fun h6 => bad2 (by omega), fun h6 => ⟨fun h7 => ?_, fun h7 => ⟨by
    unfold kIn
    rw [pif_1 hin, pif_1 (show 32 ≤ x4 ∧ x4 ≤ 126 by omega), e8, pif_0 (by omega)]
    rfl, h, Cn.rf⟩⟩⟩⟩
  refine CaV.on (s_23 (n := 2) (c := q) (ch := x4) (by decide) hS h.1 (by omega) (by omega) (by omega) (by omega)) ?_
  rintro F1 hS1 ⟨u1, u2, u3⟩
  have ex : rupd X (8 * f + m) (ins (X (8 * f + m)) q x4) = xIn X (f : Int) (m : Int) (q : Int) x4 := by unfold xIn; rw [e8, Int.toNat_natCast]
  refine CaV.on (s_187k hf hm hS1 h rfl u1 (u3.mo (fun c hc => by omega))) ?_
  rintro F2 hS2 ⟨v1, v2, v3⟩
  rw [q_21 v2 (show 8 * f + m < 24 by omega), upd_eq, ins_len (by omega)]
  rw [if_neg (by decide), ex] at v1
  refine ⟨?_, by rw [e8]; omega, ?_, v3⟩
  · unfold kIn
    rw [pif_1 hin, pif_1 (show 32 ≤ x4 ∧ x4 ≤ 126 by omega), e8, pif_1 (by omega)]
  · unfold rlI
    rw [Int.toNat_natCast, Int.toNat_natCast]
    exact v1
theorem f_142 (hS : St F) (h : KC F X S N L d e) : C_142 x1 x2 x3 F (EOk F (pif (isCh X x1 x2 x3) 0 1) (aCh X x1 x2 x3) (xEr X x1 x2 x3) S N L true (rlI X (xEr X x1 x2 x3) x1 x2)) (ET F (pif (isCh X x1 x2 x3) 0 1) (fun t => (t : Int) + 1) X S N L d e) := by
  refine c_142 hS (s_181 hS h.1 (fun f m q hf hm hq e1 e2 e3 => ?_) (fun hn => ⟨by rw [pif_0 hn]; rfl, h, Cn.rf⟩))
  subst e1
  subst e2
  subst e3
  have e8 : rw8 (f : Int) (m : Int) = 8 * f + m := by unfold rw8; omega
  have hx := ((h.hX (8 * f + m) (by omega)).2 _ (gx_mem hq))
  rw [show (f : Int) * 8 + (m : Int) = ((8 * f + m : Nat) : Int) by omega]
  refine ⟨by omega, by omega, CaI.on (s_24 (n := 2) (by decide) hS h.1 (by omega) hq) ?_⟩
  rintro r F1 hS1 ⟨rfl, u1, u2⟩
  have ex : rupd X (8 * f + m) (del (X (8 * f + m)) q) = xEr X (f : Int) (m : Int) (q : Int) := by unfold xEr; rw [e8, Int.toNat_natCast]
  refine CaV.on (s_187k hf hm hS1 h rfl u1 (u2.mo (fun c hc => by omega))) ?_
  rintro F2 hS2 ⟨v1, v2, v3⟩
  rw [if_neg (by decide), ex] at v1
  refine ⟨by omega, pif_1 ⟨f, m, q, hf, hm, hq, rfl, rfl, rfl⟩, by simp only [aCh, Int.toNat_natCast], ?_, v3⟩
  unfold rlI
  rw [Int.toNat_natCast, Int.toNat_natCast]
  exact v1
theorem f_143 (hS : St F) (h : KC F X S N L d e) : C_143 x1 x2 x3 F (EOk F (kPa X x1 x2 x3) ((X (rw8 x1 x2)).length + (ptx x3.toNat).length) (xPa X x1 x2 x3) S N L true (rlI X (xPa X x1 x2 x3) x1 x2)) (ET F (kPa X x1 x2 x3) (fun t => (t : Int) + 1) X S N L d e) := by
  refine c_143 hS (s_180 hS (fun f m hf hm e1 e2 => ?_) (fun hn => ⟨by unfold kPa; rw [pif_0 hn]; rfl, h, Cn.rf⟩))
  subst e1
  subst e2
  have e8 : rw8 (f : Int) (m : Int) = 8 * f + m := by unfold rw8; omega
  have hl := (h.hX (8 * f + m) (by omega)).1
  have hln : isLn (f : Int) (m : Int) := ⟨f, m, hf, hm, rfl, rfl⟩
  have bad : ¬ (0 ≤ x3 ∧ x3 < 24) → ET F (kPa X (f : Int) (m : Int) x3) (fun t => (t : Int) + 1) X S N L d e 1 F := fun hb => ⟨by
    unfold kPa
    rw [pif_1 hln, pif_0 hb]
    rfl, h, Cn.rf⟩
  refine ⟨fun h3 => bad (by omega), fun h3 => ⟨fun h4 => ?_, fun h4 => bad (by omega)⟩⟩
  obtain ⟨k, rfl⟩ : ∃ k : Nat, x3 = (k : Int) := ⟨x3.toNat, by omega⟩
  have hk : k < 24 := by omega
  have hpt : ∀ c ∈ ptx k, 32 ≤ c ∧ c ≤ 126 := fun c hc => of_decide_eq_true (List.all_eq_true.mp (ptx_ok k hk) c hc)
  have el : g_421 F (k) = ((ptx k).length : Int) := q_421
  rw [show (f : Int) * 8 + (m : Int) = ((8 * f + m : Nat) : Int) by omega, q_21 h.1 (show 8 * f + m < 24 by omega), g193 hk, el]
  have hpl : (ptx k).length ≤ 24 := ptx_len k hk
  refine ⟨by omega, by omega, ob_421 (by omega), by omega, fun h5 => ⟨by
    unfold kPa
    rw [pif_1 hln, pif_1 (show (0 : Int) ≤ (k : Int) ∧ (k : Int) < 24 by omega), e8, Int.toNat_natCast, pif_0 (by omega)]
    rfl, h, Cn.rf⟩, fun h5 => ?_⟩
  have key : ∀ (d' i : Nat) (G : MF), i + d' = (ptx k).length → St G → fr (fun c => c = 3 ∨ c = 4) F G → LinC G 2 (rupd X (8 * f + m) (X (8 * f + m) ++ (ptx k).take i)) → L_143_71 (f : Int) (m : Int) ((8 * f + m : Nat) : Int) (k) (i : Int) G (EOk F (kPa X (f : Int) (m : Int) (k : Int)) ((X (rw8 (f : Int) (m : Int))).length + (ptx (k : Int).toNat).length) (xPa X (f : Int) (m : Int) (k : Int)) S N L true (rlI X (xPa X (f : Int) (m : Int) (k : Int)) (f : Int) (m : Int))) (ET F (kPa X (f : Int) (m : Int) (k : Int)) (fun t => (t : Int) + 1) X S N L d e) := by
    intro d'
    induction d' with
    | zero =>
      intro i G hi hSG hfr hLG
      have el2 : g_421 G (k) = ((ptx k).length : Int) := q_421
      rw [List.take_of_length_le (by omega)] at hLG
      refine b_143_71 hSG ?_
      rw [el2]
      refine ⟨ob_421 (by omega), fun h => by omega, fun _ => CaV.on (s_187k hf hm hSG h rfl hLG (hfr.mo (fun c hc => by omega))) ?_⟩
      rintro F2 hS2 ⟨v1, v2, v3⟩
      have ex : rupd X (8 * f + m) (X (8 * f + m) ++ ptx k) = xPa X (f : Int) (m : Int) (k : Int) := by unfold xPa; rw [e8, Int.toNat_natCast]
      rw [q_21 v2 (show 8 * f + m < 24 by omega), upd_eq, List.length_append]
      rw [if_neg (by decide), ex] at v1
      refine ⟨?_, by rw [e8, Int.toNat_natCast]; omega, ?_, v3⟩
      · unfold kPa
        rw [pif_1 hln, pif_1 (show (0 : Int) ≤ (k : Int) ∧ (k : Int) < 24 by omega), e8, Int.toNat_natCast, pif_1 (by omega)]
      · unfold rlI
        rw [Int.toNat_natCast, Int.toNat_natCast]
        exact v1
    | succ d' ih =>
      intro i G hi hSG hfr hLG
      have hi2 : i < (ptx k).length := by omega
      have el2 : g_421 G (k) = ((ptx k).length : Int) := q_421
      have hlen : (X (8 * f + m) ++ (ptx k).take i).length = (X (8 * f + m)).length + i := by rw [List.length_append, List.length_take]; omega
      refine b_143_71 hSG ?_
      rw [el2]
      refine ⟨ob_421 (by omega), fun _ => CaI.on (s_422 (y := k) (j := i) hSG (by omega) hi2) ?_, fun h => by omega⟩
      rintro r F1 hS1 ⟨rfl, rfl⟩
      have hcx := hpt _ (gx_mem hi2)
      rw [q_21 hLG (show 8 * f + m < 24 by omega), upd_eq, hlen]
      have s := s_23 (n := 2) (r := 8 * f + m) (c := (X (8 * f + m)).length + i) (ch := gx (ptx k) i) (by decide) hS1 hLG (by omega) (by rw [upd_eq, hlen]; omega) (by rw [upd_eq, hlen]; omega) hcx
      refine CaV.on s ?_
      rintro F2 hS2 ⟨u1, u2, u3⟩
      rw [upd_eq] at u1
      have e1 : ins (X (8 * f + m) ++ (ptx k).take i) ((X (8 * f + m)).length + i) (gx (ptx k) i) = X (8 * f + m) ++ (ptx k).take (i + 1) := by
        unfold ins
        rw [List.take_of_length_le (by rw [hlen]; omega), List.drop_eq_nil_of_le (by rw [hlen]; omega), List.take_succ_eq_append_getElem hi2, ← List.append_assoc]
        congr 1
        unfold gx
        rw [List.getD_eq_getElem?_getD, List.getElem?_eq_getElem hi2]
        rfl
      have e2 : rupd (rupd X (8 * f + m) (X (8 * f + m) ++ (ptx k).take i)) (8 * f + m) (X (8 * f + m) ++ (ptx k).take (i + 1)) = rupd X (8 * f + m) (X (8 * f + m) ++ (ptx k).take (i + 1)) := funext fun r => by
        by_cases c : r = 8 * f + m
        · rw [c, upd_eq, upd_eq]
        · rw [upd_ne c, upd_ne c, upd_ne c]
      rw [e1, e2] at u1
      have := ih (i + 1) F2 (by omega) hS2 (hfr.tr (u3.mo (fun c hc => by omega))) u1
      rw [show ((i + 1 : Nat) : Int) = (i : Int) + 1 by omega] at this
      exact ⟨by omega, this⟩
  refine key (ptx k).length 0 F (by omega) hS fr.rf ?_
  have e0 : rupd X (8 * f + m) (X (8 * f + m) ++ (ptx k).take 0) = X := funext fun r => by
    rw [List.take_zero, List.append_nil]
    by_cases c : r = 8 * f + m
    · rw [c, upd_eq]
    · rw [upd_ne c]
  rw [e0]
  exact h.1
theorem f_144 (hS : St F) (h : KC F X S N L d e) : C_144 x1 x2 F (EOk F (pif (isLn x1 x2) 0 1) (aLn X x1 x2) (xCl X x1 x2) S N L (if aLn X x1 x2 = 0 then d else true) (rlI X (xCl X x1 x2) x1 x2)) (ET F (pif (isLn x1 x2) 0 1) (fun t => (t : Int) + 1) X S N L d e) := by
  refine c_144 hS (s_180 hS (fun f m hf hm e1 e2 => ?_) (fun hn => ⟨by rw [pif_0 hn]; rfl, h, Cn.rf⟩))
  subst e1
  subst e2
  have e8 : rw8 (f : Int) (m : Int) = 8 * f + m := by unfold rw8; omega
  have ea : aLn X (f : Int) (m : Int) = ((X (8 * f + m)).length : Int) := by simp only [aLn, Int.toNat_natCast]
  rw [show (f : Int) * 8 + (m : Int) = ((8 * f + m : Nat) : Int) by omega, q_21 h.1 (show 8 * f + m < 24 by omega)]
  refine ⟨by omega, by omega, CaV.on (s_25 (n := 2) (by decide) hS h.1 (by omega)) ?_⟩
  rintro F1 hS1 ⟨u1, u2, u3⟩
  have ex : rupd X (8 * f + m) [] = xCl X (f : Int) (m : Int) := by unfold xCl; rw [e8]
  have fin : ∀ w : Int, (w = 0 ↔ (X (8 * f + m)).length = 0) → C_187 (f : Int) (m : Int) w F1 (fun F' => EOk F (pif (isLn (f : Int) (m : Int)) 0 1) (aLn X (f : Int) (m : Int)) (xCl X (f : Int) (m : Int)) S N L (if aLn X (f : Int) (m : Int) = 0 then d else true) (rlI X (xCl X (f : Int) (m : Int)) (f : Int) (m : Int)) ((X (8 * f + m)).length : Int) F') m_no := fun w hw => by
    refine CaV.on (s_187k (w := w) hf hm hS1 h rfl u1 (u3.mo (fun c hc => by omega))) ?_
    rintro F2 hS2 ⟨v1, v2, v3⟩
    rw [ex] at v1
    refine ⟨pif_1 ⟨f, m, hf, hm, rfl, rfl⟩, ea.symm, ?_, v3⟩
    unfold rlI
    rw [Int.toNat_natCast, Int.toNat_natCast, ea]
    by_cases c : w = 0
    · rw [if_pos c] at v1
      rw [if_pos (by have := hw.mp c; omega)]
      exact v1
    · rw [if_neg c] at v1
      rw [if_neg (fun h => c (hw.mpr (by omega)))]
      exact v1
  exact ⟨fun h1 => fin 1 ⟨fun c => absurd c (by decide), fun c => by omega⟩, fun h1 => fin 0 ⟨fun _ => by omega, fun _ => rfl⟩⟩
end Mn7
