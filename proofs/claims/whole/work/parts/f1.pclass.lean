/-! PRINTING, OF THE CLASS -/
section Mf1
variable {F G : MF} {X : Nat → List Int} {n f k t : Nat} {st st' : List (Int × Int)} {a b : Int × Int} {x y p w : Int} {W : List Int}
theorem ppw_len {K : List Int} {dr : Bool} : (ppw K w dr st).length ≤ st.length + 1 := by
  unfold ppw
  split
  · exact Nat.le_refl _
  · split
    · rw [List.length_cons, List.length_drop]; omega
    · split
      · rw [List.length_cons, List.length_drop]; omega
      · split
        · rw [List.length_cons, List.length_drop]; omega
        · omega
theorem bh0 : bhF 0 a = a := if_pos rfl
theorem s_96 {dr : Bool} (hn : n ∈ m_I1) (hS : St F) (hX : ∀ r, r < 24 → Rok (X r)) (hf : f < 3) (hG : GaC F (n + (11 + 19 * f)) f X) (h : PrC F st) (hl : st.length < 800) (hw : WC (ks X f) w) (h32 : 0 ≤ w ∧ w < 2147483648) (h14 : 14 ≤ wo w) :
    C_96 (n + (11 + 19 * f)) w (if dr = true then 1 else 0) F (fun F' => PrC F' (ppw (ks X f) w dr st) ∧ fr RunP F F') m_no := by
  have hn8 := i8_of hn hf
  obtain ⟨o, q, e, e1, e2, e3⟩ := hw
  have ho : o < 256 := by unfold oX at e3; omega
  have w1 := wo_mk (o := o) (t := q) (e := e) ho
  have w2 := wt_mk (o := o) (t := q) (e := e) ho e2
  have w3 := we_mk (o := o) (t := q) (e := e) ho e2
  rw [← e1] at w1 w2 w3
  have g0 : ∀ F : MF, g_198 F w = (o : Int) := fun F => by rw [g198 h32, w1]
  have g1 : ∀ F : MF, g_199 F w = (q : Int) := fun F => by rw [g199 h32, w2]
  have g2 : ∀ F : MF, g_200 F w = (e : Int) := fun F => by rw [g200 h32, w3]
  have we8 : e < 32768 := by
    have : we w < 32768 := by unfold we; omega
    omega
  have h1 : F 91 5 = (st.length : Int) := h.1
  have eg : ∀ k : Nat, g_437 F 0 ((st.length : Int) - (k : Int)) = ((st.length - k : Nat) : Int) := fun k => by unfold g_437; split <;> omega
  have e1' := eg 1
  have e2' := eg 2
  rw [show ((1 : Nat) : Int) = 1 from rfl] at e1'
  rw [show ((2 : Nat) : Int) = 2 from rfl] at e2'
  unfold ppw
  rw [w1, w2, w3, Int.toNat_natCast, Int.toNat_natCast]
  refine c_96 hn8 hS ?_
  rw [g0, g1, g2, h1, q_104 hG hf q]
  refine ⟨fun c => ?_, fun c => ⟨fun c2 => ⟨by omega, ?_⟩, fun c2 => ⟨fun c3 => ⟨by omega, ob_104 hG hX hf q, ?_⟩, fun c3 => ⟨fun c4 => ⟨by omega, fun c5 => ?_, fun c5 => ?_⟩, fun c4 => ?_⟩⟩⟩⟩
  · rw [if_pos c]
    exact s_97 hS h hl
  · rw [if_neg c, if_pos c2, e1']
    have := s_98 (k := 1) (ah := 16) (bh := 0) hS h hl
    rw [bh0] at this
    exact this
  · rw [if_neg c, if_neg c2, if_pos c3, e2']
    have := s_98 (k := 2) (ah := kn (ks X f) q) (bh := 0) hS h hl
    rw [bh0] at this
    exact this
  · rw [if_neg c, if_neg c2, if_neg c3, if_pos c4, eg]
    cases dr with
    | true => exact absurd c5 (by decide)
    | false => exact s_98 (k := e) (ah := 14) (bh := 15) hS h hl
  · rw [if_neg c, if_neg c2, if_neg c3, if_pos c4, eg]
    cases dr with
    | false => exact absurd rfl c5
    | true => exact s_98 (k := e) (ah := 7) (bh := 8) hS h hl
  · rw [if_neg c, if_neg c2, if_neg c3, if_neg c4]
    exact ⟨h, fr.rf⟩
theorem s_94 (hn : n ∈ m_I1) (hS : St F) (hX : ∀ r, r < 24 → Rok (X r)) (hD : DTT F n X) (hf : f < 3) :
    C_94 (n + (11 + 19 * f)) (n + (20 + 19 * f)) F (fun r F' => r = pcl (ks X f) (Cw X f) 7 [] ∧ fr RunP F F') m_no := by
  have hn8 := i8_of hn hf
  have hn9 := i9_of hn hf
  have hlen := (Fw_len hX hf).2.2.1
  have key : ∀ (d i : Nat) (p : Int) (st : List (Int × Int)) (G : MF), i + d = (Cw X f).length → st.length ≤ i → St G → fr RunP F G → PrC G st → pcl (ks X f) ((Cw X f).drop i) p st = pcl (ks X f) (Cw X f) 7 [] →
      L_94_12 (n + (11 + 19 * f)) (n + (20 + 19 * f)) p (i : Int) G (fun r F' => r = pcl (ks X f) (Cw X f) 7 [] ∧ fr RunP F F') m_no := by
    intro d
    induction d with
    | zero =>
      intro i p st G hi hl hSG hfr hP he
      have hC := ((frRun_dtt hn hD hfr).2 f hf).2.1
      have hCw : (prs (ks X f)).2.2.1 = Cw X f := rfl
      rw [hCw] at hC
      refine b_94_12 hn8 hn9 hSG ?_
      rw [hC.1]
      refine ⟨fun h => by omega, fun _ => ⟨?_, hfr⟩⟩
      rw [List.drop_eq_nil_of_le (by omega)] at he
      exact he
    | succ d ih =>
      intro i p st G hi hl hSG hfr hP he
      have hD1 := frRun_dtt hn hD hfr
      have hC := (hD1.2 f hf).2.1
      have hCw : (prs (ks X f)).2.2.1 = Cw X f := rfl
      rw [hCw] at hC
      have hi2 : i < (Cw X f).length := by omega
      have ed : (Cw X f).drop i = (Cw X f)[i] :: (Cw X f).drop (i + 1) := List.drop_eq_getElem_cons hi2
      have eg : gx (Cw X f) i = (Cw X f)[i] := by unfold gx; rw [List.getD_eq_getElem?_getD, List.getElem?_eq_getElem hi2]; rfl
      obtain ⟨w, hw⟩ : ∃ w, w = (Cw X f)[i] := ⟨_, rfl⟩
      rw [← hw] at ed eg
      have hv := hC.2 i hi2
      have h32 := (Fw_len hX hf).2.2.2 i hi2
      have hwc := Cw_wc hX hf hi2
      rw [eg] at hv h32 hwc
      rw [ed] at he
      have h5 : G 91 5 = (st.length : Int) := hP.1
      have nx : ∀ (p' : Int) (st' : List (Int × Int)) (G' : MF), st'.length ≤ i + 1 → St G' → fr RunP F G' → PrC G' st' → pcl (ks X f) ((Cw X f).drop (i + 1)) p' st' = pcl (ks X f) (Cw X f) 7 [] → (-2147483648 ≤ (i : Int) + 1 ∧ (i : Int) + 1 < 2147483648) ∧ L_94_12 (n + (11 + 19 * f)) (n + (20 + 19 * f)) p' ((i : Int) + 1) G' (fun r F' => r = pcl (ks X f) (Cw X f) 7 [] ∧ fr RunP F F') m_no := by
        intro p' st' G' hl' hS' hf' hP' he'
        refine ⟨by omega, ?_⟩
        rw [show (i : Int) + 1 = ((i + 1 : Nat) : Int) by omega]
        exact ih (i + 1) p' st' G' (by omega) hl' hS' hf' hP' he'
      refine b_94_12 hn8 hn9 hSG ?_
      rw [hC.1, Int.toNat_natCast, hv, g198 h32, g200 h32]
      have e95 : g_95 G (wo w) = opn2 (wo w) := rfl
      rw [e95, h5]
      refine ⟨fun _ => ⟨by omega, fun c14 => ?_, fun c14 => ⟨by omega, ?_⟩⟩, fun h => by omega⟩
      · -- a word of a statement
        obtain ⟨p1, hp1⟩ : ∃ p1, p1 = (if opn2 (wo w) = 0 then p else prn p [opn2 (wo w)]) := ⟨_, rfl⟩
        have he2 : wo w = 2 → pcl (ks X f) ((Cw X f).drop (i + 1)) (w64 (w64 (31 * p1) + we w)) st = pcl (ks X f) (Cw X f) 7 [] := by
          intro e
          have o2 : opn2 (wo w) = 2 := by rw [e]; rfl
          rw [← he]
          show _ = (if 14 ≤ wo w then _ else _)
          rw [if_neg (by omega), if_pos e, hp1, o2, if_neg (by decide)]
          rfl
        have heN : wo w ≠ 2 → st = [] → pcl (ks X f) ((Cw X f).drop (i + 1)) p1 st = pcl (ks X f) (Cw X f) 7 [] := by
          intro e es
          subst es
          rw [← he]
          show _ = (if 14 ≤ wo w then _ else _)
          rw [if_neg (by omega), if_neg e, hp1]
        have heD : wo w ≠ 2 → ¬ (wo w = 7 ∨ wo w = 8 ∨ wo w = 9 ∨ wo w = 10 ∨ wo w = 11) → pcl (ks X f) ((Cw X f).drop (i + 1)) p1 st = pcl (ks X f) (Cw X f) 7 [] := by
          intro e es
          cases st with
          | nil => exact heN e rfl
          | cons a r =>
            rw [← he]
            show _ = (if 14 ≤ wo w then _ else if wo w = 2 then _ else if _ then _ else _)
            rw [if_neg (by omega), if_neg e, if_neg es, hp1]
        have l181 : wo w ≠ 2 → (wo w = 7 ∨ wo w = 8 ∨ wo w = 9 ∨ wo w = 10 ∨ wo w = 11) → 0 < (st.length : Int) → L_94_181 (n + (11 + 19 * f)) (n + (20 + 19 * f)) p1 (i : Int) G (fun r F' => r = pcl (ks X f) (Cw X f) 7 [] ∧ fr RunP F F') m_no := by
          intro e es hpos
          cases st with
          | nil => exact absurd hpos (by decide)
          | cons a r =>
            have hP' := hP
            obtain ⟨k1, k2, k3⟩ := hP'
            have l1 : (r.map (fun a => a.1)).reverse.length = r.length := by rw [List.length_reverse, List.length_map]
            have l2 : (r.map (fun a => a.2)).reverse.length = r.length := by rw [List.length_reverse, List.length_map]
            rw [List.map_cons, List.reverse_cons] at k2 k3
            have v1 : G 93 r.length = a.1 := by
              rw [k2 r.length (by rw [List.length_append, List.length_singleton]; omega), gx_app, if_neg (by omega), l1, Nat.sub_self]
              rfl
            have v2 : G 92 r.length = a.2 := by
              rw [k3 r.length (by rw [List.length_append, List.length_singleton]; omega), gx_app, if_neg (by omega), l2, Nat.sub_self]
              rfl
            rw [List.length_cons] at hl h5
            refine b_94_181 hn8 hn9 hSG ?_
            rw [h5, show ((r.length + 1 : Nat) : Int) - 1 = (r.length : Int) by omega, Int.toNat_natCast, v1, v2]
            refine ⟨by omega, by omega, by omega, nx _ r _ (by omega) (hSG.fld kd_91 rk_6_5) (hfr.up (by unfold RunP; omega)) ?_ ?_⟩
            · have := hP.drop (k := 1)
              rw [List.length_cons, Nat.add_sub_cancel] at this
              exact this
            · rw [← he]
              show _ = (if 14 ≤ wo w then _ else if wo w = 2 then _ else if _ then _ else _)
              rw [if_neg (by omega), if_neg e, if_pos es, hp1]
        have row : p1 = p ∧ opn2 (wo w) = 0 ∨ p1 = w64 (w64 (31 * p) + opn2 (wo w)) ∧ opn2 (wo w) ≠ 0 := by
          by_cases e : opn2 (wo w) = 0
          · rw [if_pos e] at hp1; exact Or.inl ⟨hp1, e⟩
          · rw [if_neg e] at hp1; exact Or.inr ⟨hp1, e⟩
        rcases row with ⟨r1, r2⟩ | ⟨r1, r2⟩
        · rw [← r1]
          refine ⟨fun _ => ⟨fun e => nx _ st G (by omega) hSG hfr hP (he2 e), fun e => ⟨fun hpos => ⟨fun c => l181 e (Or.inl c) hpos, fun c7 => ⟨fun c => l181 e (Or.inr (Or.inl c)) hpos, fun c8 => ⟨fun c => l181 e (Or.inr (Or.inr (Or.inr (Or.inl c)))) hpos, fun c10 => ⟨fun c => l181 e (Or.inr (Or.inr (Or.inr (Or.inr c)))) hpos, fun c11 => ⟨fun c => l181 e (Or.inr (Or.inr (Or.inl c))) hpos, fun c9 => nx _ st G (by omega) hSG hfr hP (heD e (by omega))⟩⟩⟩⟩⟩, fun hpos => nx _ st G (by omega) hSG hfr hP (heN e (List.length_eq_zero_iff.mp (by omega)))⟩⟩, fun h => absurd r2 h⟩
        · rw [← r1]
          refine ⟨fun h => absurd h r2, fun _ => ⟨fun e => nx _ st G (by omega) hSG hfr hP (he2 e), fun e => ⟨fun hpos => ⟨fun c => l181 e (Or.inl c) hpos, fun c7 => ⟨fun c => l181 e (Or.inr (Or.inl c)) hpos, fun c8 => ⟨fun c => l181 e (Or.inr (Or.inr (Or.inr (Or.inl c)))) hpos, fun c10 => ⟨fun c => l181 e (Or.inr (Or.inr (Or.inr (Or.inr c)))) hpos, fun c11 => ⟨fun c => l181 e (Or.inr (Or.inr (Or.inl c))) hpos, fun c9 => nx _ st G (by omega) hSG hfr hP (heD e (by omega))⟩⟩⟩⟩⟩, fun hpos => nx _ st G (by omega) hSG hfr hP (heN e (List.length_eq_zero_iff.mp (by omega)))⟩⟩⟩
      · -- a word of an expr
        have step : ∀ dr : Bool, dr = drn ((Cw X f).drop (i + 1)) → C_96 (n + (11 + 19 * f)) w (if dr = true then 1 else 0) G (fun F47 => (-2147483648 ≤ (i : Int) + 1 ∧ (i : Int) + 1 < 2147483648) ∧ L_94_12 (n + (11 + 19 * f)) (n + (20 + 19 * f)) p ((i : Int) + 1) F47 (fun r F' => r = pcl (ks X f) (Cw X f) 7 [] ∧ fr RunP F F') m_no) m_no := by
          intro dr hdr
          refine CaV.on (s_96 (dr := dr) hn hSG hX hf (hD1.2 f hf).1 hP (by omega) hwc h32 (by omega)) ?_
          rintro G1 hS1 ⟨q1, q2⟩
          refine nx p _ G1 (by have := ppw_len (K := ks X f) (w := w) (dr := dr) (st := st); omega) hS1 (hfr.tr q2) q1 ?_
          rw [← he, hdr]
          show _ = (if 14 ≤ wo w then _ else _)
          rw [if_pos (by omega)]
        by_cases c : i + 1 < (Cw X f).length
        · have ed2 : (Cw X f).drop (i + 1) = (Cw X f)[i + 1] :: (Cw X f).drop (i + 1 + 1) := List.drop_eq_getElem_cons c
          have eg2 : gx (Cw X f) (i + 1) = (Cw X f)[i + 1] := by unfold gx; rw [List.getD_eq_getElem?_getD, List.getElem?_eq_getElem c]; rfl
          have hv2 := hC.2 (i + 1) c
          have h32' := (Fw_len hX hf).2.2.2 (i + 1) c
          rw [show ((i : Int) + 1).toNat = i + 1 by omega, hv2, g198 h32', eg2]
          refine ⟨fun _ => ⟨by omega, by omega, fun c9 => ?_, fun c9 => ?_⟩, fun h => by omega⟩
          · have := step true (by rw [ed2]; unfold drn; exact (decide_eq_true c9).symm)
            exact this
          · have := step false (by rw [ed2]; unfold drn; exact (decide_eq_false c9).symm)
            exact this
        · refine ⟨fun h => by omega, fun _ => ?_⟩
          have := step false (by rw [List.drop_eq_nil_of_le (by omega)]; rfl)
          exact this
  exact c_94 hn8 hn9 hS (key (Cw X f).length 0 7 [] _ (by omega) (Nat.le_refl _) (hS.fld kd_91 rk_6_5) (fr.rf.up (by unfold RunP; omega)) ⟨u_eq, fun j h => absurd h (Nat.not_lt_zero j), fun j h => absurd h (Nat.not_lt_zero j)⟩ rfl)
end Mf1
