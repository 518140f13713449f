/-! AN INLINING, OF THE CLASS: the text, all -/
section Mk4
variable {F G : MF} {X : Nat → List Int} {C V : List Int} {f t e i j k a b n m : Nat}
/-- the texts of the expr are joined -/
theorem s_52 {L : Nat} (hS : St F) (hX : ∀ r, r < 24 → Rok (X r)) (hD : DTT F 110 X) (hf : f < 3) (ht : t < 200) (he : t + 2 ≤ e) (h : ∀ k, t + 2 ≤ k → k < e → k < (toks X f).length ∧ tl X f k = L) (hel : e ≤ 200) :
    C_52 (f : Int) ((t + 2 : Nat) : Int) (e : Int) F (fun F' => TxW F' (ity X f t e) ∧ TWf F F') m_no := by
  have lk := toks_len hX hf
  have i8 : 110 + (11 + 19 * f) ∈ m_I8 := i8_of (by decide) hf
  have cut : ∀ {G : MF}, TWf F G → DTT G 110 X := fun {G} k => hD.fr (P := fun c => c = 109 ∨ c = 198) (fun c hc => k.1 c (fun e => hc (Or.inl e)) (fun e => hc (Or.inr e))) (fun c hc => by omega)
  have il := ity_len hX hf h
  obtain ⟨pre0, hpre⟩ : ∃ P : List Int, P = if t + 3 < e then [40] else [] := ⟨_, rfl⟩
  have pl : pre0.length ≤ 1 := by
    rw [hpre]
    split
    · exact Nat.le_refl _
    · exact Nat.zero_le _
  obtain ⟨x5, hx5⟩ : ∃ x : Int, x = if t + 3 < e then 1 else 0 := ⟨_, rfl⟩
  have key : ∀ (d k : Nat) (G : MF), k + d = e → t + 2 ≤ k → St G → TWf F G → TxW G (pre0 ++ itb X f (t + 2) (k - (t + 2))) → L_52_44 (f : Int) ((t + 2 : Nat) : Int) (e : Int) (110 + (11 + 19 * f)) x5 (k : Int) G (fun F' => TxW F' (ity X f t e) ∧ TWf F F') m_no := by
    intro d
    induction d with
    | zero =>
      intro k G hk hkt hSG hT hV
      obtain rfl : k = e := by omega
      refine b_52_44 i8 hSG ⟨fun h => by omega, fun _ => ⟨fun h0 => ?_, fun h0 => ?_⟩⟩
      · have hn : ¬ t + 3 < k := fun c => by rw [if_pos c] at hx5; omega
        rw [if_neg hn] at hpre
        refine ⟨?_, hT⟩
        unfold ity
        rw [if_neg hn]
        rw [hpre, List.nil_append] at hV
        exact hV
      · have hn : t + 3 < k := by
          by_cases c : t + 3 < k
          · exact c
          · rw [if_neg c] at hx5; omega
        rw [if_pos hn] at hpre
        refine CaV.on (s_53 hSG hV (by rw [List.length_append]; omega) (by decide)) ?_
        rintro F5 _ ⟨k1, k2⟩
        refine ⟨?_, hT.tr k2⟩
        unfold ity
        rw [if_pos hn]
        rw [hpre, List.append_assoc] at k1
        exact k1
    | succ d ih =>
      intro k G hk hkt hSG hT hV
      have hkl := h k hkt (by omega)
      have o := toks_ok hkl.1
      have w1 := (hX (8 * f + tl X f k) (by omega)).1
      have ibl : (itb X f (t + 2) (k - (t + 2))).length ≤ 48 := by
        have h1 := itb_len (a := t + 2) (n := k - (t + 2)) hX hf (fun q a b => h q a (by omega))
        by_cases c : k - (t + 2) = 0
        · rw [if_pos c] at h1; omega
        · rw [if_neg c] at h1
          have h3 := h (t + 2 + (k - (t + 2)) - 1) (by omega) (by omega)
          have o3 := toks_ok h3.1
          have := (hX (8 * f + tl X f (t + 2 + (k - (t + 2)) - 1)) (by omega)).1
          omega
      -- the chars of a token
      have lp : ∀ B : List Int, B.length ≤ 1 → itb X f (t + 2) (k + 1 - (t + 2)) = itb X f (t + 2) (k - (t + 2)) ++ (B ++ tx X f k) → ∀ (d i : Nat) (H : MF), i + d = ts X f k → St H → TWf F H → TxW H (pre0 ++ itb X f (t + 2) (k - (t + 2)) ++ B ++ (tx X f k).take i) →
          L_52_91 (f : Int) ((t + 2 : Nat) : Int) (e : Int) (110 + (11 + 19 * f)) x5 (k : Int) (i : Int) H (fun F' => TxW F' (ity X f t e) ∧ TWf F F') m_no := by
        intro B hB hit d
        induction d with
        | zero =>
          intro i H hi hSH hTH hVH
          have g := gac_tok ((cut hTH).2 f hf).1 hkl.1
          obtain rfl : i = ts X f k := by omega
          rw [List.take_of_length_le (by rw [tx_len]; exact Nat.le_refl _)] at hVH
          refine b_52_91 i8 hSH ?_
          rw [Int.toNat_natCast, g.2.2.2]
          refine ⟨by omega, fun h => by omega, fun _ => ⟨by omega, ?_⟩⟩
          have := ih (k + 1) H (by omega) (by omega) hSH hTH (by rw [hit]; rw [List.append_assoc, List.append_assoc] at hVH; exact hVH)
          rw [show ((k + 1 : Nat) : Int) = (k : Int) + 1 by omega] at this
          exact this
        | succ d ih2 =>
          intro i H hi hSH hTH hVH
          have g := gac_tok ((cut hTH).2 f hf).1 hkl.1
          have q := q_22t (n := 111) (cut hTH).1 hX hf hkl.1 (i := i) (by omega)
          have cr := chr_rng hX hf hkl.1 (show i < ts X f k by omega)
          refine b_52_91 i8 hSH ?_
          rw [Int.toNat_natCast, g.2.2.2, g.2.1, g.2.2.1, show (f : Int) * 8 + (tl X f k : Int) = ((8 * f + tl X f k : Nat) : Int) by omega, show (tc X f k : Int) + (i : Int) = ((tc X f k + i : Nat) : Int) by omega, q.1]
          refine ⟨by omega, fun _ => ⟨by omega, by omega, by omega, by omega, by omega, q.2, ?_⟩, fun h => by omega⟩
          have tl4 : ((tx X f k).take i).length ≤ 24 := by rw [List.length_take, tx_len]; omega
          refine CaV.on (s_53 hSH hVH (by rw [List.length_append, List.length_append, List.length_append]; omega) (by omega)) ?_
          rintro H2 hS2 ⟨k1, k2⟩
          refine ⟨by omega, ?_⟩
          have et : (tx X f k).take i ++ [chr X f k i] = (tx X f k).take (i + 1) := by
            rw [List.take_succ_eq_append_getElem (show i < (tx X f k).length by rw [tx_len]; omega)]
            congr 2
            have := tx_gx (X := X) (f := f) (k := k) (i := i) (by omega)
            rw [← this]
            unfold gx
            rw [List.getD_eq_getElem?_getD, List.getElem?_eq_getElem (show i < (tx X f k).length by rw [tx_len]; omega)]
            rfl
          rw [List.append_assoc, et] at k1
          have := ih2 (i + 1) H2 (by omega) hS2 (hTH.tr k2) k1
          rw [show ((i + 1 : Nat) : Int) = (i : Int) + 1 by omega] at this
          exact this
      have q2 := q_104t hf hX ((cut hT).2 f hf).1 k
      have eit : itb X f (t + 2) (k + 1 - (t + 2)) = itb X f (t + 2) (k - (t + 2)) ++ ((if 0 < k - (t + 2) ∧ kn (ks X f) (k - 1) < 10 ∧ kn (ks X f) k < 10 then [32] else []) ++ tx X f k) := by
        rw [show k + 1 - (t + 2) = (k - (t + 2)) + 1 by omega]
        show itb X f (t + 2) (k - (t + 2)) ++ ((if 0 < k - (t + 2) ∧ kn (ks X f) (t + 2 + (k - (t + 2)) - 1) < 10 ∧ kn (ks X f) (t + 2 + (k - (t + 2))) < 10 then [32] else []) ++ tx X f (t + 2 + (k - (t + 2)))) = _
        rw [show t + 2 + (k - (t + 2)) = k by omega]
      have none1 : ¬ (0 < k - (t + 2) ∧ kn (ks X f) (k - 1) < 10 ∧ kn (ks X f) k < 10) → L_52_91 (f : Int) ((t + 2 : Nat) : Int) (e : Int) (110 + (11 + 19 * f)) x5 (k : Int) 0 G (fun F' => TxW F' (ity X f t e) ∧ TWf F F') m_no := fun hn => by
        rw [if_neg hn] at eit
        exact lp [] (by decide) eit (ts X f k) 0 G (by omega) hSG hT (by rw [List.take_zero, List.append_nil, List.append_nil]; exact hV)
      refine b_52_44 i8 hSG ?_
      refine ⟨fun _ => ⟨fun hlt => ⟨by omega, ?_⟩, fun hlt => none1 (fun h => by omega)⟩, fun h => by omega⟩
      have q1 := q_104t hf hX ((cut hT).2 f hf).1 (k - 1)
      rw [show ((k - 1 : Nat) : Int) = (k : Int) - 1 by omega] at q1
      rw [q1.1, q2.1]
      refine ⟨q1.2, fun h1 => ⟨q2.2, fun h2 => ?_, fun h2 => none1 (fun h => h2 h.2.2)⟩, fun h1 => none1 (fun h => h1 h.2.1)⟩
      rw [if_pos ⟨by omega, h1, h2⟩] at eit
      refine CaV.on (s_53 hSG hV (by rw [List.length_append]; omega) (by decide)) ?_
      rintro G2 hS2 ⟨k1, k2⟩
      exact lp [32] (by decide) eit (ts X f k) 0 G2 (by omega) hS2 (hT.tr k2) (by rw [List.take_zero, List.append_nil]; exact k1)
  have st : ∀ G, St G → TWf F G → TxW G pre0 → L_52_44 (f : Int) ((t + 2 : Nat) : Int) (e : Int) (110 + (11 + 19 * f)) x5 ((t + 2 : Nat) : Int) G (fun F' => TxW F' (ity X f t e) ∧ TWf F F') m_no := fun G a b c => by
    refine key (e - (t + 2)) (t + 2) G (by omega) (Nat.le_refl _) a b ?_
    rw [Nat.sub_self]
    show TxW G (pre0 ++ [])
    rw [List.append_nil]
    exact c
  have w0 : TWf F (m_up F 109 13 0) := ⟨fun c a _ => up_row a, fun j a => u_ne (Or.inr a)⟩
  have hS0 : St (m_up F 109 13 0) := hS.fld kd_109 rk_3_13
  have t0 : TxW (m_up F 109 13 0) [] := ⟨u_eq, fun i hi => absurd hi (Nat.not_lt_zero i)⟩
  refine c_52 hS ⟨by omega, by omega, fun hm => ?_, fun hm => ?_⟩
  · have hn : t + 3 < e := by omega
    rw [if_pos hn] at hpre hx5
    rw [Int.toNat_natCast]
    refine CaV.on (s_53 hS0 t0 (by decide) (by decide)) ?_
    rintro G hSG ⟨k1, k2⟩
    rw [hx5] at st
    exact st G hSG (w0.tr k2) (by rw [hpre]; exact k1)
  · have hn : ¬ t + 3 < e := by omega
    rw [if_neg hn] at hpre hx5
    rw [Int.toNat_natCast]
    rw [hx5] at st
    exact st _ hS0 w0 (by rw [hpre]; exact t0)
/-- an inlining, of the class: up to the writing -/
theorem s_47 (hS : St F) (hX : ∀ r, r < 24 → Rok (X r)) (hD : DB F 110 X) (hi : i < 3) (hf : f < 3) (ht : t < 200) (h190 : F 190 i = (f : Int)) (h191 : F 191 i = (t : Int)) :
    C_47 (i : Int) F (fun x F' => (x = iln X f t ∧ (x = 0 → LinC F' 111 (inlX X f t))) ∧ F' 114 = F 114 ∧ F' 195 = F 195 ∧ F' 196 = F 196 ∧ DF F F') m_no := by
  have lk := toks_len hX hf
  have i8 : 110 + (11 + 19 * f) ∈ m_I8 := i8_of (by decide) hf
  have two : ∀ G : MF, inl2 X f t → G 114 = F 114 ∧ G 195 = F 195 ∧ G 196 = F 196 ∧ DF F G → ((2 : Int) = iln X f t ∧ ((2 : Int) = 0 → LinC G 111 (inlX X f t))) ∧ G 114 = F 114 ∧ G 195 = F 195 ∧ G 196 = F 196 ∧ DF F G := fun G h k => ⟨⟨(pif_1 h).symm, fun h => absurd h (by decide)⟩, k⟩
  have kF : F 114 = F 114 ∧ F 195 = F 195 ∧ F 196 = F 196 ∧ DF F F := ⟨rfl, rfl, rfl, DF.rf⟩
  refine c_47 hS ?_
  rw [Int.toNat_natCast, h190, h191]
  refine ⟨by omega, by omega, by omega, ?_⟩
  refine CaI.on (s_48 hS hX hD.1 hf) ?_
  rintro r F1 hS1 ⟨rfl, rfl⟩
  rw [Int.toNat_natCast]
  refine ⟨fun h => two F1 (fun ⟨e, h1, _⟩ => by rw [h] at h1; omega) kF, fun h => ?_⟩
  obtain ⟨iL, e, l1, l2, l3, l4, l5, l6, l7, l8, l9, l10, l11⟩ := let_at hX hf h
  have nt2 : ∀ (P : Prop), (P → ¬ (tl X f (t - 1) = tl X f e ∧ ¬ callsX X f (t + 2) e ∧ ¬ wrt X f t e ∧ alk X f t e)) → P → inl2 X f t := fun P hP p ⟨e', a1, a2⟩ => by
    rw [l3] at a1
    have : e = e' := by omega
    subst this
    exact hP p a2
  have g1 := q_105 (F := F1) hf hX (hD.1.2 f hf).1 (k := t - 1) (by omega)
  have g2 := q_105 (F := F1) hf hX (hD.1.2 f hf).1 (k := e) l6
  rw [show ((t - 1 : Nat) : Int) = (t : Int) - 1 by omega] at g1
  rw [l3, g1.1, g2.1, show (f : Int) * 200 + (t : Int) = ((200 * f + t : Nat) : Int) by omega]
  refine ⟨by omega, g1.2, g2.2, fun hl => ⟨by omega, by omega, by omega, ?_⟩, fun hl => two F1 (nt2 _ (fun h k => h (by omega)) hl) kF⟩
  have hl' : tl X f (t - 1) = tl X f e := by omega
  rw [show (t : Int) + 2 = ((t + 2 : Nat) : Int) by omega]
  refine CaI.on (s_49 hS1 hX hf i8 (hD.1.2 f hf).1 (by omega)) ?_
  rintro r F9 hS9 ⟨rfl, rfl⟩
  by_cases hc : callsX X f (t + 2) e
  · rw [pif_1 hc]
    exact ⟨fun h => absurd h (by decide), fun _ => two F9 (nt2 _ (fun h k => k.2.1 h) hc) kF⟩
  rw [pif_0 hc]
  refine ⟨fun _ => ?_, fun h => absurd rfl h⟩
  refine CaI.on (s_50 hS9 hX hD hf ht (by omega)) ?_
  rintro r F15 hS15 ⟨rfl, rfl⟩
  by_cases hw : wrt X f t e
  · rw [pif_1 hw]
    exact ⟨fun h => absurd h (by decide), fun _ => two F15 (nt2 _ (fun h k => k.2.2.1 h) hw) kF⟩
  rw [pif_0 hw]
  refine ⟨fun _ => ?_, fun h => absurd rfl h⟩
  refine CaI.on (s_51 hS15 hX hD hf ht (by omega)) ?_
  rintro r F21 hS21 ⟨rfl, fr21⟩
  have k21 : F21 114 = F15 114 ∧ F21 195 = F15 195 ∧ F21 196 = F15 196 ∧ DF F15 F21 := ⟨fr21 114 (by omega), fr21 195 (by omega), fr21 196 (by omega), fr21.df (fun c h => by omega)⟩
  by_cases ha : alk X f t e
  · rw [pif_1 ha]
    refine ⟨fun h => absurd h (by decide), fun _ => ⟨by omega, ?_⟩⟩
    have n2 : ¬ inl2 X f t := fun h => h ⟨e, l3, hl', hc, hw, ha⟩
    have hD21 : DTT F21 110 X := hD.1.fr fr21 (fun c h => by omega)
    -- all tokens of the LET are in one line
    have ln : ∀ k, t - 1 ≤ k → k ≤ e → k < (toks X f).length ∧ tl X f k = tl X f e := fun k h1 h2 => by
      have hk : k < (toks X f).length := by omega
      refine ⟨hk, ?_⟩
      have a1 : tl X f (t - 1) ≤ tl X f k := by
        by_cases c : t - 1 = k
        · rw [c]; exact Nat.le_refl _
        · exact (tok_srt hX hf (show t - 1 < k by omega) hk).1
      have a2 : tl X f k ≤ tl X f e := by
        by_cases c : k = e
        · rw [c]; exact Nat.le_refl _
        · exact (tok_srt hX hf (show k < e by omega) l6).1
      omega
    have hlt := (ln t (by omega) (by omega)).2
    refine CaV.on (s_52 (L := tl X f e) hS21 hX hD21 hf ht (by omega) (fun k h1 h2 => ln k (by omega) (by omega)) (by omega)) ?_
    rintro F27 hS27 ⟨tw, tf⟩
    have hD27 : DTT F27 110 X := hD21.fr (P := fun c => c = 109 ∨ c = 198) (fun c hc => tf.1 c (fun e => hc (Or.inl e)) (fun e => hc (Or.inr e))) (fun c hc => by omega)
    have k27 : F27 114 = F15 114 ∧ F27 195 = F15 195 ∧ F27 196 = F15 196 ∧ DF F15 F27 := ⟨by rw [tf.1 114 (by decide) (by decide)]; exact k21.1, by rw [tf.1 195 (by decide) (by decide)]; exact k21.2.1, by rw [tf.1 196 (by decide) (by decide)]; exact k21.2.2.1, k21.2.2.2.tr ⟨fun c hc => tf.1 c (by omega) (by omega), tf.2⟩⟩
    have gc := hD27.2 f hf
    have g3 := q_105 (F := F27) hf hX gc.1 (k := e) l6
    have gt := gac_tok gc.1 (show t - 1 < (toks X f).length by omega)
    have ge := gac_tok gc.1 l6
    have oe := toks_ok l6
    have ot := toks_ok (show t - 1 < (toks X f).length by omega)
    have we := (hX (8 * f + tl X f e) (by omega)).1
    have wt' := (hX (8 * f + tl X f (t - 1)) (by omega)).1
    rw [g3.1, Int.toNat_natCast, show ((t : Int) - 1).toNat = t - 1 by omega, gt.2.2.1, ge.2.2.1, show (f : Int) * 8 + (tl X f e : Int) = ((8 * f + tl X f e : Nat) : Int) by omega, show (tc X f e : Int) + 1 = ((tc X f e + 1 : Nat) : Int) by omega]
    refine ⟨by omega, g3.2, by omega, by omega, by omega, by omega, by omega, ?_⟩
    have il := ity_len hX hf (t := t) (e := e) (fun k h1 h2 => ln k (by omega) (by omega))
    refine CaI.on (s_45 (id := 200 * f + t) (tx0 := ity X f t e) (cut := ((8 * f + tl X f e : Nat) : Int)) (fr0 := tc X f (t - 1)) (to := tc X f e + 1) hS27 hX (fun g hg => (hD27.2 g hg).1) (fun j hj => by rw [tf.1 117 (by decide) (by decide), fr21 117 (by omega)]; exact hD.2 j hj) hD27.1 tw.1 tw.2 (by omega) (ity_chs hX hf (fun k h1 h2 => (ln k (by omega) (by omega)).1)) (by omega)) ?_
    rintro x F' hS' ⟨k1, k2⟩
    refine ⟨?_, by rw [k2 114 (by omega)]; exact k27.1, by rw [k2 195 (by omega)]; exact k27.2.1, by rw [k2 196 (by omega)]; exact k27.2.2.1, k27.2.2.2.tr (k2.df (fun c h => by omega))⟩
    have eX : inlX X f t = rwX X (200 * f + t) (ity X f t e) ((8 * f + tl X f e : Nat) : Int) (tc X f (t - 1)) (tc X f e + 1) := by
      unfold inlX
      rw [l3, Int.toNat_natCast, hlt]
    have e3 : inl3 X f t = ¬ AllS X (200 * f + t) (ity X f t e) ((8 * f + tl X f e : Nat) : Int) (tc X f (t - 1)) (tc X f e + 1) 24 := by
      unfold inl3
      rw [l3, Int.toNat_natCast, hlt]
    unfold iln
    rw [pif_0 n2, e3, eX]
    rcases k1 with ⟨rfl, a, b⟩ | ⟨rfl, r, a, b⟩
    · exact ⟨(pif_0 (fun h => h a)).symm, fun _ => b⟩
    · exact ⟨(pif_1 (fun h => by have := h r a; omega)).symm, fun h => absurd h (by decide)⟩
  · rw [pif_0 ha]
    exact ⟨fun _ => two F21 (nt2 _ (fun h k => h k.2.2.2) ha) k21, fun h => absurd rfl h⟩
end Mk4
