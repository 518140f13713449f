/-! AN INLINING, OF THE REFERENCE: all -/
section Mk9
variable {F G : MF} {X : Nat → List Int} {f t : Nat} {nn : Nat → Nat}
theorem s_321 (hS : St F) (hD : LKd F X nn) (hf : f < 3) (ht : t < 200) :
    C_321 ((200 * f + t : Nat) : Int) F (fun x F' => x = iln X f t ∧ (x = 0 → TxM F' (inlX X f t)) ∧ PF F F') m_no := by
  have hX := hD.1.hX
  have lk := toks_len hX hf
  have two : ∀ G : MF, inl2 X f t → PF F G → ((2 : Int) = iln X f t ∧ ((2 : Int) = 0 → TxM G (inlX X f t)) ∧ PF F G) := fun G h k => ⟨(pif_1 h).symm, fun h => absurd h (by decide), k⟩
  have no1 : lte (Cw X f) t = -1 → inl2 X f t := fun h => fun ⟨e, h1, _⟩ => by rw [h] at h1; omega
  -- no LET
  have stop : ∀ G, St G → PF F G → lte (Cw X f) t = -1 → L_321_29 ((200 * f + t : Nat) : Int) (f : Int) (-1) ((200 * f + t : Nat) : Int) G (fun x F' => x = iln X f t ∧ (x = 0 → TxM F' (inlX X f t)) ∧ PF F F') m_no := fun G hSG k h =>
    b_321_29 hSG ⟨fun _ => b_321_52 hSG ⟨fun _ => two G (no1 h) k, fun h => absurd rfl h⟩, fun h => absurd rfl h⟩
  refine c_321 hS ?_
  rw [show ((200 * f + t : Nat) : Int) / 200 = (f : Int) by omega, Int.toNat_natCast, hD.2.1 _ (by omega)]
  refine ⟨by omega, by omega, fun hb => ?_, fun hb => stop F hS PF.rf ?_⟩
  · refine CaI.on (s_317 hS hD hf ht) ?_
    rintro r F3 hS3 (⟨rfl, l1, l2⟩ | ⟨hr, hlt, L, it, c, hi, W1, iL', hl, hO, a1, a2, a3, a4⟩)
    · exact stop F3 hS3 l2.pf l1
    · obtain ⟨iL, e, l1, l2, l3, l4, l5, l6, l7, l8, l9, l10, l11⟩ := let_at hX hf hlt
      obtain ⟨w1, w2, w3, w4, w5⟩ := or_wd hO
      have hii : iL' = iL := by
        refine Cw_uniq hX hf (by omega) l1 (t := (t : Int)) ?_ ?_
        · exact ⟨Or.inr ⟨Or.inl a3, a4.symm⟩, fun h => by omega⟩
        · rw [l2]; exact (bset_1 (Or.inl rfl) (by omega)).mpr rfl
      subst hii
      have hRG : RA F3 X nn := hl.w.ra hD.1
      have e213 : ∀ z, z < (toks X f).length → F3 213 (200 * f + z) = kn (ks X f) z := fun z hz => (lexm_tok (hRG.2.1 f hf) hz).1
      -- the end of the LET
      have lp : ∀ (d k : Nat), e = k + d → t ≤ k → L_321_29 ((200 * f + t : Nat) : Int) (f : Int) r ((200 * f + k : Nat) : Int) F3 (fun x F' => x = iln X f t ∧ (x = 0 → TxM F' (inlX X f t)) ∧ PF F F') m_no := by
        intro d
        induction d with
        | zero =>
          intro k hk hkt
          obtain rfl : k = e := by omega
          refine b_321_29 hS3 ?_
          rw [Int.toNat_natCast, e213 k l6]
          refine ⟨fun h => absurd h hr, fun _ => ⟨by omega, fun _ => ?_, fun h => absurd l9 h⟩⟩
          refine b_321_52 hS3 ⟨fun h => absurd h hr, fun _ => ?_⟩
          refine CaI.on (s_320 hS3 hD hf hl hO l4 (by omega) l6 a1 a2 l2 l10) ?_
          rintro r2 F4 hS4 ⟨rfl, rfl⟩
          by_cases hP : tl X f (t - 1) = tl X f k ∧ ¬ callsX X f (t + 2) k ∧ ¬ wrt X f t k ∧ alk X f t k
          · rw [pif_1 hP]
            refine ⟨fun h => absurd h (by decide), fun _ => ⟨by omega, ?_⟩⟩
            have n2 : ¬ inl2 X f t := fun h => h ⟨k, l3, hP⟩
            have hl' := hP.1
            -- all tokens of the LET are in one line
            have ln : ∀ z, t - 1 ≤ z → z ≤ k → z < (toks X f).length ∧ tl X f z = tl X f k := fun z h1 h2 => by
              have hz : z < (toks X f).length := by omega
              refine ⟨hz, ?_⟩
              have b1 : tl X f (t - 1) ≤ tl X f z := by
                by_cases c : t - 1 = z
                · rw [c]; exact Nat.le_refl _
                · exact (tok_srt hX hf (show t - 1 < z by omega) hz).1
              have b2 : tl X f z ≤ tl X f k := by
                by_cases c : z = k
                · rw [c]; exact Nat.le_refl _
                · exact (tok_srt hX hf (show z < k by omega) l6).1
              omega
            have hlt2 := (ln t (by omega) (by omega)).2
            obtain ⟨H, eH⟩ : ∃ H, H = m_up F4 201 104 0 := ⟨_, rfl⟩
            have hSH : St H := by rw [eH]; exact hS3.fld kd_201 rk_12_104
            have zH : ∀ c, c ≠ 201 → H c = F4 c := fun c a => by rw [eH, up_row a]
            have zH1 : ∀ j, j ≠ 104 → H 201 j = F4 201 j := fun j a => by rw [eH, u_ne (Or.inr a)]
            have hTL : TL H X := (show TL F4 X from ⟨hRG.1, hRG.2.1⟩).cg (fun c a b => zH c (by omega))
            have pH : PF F H := hl.w.pf.tr ⟨fun c hc => zH c (by omega), fun j hj => zH1 j (by omega)⟩
            have il := ity_len hX hf (t := t) (e := k) (fun z h1 h2 => ln z (by omega) (by omega))
            have txt := l_321 (Q := fun x F' => x = iln X f t ∧ (x = 0 → TxM F' (inlX X f t)) ∧ PF F F') hX hTL hf (show t + 2 ≤ k by omega) (fun z h1 h2 => ln z (by omega) (by omega)) (by omega) hSH (by rw [eH, u_eq]) (fun G hSG tw => ?_)
            · rw [show ((200 * f + t : Nat) : Int) + 2 = ((200 * f + (t + 2) : Nat) : Int) by omega, ← eH]
              exact ⟨fun hm => CaV.on (txt.1 (by omega)) (fun G _ h => ⟨by omega, h⟩), fun hm => ⟨by omega, txt.2 (by omega)⟩⟩
            · have hTG : TL G X := hTL.cg (fun c a b => tw.1 c (by omega) (by omega))
              have tt := lexm_tok (hTG.2 f hf) (show t < (toks X f).length by omega)
              have tt1 := lexm_tok (hTG.2 f hf) (show t - 1 < (toks X f).length by omega)
              have te := lexm_tok (hTG.2 f hf) l6
              have oe := toks_ok l6
              have ot := toks_ok (show t - 1 < (toks X f).length by omega)
              have o0 := toks_ok (show t < (toks X f).length by omega)
              have we := (hX (8 * f + tl X f k) (by omega)).1
              have wt' := (hX (8 * f + tl X f (t - 1)) (by omega)).1
              refine b_321_203 hSG ?_
              rw [show (((200 * f + t : Nat) : Int) - 1).toNat = 200 * f + (t - 1) by omega, Int.toNat_natCast, Int.toNat_natCast, tt.2.1, tt1.2.2.1, te.2.2.1, show 8 * (f : Int) + (tl X f t : Int) = ((8 * f + tl X f t : Nat) : Int) by omega]
              refine ⟨by omega, by omega, by omega, by omega, by omega, by omega, ?_⟩
              obtain ⟨J, eJ⟩ : ∃ J, J = m_up (m_up (m_up G 201 105 ((8 * f + tl X f t : Nat) : Int)) 201 106 (tc X f (t - 1) : Int)) 201 107 (tc X f k : Int) := ⟨_, rfl⟩
              have hSJ : St J := by rw [eJ]; exact ((hSG.fld kd_201 rk_12_105).fld kd_201 rk_12_106).fld kd_201 rk_12_107
              have zJ : ∀ c, c ≠ 201 → J c = G c := fun c a => by rw [eJ, up_row a, up_row a, up_row a]
              have zJ1 : ∀ j, j ≠ 105 → j ≠ 106 → j ≠ 107 → J 201 j = G 201 j := fun j a b c => by rw [eJ, u_ne (Or.inr c), u_ne (Or.inr b), u_ne (Or.inr a)]
              have j105 : J 201 105 = ((8 * f + tl X f t : Nat) : Int) := by rw [eJ, u_ne (Or.inr (by decide)), u_ne (Or.inr (by decide)), u_eq]
              have j106 : J 201 106 = (tc X f (t - 1) : Int) := by rw [eJ, u_ne (Or.inr (by decide)), u_eq]
              have j107 : J 201 107 = ((tc X f k + 1 : Nat) : Int) - 1 := by rw [eJ, u_eq]; omega
              rw [← eJ]
              have pJ : PF F J := pH.tr ⟨fun c hc => by rw [zJ c (by omega), tw.1 c (by omega) (by omega)], fun j hj => by rw [zJ1 j (by omega) (by omega) (by omega), tw.2.1 j (by omega)]⟩
              have kt : kn (ks X f) k ≠ 0 := by rw [l9]; decide
              have tke : tc X f t + ts X f t ≤ tc X f k := (tok_srt hX hf (show t < k by omega) l6).2 (by omega)
              have tkb : tc X f (t - 1) + ts X f (t - 1) ≤ tc X f t := (tok_srt hX hf (show t - 1 < t by omega) (by omega)).2 (by omega)
              refine CaV.on (s_313 (tx0 := ity X f t k) (cut := ((8 * f + tl X f t : Nat) : Int)) (fr0 := tc X f (t - 1)) (to := tc X f k + 1) (h := 0) hSJ hX (hTG.cg (fun c a b => zJ c (by omega))) (fun q hq => by rw [zJ 253 (by decide), tw.1 253 (by decide) (by decide), zH 253 (by decide), hl.1 253 (by decide) (by decide) (by decide)]; exact hD.2.1 q hq) (by omega) (by rw [zJ1 104 (by decide) (by decide) (by decide)]; exact tw.2.2.1) (fun q hq => by rw [zJ 271 (by decide)]; exact tw.2.2.2 q hq) (by omega) (ity_chs hX hf (fun z h1 h2 => (ln z (by omega) (by omega)).1)) j105 (Or.inr ⟨j106, j107⟩) (Or.inl rfl) (fun r hr2 hrc z hz hzl hzb h1 h2 => ?_) (fun _ g z hg hz hgz => ?_)) ?_
              · have hg : r / 8 = f := by omega
                rw [hg] at hz hzl hzb h1 h2 ⊢
                have hzk : z ≠ k := fun c => by
                  rw [c] at hzb
                  exact kt (bnd_kn hX hf (show k < 200 by omega) (by rw [hzb]; omega)).2
                by_cases c : z < k
                · have := (tok_srt hX hf c l6).2 (by omega)
                  omega
                · have := (tok_srt hX hf (show k < z by omega) hz).2 (by omega)
                  omega
              · have lg := toks_len hX hg
                have hgf : g = f := by omega
                subst hgf
                have hzt : z = t := by omega
                subst hzt
                exact ⟨rfl, by omega, by omega⟩
              · rintro F' hS' ⟨k1, k2, k3⟩
                have p' : PF F F' := pJ.tr ⟨fun c hc => k2 c (by omega) (by omega) (by omega) (by omega) (by omega), fun j hj => k3 j (by omega) (by omega)⟩
                have eX : inlX X f t = rwX X (200 * f + t) (ity X f t k) ((8 * f + tl X f t : Nat) : Int) (tc X f (t - 1)) (tc X f k + 1) := by
                  unfold inlX
                  rw [l3, Int.toNat_natCast]
                have e3 : inl3 X f t = ¬ AllS X (200 * f + t) (ity X f t k) ((8 * f + tl X f t : Nat) : Int) (tc X f (t - 1)) (tc X f k + 1) 24 := by
                  unfold inl3
                  rw [l3, Int.toNat_natCast]
                unfold iln
                rw [pif_0 n2, e3, eX]
                rcases k1 with ⟨q1, q2, q3⟩ | ⟨q1, q2, -, -⟩
                · exact ⟨fun _ => ⟨(pif_0 (fun h => h q2)).symm, fun _ => q3, p'⟩, fun h => absurd q1 h⟩
                · exact ⟨fun h => by omega, fun _ => ⟨(pif_1 q2).symm, fun h => absurd h (by decide), p'⟩⟩
          · rw [pif_0 hP]
            refine ⟨fun _ => two F4 (fun ⟨e', h1, h2⟩ => ?_) hl.w.pf, fun h => absurd rfl h⟩
            rw [l3] at h1
            have : k = e' := by omega
            subst this
            exact hP h2
        | succ d ih =>
          intro k hk hkt
          have hok := l10 k hkt (by omega)
          refine b_321_29 hS3 ?_
          rw [Int.toNat_natCast, e213 k (by omega)]
          refine ⟨fun h => absurd h hr, fun _ => ⟨by omega, fun h => absurd h hok.1, fun _ => ⟨by omega, ?_⟩⟩⟩
          have := ih (k + 1) (by omega) (by omega)
          rw [show ((200 * f + (k + 1) : Nat) : Int) = ((200 * f + k : Nat) : Int) + 1 by omega] at this
          exact this
      exact lp (e - t) t (by omega) (Nat.le_refl _)
  · by_cases h : lte (Cw X f) t = -1
    · exact h
    · obtain ⟨iL, e, l1, l2, l3, l4, l5, l6, l7, l8, l9, l10, l11⟩ := let_at hX hf h
      exact absurd l11 hb
end Mk9
