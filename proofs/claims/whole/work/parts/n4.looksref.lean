/-! CALLS THAT LOOK, OF THE REFERENCE -/
def RO (F : MF) (p : Prop) (v : Int) (X S : Nat → List Int) (N : List Int) (L : List CH) (d : Bool) (e : Int) (r : Int) (F' : MF) : Prop := ((p ∧ F' 201 15 = 0 ∧ r = v) ∨ (¬ p ∧ F' 201 15 = 1)) ∧ KR F' X S N L d e ∧ Rn F F'
section Mn4
variable {F G : MF} {X Y S : Nat → List Int} {N K : List Int} {L : List CH} {d : Bool} {e : Int} {f m k n top : Nat} {x1 x2 x3 x4 : Int} {nn : Nat → Nat}
theorem RO.yea {p : Prop} {v r : Int} (h : KR F X S N L d e) (q : KQ F G) (hp : p) (h0 : G 201 15 = 0) (hr : r = v) : RO F p v X S N L d e r G := ⟨Or.inl ⟨hp, h0, hr⟩, h.kq q, q.rn⟩
theorem RO.nay {p : Prop} {v r : Int} (h : KR F X S N L d e) (q : KQ F G) (hp : ¬ p) (h0 : G 201 15 = 1) : RO F p v X S N L d e r G := ⟨Or.inr ⟨hp, h0⟩, h.kq q, q.rn⟩
theorem s_350 (hS : St F) (h : KR F X S N L d e) : C_350 x1 x2 x3 F (fun r F' => ((r = 1 ∧ (∃ f m q : Nat, f < 3 ∧ m < 8 ∧ q < (X (8 * f + m)).length ∧ x1 = (f : Int) ∧ x2 = (m : Int) ∧ x3 = (q : Int)) ∧ F' 201 15 = 0) ∨ (r = 0 ∧ ¬ isCh X x1 x2 x3 ∧ F' 201 15 = 1)) ∧ KQ F F') m_no := by
  refine c_350 hS ⟨fun hp => ?_, fun hp => ⟨Or.inr ⟨rfl, fun ⟨f, m, q, a, b, c, a1, a2, a3⟩ => hp (p_ln.mpr ⟨f, m, a, b, a1, a2⟩), u_eq⟩, KQ.rf.u15⟩⟩
  obtain ⟨f, m, hf, hm, rfl, rfl⟩ := p_ln.mp hp
  have ex := (h.1 (8 * f + m) (by omega)).1
  have hl := (h.hX (8 * f + m) (by omega)).1
  rw [show (8 * (f : Int) + (m : Int)).toNat = 8 * f + m by omega, ex, p_in]
  refine ⟨by omega, by omega, by omega, by omega, fun hq => ⟨Or.inl ⟨rfl, ⟨f, m, x3.toNat, hf, hm, by omega, rfl, rfl, by omega⟩, u_eq⟩, KQ.rf.u15⟩, fun hq => ⟨Or.inr ⟨rfl, ?_, u_eq⟩, KQ.rf.u15⟩⟩
  rintro ⟨f', m', q, a, b, c, a1, a2, a3⟩
  have e1 : f' = f := by omega
  have e2 : m' = m := by omega
  subst e1
  subst e2
  omega
theorem r_351 (hS : St F) (h : KR F X S N L d e) : C_351 x1 x2 x3 F (RO F (isCh X x1 x2 x3) (aCh X x1 x2 x3) X S N L d e) m_no := by
  refine c_351 hS (CaI.on (s_350 hS h) ?_)
  rintro r F1 hS1 ⟨⟨rfl, ⟨f, m, q, hf, hm, hq, rfl, rfl, rfl⟩, h15⟩ | ⟨rfl, hn, h15⟩, hk⟩
  · have hT := (h.kq hk).1
    have ex := (hT (8 * f + m) (by omega)).2.2 q hq
    have hx := ((h.hX (8 * f + m) (by omega)).2 _ (gx_mem hq))
    have hl := (h.hX (8 * f + m) (by omega)).1
    have eg : g_206 F1 (8 * (f : Int) + (m : Int)) (q : Int) = gx (X (8 * f + m)) q := by
      unfold g_206
      rw [show (24 * (8 * (f : Int) + (m : Int)) + (q : Int)).toNat = 24 * (8 * f + m) + q by omega]
      exact ex
    rw [eg]
    exact ⟨fun c => absurd c (by decide), fun _ => ⟨by omega, by omega, ⟨by omega, by omega, by omega, trivial⟩, by omega, by omega, RO.yea h hk ⟨f, m, q, hf, hm, hq, rfl, rfl, rfl⟩ h15 (by simp only [aCh, Int.toNat_natCast])⟩⟩
  · exact ⟨fun _ => RO.nay h hk hn h15, fun c => absurd rfl c⟩
theorem r_352 (hS : St F) (h : KR F X S N L d e) : C_352 x1 x2 F (RO F (isLn x1 x2) (aLn X x1 x2) X S N L d e) m_no := by
  refine c_352 hS ⟨fun hp => ?_, fun hp => RO.nay h KQ.rf.u15 (fun c => hp (p_ln.mpr c)) u_eq⟩
  obtain ⟨f, m, hf, hm, rfl, rfl⟩ := p_ln.mp hp
  have ex := (h.1 (8 * f + m) (by omega)).1
  rw [show (8 * (f : Int) + (m : Int)).toNat = 8 * f + m by omega, ex]
  exact ⟨by omega, by omega, by omega, RO.yea h KQ.rf.u15 ⟨f, m, hf, hm, rfl, rfl⟩ u_eq (by simp only [aLn, Int.toNat_natCast])⟩
theorem r_356 (hS : St F) (h : KR F X S N L d e) : C_356 x1 F (RO F (isF3 x1) (aTs X x1) X S N L d e) m_no := by
  refine c_356 hS (CaI.on (s_354 hS h) ?_)
  rintro r F1 hS1 ⟨⟨rfl, ⟨f, hf, rfl⟩, h15, nn, d1⟩ | ⟨rfl, hn, h15⟩, hk⟩
  · rw [Int.toNat_natCast, (d1.1.2.1 f hf).1.1]
    exact ⟨fun c => absurd c (by decide), fun _ => ⟨by omega, RO.yea h hk ⟨f, hf, rfl⟩ h15 (by simp only [aTs, Int.toNat_natCast])⟩⟩
  · exact ⟨fun _ => RO.nay h hk hn h15, fun c => absurd rfl c⟩
theorem r_357 (hS : St F) (h : KR F X S N L d e) : C_357 x1 x2 F (RO F (isTk X x1 x2) (aTk X x1 x2) X S N L d e) m_no := by
  refine c_357 hS (CaI.on (s_355 hS h) ?_)
  rintro r F1 hS1 ⟨⟨rfl, ⟨f, k, hf, hk', rfl, rfl⟩, h15, nn, d1⟩ | ⟨rfl, hn, h15⟩, hk⟩
  · have lk := toks_len h.hX hf
    have t := lexm_tok (d1.1.2.1 f hf) hk'
    have kr := kn_rng h.hX hf k
    have ok := toks_ok hk'
    have w := (h.hX (8 * f + tl X f k) (by omega)).1
    rw [show (200 * (f : Int) + (k : Int)).toNat = 200 * f + k by omega, t.1, t.2.1, t.2.2.1]
    exact ⟨fun c => absurd c (by decide), fun _ => ⟨by omega, by omega, by omega, by omega, by omega, by omega, by omega, by omega, by omega, RO.yea h hk ⟨f, k, hf, hk', rfl, rfl⟩ h15 (by simp only [aTk, Int.toNat_natCast])⟩⟩
  · exact ⟨fun _ => RO.nay h hk hn h15, fun c => absurd rfl c⟩
theorem r_358 (hS : St F) (h : KR F X S N L d e) : C_358 x1 x2 F (RO F (isTk X x1 x2) (aTk X x1 x2) X S N L d e) m_no := c_358 hS (r_357 hS h)
theorem r_362 (hS : St F) (h : KR F X S N L d e) : C_362 x1 F (RO F (isF3 x1) (aEs X x1) X S N L d e) m_no := by
  refine c_362 hS (CaI.on (s_354 hS h) ?_)
  rintro r F1 hS1 ⟨⟨rfl, ⟨f, hf, rfl⟩, h15, nn, d1⟩ | ⟨rfl, hn, h15⟩, hk⟩
  · rw [Int.toNat_natCast, (d1.1.2.2.2.2.1 f hf).2.2.1]
    exact ⟨fun c => absurd c (by decide), fun _ => ⟨by omega, RO.yea h hk ⟨f, hf, rfl⟩ h15 (by simp only [aEs, Int.toNat_natCast])⟩⟩
  · exact ⟨fun _ => RO.nay h hk hn h15, fun c => absurd rfl c⟩
theorem r_364 (hS : St F) (h : KR F X S N L d e) : C_364 x1 x2 F (RO F (isEr X x1 x2) (aEr X x1 x2) X S N L d e) m_no := by
  refine c_364 hS (CaI.on (s_363 hS h) ?_)
  rintro r F1 hS1 ⟨⟨rfl, ⟨f, k, hf, hk', rfl, rfl⟩, h15, nn, d1⟩ | ⟨rfl, hn, h15⟩, hk⟩
  · have le := Ew_len h.hX hf
    have t := (d1.1.2.2.2.2.1 f hf).2.2.2 k hk'
    rw [show (200 * (f : Int) + (k : Int)).toNat = 200 * f + k by omega, t.1]
    exact ⟨fun c => absurd c (by decide), fun _ => ⟨by omega, by omega, by omega, RO.yea h hk ⟨f, k, hf, hk', rfl, rfl⟩ h15 (by simp only [aEr, Int.toNat_natCast])⟩⟩
  · exact ⟨fun _ => RO.nay h hk hn h15, fun c => absurd rfl c⟩
theorem frP.kq (h : frP F G) : KQ F G := ⟨fun c hc => h.1 c (by omega) (by omega), fun j hj => h.2 j (by omega) (by omega)⟩
theorem frU.kq (h : frU F G) : KQ F G := ⟨fun c hc => h.1 c (by omega) (by omega) (by omega) (by omega), fun j hj => h.2 j (by omega) (by omega) (by omega)⟩
theorem frR.kq (h : frR F G) : KQ F G := ⟨fun c hc => h.1 c (by omega) (by omega), fun j hj => h.2 j (by omega) (by omega) (by omega) (by omega)⟩
theorem r_366 (hS : St F) (h : KR F X S N L d e) : C_366 x1 F (RO F (isF3 x1) (aTr X x1) X S N L d e) m_no := by
  refine c_366 hS (CaI.on (s_354 hS h) ?_)
  rintro r F1 hS1 ⟨⟨rfl, ⟨f, hf, rfl⟩, h15, nn, d1⟩ | ⟨rfl, hn, h15⟩, hk⟩
  · refine ⟨fun c => absurd c (by decide), fun _ => CaL.on (s_277 d1 hS1 hf) ?_⟩
    rintro r F2 hS2 ⟨rfl, u⟩
    exact RO.yea h (hk.tr u.kq) ⟨f, hf, rfl⟩ (by rw [u.2 15 (by decide) (by decide)]; exact h15) (by simp only [aTr, Int.toNat_natCast])
  · exact ⟨fun _ => RO.nay h hk hn h15, fun c => absurd rfl c⟩
theorem r_367 (hS : St F) (h : KR F X S N L d e) : C_367 x1 x2 F (RO F (isPl X x1 x2) (aMa X x1 x2) X S N L d e) m_no := by
  refine c_367 hS (CaI.on (s_355p hS h) ?_)
  rintro r F1 hS1 ⟨⟨rfl, ⟨f, k, hf, hk', rfl, rfl⟩, h15, nn, d1⟩ | ⟨rfl, hn, h15⟩, hk⟩
  · refine ⟨fun c => absurd c (by decide), fun _ => ?_⟩
    have l := l_367 (n0 := nn 3) h.hX hf (d1.1.2.1 f hf) hk' d1.1.2.2.2.2.2 d1.1.2.2.2.1 25 0 F1 (by decide) hS1 RH.rf
    refine EvI.mono l ?_ (fun _ _ _ h => h)
    rintro r F2 hS2 ⟨rfl, u⟩
    have uq : KQ F1 F2 := ⟨fun c hc => u.2.2 c (by omega), fun j hj => u.1 j (by omega) (by omega) (by omega) (by omega) (by omega) (by omega) (by omega) (by omega) (by omega) (by omega) (by omega) (by omega) (by omega) (by omega)⟩
    exact RO.yea h (hk.tr uq) ⟨f, k, hf, hk', rfl, rfl⟩ (by rw [u.1 15 (by decide) (by decide) (by decide) (by decide) (by decide) (by decide) (by decide) (by decide) (by decide) (by decide) (by decide) (by decide) (by decide) (by decide)]; exact h15) (by simp only [aMa, Int.toNat_natCast])
  · exact ⟨fun _ => RO.nay h hk hn h15, fun c => absurd rfl c⟩
/-- how many of the items are functions -/
theorem l_368 (hS : St F) : ∀ (I : List IT) (x : Int) (c lo i : Nat), ItC F K top x c lo I (-1) → i ≤ lo → L_368_17 (i : Int) x F (fun r F' => r = ((i + (fnsO F c I).length : Nat) : Int) ∧ F' = F) m_no
  | [], x, c, lo, i, h, _ => by
    obtain rfl : x = -1 := h.1
    exact b_368_17 hS ⟨fun _ => ⟨rfl, rfl⟩, fun h => absurd rfl h⟩
  | it :: I, x, c, lo, i, ⟨hx, hi, hP, hr⟩, hl => by
    subst hx
    obtain ⟨q0, q1, q2, q3, q4⟩ := hP
    refine b_368_17 hS ⟨fun h => by omega, fun _ => ⟨by omega, ?_⟩⟩
    rw [Int.toNat_natCast]
    rcases q1 with ⟨a1, a2, -⟩ | ⟨a1, a2, -⟩
    · have e : fnsO F c (it :: I) = fnsO F (c + it.2.2.2.2.2.length) I := by
        show (if it.2.1 = 2 then _ else []) ++ _ = _
        rw [if_neg (by omega)]
        rfl
      rw [e, a2]
      refine ⟨fun h => absurd h (by decide), fun _ => ⟨by omega, by omega, ?_⟩⟩
      rw [Int.add_zero]
      exact l_368 hS I _ _ _ i hr (by omega)
    · have e : fnsO F c (it :: I) = ((it.2.2.1 : Int), (it.2.2.2.1 : Int), (c : Int), F 228 it.2.2.2.2.1) :: fnsO F (c + it.2.2.2.2.2.length) I := by
        show (if it.2.1 = 2 then _ else []) ++ _ = _
        rw [if_pos a1]
        rfl
      rw [e, a2, List.length_cons]
      refine ⟨fun _ => ⟨by omega, by omega, ?_⟩, fun h => absurd rfl h⟩
      have := l_368 hS I _ _ _ (i + 1) hr (by omega)
      rw [show ((i + 1 : Nat) : Int) = (i : Int) + 1 by omega] at this
      refine EvI.mono this ?_ (fun _ _ _ h => h)
      rintro r F' _ ⟨rfl, rfl⟩
      exact ⟨by omega, rfl⟩
theorem r_368 (hS : St F) (h : KR F X S N L d e) : C_368 x1 F (RO F (isF3 x1) (aFs X x1) X S N L d e) m_no := by
  refine c_368 hS (CaI.on (s_354 hS h) ?_)
  rintro r F1 hS1 ⟨⟨rfl, ⟨f, hf, rfl⟩, h15, nn, d1⟩ | ⟨rfl, hn, h15⟩, hk⟩
  · rw [Int.toNat_natCast]
    refine ⟨fun c => absurd c (by decide), fun _ => ⟨by omega, ?_⟩⟩
    obtain ⟨I, i1, i2⟩ := d1.2.2 f hf
    refine EvI.mono (l_368 hS1 I _ _ _ 0 i1.1 (Nat.zero_le _)) ?_ (fun _ _ _ h => h)
    rintro r F2 hS2 ⟨rfl, rfl⟩
    refine RO.yea h hk ⟨f, hf, rfl⟩ h15 ?_
    rw [i1.2.1]
    simp only [aFs, Int.toNat_natCast, Nat.zero_add]
  · exact ⟨fun _ => RO.nay h hk hn h15, fun c => absurd rfl c⟩
theorem r_370 (hS : St F) (h : KR F X S N L d e) : C_370 x1 x2 F (RO F (isTk X x1 x2) (aBn X x1 x2) X S N L d e) m_no := by
  refine c_370 hS (CaI.on (s_355 hS h) ?_)
  rintro r F1 hS1 ⟨⟨rfl, ⟨f, k, hf, hk', rfl, rfl⟩, h15, nn, d1⟩ | ⟨rfl, hn, h15⟩, hk⟩
  · have lk := toks_len h.hX hf
    have br := bnd_r5 h.hX (show 200 * f + k < 600 by omega)
    have fin : ∀ r : Int, r = tld (bnd X (200 * f + k)) → RO F (isTk X (f : Int) (k : Int)) (aBn X (f : Int) (k : Int)) X S N L d e r F1 := fun r hr => RO.yea h hk ⟨f, k, hf, hk', rfl, rfl⟩ h15 (by simp only [aBn, Int.toNat_natCast]; exact hr)
    rw [show (200 * (f : Int) + (k : Int)).toNat = 200 * f + k by omega, d1.2.1 _ (show 200 * f + k < 600 by omega)]
    refine ⟨fun c => absurd c (by decide), fun _ => ⟨by omega, by omega, by omega, fun hb => fin _ (by unfold tld; rw [if_pos hb]), fun hb => ⟨by omega, by omega, by omega, by omega, fin _ (by unfold tld trI; rw [if_neg hb])⟩⟩⟩
  · exact ⟨fun _ => RO.nay h hk hn h15, fun c => absurd rfl c⟩
theorem r_371 (hS : St F) (h : KR F X S N L d e) : C_371 x1 x2 F (RO F (isTk X x1 x2) (aBn X x1 x2) X S N L d e) m_no := c_371 hS (r_370 hS h)
theorem r_372 (hS : St F) (h : KR F X S N L d e) : C_372 x1 x2 F (RO F (isTk X x1 x2) (aTy X x1 x2) X S N L d e) m_no := by
  refine c_372 hS (CaI.on (s_355 hS h) ?_)
  rintro r F1 hS1 ⟨⟨rfl, ⟨f, k, hf, hk', rfl, rfl⟩, h15, nn, d1⟩ | ⟨rfl, hn, h15⟩, hk⟩
  · have lk := toks_len h.hX hf
    refine ⟨fun c => absurd c (by decide), fun _ => CaV.on (s_273 hS1 d1) ?_⟩
    rintro F2 hS2 ⟨⟨r, t1, t2, t3⟩, u⟩
    have eb : F2 253 (200 * f + k) = bnd X (200 * f + k) := by rw [u.1 253 (by decide) (by decide) (by decide) (by decide)]; exact d1.2.1 _ (by omega)
    have e15 : F2 201 15 = 0 := by rw [u.2 15 (by decide) (by decide) (by decide)]; exact h15
    have fin : ∀ r : Int, r = aTy X (f : Int) (k : Int) → RO F (isTk X (f : Int) (k : Int)) (aTy X (f : Int) (k : Int)) X S N L d e r F2 := fun r hr => RO.yea h (hk.tr u.kq) ⟨f, k, hf, hk', rfl, rfl⟩ e15 hr
    rw [show (200 * (f : Int) + (k : Int)).toNat = 200 * f + k by omega, eb]
    refine ⟨by omega, by omega, by omega, fun hb => fin 0 ?_, fun hb => ?_⟩
    · simp only [aTy, Int.toNat_natCast]
      rw [if_pos hb]
    · obtain ⟨hD, hv⟩ := bnd_D h.hX (show 200 * f + k < 600 by omega) hb
      rw [← hv]
      refine CaI.on (s_263 hS2 t1.1 (show (bnd X (200 * f + k)).toNat < 2200 by have := hD.1; omega)) ?_
      rintro x F3 hS3 ⟨rfl, rfl⟩
      obtain ⟨dp, hU⟩ := t1.1
      have hu := hU (bnd X (200 * f + k)).toNat (by have := hD.1; omega)
      rw [Int.toNat_natCast, t1.2.1 _ hu.1 hu.2.1, t2 _ hD]
      refine ⟨by omega, fin _ ?_⟩
      simp only [aTy, Int.toNat_natCast]
      rw [if_neg hb]
  · exact ⟨fun _ => RO.nay h hk hn h15, fun c => absurd rfl c⟩
theorem KR.u15 {v : Int} (h : KR F X S N L d e) : TxM (m_up F 201 15 v) X := by
  show Rws (m_up F 201 15 v 202) (m_up F 201 15 v 203) X
  rw [up_row (by decide), up_row (by decide)]
  exact h.1
theorem r_373 (hS : St F) (h : KR F X S N L d e) : C_373 F (fun r F' => r = aTe X ∧ KR F' X S N L d e ∧ Rn F F') m_no := by
  refine c_373 hS (CaV.on (s_262 (hS.fld kd_201 rk_12_15) h.u15) ?_)
  rintro F1 hS1 ⟨r1, nn, d1⟩
  refine CaV.on (s_273 hS1 d1) ?_
  rintro F2 hS2 ⟨⟨r, t1, t2, t3⟩, u⟩
  have hq : KQ F F2 := (KQ.rf.u15.tr r1.kq).tr u.kq
  refine ⟨?_, h.kq hq, hq.rn⟩
  rw [t1.2.2.1, t3, List.length_map]
  rfl
theorem r_374 (hS : St F) (h : KR F X S N L d e) : C_374 x1 F (RO F (isTe X x1) (aTa X x1) X S N L d e) m_no := by
  have hE := tfil_ok (X := X) hS h.hX
  refine c_374 hS (CaV.on (s_262 hS h.1) ?_)
  rintro F1 hS1 ⟨r1, nn, d1⟩
  refine CaV.on (s_273 hS1 d1) ?_
  rintro F2 hS2 ⟨⟨r, t1, t2, t3⟩, u⟩
  have hq : KQ F F2 := r1.kq.tr u.kq
  have ec : F2 201 78 = ((tfil X 3).2.2.length : Int) := by rw [t1.2.2.1, t3, List.length_map]
  rw [ec, p_in]
  refine ⟨by omega, fun hp => ?_, fun hp => RO.nay h hq.u15 (fun ⟨k, a, b⟩ => hp (by omega)) u_eq⟩
  obtain ⟨k, rfl⟩ : ∃ k : Nat, x1 = (k : Int) := ⟨x1.toNat, by omega⟩
  have hk : k < (tfil X 3).2.2.length := by omega
  have ek : F2 257 k = trI (gx (tfil X 3).2.2 k) := by
    rw [t1.2.2.2 k (by rw [t3, List.length_map]; exact hk), t3]
    unfold gx
    rw [List.getD_eq_getElem?_getD, List.getD_eq_getElem?_getD, List.getElem?_map, List.getElem?_eq_getElem hk]
    rfl
  rw [Int.toNat_natCast, ek]
  refine ⟨by omega, RO.yea h hq.u15 ⟨k, hk, rfl⟩ u_eq ?_⟩
  simp only [aTa, Int.toNat_natCast]
theorem SFr.kq (h : SFr F G) : KQ F G := ⟨fun c hc => h.2 c (by omega), fun j hj => h.1 j (by omega) (by omega)⟩
theorem r_377 (hS : St F) (h : KR F X S N L d e) : C_377 x1 x2 F (RO F (isPl X x1 x2) (aCo X N x1 x2) X S N L d e) m_no := by
  refine c_377 hS (CaI.on (s_355p hS h) ?_)
  rintro r F1 hS1 ⟨⟨rfl, ⟨f, k, hf, hk', rfl, rfl⟩, h15, nn, d1⟩ | ⟨rfl, hn, h15⟩, hk⟩
  · refine ⟨fun c => absurd c (by decide), fun _ => CaV.on (s_304 hS1 d1.1 (h.kq hk).2.2.1.1 hf hk') ?_⟩
    rintro F2 hS2 ⟨u1, u2⟩
    exact RO.yea h (hk.tr u2.kq) ⟨f, k, hf, hk', rfl, rfl⟩ (by rw [u2.1 15 (by omega) (by decide)]; exact h15) (by simp only [aCo, Int.toNat_natCast]; exact u1.1)
  · exact ⟨fun _ => RO.nay h hk hn h15, fun c => absurd rfl c⟩
theorem r_378 (hS : St F) (h : KR F X S N L d e) : C_378 x1 x2 x3 F (RO F (isCa X x1 x2 x3) (aCa X N x1 x2 x3) X S N L d e) m_no := by
  refine c_378 hS (CaI.on (s_355p hS h) ?_)
  rintro r F1 hS1 ⟨⟨rfl, ⟨f, k, hf, hk', rfl, rfl⟩, h15, nn, d1⟩ | ⟨rfl, hn, h15⟩, hk⟩
  · refine ⟨fun c => absurd c (by decide), fun _ => ⟨fun hz => b_378_23 (hS1.fld kd_201 rk_12_15) ⟨fun _ => RO.nay h hk.u15 (fun c => absurd c.2 (by omega)) u_eq, fun c => absurd (by rw [u_eq]; decide) c⟩, fun hz => ?_⟩⟩
    have hS2 : St (m_up F1 201 15 0) := hS1.fld kd_201 rk_12_15
    have d2 : LKd (m_up F1 201 15 0) X nn := d1.cg (fun c a b => up_row a) (u_ne (Or.inr (by decide)))
    have hb := cmpl_ok (N := N) h.hX hf hk'
    refine b_378_23 hS2 ⟨fun c => absurd c (by rw [u_eq]; decide), fun _ => CaV.on (s_304 hS2 d2.1 (h.kq hk.u15).2.2.1.1 hf hk') ?_⟩
    rintro F2 hS3 ⟨u1, u2⟩
    have e15 : F2 201 15 = 0 := by rw [u2.1 15 (by omega) (by decide), u_eq]
    obtain ⟨z, rfl⟩ : ∃ z : Nat, x3 = (z : Int) := ⟨x3.toNat, by omega⟩
    have fin : ∀ r : Int, r = aCa X N (f : Int) (k : Int) (z : Int) → RO F (isCa X (f : Int) (k : Int) (z : Int)) (aCa X N (f : Int) (k : Int) (z : Int)) X S N L d e r F2 := fun r hr => RO.yea h (hk.u15.tr u2.kq) ⟨⟨f, k, hf, hk', rfl, rfl⟩, by omega⟩ e15 hr
    rw [u1.1]
    refine ⟨fun h1 => ?_, fun h1 => fin (-1) ?_⟩
    · have hz2 : z < (cmpl X f k N).length := by omega
      have ez : F2 264 z = gx (ndc (cmpl X f k N)) z := u1.2 z (by unfold ndc; rw [List.length_map]; exact hz2)
      have hv := hb.2 _ (List.getElem_mem hz2)
      have eg : gx (ndc (cmpl X f k N)) z = (((cmpl X f k N)[z]'hz2 : Nat) : Int) := by
        unfold gx ndc
        rw [List.getD_eq_getElem?_getD, List.getElem?_map, List.getElem?_eq_getElem hz2]
        rfl
      rw [Int.toNat_natCast, ez, eg]
      refine ⟨by omega, by omega, by omega, by omega, by omega, by omega, fin _ ?_⟩
      simp only [aCa, Int.toNat_natCast]
      rw [if_pos (by omega), eg]
      rfl
    · simp only [aCa, Int.toNat_natCast]
      rw [if_neg h1]
  · refine ⟨fun _ => b_378_23 hS1 ⟨fun _ => RO.nay h hk (fun c => hn c.1) h15, fun c => absurd (by rw [h15]; decide) c⟩, fun c => absurd rfl c⟩
end Mn4
