/-! CALLS THAT LOOK: partners, folds, colours, repairs -/
section Mn6
variable {F F0 G : MF} {X Y S : Nat → List Int} {N : List Int} {L : List CH} {d : Bool} {e : Int} {f m k n q : Nat} {x1 x2 x3 x4 : Int} {nn : Nat → Nat}
theorem brk_hi (T : TT) : ∀ k i, k ≤ i → (brk T k).2.2 i = -1
  | 0, i, _ => rfl
  | k + 1, i, h => by
    have ih := brk_hi T k i (by omega)
    have hle := (brk_le T k).2
    unfold brk
    by_cases c1 : (tk T k).1 = 10 ∨ (tk T k).1 = 12
    · rw [if_pos c1]; exact ih
    · rw [if_neg c1]
      by_cases c2 : ((tk T k).1 = 11 ∨ (tk T k).1 = 13) ∧ 0 < (brk T k).1 ∧ (tk T ((brk T k).2.1 ((brk T k).1 - 1))).1 = (tk T k).1 - 1
      · rw [if_pos c2]
        have := hle ((brk T k).1 - 1) (by omega)
        show (if i = (brk T k).2.1 ((brk T k).1 - 1) then (k : Int) else if i = k then (((brk T k).2.1 ((brk T k).1 - 1) : Nat) : Int) else (brk T k).2.2 i) = -1
        rw [if_neg (by omega), if_neg (by omega)]
        exact ih
      · rw [if_neg c2]; exact ih
/-- brackets, of the reference -/
theorem s_305 (hS : St F0) (hX : ∀ r, r < 24 → Rok (X r)) (hM : LexM F0 f X) (hf : f < 3) : C_305 (f : Int) F0 (fun F' => (∀ i, i < (toks X f).length → F' 266 i = parts (toks X f) i) ∧ fr (fun c => c = 265 ∨ c = 266) F0 F') m_no := by
  have lk := toks_len hX hf
  have key : ∀ (d k : Nat) (F : MF), k + d = (toks X f).length → St F → fr (fun c => c = 265 ∨ c = 266) F0 F → (∀ i, i < k → F 266 i = (brk (toks X f) k).2.2 i) → (∀ i, i < (brk (toks X f) k).1 → F 265 i = ((brk (toks X f) k).2.1 i : Int)) →
      L_305_4 (f : Int) ((brk (toks X f) k).1 : Int) (k : Int) F (fun F' => (∀ i, i < (toks X f).length → F' 266 i = parts (toks X f) i) ∧ fr (fun c => c = 265 ∨ c = 266) F0 F') m_no := by
    intro d
    induction d with
    | zero =>
      intro k F hk hS hfr h6 h5
      have ec : F 217 f = ((toks X f).length : Int) := by rw [hfr 217 (by decide)]; exact hM.1.1
      refine b_305_4 hS ?_
      rw [Int.toNat_natCast, ec]
      refine ⟨by omega, fun h => by omega, fun _ => ⟨fun i hi => ?_, hfr⟩⟩
      obtain rfl : k = (toks X f).length := by omega
      exact h6 i hi
    | succ d ih =>
      intro k F hk hS hfr h6 h5
      have hk2 : k < (toks X f).length := by omega
      have ec : F 217 f = ((toks X f).length : Int) := by rw [hfr 217 (by decide)]; exact hM.1.1
      have e13 : ∀ j, j < (toks X f).length → F0 213 (200 * f + j) = (tk (toks X f) j).1 := fun j hj => by rw [(lexm_tok hM hj).1, kn_tk hj]
      have e1 : F 213 (200 * f + k) = (tk (toks X f) k).1 := by rw [hfr 213 (by decide)]; exact e13 k hk2
      obtain ⟨b1, b2⟩ := brk_le (toks X f) k
      have hi := brk_hi (toks X f) k k (Nat.le_refl _)
      obtain ⟨F1, eF1⟩ : ∃ F1, F1 = m_up F 266 k (-1) := ⟨_, rfl⟩
      have hS1 : St F1 := by rw [eF1]; exact hS.arr kd_266 (by decide)
      have hfr1 : fr (fun c => c = 265 ∨ c = 266) F0 F1 := by rw [eF1]; exact hfr.up (Or.inr rfl)
      have h61 : ∀ i, i < k + 1 → F1 266 i = (brk (toks X f) k).2.2 i := fun i hi2 => by
        rw [eF1]
        by_cases c : i = k
        · rw [c, u_eq, hi]
        · rw [u_ne (Or.inr c)]; exact h6 i (by omega)
      have h51 : F1 265 = F 265 := by rw [eF1]; exact up_row (by decide)
      have nx : ∀ (n : Nat) (H : MF), n = (brk (toks X f) (k + 1)).1 → St H → fr (fun c => c = 265 ∨ c = 266) F0 H → (∀ i, i < k + 1 → H 266 i = (brk (toks X f) (k + 1)).2.2 i) → (∀ i, i < (brk (toks X f) (k + 1)).1 → H 265 i = ((brk (toks X f) (k + 1)).2.1 i : Int)) →
          L_305_4 (f : Int) (n : Int) ((k : Int) + 1) H (fun F' => (∀ i, i < (toks X f).length → F' 266 i = parts (toks X f) i) ∧ fr (fun c => c = 265 ∨ c = 266) F0 F') m_no := fun n H hn a1 a2 a3 a4 => by
        have := ih (k + 1) H (by omega) a1 a2 a3 a4
        rw [hn, show (k : Int) + 1 = ((k + 1 : Nat) : Int) by omega]
        exact this
      -- nothing is matched
      have same : brk (toks X f) (k + 1) = brk (toks X f) k → L_305_4 (f : Int) ((brk (toks X f) k).1 : Int) ((k : Int) + 1) F1 (fun F' => (∀ i, i < (toks X f).length → F' 266 i = parts (toks X f) i) ∧ fr (fun c => c = 265 ∨ c = 266) F0 F') m_no := fun he => nx _ F1 (by rw [he]) hS1 hfr1 (by rw [he]; exact h61) (by rw [he, h51]; exact h5)
      have push : (tk (toks X f) k).1 = 10 ∨ (tk (toks X f) k).1 = 12 → L_305_4 (f : Int) (((brk (toks X f) k).1 : Int) + 1) ((k : Int) + 1) (m_up F1 265 (brk (toks X f) k).1 (k : Int)) (fun F' => (∀ i, i < (toks X f).length → F' 266 i = parts (toks X f) i) ∧ fr (fun c => c = 265 ∨ c = 266) F0 F') m_no := fun hc => by
        have he : brk (toks X f) (k + 1) = ((brk (toks X f) k).1 + 1, (fun i => if i = (brk (toks X f) k).1 then k else (brk (toks X f) k).2.1 i), (brk (toks X f) k).2.2) := by
          show (if _ then _ else _) = _
          rw [if_pos hc]
        have := nx ((brk (toks X f) k).1 + 1) (m_up F1 265 (brk (toks X f) k).1 (k : Int)) (by rw [he]) (hS1.arr kd_265 (by decide)) (hfr1.up (Or.inl rfl)) (fun i hi2 => by rw [he, up_row (by decide)]; exact h61 i hi2) (fun i hi2 => by
          rw [he] at hi2 ⊢
          show _ = ((if i = (brk (toks X f) k).1 then k else (brk (toks X f) k).2.1 i : Nat) : Int)
          change i < (brk (toks X f) k).1 + 1 at hi2
          by_cases c : i = (brk (toks X f) k).1
          · rw [if_pos c, c, u_eq]
          · rw [if_neg c, u_ne (Or.inr c), h51]
            exact h5 i (by omega))
        rw [show (((brk (toks X f) k).1 + 1 : Nat) : Int) = ((brk (toks X f) k).1 : Int) + 1 by omega] at this
        exact this
      have shut : ∀ c : Int, (c = 11 ∨ c = 13) → (tk (toks X f) k).1 = c → L_305_76 (f : Int) ((brk (toks X f) k).1 : Int) (k : Int) c F1 (fun F' => (∀ i, i < (toks X f).length → F' 266 i = parts (toks X f) i) ∧ fr (fun c => c = 265 ∨ c = 266) F0 F') m_no := fun c hc ec => by
        have nopen : ¬ ((tk (toks X f) k).1 = 10 ∨ (tk (toks X f) k).1 = 12) := by omega
        have no : ¬ (0 < (brk (toks X f) k).1 ∧ (tk (toks X f) ((brk (toks X f) k).2.1 ((brk (toks X f) k).1 - 1))).1 = (tk (toks X f) k).1 - 1) → brk (toks X f) (k + 1) = brk (toks X f) k := fun hn => by
          show (if _ then _ else if _ then _ else _) = _
          rw [if_neg nopen, if_neg (fun h => hn h.2)]
        have s134 : ∀ t : Int, ¬ (0 < (brk (toks X f) k).1 ∧ (tk (toks X f) ((brk (toks X f) k).2.1 ((brk (toks X f) k).1 - 1))).1 = (tk (toks X f) k).1 - 1) → L_305_134 (f : Int) ((brk (toks X f) k).1 : Int) (k : Int) t F1 (fun F' => (∀ i, i < (toks X f).length → F' 266 i = parts (toks X f) i) ∧ fr (fun c => c = 265 ∨ c = 266) F0 F') m_no := fun t hn => b_305_134 hS1 ⟨by omega, same (no hn)⟩
        refine b_305_76 hS1 ⟨fun h0 => s134 _ (fun h => by omega), fun h0 => ?_⟩
        have hp : 0 < (brk (toks X f) k).1 := by omega
        have ht := b2 ((brk (toks X f) k).1 - 1) (by omega)
        have e5 : F1 265 (((brk (toks X f) k).1 : Int) - 1).toNat = ((brk (toks X f) k).2.1 ((brk (toks X f) k).1 - 1) : Int) := by
          rw [h51, show (((brk (toks X f) k).1 : Int) - 1).toNat = (brk (toks X f) k).1 - 1 by omega]
          exact h5 _ (by omega)
        obtain ⟨t, et⟩ : ∃ t, t = (brk (toks X f) k).2.1 ((brk (toks X f) k).1 - 1) := ⟨_, rfl⟩
        rw [← et] at e5 ht no s134
        have e13t : F1 213 (200 * (f : Int) + (t : Int)).toNat = (tk (toks X f) t).1 := by
          rw [show (200 * (f : Int) + (t : Int)).toNat = 200 * f + t by omega, hfr1 213 (by decide)]
          exact e13 t (by omega)
        rw [e5, e13t, Int.toNat_natCast, Int.toNat_natCast]
        have pop : (tk (toks X f) t).1 = (tk (toks X f) k).1 - 1 → L_305_4 (f : Int) (((brk (toks X f) k).1 : Int) + (-1)) ((k : Int) + 1) (m_up (m_up F1 266 k (t : Int)) 266 t (k : Int)) (fun F' => (∀ i, i < (toks X f).length → F' 266 i = parts (toks X f) i) ∧ fr (fun c => c = 265 ∨ c = 266) F0 F') m_no := fun htk => by
          have he : brk (toks X f) (k + 1) = ((brk (toks X f) k).1 - 1, (brk (toks X f) k).2.1, fun i => if i = t then (k : Int) else if i = k then (t : Int) else (brk (toks X f) k).2.2 i) := by
            show (if _ then _ else if _ then _ else _) = _
            rw [if_neg nopen, ← et, if_pos ⟨by omega, hp, htk⟩]
          have := nx ((brk (toks X f) k).1 - 1) (m_up (m_up F1 266 k (t : Int)) 266 t (k : Int)) (by rw [he]) ((hS1.arr kd_266 (by decide)).arr kd_266 (by decide)) ((hfr1.up (Or.inr rfl)).up (Or.inr rfl)) (fun i hi2 => by
            rw [he]
            show _ = if i = t then (k : Int) else if i = k then (t : Int) else (brk (toks X f) k).2.2 i
            by_cases c1 : i = t
            · rw [if_pos c1, c1, u_eq]
            · rw [if_neg c1, u_ne (Or.inr c1)]
              by_cases c2 : i = k
              · rw [if_pos c2, c2, u_eq]
              · rw [if_neg c2, u_ne (Or.inr c2)]
                exact h61 i hi2) (fun i hi2 => by
            rw [he] at hi2 ⊢
            change i < (brk (toks X f) k).1 - 1 at hi2
            rw [up_row (by decide), up_row (by decide), h51]
            exact h5 i (by omega))
          rw [show (((brk (toks X f) k).1 - 1 : Nat) : Int) = ((brk (toks X f) k).1 : Int) + (-1) by omega] at this
          exact this
        refine ⟨by omega, by omega, fun h => by omega, fun _ => ⟨by omega, by omega, by omega, fun c11 => ⟨fun ct => ⟨by omega, by omega, by omega, by omega, pop (by omega)⟩, fun ct => s134 _ (fun h => ct (by omega))⟩, fun c11 => ⟨fun ct => ⟨by omega, by omega, by omega, by omega, pop (by omega)⟩, fun ct => s134 _ (fun h => ct (by omega))⟩⟩⟩
      refine b_305_4 hS ?_
      rw [Int.toNat_natCast, ec, show (200 * (f : Int) + (k : Int)).toNat = 200 * f + k by omega, e1, Int.toNat_natCast, Int.toNat_natCast, ← eF1]
      refine ⟨by omega, fun _ => ⟨by omega, by omega, by omega, by omega, fun c => ⟨by omega, by omega, by omega, push (Or.inl c)⟩, fun c1 => ⟨fun c => ⟨by omega, by omega, by omega, push (Or.inr c)⟩, fun c2 => ⟨fun c => ?_, fun c3 => ⟨fun c => ?_, fun c4 => ⟨by omega, same ?_⟩⟩⟩⟩⟩, fun h => by omega⟩
      · exact shut _ (Or.inl c) rfl
      · exact shut _ (Or.inr c) rfl
      · show (if _ then _ else if _ then _ else _) = _
        rw [if_neg (by omega), if_neg (by omega)]
  exact c_305 hS (key (toks X f).length 0 F0 (by omega) hS fr.rf (fun i hi => absurd hi (Nat.not_lt_zero i)) (fun i hi => absurd hi (Nat.not_lt_zero i)))
theorem r_360 (hS : St F) (h : KR F X S N L d e) : C_360 x1 x2 F (RO F (isTk X x1 x2) (aPa X x1 x2) X S N L d e) m_no := by
  refine c_360 hS (CaI.on (s_355 hS h) ?_)
  rintro r F1 hS1 ⟨⟨rfl, ⟨f, k, hf, hk', rfl, rfl⟩, h15, nn, d1⟩ | ⟨rfl, hn, h15⟩, hk⟩
  · have lk := toks_len h.hX hf
    refine ⟨fun c => absurd c (by decide), fun _ => CaV.on (s_305 hS1 h.hX (d1.1.2.1 f hf) hf) ?_⟩
    rintro F2 hS2 ⟨u1, u2⟩
    rw [Int.toNat_natCast, u1 k hk']
    exact ⟨by omega, RO.yea h (hk.tr (u2.kq (fun c hc => by omega))) ⟨f, k, hf, hk', rfl, rfl⟩ (by rw [u2 201 (by decide)]; exact h15) (by simp only [aPa, Int.toNat_natCast])⟩
  · exact ⟨fun _ => RO.nay h hk hn h15, fun c => absurd rfl c⟩
theorem r_361 (hS : St F) (h : KR F X S N L d e) : C_361 x1 x2 F (RO F (isLn x1 x2) (aFo X x1 x2) X S N L d e) m_no := by
  refine c_361 hS ⟨fun hp => ?_, fun hp => RO.nay h KQ.rf.u15 (fun c => hp (p_ln.mpr c)) u_eq⟩
  obtain ⟨f, m, hf, hm, rfl, rfl⟩ := p_ln.mp hp
  have lk := toks_len h.hX hf
  refine CaV.on (s_262 (hS.fld kd_201 rk_12_15) h.u15) ?_
  rintro F1 hS1 ⟨r1, nn, d1⟩
  refine CaV.on (s_305 hS1 h.hX (d1.1.2.1 f hf) hf) ?_
  rintro F2 hS2 ⟨u1, u2⟩
  have hM : LexM F1 f X := d1.1.2.1 f hf
  have hq : KQ F F2 := (KQ.rf.u15.tr r1.kq).tr (u2.kq (fun c hc => by omega))
  have e15 : F2 201 15 = 0 := by rw [u2 201 (by decide), r1.1 15 (by omega) (by omega) (by omega), u_eq]
  have fin : ∀ r : Int, r = aFo X (f : Int) (m : Int) → RO F (isLn (f : Int) (m : Int)) (aFo X (f : Int) (m : Int)) X S N L d e r F2 := fun r hr => RO.yea h hq ⟨f, m, hf, hm, rfl, rfl⟩ e15 hr
  have hfd : fld X f m (toks X f).length 0 = aFo X (f : Int) (m : Int) := by simp only [aFo, Int.toNat_natCast]
  have key : ∀ (d' k : Nat), k + d' = (toks X f).length → fld X f m d' k = aFo X (f : Int) (m : Int) → L_361_37 (f : Int) (m : Int) (k : Int) F2 (RO F (isLn (f : Int) (m : Int)) (aFo X (f : Int) (m : Int)) X S N L d e) m_no := by
    intro d'
    induction d' with
    | zero =>
      intro k hk he
      have ec : F2 217 f = ((toks X f).length : Int) := by rw [u2 217 (by decide)]; exact hM.1.1
      refine b_361_37 hS2 ?_
      rw [Int.toNat_natCast, ec]
      exact ⟨by omega, fun h => by omega, fun _ => fin (-1) he⟩
    | succ d' ih =>
      intro k hk he
      have hk2 : k < (toks X f).length := by omega
      have ec : F2 217 f = ((toks X f).length : Int) := by rw [u2 217 (by decide)]; exact hM.1.1
      have t := lexm_tok hM hk2
      have e13 : F2 213 (200 * f + k) = kn (ks X f) k := by rw [u2 213 (by decide)]; exact t.1
      have e14 : ∀ j, j < (toks X f).length → F2 214 (200 * f + j) = (tl X f j : Int) := fun j hj => by rw [u2 214 (by decide)]; exact (lexm_tok hM hj).2.1
      have nx : ¬ (tl X f k = m ∧ kn (ks X f) k = 12 ∧ parts (toks X f) k ≠ -1 ∧ m < tl X f (parts (toks X f) k).toNat) → L_361_37 (f : Int) (m : Int) ((k : Int) + 1) F2 (RO F (isLn (f : Int) (m : Int)) (aFo X (f : Int) (m : Int)) X S N L d e) m_no := fun hno => by
        have he2 : fld X f m (d' + 1) k = fld X f m d' (k + 1) := if_neg hno
        have := ih (k + 1) (by omega) (by rw [← he2]; exact he)
        rw [show ((k + 1 : Nat) : Int) = (k : Int) + 1 by omega] at this
        exact this
      refine b_361_37 hS2 ?_
      rw [Int.toNat_natCast, ec, show (200 * (f : Int) + (k : Int)).toNat = 200 * f + k by omega, e14 k hk2, e13, Int.toNat_natCast, u1 k hk2]
      refine ⟨by omega, fun _ => ⟨by omega, by omega, by omega, fun e1 => ⟨by omega, fun e2 => ⟨by omega, fun hp0 => ⟨by omega, nx (fun h => h.2.2.1 hp0)⟩, fun hp0 => ?_⟩, fun e2 => ⟨by omega, nx (fun h => e2 h.2.1)⟩⟩, fun e1 => ⟨by omega, nx (fun h => e1 (by omega))⟩⟩, fun h => by omega⟩
      obtain ⟨p, p1, p2⟩ := ((parts_rng (toks X f) (toks X f).length).2 k).resolve_left hp0
      have hp' : parts (toks X f) k = (p : Int) := p1
      rw [hp', show (200 * (f : Int) + (p : Int)).toNat = 200 * f + p by omega, e14 p p2]
      refine ⟨by omega, by omega, by omega, by omega, fun hlt => ⟨by omega, by omega, by omega, by omega, fin _ ?_⟩, fun hlt => ⟨by omega, nx (fun h2 => ?_)⟩⟩
      · have e : fld X f m (d' + 1) k = (tl X f (parts (toks X f) k).toNat : Int) := if_pos ⟨by omega, e2, by rw [hp']; omega, by rw [hp', Int.toNat_natCast]; omega⟩
        rw [← he, e, hp', Int.toNat_natCast]
      · have := h2.2.2.2
        rw [hp', Int.toNat_natCast] at this
        omega
  exact key (toks X f).length 0 (by omega) hfd
/-- colours -/
theorem s_192 (hS : St F) (hX : ∀ r, r < 24 → Rok (X r)) (hD : DB F 1 X) (hf : f < 3) (hk : k < (toks X f).length) : C_192 1 (f : Int) (k : Int) F (fun r F' => r = clr X f k ∧ F' = F) m_no := by
  have lk := toks_len hX hf
  have q := q_104t hf hX (hD.1.2 f hf).1 k
  have eb : F (1 + 7) (200 * f + k) = bnd X (200 * f + k) := hD.2 _ (by omega)
  refine c_192 (n0 := 1) (by decide) hS ?_
  rw [Int.toNat_natCast, q.1, show ((f : Int) * 200 + (k : Int)).toNat = 200 * f + k by omega, eb]
  unfold clr
  refine ⟨by omega, q.2, fun h0 => ⟨by omega, by omega, by omega, fun hb => ⟨by rw [if_pos h0, if_pos hb], rfl⟩, fun hb => ?_⟩, fun h0 => ⟨fun h1 => ⟨by rw [if_neg h0, if_pos h1], rfl⟩, fun h1 => ⟨fun h2 => ⟨by rw [if_neg h0, if_neg h1, if_pos h2], rfl⟩, fun h2 => ⟨fun h3 => ⟨by rw [if_neg h0, if_neg h1, if_neg h2, if_pos h3], rfl⟩, fun h3 => ⟨by rw [if_neg h0, if_neg h1, if_neg h2, if_neg h3], rfl⟩⟩⟩⟩⟩
  obtain ⟨v, v1, v2⟩ := (bnd_rg4 hX (show 200 * f + k < 600 by omega)).resolve_left hb
  rw [if_pos h0, v1, if_neg (show ¬ (v : Int) = -1 by omega), Int.toNat_natCast]
  refine CaI.on (s_18 (n := 1) (by decide) hS hX hD.1 v2) ?_
  rintro r F1 hS1 ⟨rfl, rfl⟩
  by_cases c : fix' (Fw X (v / 200)) ((v % 200 : Nat) : Int) 0 = -1
  · have e : isF X v = false := decide_eq_false (fun h => h c)
    rw [if_pos c, e]
    exact ⟨fun _ => ⟨rfl, rfl⟩, fun h => absurd rfl h⟩
  · have e : isF X v = true := decide_eq_true c
    rw [if_neg c, e]
    exact ⟨fun h => absurd h (by decide), fun _ => ⟨rfl, rfl⟩⟩
theorem s_307 (hS : St F) (hD : LKd F X nn) (hf : f < 3) (hk : k < (toks X f).length) : C_307 ((200 * f + k : Nat) : Int) F (fun r F' => r = clr X f k ∧ F' = F) m_no := by
  have hX := hD.1.hX
  have lk := toks_len hX hf
  refine c_307 hS ?_
  rw [Int.toNat_natCast, (lexm_tok (hD.1.2.1 f hf) hk).1, hD.2.1 _ (show 200 * f + k < 600 by omega)]
  unfold clr
  refine ⟨by omega, fun h0 => ⟨by omega, fun hb => ⟨by rw [if_pos h0, if_pos hb], rfl⟩, fun hb => ⟨by omega, ?_⟩⟩, fun h0 => ⟨fun h1 => ⟨by rw [if_neg h0, if_pos h1], rfl⟩, fun h1 => ⟨fun h2 => ⟨by rw [if_neg h0, if_neg h1, if_pos h2], rfl⟩, fun h2 => ⟨fun h3 => ⟨by rw [if_neg h0, if_neg h1, if_neg h2, if_pos h3], rfl⟩, fun h3 => ⟨by rw [if_neg h0, if_neg h1, if_neg h2, if_neg h3], rfl⟩⟩⟩⟩⟩
  obtain ⟨v, v1, v2⟩ := (bnd_rg4 hX (show 200 * f + k < 600 by omega)).resolve_left hb
  rw [if_pos h0, v1, if_neg (show ¬ (v : Int) = -1 by omega), Int.toNat_natCast]
  refine CaI.on (s_306 hS hD.1 v2) ?_
  rintro r F1 hS1 ⟨rfl, rfl⟩
  cases e : isF X v with
  | false => exact ⟨fun _ => ⟨rfl, rfl⟩, fun h => absurd rfl h⟩
  | true => exact ⟨fun h => absurd h (by decide), fun _ => ⟨rfl, rfl⟩⟩
theorem q_107 (hf : f < 3) (hm : m < 8) (hG : GaC F n f X) (hq : q < (X (8 * f + m)).length) (hX : ∀ r, r < 24 → Rok (X r)) : g_107 F n (m : Int) (q : Int) = gx (owns X f m) q ∧ o_107 F n (m : Int) (q : Int) := by
  have hl := (hX (8 * f + m) (by omega)).1
  refine ⟨?_, by omega, by omega, fun _ => trivial, fun _ => ⟨fun _ => ⟨by omega, trivial⟩, fun _ => trivial⟩⟩
  unfold g_107
  rw [if_neg (by omega), if_pos (by omega), show ((m : Int) * 24 + (q : Int)).toNat = 24 * m + q by omega]
  exact hG.2.2.2 m q hm hq
theorem f_153 (hS : St F) (h : KC F X S N L d e) : C_153 x1 x2 x3 F (CO F (isCh X x1 x2 x3) (aCl X x1 x2 x3) X S N L d e) (CT F (isCh X x1 x2 x3) X S N L d e) := by
  refine c_153 hS (s_181 hS h.1 (fun f m q hf hm hq e1 e2 e3 => ?_) (fun hn => CT.of h Cn.rf hn))
  subst e1
  subst e2
  subst e3
  refine CaR.on (s_188 hS h) ?_
  rintro r F1 hS1 ⟨rfl, k1, k2, k3⟩
  have q7 := q_107 (n := 1 + (11 + 19 * f)) hf hm (k2.1.2 f hf).1 hq h.hX
  have fin : ∀ r : Int, r = aCl X (f : Int) (m : Int) (q : Int) → CO F (isCh X (f : Int) (m : Int) (q : Int)) (aCl X (f : Int) (m : Int) (q : Int)) X S N L d e r F1 := fun r hr => ⟨⟨f, m, q, hf, hm, hq, rfl, rfl, rfl⟩, hr, k1, k3⟩
  rw [Int.toNat_natCast, q7.1]
  refine ⟨rfl, by omega, q7.2, fun h0 => ⟨fun h2 => fin 1 ?_, fun h2 => fin 0 ?_⟩, fun h0 => ?_⟩
  · simp only [aCl, Int.toNat_natCast]
    rw [if_pos h2]
  · simp only [aCl, Int.toNat_natCast]
    rw [if_neg h2, if_pos h0]
  · obtain ⟨k, hk, ek⟩ := (owns_rng h.hX hf hm hq).resolve_left h0
    rw [ek]
    refine CaI.on (s_192 hS1 h.hX k2 hf hk) ?_
    rintro r F2 hS2 ⟨rfl, rfl⟩
    refine fin _ ?_
    simp only [aCl, Int.toNat_natCast]
    rw [ek, if_neg (by omega), if_neg (by omega), Int.toNat_natCast]
theorem r_359 (hS : St F) (h : KR F X S N L d e) : C_359 x1 x2 x3 F (RO F (isCh X x1 x2 x3) (aCl X x1 x2 x3) X S N L d e) m_no := by
  refine c_359 hS (CaI.on (s_350 hS h) ?_)
  rintro r F1 hS1 ⟨⟨rfl, ⟨f, m, q, hf, hm, hq, rfl, rfl, rfl⟩, h15⟩ | ⟨rfl, hn, h15⟩, hk⟩
  · have hl := (h.hX (8 * f + m) (by omega)).1
    refine ⟨fun c => absurd c (by decide), fun _ => CaV.on (s_262 hS1 (h.kq hk).1) ?_⟩
    rintro F2 hS2 ⟨r1, nn, d1⟩
    have hM := d1.1.2.1 f hf
    have e15 : F2 201 15 = 0 := by rw [r1.1 15 (by omega) (by omega) (by omega)]; exact h15
    have fin : ∀ r : Int, r = aCl X (f : Int) (m : Int) (q : Int) → RO F (isCh X (f : Int) (m : Int) (q : Int)) (aCl X (f : Int) (m : Int) (q : Int)) X S N L d e r F2 := fun r hr => RO.yea h (hk.tr r1.kq) ⟨f, m, q, hf, hm, hq, rfl, rfl, rfl⟩ e15 hr
    refine CaI.on (s_308 hS2 h.hX hf hM hm hq) ?_
    rintro x F3 hS3 ⟨rfl, hx⟩
    have e19 := hM.2.2.2 m q hm hq
    rw [show (24 * (8 * (f : Int) + (m : Int)) + (q : Int)).toNat = 24 * (8 * f + m) + q by omega, e19]
    refine ⟨by omega, by omega, by omega, by omega, by omega, fun hc => ?_, fun hc => fin 1 ?_⟩
    · have n2 : ¬ gx (owns X f m) q = -2 := fun c => by rw [if_pos c] at hc; exact absurd hc (by decide)
      rcases hx with ⟨rfl, hx⟩ | ⟨k, hk', rfl, ek, -⟩
      · refine ⟨fun _ => fin 0 ?_, fun c => absurd rfl c⟩
        simp only [aCl, Int.toNat_natCast]
        rw [if_neg n2, if_pos hx]
      · refine ⟨fun c => by omega, fun _ => CaI.on (s_307 hS3 d1 hf hk') ?_⟩
        rintro r F4 hS4 ⟨rfl, rfl⟩
        refine fin _ ?_
        simp only [aCl, Int.toNat_natCast]
        rw [if_neg n2, ek, if_neg (by omega), Int.toNat_natCast]
    · have y2 : gx (owns X f m) q = -2 := Classical.byContradiction (fun c => hc (by rw [if_neg c]))
      simp only [aCl, Int.toNat_natCast]
      rw [if_pos y2]
  · exact ⟨fun _ => RO.nay h hk hn h15, fun c => absurd rfl c⟩
/-- the least repair of an error, as the class's table has it -/
def reC (X : Nat → List Int) (x y r : Int) : Prop := ∃ f k : Nat, f < 3 ∧ k < (Ew X f).length ∧ x = (f : Int) ∧ y = (k : Int) ∧ (((ge (Ew X f) k).2.1 = -1 ∧ r = -1) ∨ ∃ a b : Nat, (ge (Ew X f) k).2.1 = (a : Int) ∧ (ge (Ew X f) k).2.2 = (b : Int) ∧ a ≤ b ∧ b < (toks X f).length ∧ ((a + 10 ≤ b ∧ r = -1) ∨ (b < a + 10 ∧
  ∃ Tc : Nat → Nat → Nat → Int, ClT Tc (fun A => tcs (fun q => kn (ks X f) (a + q)) (sgm A)) UgC BgC 99 (b + 1 - a) ∧ (Tc 31 0 (b + 1 - a) ≤ 1000 ∧ (Tc 31 0 (b + 1 - a) = 1000 ∨ Lg (fun A => tcs (fun q => kn (ks X f) (a + q)) (sgm A)) UgC BgC 99 31 0 (b + 1 - a) (Tc 31 0 (b + 1 - a)))) ∧ r = Tc 31 0 (b + 1 - a))))
theorem f_158 (hS : St F) (h : KC F X S N L d e) : C_158 x1 x2 F (fun r F' => reC X x1 x2 r ∧ KC F' X S N L d e ∧ Cn F F') (CT F (isEr X x1 x2) X S N L d e) := by
  refine c_158 hS (s_184 hS h (fun F1 f k hS1 hK hD hC hf hk e1 e2 => ?_) (fun F1 _ hK hC hn => CT.of hK hC hn))
  subst e1
  subst e2
  have le := Ew_len h.hX hf
  have lk := toks_len h.hX hf
  have t := (db_tree hD hf).2.1.2.2
  have t1 := t.1 k (by rw [List.length_map]; exact hk)
  have t2 := t.2 k (by rw [List.length_map]; exact hk)
  have g := ge_at hk
  rw [Int.toNat_natCast, Int.toNat_natCast, t1, t2, g.2.1, g.2.2]
  refine ⟨by omega, by omega, by omega, by omega, ?_⟩
  have i8 := i8_of mi_1 hf
  rcases Ew_run h.hX hf hk with ⟨hm, hm2⟩ | ⟨a, b, ea, eb, hab, hb⟩
  · rw [hm, hm2]
    refine c_75 i8 hS1 ⟨by omega, by omega, fun _ => ⟨⟨f, k, hf, hk, rfl, rfl, Or.inl ⟨hm, rfl⟩⟩, hK, hC⟩, fun c => absurd (by decide) c⟩
  · rw [ea, eb]
    by_cases c : b < a + 10
    · refine CaI.on (s_75 (a := a) (n := b + 1 - a) i8 hS1 h.hX hf (hD.1.2 f hf).1.1 (by omega) (by omega) (by omega)) ?_
      rintro r F2 hS2 ⟨u1, u2⟩
      have kp : KP F1 F2 := ⟨fun c hc => u1 c (by omega), fun j _ => by rw [u1 0 (by decide)], by rw [u1 109 (by decide)], by rw [u1 109 (by decide)]⟩
      exact ⟨⟨f, k, hf, hk, rfl, rfl, Or.inr ⟨a, b, ea, eb, hab, hb, Or.inr ⟨c, u2⟩⟩⟩, hK.kp kp, hC.tr kp.cn⟩
    · refine c_75 i8 hS1 ⟨by omega, by omega, fun c2 => absurd c2 (by omega), fun _ => ⟨fun c2 => absurd c2 (by omega), fun _ => ⟨fun _ => ⟨⟨f, k, hf, hk, rfl, rfl, Or.inr ⟨a, b, ea, eb, hab, hb, Or.inl ⟨by omega, rfl⟩⟩⟩, hK, hC⟩, fun c2 => absurd (by omega) c2⟩⟩⟩
theorem r_365 {v : Int} (hS : St F) (h : KR F X S N L d e) (hv : isEr X x1 x2 → reC X x1 x2 v) : C_365 x1 x2 F (RO F (isEr X x1 x2) v X S N L d e) m_no := by
  refine c_365 hS (CaI.on (s_363 hS h) ?_)
  rintro r F1 hS1 ⟨⟨rfl, ⟨f, k, hf, hk', rfl, rfl⟩, h15, nn, d1⟩ | ⟨rfl, hn, h15⟩, hk⟩
  · have le := Ew_len h.hX hf
    have lk := toks_len h.hX hf
    have t := (d1.1.2.2.2.2.1 f hf).2.2.2 k hk'
    have hE : isEr X (f : Int) (k : Int) := ⟨f, k, hf, hk', rfl, rfl⟩
    obtain ⟨f', k', hf', hk2, e1, e2, hr⟩ := hv hE
    have e1' : f' = f := by omega
    have e2' : k' = k := by omega
    subst e1'
    subst e2'
    have fin : ∀ (r : Int) (G : MF), KQ F1 G → G 201 15 = 0 → r = v → RO F (isEr X (f' : Int) (k' : Int)) v X S N L d e r G := fun r G hG h0 hr => RO.yea h (hk.tr hG) hE h0 hr
    rw [show (200 * (f' : Int) + (k' : Int)).toNat = 200 * f' + k' by omega, t.2.1, t.2.2]
    refine ⟨fun c => absurd c (by decide), fun _ => ⟨by omega, by omega, by omega, by omega, by omega, by omega, ?_⟩⟩
    rcases hr with ⟨hm, rfl⟩ | ⟨a, b, ea, eb, hab, hb, hr⟩
    · exact ⟨fun _ => fin (-1) F1 KQ.rf h15 rfl, fun c => absurd hm c⟩
    · rw [ea, eb]
      refine ⟨fun c => absurd c (by omega), fun _ => ⟨by omega, fun c => ⟨by omega, by omega, ?_⟩, fun c => ?_⟩⟩
      · obtain ⟨c2, Tc, hT1, hT2, rfl⟩ := hr.resolve_left (fun h => by omega)
        obtain ⟨n, en⟩ : ∃ n, n = b + 1 - a := ⟨_, rfl⟩
        rw [← en] at hT1 hT2 fin ⊢
        obtain ⟨K, eK⟩ : ∃ K : Nat → Int, K = fun q => kn (ks X f') (a + q) := ⟨_, rfl⟩
        rw [← eK] at hT1 hT2
        have hM := d1.1.2.1 f' hf'
        have key : ∀ (d' i : Nat) (G : MF), i + d' = n → St G → KQ F1 G → G 201 15 = 0 → G 201 91 = (n : Int) → G 213 = F1 213 → (∀ q, q < i → G 263 q = K q) → L_365_67 (f' : Int) (a : Int) (i : Int) G (RO F (isEr X (f' : Int) (k' : Int)) (Tc 31 0 n) X S N L d e) m_no := by
          intro d'
          induction d' with
          | zero =>
            intro i G hi hSG hG h0 h91 h213 hA
            obtain rfl : i = n := by omega
            refine b_365_67 hSG ?_
            rw [h91]
            refine ⟨fun h => by omega, fun _ => CaI.on (s_298 (K := K) hSG (by omega) h91 hA) ?_⟩
            rintro r G2 hS2 ⟨⟨u1, u2⟩, Tr, hR1, hR2, rfl⟩
            refine fin _ G2 (hG.tr ⟨fun c hc => u1 c (by omega) (by omega), fun j hj => u2 j (by omega)⟩) (by rw [u2 15 (by decide)]; exact h0) ?_
            exact (rep_eq hT1 hR1 (tcs_ep 2) hT2 hR2).symm
          | succ d' ih =>
            intro i G hi hSG hG h0 h91 h213 hA
            have e13 : G 213 (200 * (f' : Int) + (a : Int) + (i : Int)).toNat = K i := by
              rw [show (200 * (f' : Int) + (a : Int) + (i : Int)).toNat = 200 * f' + (a + i) by omega, h213, eK]
              exact (lexm_tok hM (show a + i < (toks X f').length by omega)).1
            refine b_365_67 hSG ?_
            rw [h91, e13, Int.toNat_natCast]
            refine ⟨fun _ => ⟨by omega, by omega, by omega, by omega, by omega, by omega, ?_⟩, fun h => by omega⟩
            have := ih (i + 1) (m_up G 263 i (K i)) (by omega) (hSG.arr kd_263 (by decide)) ⟨fun c hc => by rw [up_row (by omega)]; exact hG.1 c hc, fun j hj => by rw [up_row (by decide)]; exact hG.2 j hj⟩ (by rw [up_row (by decide)]; exact h0) (by rw [up_row (by decide)]; exact h91) (by rw [up_row (by decide)]; exact h213) (fun q hq => by
              by_cases c : q = i
              · rw [c, u_eq]
              · rw [u_ne (Or.inr c)]; exact hA q (by omega))
            rw [show ((i + 1 : Nat) : Int) = (i : Int) + 1 by omega] at this
            exact this
        rw [show (b : Int) - (a : Int) + 1 = (n : Int) by omega]
        refine key n 0 _ (by omega) (hS1.fld kd_201 rk_12_91) ⟨fun c hc => up_row (by omega), fun j hj => u_ne (Or.inr (by omega))⟩ (by rw [u_ne (Or.inr (by decide))]; exact h15) u_eq (up_row (by decide)) (fun q hq => absurd hq (Nat.not_lt_zero q))
      · obtain ⟨-, rfl⟩ := hr.resolve_right (fun h => by have := h.1; omega)
        exact fin (-1) F1 KQ.rf h15 rfl
  · exact ⟨fun _ => RO.nay h hk hn h15, fun c => absurd rfl c⟩
end Mn6
