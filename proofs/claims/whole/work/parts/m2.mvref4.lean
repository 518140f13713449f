/-! A MOVE, OF THE REFERENCE: all -/
/-- what comes of the pairs that are left -/
noncomputable def mvR (X : Nat → List Int) (d : Nat) (Y : Nat → List Int) (og : Nat → Int) : Int := if (mvP X d Y og).2.2 = 3 then 3 else pif (bnO X (mvP X d Y og).1 (mvP X d Y og).2.1) 4 0
section Mm2
variable {F F0 G : MF} {X Y : Nat → List Int} {og : Nat → Int} {f t o l n top : Nat} {nn : Nat → Nat}
theorem q_324 (hX : ∀ r, r < 24 → Rok (X r)) (hT : TL F X) (ho : o < 3) : g_324 F (o : Int) = (atX X o : Int) - 1 ∧ o_324 F (o : Int) := by
  have lo := toks_len hX ho
  have hco : F 217 o = ((toks X o).length : Int) := (hT.2 o ho).1.1
  unfold g_324 o_324 atX
  rw [Int.toNat_natCast, hco]
  by_cases c : (toks X o).length = 0
  · rw [if_pos (by omega), if_pos c]
    exact ⟨by omega, by omega, fun _ => trivial, fun h => by omega⟩
  · have t3 := lexm_tok (hT.2 o ho) (show (toks X o).length - 1 < (toks X o).length by omega)
    rw [if_neg (by omega), if_neg c, show (200 * (o : Int) + ((toks X o).length : Int) - 1).toNat = 200 * o + ((toks X o).length - 1) by omega, t3.2.1]
    exact ⟨by omega, by omega, fun h => by omega, fun _ => ⟨by omega, by omega, by omega, by omega, by omega, trivial⟩⟩
/-- tokens are compared -/
theorem l_331t {Q : Int → MF → Prop} (hS : St F) (hX : ∀ r, r < 24 → Rok (X r)) {P : Nat → Prop} (hI : OgI P X Y og) (hM : MvR F X Y og) (hB : ∀ i, i < 600 → F 253 i = bnd Y i) (h272 : ∀ i, i < 600 → F 272 i = bnd X i)
    (h4 : bnO X Y og → Q 4 F) (h0 : ¬ bnO X Y og → Q 0 F) : L_331_247 1 0 F Q m_no := by
  have key : ∀ (d j : Nat) (x : Int), j + d = 600 → (x = 1 ∧ ∀ old new, new < j → MvT X Y og old new → bnd Y new = if bnd X old = -1 then -1 else bcm X Y og (bnd X old).toNat) ∨ (x = 0 ∧ bnO X Y og) → L_331_247 x (j : Int) F Q m_no := by
    intro d
    induction d with
    | zero =>
      intro j x hj hx
      refine b_331_247 hS ⟨fun h => by omega, fun _ => ⟨fun e => ?_, fun e => ?_⟩⟩
      · rcases hx with ⟨h, -⟩ | ⟨-, h⟩
        · omega
        · exact h4 h
      · rcases hx with ⟨-, h⟩ | ⟨h, -⟩
        · refine h0 (fun ⟨old, o1, o2, o3⟩ => ?_)
          obtain ⟨new, n1, n2⟩ := (bcm_cs hX hI).resolve_left (fun h => o2 h.1)
          rw [n1, Int.toNat_natCast] at o3
          exact o3 (h old new (by have := (mv_tok hX hI n2).2.2.1; omega) n2)
        · exact absurd h e
    | succ d ih =>
      intro j x hj hx
      have hj6 : j < 600 := by omega
      have nx : ∀ y : Int, (y = 1 ∧ ∀ old new, new < j + 1 → MvT X Y og old new → bnd Y new = if bnd X old = -1 then -1 else bcm X Y og (bnd X old).toNat) ∨ (y = 0 ∧ bnO X Y og) → L_331_247 y ((j : Int) + 1) F Q m_no := fun y hy => by
        have := ih (j + 1) y (by omega) hy
        rw [show ((j + 1 : Nat) : Int) = (j : Int) + 1 by omega] at this
        exact this
      have up : (∀ old, MvT X Y og old j → bnd Y j = if bnd X old = -1 then -1 else bcm X Y og (bnd X old).toNat) → L_331_247 x ((j : Int) + 1) F Q m_no := fun h => by
        rcases hx with ⟨h1, h2⟩ | h1
        · refine nx x (Or.inl ⟨h1, fun old new hn hm => ?_⟩)
          by_cases c : new = j
          · subst c; exact h old hm
          · exact h2 old new (by omega) hm
        · exact nx x (Or.inr h1)
      refine b_331_247 hS ?_
      rw [Int.toNat_natCast, hB j hj6]
      refine ⟨fun _ => ⟨by omega, fun e => ⟨by omega, ?_⟩, fun e => ⟨fun ex => ⟨by omega, ?_⟩, fun ex => ?_⟩⟩, fun h => by omega⟩
      · refine up (fun old hm => ?_)
        rcases hM.2 j hj6 with ⟨-, h⟩ | ⟨old', h, -⟩
        · exact absurd hm (h old)
        · omega
      · rcases hx with ⟨h, -⟩ | ⟨-, h⟩
        · omega
        · exact nx 0 (Or.inr ⟨rfl, h⟩)
      · obtain ⟨old, q1, q2⟩ := (hM.2 j hj6).resolve_left (fun h => e h.1)
        have t1 := mv_tok hX hI q2
        have hx1 : x = 1 := by
          rcases hx with ⟨h, -⟩ | ⟨h, -⟩
          · exact h
          · exact absurd h ex
        subst hx1
        rw [q1, Int.toNat_natCast, h272 old t1.1]
        have good : bnd Y j = (if bnd X old = -1 then -1 else bcm X Y og (bnd X old).toNat) → L_331_247 1 ((j : Int) + 1) F Q m_no := fun h => up (fun old' hm => by rw [mv_inj hX hI hm q2]; exact h)
        have badn : ¬ bnd Y j = (if bnd X old = -1 then -1 else bcm X Y og (bnd X old).toNat) → L_331_247 0 ((j : Int) + 1) F Q m_no := fun h => nx 0 (Or.inr ⟨rfl, old, t1.1, by rw [bcm_at hX hI q2]; omega, by rw [bcm_at hX hI q2, Int.toNat_natCast]; exact h⟩)
        refine ⟨by omega, by omega, fun e1 => ?_, fun e1 => ⟨by omega, ?_⟩⟩
        · rw [if_pos e1] at good badn
          exact ⟨fun e2 => ⟨by omega, good e2⟩, fun e2 => ⟨by omega, badn e2⟩⟩
        · rw [if_neg e1] at good badn
          obtain ⟨v, v1, v2⟩ := (bnd_rg4 hX t1.1).resolve_left e1
          rw [v1, Int.toNat_natCast] at good badn ⊢
          rw [hM.1 v v2]
          exact ⟨by omega, fun e2 => ⟨by omega, good e2⟩, fun e2 => ⟨by omega, badn e2⟩⟩
  exact key 600 0 1 (by decide) (Or.inl ⟨rfl, fun old new h => absurd h (Nat.not_lt_zero new)⟩)
/-- what stands while the pairs are gone through -/
def HrT (P : Nat → Prop) (F0 F : MF) (X Y : Nat → List Int) (og : Nat → Int) : Prop := TxM F Y ∧ (∀ r, r < 24 → F 275 r = og r) ∧ (∀ i, i < 600 → F 272 i = bnd X i ∧ F 273 i = keyX X i ∧ F 274 i = wasF X i) ∧ OgI P X Y og ∧ PF F0 F
theorem look_mv {R : MF → Prop} {P : Nat → Prop} (hS : St F) (hX : ∀ r, r < 24 → Rok (X r)) (h : HrT P F0 F X Y og) (hR : ∀ F' nn, St F' → HrT P F0 F' X Y og → LKd F' Y nn → MvR F' X Y og → R F') : C_262 F (fun F11 => C_327 F11 R m_no) m_no := by
  obtain ⟨h1, h2, h3, h4, h5⟩ := h
  refine CaV.on (s_262 hS h1) ?_
  rintro F1 hS1 ⟨r1, nn, d1⟩
  have a275 : ∀ r, r < 24 → F1 275 r = og r := fun r hr => by rw [r1.2 275 (by decide)]; exact h2 r hr
  have a27 : ∀ i, i < 600 → F1 272 i = bnd X i ∧ F1 273 i = keyX X i ∧ F1 274 i = wasF X i := fun i hi => by rw [r1.2 272 (by decide), r1.2 273 (by decide), r1.2 274 (by decide)]; exact h3 i hi
  refine CaV.on (s_327 hS1 hX h4 ⟨d1.1.1, d1.1.2.1⟩ a275 (fun i hi => (a27 i hi).2.1)) ?_
  rintro F2 hS2 ⟨m1, m2⟩
  have hk : ∀ c, c ≠ 277 → c ≠ 278 → F2 c = F1 c := fun c a b => m2 c (by omega)
  refine hR F2 nn hS2 ⟨d1.1.1.fr m2 (by omega) (by omega), fun r hr => by rw [hk 275 (by decide) (by decide)]; exact a275 r hr, fun i hi => by rw [hk 272 (by decide) (by decide), hk 273 (by decide) (by decide), hk 274 (by decide) (by decide)]; exact a27 i hi, h4, (h5.tr r1.pf).tr ⟨fun c hc => hk c (by omega) (by omega), fun j hj => by rw [hk 201 (by decide) (by decide)]⟩⟩ ?_ m1
  exact d1.cg (fun c a b => hk c (by omega) (by omega)) (by rw [hk 201 (by decide) (by decide)])
/-- the pairs of files, one by one -/
theorem l_142 (hX : ∀ r, r < 24 → Rok (X r)) (hR : RgF X f t l top n) : ∀ (d : Nat) (Y : Nat → List Int) (og : Nat → Int) (F : MF), d ≤ 9 → St F → HrT (inR f top n) F0 F X Y og →
    L_331_142 ((9 - d : Nat) : Int) F (fun x F' => x = mvR X d Y og ∧ (x = 0 → TxM F' (mvP X d Y og).1) ∧ PF F0 F') m_no := by
  intro d
  induction d with
  | zero =>
    intro Y og F _ hS hH
    refine b_331_142 hS ⟨fun h => by omega, fun _ => ?_⟩
    refine look_mv hS hX hH (fun F' nn hS' hH' hD' hM' => ?_)
    have e : mvR X 0 Y og = pif (bnO X Y og) 4 0 := if_neg (show ¬ (0 : Int) = 3 by decide)
    obtain ⟨a1, a2, a3, a4, a5⟩ := hH'
    refine l_331t hS' hX a4 hM' hD'.2.1 (fun i hi => (a3 i hi).1) (fun h => ⟨by rw [e]; exact (pif_1 h).symm, fun h => absurd h (by decide), a5⟩) (fun h => ⟨by rw [e]; exact (pif_0 h).symm, fun _ => a1, a5⟩)
  | succ d ih =>
    intro Y og F hd hS hH
    have ha : (8 - d) / 3 < 3 := by omega
    have hb : (8 - d) % 3 < 3 := by omega
    have nx : ∀ (Y2 : Nat → List Int) (og2 : Nat → Int) (F2 : MF), St F2 → HrT (inR f top n) F0 F2 X Y2 og2 → mvP X (d + 1) Y og = mvP X d Y2 og2 → L_331_142 (((8 - d : Nat) : Int) + 1) F2 (fun x F' => x = mvR X (d + 1) Y og ∧ (x = 0 → TxM F' (mvP X (d + 1) Y og).1) ∧ PF F0 F') m_no := fun Y2 og2 F2 hS2 hH2 he => by
      have := ih Y2 og2 F2 (by omega) hS2 hH2
      unfold mvR
      unfold mvR at this
      rw [he]
      rw [show ((9 - d : Nat) : Int) = ((8 - d : Nat) : Int) + 1 by omega] at this
      exact this
    have nx2 : ∀ (Y2 : Nat → List Int) (og2 : Nat → Int) (F2 : MF), St F2 → HrT (inR f top n) F0 F2 X Y2 og2 → mvP X (d + 1) Y og = mvP X d Y2 og2 → L_331_202 ((8 - d : Nat) : Int) F2 (fun x F' => x = mvR X (d + 1) Y og ∧ (x = 0 → TxM F' (mvP X (d + 1) Y og).1) ∧ PF F0 F') m_no := fun Y2 og2 F2 hS2 hH2 he => b_331_202 hS2 ⟨by omega, nx Y2 og2 F2 hS2 hH2 he⟩
    rw [show 9 - (d + 1) = 8 - d by omega]
    refine b_331_142 hS ⟨fun _ => ?_, fun h => by omega⟩
    refine look_mv hS hX hH (fun F15 nn hS15 hH15 hD15 hM15 => ?_)
    have hHk := hH15
    obtain ⟨a1, a2, a3, a4, a5⟩ := hH15
    rw [show ((8 - d : Nat) : Int) / 3 = (((8 - d) / 3 : Nat) : Int) by omega, show ((8 - d : Nat) : Int) % 3 = (((8 - d) % 3 : Nat) : Int) by omega]
    refine ⟨by omega, by omega, fun e => nx2 Y og F15 hS15 hHk (mvP_no (fun h => h.1 (by omega))), fun e => ⟨by omega, by omega, ?_⟩⟩
    have hab : (8 - d) / 3 ≠ (8 - d) % 3 := fun h => e (by omega)
    refine CaI.on (s_329 hS15 hX hR a4 ⟨hD15.1.1, hD15.1.2.1⟩ hM15 (fun i hi => (a3 i hi).1) (fun i hi => (a3 i hi).2.2) ha hab) ?_
    rintro r F21 hS21 ⟨rfl, rfl⟩
    by_cases hn : ndR X Y og ((8 - d) / 3) ((8 - d) % 3)
    · rw [pif_1 hn]
      refine ⟨fun h => absurd h (by decide), fun _ => ⟨by omega, by omega, ?_⟩⟩
      refine CaI.on (s_328 hS21 hD15.1 ha) ?_
      rintro r F27 hS27 ⟨rfl, rfl⟩
      by_cases hu : usesX Y ((8 - d) / 3) ((8 - d) % 3)
      · rw [pif_1 hu]
        exact ⟨fun h => absurd h (by decide), fun _ => nx2 Y og F27 hS27 hHk (mvP_no (fun h => h.2.1 hu))⟩
      · rw [pif_0 hu]
        have hx : ndX X Y og ((8 - d) / 3) ((8 - d) % 3) := ⟨hab, hu, hn⟩
        refine ⟨fun _ => ⟨by omega, by omega, ?_⟩, fun h => absurd rfl h⟩
        refine CaI.on (s_326 hS27 a1 a2 ha hb) ?_
        rintro r F33 hS33 ⟨(⟨rfl, u1⟩ | ⟨rfl, u1, u2, u3⟩), u4⟩
        · have p33 : PF F0 F33 := a5.tr ⟨fun c hc => u4 c (by unfold LyF; omega), fun j hj => by rw [u4 201 (by unfold LyF; omega)]⟩
          refine ⟨fun _ => ⟨?_, fun h => absurd h (by decide), p33⟩, fun h => absurd rfl h⟩
          unfold mvR
          rw [mvP_3 hx u1]
          exact (if_pos rfl).symm
        · have p33 : PF F0 F33 := a5.tr ⟨fun c hc => u4 c (by unfold LyF; omega), fun j hj => by rw [u4 201 (by unfold LyF; omega)]⟩
          refine ⟨fun h => absurd h (by decide), fun _ => ⟨by omega, ?_⟩⟩
          exact nx _ _ F33 hS33 ⟨u2, u3, fun i hi => by rw [u4 272 (by unfold LyF; omega), u4 273 (by unfold LyF; omega), u4 274 (by unfold LyF; omega)]; exact a3 i hi, og_use ha hb a4 u1, p33⟩ (mvP_y hx u1)
    · rw [pif_0 hn]
      exact ⟨fun _ => nx2 Y og F21 hS21 hHk (mvP_no (fun h => hn h.2.2)), fun h => absurd rfl h⟩
/-- a move -/
theorem s_331 (hS : St F) (hD : LKd F X nn) (hf : f < 3) (ho : o < 3) (hfo : o ≠ f) (ht : t < 200) :
    C_331 ((200 * f + t : Nat) : Int) (o : Int) F (fun x F' => x = mvn X f t o ∧ (x = 0 → TxM F' (mvX X f t o)) ∧ PF F F') m_no := by
  have hX := hD.1.hX
  have lk := toks_len hX hf
  have hTL : TL F X := ⟨hD.1.1, hD.1.2.1⟩
  have two : mv2 X f t o → ((2 : Int) = mvn X f t o ∧ ((2 : Int) = 0 → TxM F (mvX X f t o)) ∧ PF F F) := fun h => ⟨(pif_1 h).symm, fun h => absurd h (by decide), PF.rf⟩
  have noF : fix' (Fw X f) (t : Int) 0 = -1 → mv2 X f t o := fun h ⟨l, l1, _⟩ => by
    unfold lastX at l1
    rw [if_pos h] at l1
    omega
  have eid : ((200 * f + t : Nat) : Int) / 200 = (f : Int) := by omega
  refine c_331 hS ?_
  rw [eid, Int.toNat_natCast, hD.2.1 _ (by omega)]
  refine ⟨by omega, by omega, fun hb => ?_, fun hb => b_331_42 hS (two (noF ?_))⟩
  · refine CaI.on (s_306 hS hD.1 (by omega)) ?_
    rintro r F3 hS3 ⟨rfl, rfl⟩
    have eF : isF X (200 * f + t) = decide (fix' (Fw X f) (t : Int) 0 ≠ -1) := by
      unfold isF
      rw [show (200 * f + t) / 200 = f by omega, show (200 * f + t) % 200 = t by omega]
    refine ⟨fun h0 => b_331_42 hS3 (two (noF ?_)), fun h0 => ?_⟩
    · have := bi0.mp h0
      rw [eF] at this
      by_cases c : fix' (Fw X f) (t : Int) 0 = -1
      · exact c
      · exact absurd c (of_decide_eq_false this)
    have hx : fix' (Fw X f) (t : Int) 0 ≠ -1 := fun c => h0 (by rw [eF, decide_eq_false (fun h => h c)]; rfl)
    obtain ⟨I, hI, hH⟩ := hD.2.2 f hf
    refine CaI.on (s_270l hS3 hf ht hI hx) ?_
    rintro r F9 hS9 ⟨it, i1, i2, rfl, rfl, i3⟩
    obtain ⟨b1, b2, b3⟩ := hit_fo I _ hH it i1 i2
    rw [Int.toNat_natCast, b1, Int.toNat_natCast, ← i3]
    refine ⟨by omega, by omega, fun h => two (fun ⟨l, l1, _⟩ => by omega), fun h => ?_⟩
    obtain ⟨l, l1, l2, l3, l4, l5, l6, l7⟩ := last_sp hX hf h
    rw [l1, show ((200 * f + t : Nat) : Int) - 1 = ((200 * f + (t - 1) : Nat) : Int) by omega, show 200 * (f : Int) + (l : Int) = ((200 * f + l : Nat) : Int) by omega]
    refine ⟨by omega, by omega, by omega, ?_⟩
    refine CaI.on (s_330 hS9 hX hTL hf ho l2 l3 l4) ?_
    rintro r F15 hS15 ⟨rfl, rfl⟩
    by_cases hm : mvk X f t o l
    · rw [pif_1 hm]
      refine ⟨fun h => absurd h (by decide), fun _ => ?_⟩
      have n2 : ¬ mv2 X f t o := fun h => h ⟨l, l1, hm⟩
      obtain ⟨r1, r2, r3, r4⟩ := mv_rg hX hf n2
      have eN : mvN X f t = tl X f l + 1 - tl X f (t - 1) := by unfold mvN; rw [l1, Int.toNat_natCast]
      have o1 := toks_ok (show t - 1 < (toks X f).length by omega)
      have o2 := toks_ok l4
      have hle := (tok_srt hX hf (show t - 1 < l by omega) l4).1
      have a8 := at_nt hX ho
      refine CaV.on (s_315 hS15 hD.1 hD.2.1) ?_
      rintro F21 hS21 ⟨k1, k2⟩
      -- rows are numbered
      have lp : ∀ (d i : Nat) (G : MF), i + d = 24 → St G → fr (fun c => c = 275) F21 G → (∀ r : Nat, r < i → G 275 r = (r : Int)) → L_331_80 ((200 * f + t : Nat) : Int) (o : Int) (f : Int) (l : Int) (i : Int) G (fun x F' => x = mvn X f t o ∧ (x = 0 → TxM F' (mvX X f t o)) ∧ PF F15 F') m_no := by
        intro d
        induction d with
        | zero =>
          intro i G hi hSG hfr hz
          obtain rfl : i = 24 := by omega
          have kG : ∀ c, c ≠ 275 → ¬ (272 ≤ c ∧ c ≤ 274) → G c = F15 c := fun c a b => by rw [hfr c a, k2 c b]
          have hTG : TL G X := hTL.cg (fun c a b => kG c (by omega) (by omega))
          have t1 := lexm_tok (hTG.2 f hf) (show t - 1 < (toks X f).length by omega)
          have t2 := lexm_tok (hTG.2 f hf) l4
          have q := q_324 hX hTG ho
          refine b_331_80 hSG ⟨fun h => by omega, fun _ => ?_⟩
          rw [q.1, show ((200 * f + t : Nat) : Int) - 1 = ((200 * f + (t - 1) : Nat) : Int) by omega, show 200 * (f : Int) + (l : Int) = ((200 * f + l : Nat) : Int) by omega, Int.toNat_natCast, Int.toNat_natCast, t1.2.1, t2.2.1]
          refine ⟨by omega, by omega, by omega, by omega, by omega, q.2, ?_⟩
          refine CaI.on (s_325 (top := tl X f (t - 1)) (bot := tl X f l) (n := mvN X f t) (at' := atX X o) hSG hTG.1 (fun r hr => hz r hr) hf ho hfo hle o2.1 eN a8.1) ?_
          rintro x F3' hS3' ⟨hc, hfr3⟩
          have p3 : PF F15 F3' := ⟨fun c hc => by rw [hfr3 c (by unfold LyF; omega)]; exact kG c (by omega) (by omega), fun j hj => by rw [hfr3 201 (by unfold LyF; omega), kG 201 (by decide) (by omega)]⟩
          rcases hc with ⟨rfl, u1⟩ | ⟨rfl, u1, u2, u3⟩
          · exact ⟨fun _ => ⟨by unfold mvn; rw [pif_0 n2, pif_1 (show mv3 X f t o from u1)], fun h => absurd h (by decide), p3⟩, fun h => absurd rfl h⟩
          · refine ⟨fun h => absurd h (by decide), fun _ => ?_⟩
            have hog := mv_og hX hf ho hfo n2 u1
            have h142 := l_142 (F0 := F15) hX r1 9 _ _ F3' (Nat.le_refl _) hS3' ⟨u2, u3, fun i hi => by rw [hfr3 272 (by unfold LyF; omega), hfr3 273 (by unfold LyF; omega), hfr3 274 (by unfold LyF; omega), hfr 272 (by decide), hfr 273 (by decide), hfr 274 (by decide)]; exact k1 i hi, hog, p3⟩
            have em : mvn X f t o = mvR X 9 (mvS f (tl X f (t - 1)) (mvN X f t) o (atX X o) |> fun s => sh s X) (mvS f (tl X f (t - 1)) (mvN X f t) o (atX X o)) := by
              unfold mvn
              rw [pif_0 n2, pif_0 (show ¬ mv3 X f t o from u1)]
              rfl
            refine EvI.mono h142 ?_ (fun _ _ _ h => h)
            rintro x F' _ ⟨g1, g2, g3⟩
            exact ⟨by rw [g1, em], fun h => g2 h, g3⟩
        | succ d ih =>
          intro i G hi hSG hfr hz
          refine b_331_80 hSG ⟨fun _ => ⟨by omega, by omega, ?_⟩, fun h => by omega⟩
          rw [Int.toNat_natCast]
          have := ih (i + 1) (m_up G 275 i (i : Int)) (by omega) (hSG.arr kd_275 (by decide)) (hfr.up rfl) (fun r hr => by
            by_cases c : r = i
            · rw [c, u_eq]
            · rw [u_ne (Or.inr c)]; exact hz r (by omega))
          rw [show ((i + 1 : Nat) : Int) = (i : Int) + 1 by omega] at this
          exact this
      exact lp 24 0 F21 (by decide) hS21 fr.rf (fun r hr => absurd hr (Nat.not_lt_zero r))
    · rw [pif_0 hm]
      exact ⟨fun _ => two (fun ⟨l', m1, m2⟩ => hm (by
        have : l' = l := by omega
        subst this
        exact m2)), fun h => absurd rfl h⟩
  · by_cases c : fix' (Fw X f) (t : Int) 0 = -1
    · exact c
    · exfalso
      obtain ⟨j, j1, j2, j3⟩ := fix_ix _ _ _ c
      exact hb (fn_D hX hf (List.getElem_mem j1) j3).1.2
end Mm2
