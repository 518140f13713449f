/-! CALLS THAT LOOK, OF THE CLASS -/
/-- a call that looks: it answers v where p, else it is refused -/
def CO (F : MF) (p : Prop) (v : Int) (X S : Nat → List Int) (N : List Int) (L : List CH) (d : Bool) (e : Int) (r : Int) (F' : MF) : Prop := p ∧ r = v ∧ KC F' X S N L d e ∧ Cn F F'
def CT (F : MF) (p : Prop) (X S : Nat → List Int) (N : List Int) (L : List CH) (d : Bool) (e : Int) (t : Nat) (F' : MF) : Prop := t = 0 ∧ ¬ p ∧ KC F' X S N L d e ∧ Cn F F'
def aCh (X : Nat → List Int) (x y z : Int) : Int := gx (X (8 * x.toNat + y.toNat)) z.toNat
def aLn (X : Nat → List Int) (x y : Int) : Int := (X (8 * x.toNat + y.toNat)).length
def aTs (X : Nat → List Int) (x : Int) : Int := (toks X x.toNat).length
def aTk (X : Nat → List Int) (x y : Int) : Int := 10000 * kn (ks X x.toNat) y.toNat + 1000 * (tl X x.toNat y.toNat : Int) + (tc X x.toNat y.toNat : Int)
def aPa (X : Nat → List Int) (x y : Int) : Int := parts (toks X x.toNat) y.toNat
/-- the first opening of a line that is closed on a later one, among the tokens from k on -/
def fld (X : Nat → List Int) (f m : Nat) : Nat → Nat → Int
  | 0, _ => -1
  | n + 1, k => if tl X f k = m ∧ kn (ks X f) k = 12 ∧ parts (toks X f) k ≠ -1 ∧ m < tl X f (parts (toks X f) k).toNat then (tl X f (parts (toks X f) k).toNat : Int) else fld X f m n (k + 1)
def aFo (X : Nat → List Int) (x y : Int) : Int := fld X x.toNat y.toNat (toks X x.toNat).length 0
def aEs (X : Nat → List Int) (x : Int) : Int := (Ew X x.toNat).length
def aEr (X : Nat → List Int) (x y : Int) : Int := (ge (Ew X x.toNat) y.toNat).1
noncomputable def aTr (X : Nat → List Int) (x : Int) : Int := pcl (ks X x.toNat) (Cw X x.toNat) 7 []
def aMa (X : Nat → List Int) (x y : Int) : Int := msk X x.toNat y.toNat 25
def aFs (X : Nat → List Int) (x : Int) : Int := (Fw X x.toNat).length
def aFu (X : Nat → List Int) (x y : Int) : Int := 100 * gx ((Fw X x.toNat).map (fun e => e.1)) y.toNat + gx ((Fw X x.toNat).map (fun e => e.2.1)) y.toNat
/-- an id as it is told -/
def tld (i : Int) : Int := if i = -1 then -1 else trI i
noncomputable def aBn (X : Nat → List Int) (x y : Int) : Int := tld (bnd X (200 * x.toNat + y.toNat))
noncomputable def aTy (X : Nat → List Int) (x y : Int) : Int := if bnd X (200 * x.toNat + y.toNat) = -1 then 0 else tyo ((tfil X 3).1 (bnd X (200 * x.toNat + y.toNat)).toNat)
noncomputable def aTe (X : Nat → List Int) : Int := (tfil X 3).2.2.length
noncomputable def aTa (X : Nat → List Int) (x : Int) : Int := trI (gx (tfil X 3).2.2 x.toNat)
noncomputable def aCo (X : Nat → List Int) (N : List Int) (x y : Int) : Int := (cmpl X x.toNat y.toNat N).length
noncomputable def aCa (X : Nat → List Int) (N : List Int) (x y z : Int) : Int := if z < ((cmpl X x.toNat y.toNat N).length : Int) then trI (gx (ndc (cmpl X x.toNat y.toNat N)) z.toNat) else -1
section Mn3
variable {F G : MF} {X Y S : Nat → List Int} {N : List Int} {L : List CH} {d : Bool} {e : Int} {f m k n : Nat} {x1 x2 x3 x4 : Int}
theorem CT.of {p : Prop} (hK : KC G X S N L d e) (hC : Cn F G) (hp : ¬ p) : CT F p X S N L d e 0 G := ⟨rfl, hp, hK, hC⟩
theorem f_147 (hS : St F) (h : KC F X S N L d e) : C_147 x1 x2 x3 F (CO F (isCh X x1 x2 x3) (aCh X x1 x2 x3) X S N L d e) (CT F (isCh X x1 x2 x3) X S N L d e) := by
  refine c_147 hS (s_181 hS h.1 (fun f m q hf hm hq e1 e2 e3 => ?_) (fun hn => CT.of h Cn.rf hn))
  subst e1
  subst e2
  subst e3
  have ob := ob_22 h.1 (show 8 * f + m < 24 by omega) (q : Int)
  have eq := q_22 h.1 (show 8 * f + m < 24 by omega) (q : Int)
  have hx := ((h.hX (8 * f + m) (by omega)).2 _ (gx_mem hq))
  have es : sgnl (X (8 * f + m)) (q : Int) = gx (X (8 * f + m)) q := by unfold sgnl; rw [if_pos (by omega), Int.toNat_natCast]
  rw [show (f : Int) * 8 + (m : Int) = ((8 * f + m : Nat) : Int) by omega, eq, es]
  exact ⟨by omega, by omega, ob, by omega, ⟨f, m, q, hf, hm, hq, rfl, rfl, rfl⟩, by simp only [aCh, Int.toNat_natCast], h, Cn.rf⟩
theorem f_148 (hS : St F) (h : KC F X S N L d e) : C_148 x1 x2 F (CO F (isLn x1 x2) (aLn X x1 x2) X S N L d e) (CT F (isLn x1 x2) X S N L d e) := by
  refine c_148 hS (s_180 hS (fun f m hf hm e1 e2 => ?_) (fun hn => CT.of h Cn.rf hn))
  subst e1
  subst e2
  rw [show (f : Int) * 8 + (m : Int) = ((8 * f + m : Nat) : Int) by omega, q_21 h.1 (show 8 * f + m < 24 by omega)]
  exact ⟨by omega, by omega, ⟨f, m, hf, hm, rfl, rfl⟩, by simp only [aLn, Int.toNat_natCast], h, Cn.rf⟩
theorem f_150 (hS : St F) (h : KC F X S N L d e) : C_150 x1 F (CO F (isF3 x1) (aTs X x1) X S N L d e) (CT F (isF3 x1) X S N L d e) := by
  refine c_150 hS (s_179 hS (fun f hf e1 => ?_) (fun hn => CT.of h Cn.rf hn))
  subst e1
  refine CaR.on (s_188 hS h) ?_
  rintro r F1 hS1 ⟨rfl, k1, k2, k3⟩
  rw [Int.toNat_natCast, (k2.1.2 f hf).1.1.1]
  exact ⟨rfl, by omega, ⟨f, hf, rfl⟩, by simp only [aTs, Int.toNat_natCast], k1, k3⟩
theorem q_106 (hf : f < 3) (hX : ∀ r, r < 24 → Rok (X r)) (hG : GaC F n f X) (hk : k < (toks X f).length) : g_106 F n (k : Int) = aTk X (f : Int) (k : Int) ∧ o_106 F n (k : Int) := by
  have lk := toks_len hX hf
  have hc : F n 8 = ((toks X f).length : Int) := hG.1.1
  have t := gac_tok hG hk
  have kr := kn_rng hX hf k
  have ok := toks_ok hk
  have w := (hX (8 * f + tl X f k) (by omega)).1
  refine ⟨?_, fun _ => trivial, fun _ => ⟨fun h => ?_, fun _ => trivial⟩⟩
  · unfold g_106
    rw [if_neg (by omega), hc, Int.toNat_natCast, if_pos (by omega), t.1, t.2.1, t.2.2.1]
    simp only [aTk, Int.toNat_natCast]
  · rw [Int.toNat_natCast, t.1, t.2.1, t.2.2.1]
    exact ⟨by omega, by omega, by omega, by omega, by omega, by omega, by omega, trivial⟩
theorem f_151 (hS : St F) (h : KC F X S N L d e) : C_151 x1 x2 F (CO F (isTk X x1 x2) (aTk X x1 x2) X S N L d e) (CT F (isTk X x1 x2) X S N L d e) := by
  refine c_151 hS (s_182 hS h (fun F1 f k hS1 hK hD hC hf hk e1 e2 => ?_) (fun F1 _ hK hC hn => CT.of hK hC hn))
  subst e1
  subst e2
  refine CaR.on (s_188 hS1 hK) ?_
  rintro r F2 hS2 ⟨rfl, k1, k2, k3⟩
  have q := q_106 hf h.hX (k2.1.2 f hf).1 hk
  rw [Int.toNat_natCast, q.1]
  exact ⟨rfl, by omega, q.2, ⟨f, k, hf, hk, rfl, rfl⟩, rfl, k1, hC.tr k3⟩
theorem f_152 (hS : St F) (h : KC F X S N L d e) : C_152 x1 x2 F (CO F (isTk X x1 x2) (aTk X x1 x2) X S N L d e) (CT F (isTk X x1 x2) X S N L d e) := by
  refine c_152 hS (s_182 hS h (fun F1 f k hS1 hK hD hC hf hk e1 e2 => ?_) (fun F1 _ hK hC hn => CT.of hK hC hn))
  subst e1
  subst e2
  refine CaV.on (s_189 hS1 hK) ?_
  rintro F2 hS2 ⟨k1, k2⟩
  have q := q_106 hf h.hX (k2.1.2 f hf).1 hk
  rw [Int.toNat_natCast, q.1]
  exact ⟨by omega, q.2, ⟨f, k, hf, hk, rfl, rfl⟩, rfl, hK.kp k1, hC.tr k1.cn⟩
theorem f_154 (hS : St F) (h : KC F X S N L d e) : C_154 x1 x2 F (CO F (isTk X x1 x2) (aPa X x1 x2) X S N L d e) (CT F (isTk X x1 x2) X S N L d e) := by
  refine c_154 hS (s_182 hS h (fun F1 f k hS1 hK hD hC hf hk e1 e2 => ?_) (fun F1 _ hK hC hn => CT.of hK hC hn))
  subst e1
  subst e2
  have lk := toks_len h.hX hf
  refine CaR.on (s_188 hS1 hK) ?_
  rintro r F2 hS2 ⟨rfl, k1, k2, k3⟩
  rw [Int.toNat_natCast, Int.toNat_natCast, (k2.1.2 f hf).1.2.1 k hk]
  exact ⟨rfl, by omega, by omega, ⟨f, k, hf, hk, rfl, rfl⟩, by simp only [aPa, Int.toNat_natCast], k1, hC.tr k3⟩
/-- a partner is a token -/
theorem parts_rng (T : TT) : ∀ k, (∀ i, i < (brk T k).1 → (brk T k).2.1 i < k) ∧ ∀ i, (brk T k).2.2 i = -1 ∨ ∃ p : Nat, (brk T k).2.2 i = (p : Int) ∧ p < k
  | 0 => ⟨fun i hi => absurd hi (Nat.not_lt_zero i), fun i => Or.inl rfl⟩
  | k + 1 => by
    have ih := parts_rng T k
    have hle := (brk_le T (k + 1)).2
    refine ⟨hle, fun i => ?_⟩
    have up : (brk T k).2.2 i = -1 ∨ ∃ p : Nat, (brk T k).2.2 i = (p : Int) ∧ p < k + 1 := by
      rcases ih.2 i with h | ⟨p, h1, h2⟩
      · exact Or.inl h
      · exact Or.inr ⟨p, h1, by omega⟩
    unfold brk
    by_cases c1 : (tk T k).1 = 10 ∨ (tk T k).1 = 12
    · rw [if_pos c1]; exact up
    · rw [if_neg c1]
      by_cases c2 : ((tk T k).1 = 11 ∨ (tk T k).1 = 13) ∧ 0 < (brk T k).1 ∧ (tk T ((brk T k).2.1 ((brk T k).1 - 1))).1 = (tk T k).1 - 1
      · rw [if_pos c2]
        show (if i = (brk T k).2.1 ((brk T k).1 - 1) then (k : Int) else if i = k then (((brk T k).2.1 ((brk T k).1 - 1) : Nat) : Int) else (brk T k).2.2 i) = -1 ∨ ∃ p : Nat, (if i = (brk T k).2.1 ((brk T k).1 - 1) then (k : Int) else if i = k then (((brk T k).2.1 ((brk T k).1 - 1) : Nat) : Int) else (brk T k).2.2 i) = (p : Int) ∧ p < k + 1
        by_cases c3 : i = (brk T k).2.1 ((brk T k).1 - 1)
        · rw [if_pos c3]; exact Or.inr ⟨k, rfl, by omega⟩
        · rw [if_neg c3]
          by_cases c4 : i = k
          · rw [if_pos c4]
            have := ih.1 ((brk T k).1 - 1) (by omega)
            exact Or.inr ⟨_, rfl, by omega⟩
          · rw [if_neg c4]; exact up
      · rw [if_neg c2]; exact up
theorem s_118 (hn : n ∈ m_I8) (hS : St F) (hf : f < 3) (hm : m < 8) (hX : ∀ r, r < 24 → Rok (X r)) (hG : GaC F n f X) : C_118 n (m : Int) F (fun r F' => r = aFo X (f : Int) (m : Int) ∧ F' = F) m_no := by
  have lk := toks_len hX hf
  have hc : F n 8 = ((toks X f).length : Int) := hG.1.1
  have key : ∀ (d k : Nat), k + d = (toks X f).length → L_118_2 n (m : Int) (k : Int) F (fun r F' => r = fld X f m d k ∧ F' = F) m_no := by
    intro d
    induction d with
    | zero =>
      intro k hk
      refine b_118_2 hn hS ⟨fun h => by omega, fun _ => ⟨rfl, rfl⟩⟩
    | succ d ih =>
      intro k hk
      have hk2 : k < (toks X f).length := by omega
      have t := gac_tok hG hk2
      have nx : ¬ (tl X f k = m ∧ kn (ks X f) k = 12 ∧ parts (toks X f) k ≠ -1 ∧ m < tl X f (parts (toks X f) k).toNat) → L_118_2 n (m : Int) ((k : Int) + 1) F (fun r F' => r = fld X f m (d + 1) k ∧ F' = F) m_no := fun hno => by
        have := ih (k + 1) (by omega)
        rw [show ((k + 1 : Nat) : Int) = (k : Int) + 1 by omega] at this
        have e : fld X f m (d + 1) k = fld X f m d (k + 1) := if_neg hno
        rw [e]
        exact this
      refine b_118_2 hn hS ?_
      rw [hc, Int.toNat_natCast, t.1, t.2.1, hG.2.1 k hk2]
      refine ⟨fun _ => ⟨by omega, fun e1 => ⟨by omega, fun e2 => ⟨by omega, ?_⟩, fun e2 => ⟨by omega, nx (fun h => e2 h.2.1)⟩⟩, fun e1 => ⟨by omega, nx (fun h => e1 (by omega))⟩⟩, fun h => by omega⟩
      rcases (parts_rng (toks X f) (toks X f).length).2 k with hp | ⟨p, p1, p2⟩
      · have hp' : parts (toks X f) k = -1 := hp
        have g : g_105 F n (parts (toks X f) k) = -1 := by rw [hp']; unfold g_105; rw [if_pos (by decide)]
        have ob : o_105 F n (parts (toks X f) k) := by rw [hp']; exact ⟨fun _ => trivial, fun h => absurd (by decide) h⟩
        rw [g]
        exact ⟨ob, fun h => by omega, fun _ => ⟨by omega, nx (fun h => h.2.2.1 hp')⟩⟩
      · have hp' : parts (toks X f) k = (p : Int) := p1
        have q := q_105 hf hX hG p2
        rw [hp', q.1]
        refine ⟨q.2, fun h => ⟨by omega, q.2, ?_, rfl⟩, fun h => ⟨by omega, nx (fun h2 => ?_)⟩⟩
        · have e : fld X f m (d + 1) k = (tl X f (parts (toks X f) k).toNat : Int) := if_pos ⟨by omega, e2, by rw [hp']; omega, by rw [hp', Int.toNat_natCast]; omega⟩
          rw [e, hp', Int.toNat_natCast]
        · have := h2.2.2.2
          rw [hp', Int.toNat_natCast] at this
          omega
  have := key (toks X f).length 0 (by omega)
  refine c_118 hn hS ?_
  simp only [aFo, Int.toNat_natCast]
  exact this
theorem f_155 (hS : St F) (h : KC F X S N L d e) : C_155 x1 x2 F (CO F (isLn x1 x2) (aFo X x1 x2) X S N L d e) (CT F (isLn x1 x2) X S N L d e) := by
  refine c_155 hS (s_180 hS (fun f m hf hm e1 e2 => ?_) (fun hn => CT.of h Cn.rf hn))
  subst e1
  subst e2
  refine CaR.on (s_188 hS h) ?_
  rintro r F1 hS1 ⟨rfl, k1, k2, k3⟩
  rw [Int.toNat_natCast]
  refine ⟨rfl, by omega, CaI.on (s_118 (i8_of mi_1 hf) hS1 hf hm h.hX (k2.1.2 f hf).1) ?_⟩
  rintro r F2 hS2 ⟨rfl, rfl⟩
  exact ⟨⟨f, m, hf, hm, rfl, rfl⟩, rfl, k1, k3⟩
theorem f_156 (hS : St F) (h : KC F X S N L d e) : C_156 x1 F (CO F (isF3 x1) (aEs X x1) X S N L d e) (CT F (isF3 x1) X S N L d e) := by
  refine c_156 hS (s_179 hS (fun f hf e1 => ?_) (fun hn => CT.of h Cn.rf hn))
  subst e1
  refine CaR.on (s_188 hS h) ?_
  rintro r F1 hS1 ⟨rfl, k1, k2, k3⟩
  rw [Int.toNat_natCast, (db_tree k2 hf).2.1.1]
  exact ⟨rfl, by omega, ⟨f, hf, rfl⟩, by simp only [aEs, Int.toNat_natCast], k1, k3⟩
theorem f_161 (hS : St F) (h : KC F X S N L d e) : C_161 x1 F (CO F (isF3 x1) (aFs X x1) X S N L d e) (CT F (isF3 x1) X S N L d e) := by
  refine c_161 hS (s_179 hS (fun f hf e1 => ?_) (fun hn => CT.of h Cn.rf hn))
  subst e1
  refine CaR.on (s_188 hS h) ?_
  rintro r F1 hS1 ⟨rfl, k1, k2, k3⟩
  rw [Int.toNat_natCast, (db_tree k2 hf).2.2.1.1]
  exact ⟨rfl, by omega, ⟨f, hf, rfl⟩, by simp only [aFs, Int.toNat_natCast], k1, k3⟩
theorem ge_at {E : EE} (hk : k < E.length) : gx (E.map (fun e => e.1)) k = (ge E k).1 ∧ gx (E.map (fun e => e.2.1)) k = (ge E k).2.1 ∧ gx (E.map (fun e => e.2.2)) k = (ge E k).2.2 := by
  unfold gx ge
  rw [List.getD_eq_getElem?_getD, List.getD_eq_getElem?_getD, List.getD_eq_getElem?_getD, List.getD_eq_getElem?_getD, List.getElem?_map, List.getElem?_map, List.getElem?_map, List.getElem?_eq_getElem hk]
  exact ⟨rfl, rfl, rfl⟩
theorem f_157 (hS : St F) (h : KC F X S N L d e) : C_157 x1 x2 F (CO F (isEr X x1 x2) (aEr X x1 x2) X S N L d e) (CT F (isEr X x1 x2) X S N L d e) := by
  refine c_157 hS (s_184 hS h (fun F1 f k hS1 hK hD hC hf hk e1 e2 => ?_) (fun F1 _ hK hC hn => CT.of hK hC hn))
  subst e1
  subst e2
  have le := Ew_len h.hX hf
  have t := (db_tree hD hf).2.1.2.1 k (by rw [List.length_map]; exact hk)
  rw [Int.toNat_natCast, Int.toNat_natCast, t, (ge_at hk).1]
  exact ⟨by omega, by omega, ⟨f, k, hf, hk, rfl, rfl⟩, by simp only [aEr, Int.toNat_natCast], hK, hC⟩
theorem f_159 (hS : St F) (h : KC F X S N L d e) : C_159 x1 F (CO F (isF3 x1) (aTr X x1) X S N L d e) (CT F (isF3 x1) X S N L d e) := by
  refine c_159 hS (s_179 hS (fun f hf e1 => ?_) (fun hn => CT.of h Cn.rf hn))
  subst e1
  refine CaR.on (s_188 hS h) ?_
  rintro r F1 hS1 ⟨rfl, k1, k2, k3⟩
  rw [Int.toNat_natCast]
  refine ⟨rfl, by omega, by omega, CaL.on (s_94 (n := 1) (by decide) hS1 h.hX k2.1 hf) ?_⟩
  rintro r F2 hS2 ⟨rfl, u⟩
  have kp : KP F1 F2 := u.kp (fun c hc => by unfold RunP at hc; omega)
  exact ⟨⟨f, hf, rfl⟩, by simp only [aTr, Int.toNat_natCast], k1.kp kp, k3.tr kp.cn⟩
theorem f_160 (hS : St F) (h : KC F X S N L d e) : C_160 x1 x2 F (CO F (isPl X x1 x2) (aMa X x1 x2) X S N L d e) (CT F (isPl X x1 x2) X S N L d e) := by
  refine c_160 hS (s_183 hS h (fun F1 f k hS1 hK hD hC hf hk e1 e2 => ?_) (fun F1 _ hK hC hn => CT.of hK hC hn))
  subst e1
  subst e2
  refine CaI.on (s_1 (n := 1) (by decide) hS1 h.hX hD.1 hf hk) ?_
  rintro r F2 hS2 ⟨rfl, u⟩
  have kp : KP F1 F2 := u.kp (fun c hc => by unfold MP RP at hc; omega)
  exact ⟨⟨f, k, hf, hk, rfl, rfl⟩, by simp only [aMa, Int.toNat_natCast], hK.kp kp, hC.tr kp.cn⟩
theorem f_162 (hS : St F) (h : KC F X S N L d e) : C_162 x1 x2 F (CO F (isFu X x1 x2) (aFu X x1 x2) X S N L d e) (CT F (isFu X x1 x2) X S N L d e) := by
  refine c_162 hS (s_185 hS h (fun F1 f k hS1 hK hD hC hf hk e1 e2 => ?_) (fun F1 _ hK hC hn => CT.of hK hC hn))
  subst e1
  subst e2
  have le := Fw_len h.hX hf
  have t := (db_tree hD hf).2.2.1
  have t1 := t.2.1 k (by rw [List.length_map]; exact hk)
  have t2 := t.2.2.1 k (by rw [List.length_map]; exact hk)
  have b1 := (fnt_ok h.hX hf hk)
  have b2 : 0 ≤ gx ((Fw X f).map (fun e => e.2.1)) k ∧ gx ((Fw X f).map (fun e => e.2.1)) k < 256 := by
    rw [ge_map hk]
    exact fn_par h.hX hf (List.getElem_mem hk)
  rw [Int.toNat_natCast, Int.toNat_natCast, t1, t2]
  have e5 := b1.2.2
  exact ⟨by omega, by omega, by omega, by omega, by omega, ⟨f, k, hf, hk, rfl, rfl⟩, by simp only [aFu, Int.toNat_natCast], hK, hC⟩
theorem q_191 {i : Int} (h : i = -1 ∨ 0 ≤ i ∧ i < 1000) : g_191 F i = tld i ∧ o_191 F i := by
  refine ⟨?_, fun _ => trivial, fun _ => ⟨by omega, by omega, by omega, by omega, trivial⟩⟩
  unfold g_191 tld trI
  by_cases c : i = -1
  · rw [if_pos (by omega), if_pos c]
  · rw [if_neg (by omega), if_neg c]
theorem bnd_r5 (hX : ∀ r, r < 24 → Rok (X r)) (hk : k < 600) : bnd X k = -1 ∨ 0 ≤ bnd X k ∧ bnd X k < 1000 := by
  rcases bnd_rg4 hX hk with h | ⟨v, h, h2⟩
  · exact Or.inl h
  · exact Or.inr (by omega)
theorem f_163 (hS : St F) (h : KC F X S N L d e) : C_163 x1 x2 F (CO F (isTk X x1 x2) (aBn X x1 x2) X S N L d e) (CT F (isTk X x1 x2) X S N L d e) := by
  refine c_163 hS (s_182 hS h (fun F1 f k hS1 hK hD hC hf hk e1 e2 => ?_) (fun F1 _ hK hC hn => CT.of hK hC hn))
  subst e1
  subst e2
  have lk := toks_len h.hX hf
  have eb : F1 8 (200 * f + k) = bnd X (200 * f + k) := hD.2 _ (by omega)
  have q := q_191 (F := F1) (bnd_r5 h.hX (show 200 * f + k < 600 by omega))
  rw [show ((f : Int) * 200 + (k : Int)).toNat = 200 * f + k by omega, eb, q.1]
  exact ⟨by omega, by omega, by omega, q.2, ⟨f, k, hf, hk, rfl, rfl⟩, by simp only [aBn, Int.toNat_natCast], hK, hC⟩
theorem f_164 (hS : St F) (h : KC F X S N L d e) : C_164 x1 x2 F (CO F (isTk X x1 x2) (aBn X x1 x2) X S N L d e) (CT F (isTk X x1 x2) X S N L d e) := by
  refine c_164 hS (s_182 hS h (fun F1 f k hS1 hK hD hC hf hk e1 e2 => ?_) (fun F1 _ hK hC hn => CT.of hK hC hn))
  subst e1
  subst e2
  have lk := toks_len h.hX hf
  refine CaV.on (s_189 hS1 hK) ?_
  rintro F2 hS2 ⟨k1, k2⟩
  have eb : F2 117 (200 * f + k) = bnd X (200 * f + k) := k2.2 _ (by omega)
  have q := q_191 (F := F2) (bnd_r5 h.hX (show 200 * f + k < 600 by omega))
  rw [show ((f : Int) * 200 + (k : Int)).toNat = 200 * f + k by omega, eb, q.1]
  exact ⟨by omega, by omega, by omega, q.2, ⟨f, k, hf, hk, rfl, rfl⟩, by simp only [aBn, Int.toNat_natCast], hK.kp k1, hC.tr k1.cn⟩
theorem s_130k (hS : St F) (h : KC F X S N L d e) (hD : DB F 1 X) : C_130 1 F (fun F' => TyS F' (tfil X 3) ∧ KP F F' ∧ DB F' 1 X) m_no := by
  refine CaV.on (s_130 (n := 1) (by decide) hS h.hX hD.1 hD.2) ?_
  rintro F1 hS1 ⟨u1, u2⟩
  have kp : KP F F1 := u2.kp (fun c hc => by unfold TyP at hc; omega)
  exact ⟨u1, kp, kp.db hD⟩
theorem f_165 (hS : St F) (h : KC F X S N L d e) : C_165 x1 x2 F (CO F (isTk X x1 x2) (aTy X x1 x2) X S N L d e) (CT F (isTk X x1 x2) X S N L d e) := by
  refine c_165 hS (s_182 hS h (fun F1 f k hS1 hK hD hC hf hk e1 e2 => ?_) (fun F1 _ hK hC hn => CT.of hK hC hn))
  subst e1
  subst e2
  have lk := toks_len h.hX hf
  refine CaV.on (s_130k hS1 hK hD) ?_
  rintro F2 hS2 ⟨k1, k2, k3⟩
  have eb : F2 8 (200 * f + k) = bnd X (200 * f + k) := k3.2 _ (by omega)
  rw [show ((f : Int) * 200 + (k : Int)).toNat = 200 * f + k by omega, eb]
  refine ⟨by omega, by omega, by omega, ?_⟩
  have fin : ∀ r : Int, r = aTy X (f : Int) (k : Int) → CO F (isTk X (f : Int) (k : Int)) (aTy X (f : Int) (k : Int)) X S N L d e r F2 := fun r hr => ⟨⟨f, k, hf, hk, rfl, rfl⟩, hr, hK.kp k2, hC.tr k2.cn⟩
  by_cases c : bnd X (200 * f + k) = -1
  · rw [c]
    refine c_139 hS2 ⟨fun _ => fin 0 ?_, fun hn => absurd rfl hn⟩
    simp only [aTy, Int.toNat_natCast]
    rw [if_pos c]
  · obtain ⟨v, v1, v2⟩ := (bnd_rg4 h.hX (show 200 * f + k < 600 by omega)).resolve_left c
    rw [v1]
    refine CaI.on (s_139 (h := (tfil X 3).1) (st := (tfil X 3).2.1) (E := (tfil X 3).2.2) hS2 k1 (by omega)) ?_
    rintro r F3 hS3 ⟨rfl, rfl⟩
    refine fin _ ?_
    simp only [aTy, Int.toNat_natCast]
    rw [if_neg c, v1, Int.toNat_natCast]
theorem f_166 (hS : St F) (h : KC F X S N L d e) : C_166 F (fun r F' => r = aTe X ∧ KC F' X S N L d e ∧ Cn F F') m_no := by
  refine c_166 hS (CaR.on (s_188 hS h) ?_)
  rintro r F1 hS1 ⟨rfl, k1, k2, k3⟩
  refine ⟨rfl, CaV.on (s_130k hS1 k1 k2) ?_⟩
  rintro F2 hS2 ⟨u1, u2, u3⟩
  exact ⟨u1.2.2.1, k1.kp u2, k3.tr u2.cn⟩
def isTe (X : Nat → List Int) (x : Int) : Prop := ∃ k : Nat, k < (tfil X 3).2.2.length ∧ x = (k : Int)
theorem f_167 (hS : St F) (h : KC F X S N L d e) : C_167 x1 F (CO F (isTe X x1) (aTa X x1) X S N L d e) (CT F (isTe X x1) X S N L d e) := by
  have hE := tfil_ok (X := X) hS h.hX
  refine c_167 hS (CaR.mono (s_188 hS h) ?_ (fun _ _ _ h => h))
  rintro r F1 hS1 ⟨rfl, k1, k2, k3⟩
  refine ⟨rfl, CaV.mono (s_130k hS1 k1 k2) ?_ (fun _ _ _ h => h.elim)⟩
  rintro F2 hS2 ⟨u1, u2, u3⟩
  have ec : F2 84 5 = ((tfil X 3).2.2.length : Int) := u1.2.2.1
  have bad : ¬ (0 ≤ x1 ∧ x1 < ((tfil X 3).2.2.length : Int)) → CT F (isTe X x1) X S N L d e 0 F2 := fun hb => CT.of (k1.kp u2) (k3.tr u2.cn) (fun ⟨k, a, b⟩ => hb (by omega))
  rw [ec]
  refine ⟨fun h0 => bad (by omega), fun h0 => ⟨fun h1 => ?_, fun h1 => bad (by omega)⟩⟩
  obtain ⟨k, rfl⟩ : ∃ k : Nat, x1 = (k : Int) := ⟨x1.toNat, by omega⟩
  have hk : k < (tfil X 3).2.2.length := by omega
  have ek : F2 88 k = gx (tfil X 3).2.2 k := u1.2.2.2 k hk
  have hr := hE.2 _ (gx_mem hk)
  have q := q_191 (F := F2) (i := gx (tfil X 3).2.2 k) (Or.inr ⟨by omega, by omega⟩)
  rw [Int.toNat_natCast, ek, q.1]
  refine ⟨by omega, q.2, ⟨k, hk, rfl⟩, ?_, k1.kp u2, k3.tr u2.cn⟩
  simp only [aTa, Int.toNat_natCast]
  exact if_neg (by omega)
theorem s_3k (hS : St F) (h : KC F X S N L d e) (hD : DB F 1 X) (hf : f < 3) (hm : m ≤ (toks X f).length) : C_3 1 (f : Int) (m : Int) 200 (F 0 8) F (fun F' => FD F' (cmpl X f m N) ∧ KP F F') m_no := by
  rw [h.2.2.2.2.1.1]
  refine CaV.on (s_3 (n := 1) (n2 := 200) (by decide) kd_200 (by decide) (by decide) ⟨by decide, by unfold RP; decide, by decide⟩ h.hX hS hD.1 hf hm h.2.2.2.2.1.2.1 h.2.2.2.2.1.2.2.1) ?_
  rintro F1 hS1 ⟨u1, u2⟩
  exact ⟨u1, u2.kp⟩
theorem f_170 (hS : St F) (h : KC F X S N L d e) : C_170 x1 x2 F (CO F (isPl X x1 x2) (aCo X N x1 x2) X S N L d e) (CT F (isPl X x1 x2) X S N L d e) := by
  refine c_170 hS (s_183 hS h (fun F1 f k hS1 hK hD hC hf hk e1 e2 => ?_) (fun F1 _ hK hC hn => CT.of hK hC hn))
  subst e1
  subst e2
  refine CaV.on (s_3k hS1 hK hD hf hk) ?_
  rintro F2 hS2 ⟨u1, u2⟩
  exact ⟨⟨f, k, hf, hk, rfl, rfl⟩, by simp only [aCo, Int.toNat_natCast]; exact u1.1, hK.kp u2, hC.tr u2.cn⟩
def isCa (X : Nat → List Int) (x y z : Int) : Prop := isPl X x y ∧ 0 ≤ z
theorem f_171 (hS : St F) (h : KC F X S N L d e) : C_171 x1 x2 x3 F (CO F (isCa X x1 x2 x3) (aCa X N x1 x2 x3) X S N L d e) (CT F (isCa X x1 x2 x3) X S N L d e) := by
  refine c_171 hS (s_183 hS h (fun F1 f k hS1 hK hD hC hf hk e1 e2 => ?_) (fun F1 _ hK hC hn => CT.of hK hC (fun hp => hn hp.1)))
  subst e1
  subst e2
  refine ⟨fun h0 => CT.of hK hC (fun hp => absurd hp.2 (by omega)), fun h0 => CaV.mono (s_3k hS1 hK hD hf hk) ?_ (fun _ _ _ h => h.elim)⟩
  rintro F2 hS2 ⟨u1, u2⟩
  obtain ⟨z, rfl⟩ : ∃ z : Nat, x3 = (z : Int) := ⟨x3.toNat, by omega⟩
  have hb := cmpl_ok (N := N) h.hX hf hk
  have fin : ∀ r : Int, r = aCa X N (f : Int) (k : Int) (z : Int) → CO F (isCa X (f : Int) (k : Int) (z : Int)) (aCa X N (f : Int) (k : Int) (z : Int)) X S N L d e r F2 := fun r hr => ⟨⟨⟨f, k, hf, hk, rfl, rfl⟩, by omega⟩, hr, hK.kp u2, hC.tr u2.cn⟩
  rw [u1.1]
  refine ⟨fun h1 => ?_, fun h1 => fin (-1) ?_⟩
  · have hz : z < (cmpl X f k N).length := by omega
    have ez : F2 108 z = gx (ndc (cmpl X f k N)) z := u1.2 z (by unfold ndc; rw [List.length_map]; exact hz)
    have hv := hb.2 _ (List.getElem_mem hz)
    have eg : gx (ndc (cmpl X f k N)) z = (((cmpl X f k N)[z]'hz : Nat) : Int) := by
      unfold gx ndc
      rw [List.getD_eq_getElem?_getD, List.getElem?_map, List.getElem?_eq_getElem hz]
      rfl
    have q := q_191 (F := F2) (i := (((cmpl X f k N)[z]'hz : Nat) : Int)) (Or.inr ⟨by omega, by omega⟩)
    rw [Int.toNat_natCast, ez, eg, q.1]
    refine ⟨by omega, q.2, fin _ ?_⟩
    simp only [aCa, Int.toNat_natCast]
    rw [if_pos (by omega), eg]
    exact if_neg (by omega)
  · simp only [aCa, Int.toNat_natCast]
    rw [if_neg h1]
end Mn3
