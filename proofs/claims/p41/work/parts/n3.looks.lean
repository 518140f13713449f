/-! CALLS THAT LOOK, OF THE CLASS -/
/-- a call that looks: it answers v where p, else it is refused -/
def CO (F : MF) (p : Prop) (v : Int) (X S : Nat → List Int) (N : List Int) (L : List CH) (d : Bool) (e : Int) (r : Int) (F' : MF) : Prop := p ∧ r = v ∧ KC F' X S N L d e ∧ Cn F F'
def CT (F : MF) (p : Prop) (X S : Nat → List Int) (N : List Int) (L : List CH) (d : Bool) (e : Int) (t : Nat) (F' : MF) : Prop := t = 0 ∧ ¬ p ∧ KC F' X S N L d e ∧ Cn F F'
def aCh (X : Nat → List Int) (x y z : Int) : Int := gx (X (8 * x.toNat + y.toNat)) z.toNat
def aLn (X : Nat → List Int) (x y : Int) : Int := (X (8 * x.toNat + y.toNat)).length
def aTs (X : Nat → List Int) (x : Int) : Int := (toks X x.toNat).length
def aTk (X : Nat → List Int) (x y : Int) : Int := 10000 * kn (ks X x.toNat) y.toNat + 1000 * (tl X x.toNat y.toNat : Int) + (tc X x.toNat y.toNat : Int)
def aEs (X : Nat → List Int) (x : Int) : Int := (Ew X x.toNat).length
def aFs (X : Nat → List Int) (x : Int) : Int := (Fw X x.toNat).length
def aFu (X : Nat → List Int) (x y : Int) : Int := 100 * gx ((Fw X x.toNat).map (fun e => e.1)) y.toNat + gx ((Fw X x.toNat).map (fun e => e.2.1)) y.toNat
/-- an id as it is told -/
def tld (i : Int) : Int := if i = -1 then -1 else trI i
noncomputable def aBn (X : Nat → List Int) (x y : Int) : Int := tld (bnd X (200 * x.toNat + y.toNat))
section Mn3
variable {F G : MF} {X Y S : Nat → List Int} {N : List Int} {L : List CH} {d : Bool} {e : Int} {f m k n : Nat} {x1 x2 x3 x4 : Int}
theorem CT.of {p : Prop} (hK : KC G X S N L d e) (hC : Cn F G) (hp : ¬ p) : CT F p X S N L d e 0 G := ⟨rfl, hp, hK, hC⟩
theorem f_147 (hS : St F) (h : KC F X S N L d e) : C_147 x1 x2 x3 F (CO F (isCh X x1 x2 x3) (aCh X x1 x2 x3) X S N L d e) (CT F (isCh X x1 x2 x3) X S N L d e) := by
  refine c_147 hS (s_181 hS h.1 (fun f m q hf hm hq e1 e2 e3 => ?_) (fun hn => CT.of h Cn.rf hn))
  subst e1
  subst e2
  subst e3
  have ob := ob_22 h.1 (show 8 * f + m < 24 by omega) (q : Int)
  have eq := q_22 h.1 (show 8 * f + m < 24 by omega) (q : Int)
  have hx := ((h.hX (8 * f + m) (by omega)).2 _ (gx_mem hq))
  have es : sgnl (X (8 * f + m)) (q : Int) = gx (X (8 * f + m)) q := by unfold sgnl; rw [if_pos (by omega), Int.toNat_natCast]
  rw [show (f : Int) * 8 + (m : Int) = ((8 * f + m : Nat) : Int) by omega, eq, es]
  exact ⟨by omega, by omega, ob, by omega, ⟨f, m, q, hf, hm, hq, rfl, rfl, rfl⟩, by simp only [aCh, Int.toNat_natCast], h, Cn.rf⟩
theorem f_148 (hS : St F) (h : KC F X S N L d e) : C_148 x1 x2 F (CO F (isLn x1 x2) (aLn X x1 x2) X S N L d e) (CT F (isLn x1 x2) X S N L d e) := by
  refine c_148 hS (s_180 hS (fun f m hf hm e1 e2 => ?_) (fun hn => CT.of h Cn.rf hn))
  subst e1
  subst e2
  rw [show (f : Int) * 8 + (m : Int) = ((8 * f + m : Nat) : Int) by omega, q_21 h.1 (show 8 * f + m < 24 by omega)]
  exact ⟨by omega, by omega, ⟨f, m, hf, hm, rfl, rfl⟩, by simp only [aLn, Int.toNat_natCast], h, Cn.rf⟩
theorem f_150 (hS : St F) (h : KC F X S N L d e) : C_150 x1 F (CO F (isF3 x1) (aTs X x1) X S N L d e) (CT F (isF3 x1) X S N L d e) := by
  refine c_150 hS (s_179 hS (fun f hf e1 => ?_) (fun hn => CT.of h Cn.rf hn))
  subst e1
  refine CaR.on (s_188 hS h) ?_
  rintro r F1 hS1 ⟨rfl, k1, k2, k3⟩
  rw [Int.toNat_natCast, (k2.1.2 f hf).1.1.1]
  exact ⟨rfl, by omega, ⟨f, hf, rfl⟩, by simp only [aTs, Int.toNat_natCast], k1, k3⟩
theorem q_106 (hf : f < 3) (hX : ∀ r, r < 24 → Rok (X r)) (hG : GaC F n f X) (hk : k < (toks X f).length) : g_106 F n (k : Int) = aTk X (f : Int) (k : Int) ∧ o_106 F n (k : Int) := by
  have lk := toks_len hX hf
  have hc : F n 8 = ((toks X f).length : Int) := hG.1.1
  have t := gac_tok hG hk
  have kr := kn_rng hX hf k
  have ok := toks_ok hk
  have w := (hX (8 * f + tl X f k) (by omega)).1
  refine ⟨?_, fun _ => trivial, fun _ => ⟨fun h => ?_, fun _ => trivial⟩⟩
  · unfold g_106
    rw [if_neg (by omega), hc, Int.toNat_natCast, if_pos (by omega), t.1, t.2.1, t.2.2.1]
    simp only [aTk, Int.toNat_natCast]
  · rw [Int.toNat_natCast, t.1, t.2.1, t.2.2.1]
    exact ⟨by omega, by omega, by omega, by omega, by omega, by omega, by omega, trivial⟩
theorem f_151 (hS : St F) (h : KC F X S N L d e) : C_151 x1 x2 F (CO F (isTk X x1 x2) (aTk X x1 x2) X S N L d e) (CT F (isTk X x1 x2) X S N L d e) := by
  refine c_151 hS (s_182 hS h (fun F1 f k hS1 hK hD hC hf hk e1 e2 => ?_) (fun F1 _ hK hC hn => CT.of hK hC hn))
  subst e1
  subst e2
  refine CaR.on (s_188 hS1 hK) ?_
  rintro r F2 hS2 ⟨rfl, k1, k2, k3⟩
  have q := q_106 hf h.hX (k2.1.2 f hf).1 hk
  rw [Int.toNat_natCast, q.1]
  exact ⟨rfl, by omega, q.2, ⟨f, k, hf, hk, rfl, rfl⟩, rfl, k1, hC.tr k3⟩
theorem f_152 (hS : St F) (h : KC F X S N L d e) : C_152 x1 x2 F (CO F (isTk X x1 x2) (aTk X x1 x2) X S N L d e) (CT F (isTk X x1 x2) X S N L d e) := by
  refine c_152 hS (s_182 hS h (fun F1 f k hS1 hK hD hC hf hk e1 e2 => ?_) (fun F1 _ hK hC hn => CT.of hK hC hn))
  subst e1
  subst e2
  refine CaV.on (s_189 hS1 hK) ?_
  rintro F2 hS2 ⟨k1, k2⟩
  have q := q_106 hf h.hX (k2.1.2 f hf).1 hk
  rw [Int.toNat_natCast, q.1]
  exact ⟨by omega, q.2, ⟨f, k, hf, hk, rfl, rfl⟩, rfl, hK.kp k1, hC.tr k1.cn⟩
theorem f_156 (hS : St F) (h : KC F X S N L d e) : C_156 x1 F (CO F (isF3 x1) (aEs X x1) X S N L d e) (CT F (isF3 x1) X S N L d e) := by
  refine c_156 hS (s_179 hS (fun f hf e1 => ?_) (fun hn => CT.of h Cn.rf hn))
  subst e1
  refine CaR.on (s_188 hS h) ?_
  rintro r F1 hS1 ⟨rfl, k1, k2, k3⟩
  rw [Int.toNat_natCast, (db_tree k2 hf).2.1.1]
  exact ⟨rfl, by omega, ⟨f, hf, rfl⟩, by simp only [aEs, Int.toNat_natCast], k1, k3⟩
theorem f_161 (hS : St F) (h : KC F X S N L d e) : C_161 x1 F (CO F (isF3 x1) (aFs X x1) X S N L d e) (CT F (isF3 x1) X S N L d e) := by
  refine c_161 hS (s_179 hS (fun f hf e1 => ?_) (fun hn => CT.of h Cn.rf hn))
  subst e1
  refine CaR.on (s_188 hS h) ?_
  rintro r F1 hS1 ⟨rfl, k1, k2, k3⟩
  rw [Int.toNat_natCast, (db_tree k2 hf).2.2.1.1]
  exact ⟨rfl, by omega, ⟨f, hf, rfl⟩, by simp only [aFs, Int.toNat_natCast], k1, k3⟩
theorem f_162 (hS : St F) (h : KC F X S N L d e) : C_162 x1 x2 F (CO F (isFu X x1 x2) (aFu X x1 x2) X S N L d e) (CT F (isFu X x1 x2) X S N L d e) := by
  refine c_162 hS (s_185 hS h (fun F1 f k hS1 hK hD hC hf hk e1 e2 => ?_) (fun F1 _ hK hC hn => CT.of hK hC hn))
  subst e1
  subst e2
  have le := Fw_len h.hX hf
  have t := (db_tree hD hf).2.2.1
  have t1 := t.2.1 k (by rw [List.length_map]; exact hk)
  have t2 := t.2.2.1 k (by rw [List.length_map]; exact hk)
  have b1 := (fnt_ok h.hX hf hk)
  have b2 : 0 ≤ gx ((Fw X f).map (fun e => e.2.1)) k ∧ gx ((Fw X f).map (fun e => e.2.1)) k < 256 := by
    rw [ge_map hk]
    exact fn_par h.hX hf (List.getElem_mem hk)
  rw [Int.toNat_natCast, Int.toNat_natCast, t1, t2]
  have e5 := b1.2.2
  exact ⟨by omega, by omega, by omega, by omega, by omega, ⟨f, k, hf, hk, rfl, rfl⟩, by simp only [aFu, Int.toNat_natCast], hK, hC⟩
theorem q_191 {i : Int} (h : i = -1 ∨ 0 ≤ i ∧ i < 1000) : g_191 F i = tld i ∧ o_191 F i := by
  refine ⟨?_, fun _ => trivial, fun _ => ⟨by omega, by omega, by omega, by omega, trivial⟩⟩
  unfold g_191 tld trI
  by_cases c : i = -1
  · rw [if_pos (by omega), if_pos c]
  · rw [if_neg (by omega), if_neg c]
theorem bnd_r5 (hX : ∀ r, r < 24 → Rok (X r)) (hk : k < 600) : bnd X k = -1 ∨ 0 ≤ bnd X k ∧ bnd X k < 1000 := by
  rcases bnd_rg4 hX hk with h | ⟨v, h, h2⟩
  · exact Or.inl h
  · exact Or.inr (by omega)
theorem f_163 (hS : St F) (h : KC F X S N L d e) : C_163 x1 x2 F (CO F (isTk X x1 x2) (aBn X x1 x2) X S N L d e) (CT F (isTk X x1 x2) X S N L d e) := by
  refine c_163 hS (s_182 hS h (fun F1 f k hS1 hK hD hC hf hk e1 e2 => ?_) (fun F1 _ hK hC hn => CT.of hK hC hn))
  subst e1
  subst e2
  have lk := toks_len h.hX hf
  have eb : F1 8 (200 * f + k) = bnd X (200 * f + k) := hD.2 _ (by omega)
  have q := q_191 (F := F1) (bnd_r5 h.hX (show 200 * f + k < 600 by omega))
  rw [show ((f : Int) * 200 + (k : Int)).toNat = 200 * f + k by omega, eb, q.1]
  exact ⟨by omega, by omega, by omega, q.2, ⟨f, k, hf, hk, rfl, rfl⟩, by simp only [aBn, Int.toNat_natCast], hK, hC⟩
theorem f_164 (hS : St F) (h : KC F X S N L d e) : C_164 x1 x2 F (CO F (isTk X x1 x2) (aBn X x1 x2) X S N L d e) (CT F (isTk X x1 x2) X S N L d e) := by
  refine c_164 hS (s_182 hS h (fun F1 f k hS1 hK hD hC hf hk e1 e2 => ?_) (fun F1 _ hK hC hn => CT.of hK hC hn))
  subst e1
  subst e2
  have lk := toks_len h.hX hf
  refine CaV.on (s_189 hS1 hK) ?_
  rintro F2 hS2 ⟨k1, k2⟩
  have eb : F2 117 (200 * f + k) = bnd X (200 * f + k) := k2.2 _ (by omega)
  have q := q_191 (F := F2) (bnd_r5 h.hX (show 200 * f + k < 600 by omega))
  rw [show ((f : Int) * 200 + (k : Int)).toNat = 200 * f + k by omega, eb, q.1]
  exact ⟨by omega, by omega, by omega, q.2, ⟨f, k, hf, hk, rfl, rfl⟩, by simp only [aBn, Int.toNat_natCast], hK.kp k1, hC.tr k1.cn⟩
end Mn3
