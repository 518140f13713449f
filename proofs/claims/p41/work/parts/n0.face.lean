/-! THE FACE OF THE CLASS: what stands between two calls -/
/-- rows X, saved rows S, the spelled name N, the plan L, whether it was disturbed d, how many lines were looked at e -/
def KC (F : MF) (X S : Nat → List Int) (N : List Int) (L : List CH) (d : Bool) (e : Int) : Prop :=
  LinC F 2 X ∧ LinC F 80 S ∧ Ends F X ∧ (F 1 6 = 0 → DB F 1 X) ∧ (F 0 8 = (N.length : Int) ∧ AL (F 200) N ∧ N.length ≤ 6 ∧ ∀ a ∈ N, isL a = true) ∧ F 0 9 = e ∧ PlC F L ∧ (L ≠ [] → (F 109 8 ≠ 0 ↔ d = true))
/-- what a call that only looks leaves as it was -/
def KP (F F' : MF) : Prop := (∀ c, ((1 ≤ c ∧ c ≤ 8) ∨ (12 ≤ c ∧ c ≤ 68) ∨ (80 ≤ c ∧ c ≤ 83) ∨ (189 ≤ c ∧ c ≤ 194) ∨ 200 ≤ c) → F' c = F c) ∧ (∀ j, 8 ≤ j → F' 0 j = F 0 j) ∧ F' 109 7 = F 109 7 ∧ F' 109 8 = F 109 8
/-- what a call of the class leaves as it was -/
def Cn (F F' : MF) : Prop := ∀ c, 201 ≤ c → F' c = F c
def isF3 (x : Int) : Prop := ∃ f : Nat, f < 3 ∧ x = (f : Int)
def isLn (x y : Int) : Prop := ∃ f m : Nat, f < 3 ∧ m < 8 ∧ x = (f : Int) ∧ y = (m : Int)
def isCh (X : Nat → List Int) (x y z : Int) : Prop := ∃ f m q : Nat, f < 3 ∧ m < 8 ∧ q < (X (8 * f + m)).length ∧ x = (f : Int) ∧ y = (m : Int) ∧ z = (q : Int)
def isTk (X : Nat → List Int) (x y : Int) : Prop := ∃ f k : Nat, f < 3 ∧ k < (toks X f).length ∧ x = (f : Int) ∧ y = (k : Int)
def isFu (X : Nat → List Int) (x y : Int) : Prop := ∃ f k : Nat, f < 3 ∧ k < (Fw X f).length ∧ x = (f : Int) ∧ y = (k : Int)
section Mn0
variable {F G : MF} {X Y S : Nat → List Int} {N : List Int} {L : List CH} {d : Bool} {e : Int} {f m k : Nat} {x1 x2 x3 : Int} {R : MF → Prop} {T : Nat → MF → Prop}
theorem Cn.rf : Cn F F := fun _ _ => rfl
theorem Cn.tr {H : MF} (h : Cn F G) (k : Cn G H) : Cn F H := fun c a => (k c a).trans (h c a)
theorem fr.cn {P : Nat → Prop} (h : fr P F G) (hP : ∀ c, P c → c < 201) : Cn F G := fun c hc => h c (fun e => by have := hP c e; omega)
theorem DF.rf : DF F F := ⟨fun _ _ => rfl, fun _ _ => rfl⟩
theorem DF.kp (h : DF F G) : KP F G := ⟨fun c hc => h.1 c (by omega), fun j _ => by rw [h.1 0 (by omega)], h.2 7 (by decide), h.2 8 (by decide)⟩
theorem KP.cn (h : KP F G) : Cn F G := fun c hc => h.1 c (by omega)
theorem KP.rf : KP F F := ⟨fun _ _ => rfl, fun _ _ => rfl, rfl, rfl⟩
theorem KP.tr {H : MF} (h : KP F G) (k : KP G H) : KP F H := ⟨fun c a => (k.1 c a).trans (h.1 c a), fun j a => (k.2.1 j a).trans (h.2.1 j a), k.2.2.1.trans h.2.2.1, k.2.2.2.trans h.2.2.2⟩
theorem fr.kp {P : Nat → Prop} (h : fr P F G) (hP : ∀ c, P c → (9 ≤ c ∧ c ≤ 11) ∨ (69 ≤ c ∧ c ≤ 79) ∨ (84 ≤ c ∧ c ≤ 108) ∨ (110 ≤ c ∧ c ≤ 188) ∨ (195 ≤ c ∧ c ≤ 199)) : KP F G := ⟨fun c hc => h c (fun e => by have := hP c e; omega), fun j _ => by rw [h 0 (fun e => by have := hP 0 e; omega)], by rw [h 109 (fun e => by have := hP 109 e; omega)], by rw [h 109 (fun e => by have := hP 109 e; omega)]⟩
theorem KP.db (k : KP F G) (h : DB F 1 X) : DB G 1 X := by
  have hf : fr (fun c => ¬ ((1 ≤ c ∧ c ≤ 8) ∨ (12 ≤ c ∧ c ≤ 68))) F G := fun c hc => k.1 c (by omega)
  exact ⟨h.1.fr hf (fun c hc => by omega), fun id hid => by show G 8 id = _; rw [k.1 8 (by omega)]; exact h.2 id hid⟩
theorem PlC.cg (h : PlC F L) (h1 : G 109 7 = F 109 7) (h2 : ∀ c, 189 ≤ c → c ≤ 194 → G c = F c) : PlC G L := by
  obtain ⟨k1, k2, k3⟩ := h
  refine ⟨by rw [h1]; exact k1, k2, fun i hi => ?_⟩
  rw [h2 189 (by omega) (by omega), h2 190 (by omega) (by omega), h2 191 (by omega) (by omega), h2 192 (by omega) (by omega), h2 193 (by omega) (by omega), h2 194 (by omega) (by omega)]
  exact k3 i hi
theorem KC.kp (h : KC F X S N L d e) (k : KP F G) : KC G X S N L d e := by
  obtain ⟨a1, a2, a3, a4, ⟨b1, b2, b3, b4⟩, a6, a7, a8⟩ := h
  have hk := k
  obtain ⟨k1, k2, k3, k4⟩ := k
  refine ⟨?_, ?_, fun f hf i hi => by rw [k1 _ (by omega)]; exact a3 f hf i hi, fun h6 => hk.db (a4 (by rw [← k1 1 (by omega)]; exact h6)), ⟨by rw [k2 8 (by omega)]; exact b1, by rw [k1 200 (by omega)]; exact b2, b3, b4⟩, by rw [k2 9 (by omega)]; exact a6, a7.cg k3 (fun c p q => k1 c (by omega)), fun hl => by rw [k4]; exact a8 hl⟩
  · show Rws (G 3) (G 4) X
    rw [k1 3 (by omega), k1 4 (by omega)]
    exact a1
  · show Rws (G 81) (G 82) S
    rw [k1 81 (by omega), k1 82 (by omega)]
    exact a2
theorem KC.hX (h : KC F X S N L d e) : ∀ r, r < 24 → Rok (X r) := fun r hr => (h.1 r hr).2.1
/-- tokens, trees and names of now are made -/
theorem s_11k (hS : St F) (h : KC F X S N L d e) : C_11 1 F (fun F' => KC F' X S N L d e ∧ DB F' 1 X ∧ Cn F F') m_no := by
  obtain ⟨a1, a2, a3, a4, ⟨b1, b2, b3, b4⟩, a6, a7, a8⟩ := h
  refine CaV.on (s_11 (n := 1) (by decide) hS a1) ?_
  rintro F' hS' ⟨k1, k2, k3, k4⟩
  have hk : ∀ c, c ≠ 1 → ¬ (8 ≤ c ∧ c ≤ 79) → F' c = F c := fun c a b => k3 c (by omega)
  refine ⟨⟨k1.1.1, ?_, fun f hf i hi => (k1.1.2 f hf).1.2.2.1 i hi, fun _ => k1, ⟨by rw [hk 0 (by decide) (by omega)]; exact b1, by rw [hk 200 (by decide) (by omega)]; exact b2, b3, b4⟩, by rw [hk 0 (by decide) (by omega)]; exact a6, a7.cg (by rw [hk 109 (by decide) (by omega)]) (fun c p q => hk c (by omega) (by omega)), fun hl => by rw [hk 109 (by decide) (by omega)]; exact a8 hl⟩, k1, fun c hc => hk c (by omega) (by omega)⟩
  show Rws (F' 81) (F' 82) S
  rw [hk 81 (by decide) (by omega), hk 82 (by decide) (by omega)]
  exact a2
theorem s_188 (hS : St F) (h : KC F X S N L d e) : C_188 F (fun r F' => r = 1 ∧ KC F' X S N L d e ∧ DB F' 1 X ∧ Cn F F') m_no :=
  c_188 hS ⟨fun h6 => ⟨rfl, h, h.2.2.2.1 h6, Cn.rf⟩, fun _ => CaV.on (s_11k hS h) (fun F' _ k => ⟨rfl, k⟩)⟩
/-- all is made anew on the draft -/
theorem s_189 (hS : St F) (h : KC F X S N L d e) : C_189 F (fun F' => KP F F' ∧ DB F' 110 X) m_no := by
  refine c_189 hS ?_
  refine CaV.on (s_28 (n := 111) (n1 := 2) d_i2 (by decide) hS h.1) ?_
  rintro F1 hS1 ⟨u1, u2⟩
  refine CaV.on (s_11 (n := 110) (by decide) hS1 u1) ?_
  rintro F2 hS2 ⟨v1, -, v2, -⟩
  exact ⟨((u2.df (fun c hc => by omega)).tr (v2.df (fun c hc => by omega))).kp, v1⟩
theorem s_179 (hS : St F) (h1 : ∀ f : Nat, f < 3 → x1 = (f : Int) → R F) (h0 : ¬ isF3 x1 → T 0 F) : C_179 x1 F R T := by
  refine c_179 hS ⟨fun h => h0 ?_, fun h => ⟨fun h2 => h1 x1.toNat (by omega) (by omega), fun h2 => h0 ?_⟩⟩
  · rintro ⟨f, h3, rfl⟩; omega
  · rintro ⟨f, h3, rfl⟩; omega
theorem s_180 (hS : St F) (h1 : ∀ f m : Nat, f < 3 → m < 8 → x1 = (f : Int) → x2 = (m : Int) → R F) (h0 : ¬ isLn x1 x2 → T 0 F) : C_180 x1 x2 F R T := by
  refine c_180 hS ⟨fun h => h0 ?_, fun h => ⟨fun h2 => ⟨fun h3 => h0 ?_, fun h3 => ⟨fun h4 => h1 x1.toNat x2.toNat (by omega) (by omega) (by omega) (by omega), fun h4 => h0 ?_⟩⟩, fun h2 => h0 ?_⟩⟩ <;>
  · rintro ⟨f, m, h5, h6, h7, h8⟩; omega
theorem s_181 (hS : St F) (hL : LinC F 2 X) (h1 : ∀ f m q : Nat, f < 3 → m < 8 → q < (X (8 * f + m)).length → x1 = (f : Int) → x2 = (m : Int) → x3 = (q : Int) → R F) (h0 : ¬ isCh X x1 x2 x3 → T 0 F) : C_181 x1 x2 x3 F R T := by
  refine c_181 hS (s_180 hS (fun f m hf hm e1 e2 => ?_) (fun h => h0 (fun ⟨f, m, q, a, b, c, a1, a2, a3⟩ => h ⟨f, m, a, b, a1, a2⟩)))
  subst e1
  subst e2
  have er : (f : Int) * 8 + (m : Int) = ((8 * f + m : Nat) : Int) := by omega
  rw [er, q_21 hL (show 8 * f + m < 24 by omega)]
  have bad : ¬ (0 ≤ x3 ∧ x3 < ((X (8 * f + m)).length : Int)) → ¬ isCh X (f : Int) (m : Int) x3 := by
    rintro h ⟨f', m', q, a, b, c, a1, a2, a3⟩
    have e1 : f' = f := by omega
    have e2 : m' = m := by omega
    subst e1
    subst e2
    omega
  exact ⟨fun h => h0 (bad (by omega)), fun h => ⟨by omega, by omega, fun h2 => h1 f m x3.toNat hf hm (by omega) rfl rfl (by omega), fun h2 => h0 (bad (by omega))⟩⟩
/-- what a call with a token, a place, an error or a function has laid before it looks -/
theorem s_182 (hS : St F) (h : KC F X S N L d e) (h1 : ∀ (F' : MF) (f k : Nat), St F' → KC F' X S N L d e → DB F' 1 X → Cn F F' → f < 3 → k < (toks X f).length → x1 = (f : Int) → x2 = (k : Int) → R F')
    (h0 : ∀ F', St F' → KC F' X S N L d e → Cn F F' → ¬ isTk X x1 x2 → T 0 F') : C_182 x1 x2 F R T := by
  refine c_182 hS (s_179 hS (fun f hf e1 => ?_) (fun hn => h0 F hS h Cn.rf (fun ⟨f, k, a, b, c, _⟩ => hn ⟨f, a, c⟩)))
  subst e1
  have key : ∀ F', St F' → KC F' X S N L d e → DB F' 1 X → Cn F F' → ((x2 < 0 → T 0 F') ∧ (¬ (x2 < 0) → (0 ≤ (f : Int) ∧ (f : Int) < 3) ∧ ((x2 < F' (1 + (11 + 19 * (f : Int).toNat)) 8 → R F') ∧ (¬ (x2 < F' (1 + (11 + 19 * (f : Int).toNat)) 8) → T 0 F')))) := fun F' hS' hK hD hC => by
    have ec : F' (1 + (11 + 19 * f)) 8 = ((toks X f).length : Int) := (hD.1.2 f hf).1.1.1
    have bad : ¬ (0 ≤ x2 ∧ x2 < ((toks X f).length : Int)) → ¬ isTk X (f : Int) x2 := by
      rintro hb ⟨f', k', a, b, c, c2⟩
      have e1 : f' = f := by omega
      subst e1
      omega
    rw [Int.toNat_natCast, ec]
    exact ⟨fun hx => h0 F' hS' hK hC (bad (by omega)), fun hx => ⟨by omega, fun h2 => h1 F' f x2.toNat hS' hK hD hC hf (by omega) rfl (by omega), fun h2 => h0 F' hS' hK hC (bad (by omega))⟩⟩
  exact ⟨fun h6 => key F hS h (h.2.2.2.1 h6) Cn.rf, fun _ => CaV.on (s_11k hS h) (fun F' hS' k => key F' hS' k.1 k.2.1 k.2.2)⟩
theorem db_tree (h : DB F 1 X) (hf : f < 3) : TreeC F (1 + (20 + 19 * f)) (Cw X f) (Ew X f) (Fw X f) (Uw X f) := (h.1.2 f hf).2
theorem s_185 (hS : St F) (h : KC F X S N L d e) (h1 : ∀ (F' : MF) (f k : Nat), St F' → KC F' X S N L d e → DB F' 1 X → Cn F F' → f < 3 → k < (Fw X f).length → x1 = (f : Int) → x2 = (k : Int) → R F')
    (h0 : ∀ F', St F' → KC F' X S N L d e → Cn F F' → ¬ isFu X x1 x2 → T 0 F') : C_185 x1 x2 F R T := by
  refine c_185 hS (s_179 hS (fun f hf e1 => ?_) (fun hn => h0 F hS h Cn.rf (fun ⟨f, k, a, b, c, _⟩ => hn ⟨f, a, c⟩)))
  subst e1
  have key : ∀ F', St F' → KC F' X S N L d e → DB F' 1 X → Cn F F' → ((x2 < 0 → T 0 F') ∧ (¬ (x2 < 0) → (0 ≤ (f : Int) ∧ (f : Int) < 3) ∧ ((x2 < F' (1 + (20 + 19 * (f : Int).toNat)) 10 → R F') ∧ (¬ (x2 < F' (1 + (20 + 19 * (f : Int).toNat)) 10) → T 0 F')))) := fun F' hS' hK hD hC => by
    have ec := (db_tree hD hf).2.2.1.1
    have bad : ¬ (0 ≤ x2 ∧ x2 < ((Fw X f).length : Int)) → ¬ isFu X (f : Int) x2 := by
      rintro hb ⟨f', k', a, b, c, c2⟩
      have e1 : f' = f := by omega
      subst e1
      omega
    rw [Int.toNat_natCast, ec]
    exact ⟨fun hx => h0 F' hS' hK hC (bad (by omega)), fun hx => ⟨by omega, fun h2 => h1 F' f x2.toNat hS' hK hD hC hf (by omega) rfl (by omega), fun h2 => h0 F' hS' hK hC (bad (by omega))⟩⟩
  exact ⟨fun h6 => key F hS h (h.2.2.2.1 h6) Cn.rf, fun _ => CaV.on (s_11k hS h) (fun F' hS' k => key F' hS' k.1 k.2.1 k.2.2)⟩
end Mn0
