/-! ITEMS, FORWARD; NAMES LOOKED UP BY THE REFERENCE -/
/-- an item: its node, its kind, its token, how many parameters, its block, its words -/
abbrev IT : Type := Nat × Nat × Nat × Nat × Nat × List Int
def ItP (F : MF) (K : List Int) (c lo hi : Nat) (it : IT) : Prop := it.1 < 1600 ∧ ((it.2.1 = 1 ∧ F 221 it.1 = 1 ∧ F 222 it.1 = (it.2.2.1 : Int) ∧ it.2.2.2.2.2 = [mk 1 it.2.2.1 0]) ∨
  (it.2.1 = 2 ∧ F 221 it.1 = 2 ∧ F 222 it.1 = (it.2.2.1 : Int) ∧ PM F it.1 it.2.2.1 it.2.2.2.1 ∧ F 225 it.1 = (it.2.2.2.2.1 : Int) ∧ F 226 it.2.2.2.2.1 = (it.1 : Int) ∧ F 229 it.2.2.2.2.1 = -1 ∧
    ∃ W1 : List Int, Bk (Sme F K) F (it.1 + 1 + it.2.2.2.1) hi (c + 1) it.2.2.2.2.1 W1 ∧ it.2.2.2.2.2 = mk 2 it.2.2.1 it.2.2.2.1 :: (W1 ++ [mk 5 0 0]))) ∧ lo ≤ it.1 ∧ it.1 < hi ∧ hi ≤ 1590
def ItC (F : MF) (K : List Int) (top : Nat) : Int → Nat → Nat → List IT → Int → Prop
  | x, _, lo, [], z => x = z ∧ lo ≤ top
  | x, c, lo, it :: r, z => x = (it.1 : Int) ∧ ∃ hi, ItP F K c lo hi it ∧ ItC F K top (F 227 it.1) (c + it.2.2.2.2.2.length) hi r z
def fnsO (F : MF) : Nat → List IT → FF
  | _, [] => []
  | c, it :: r => (if it.2.1 = 2 then [((it.2.2.1 : Int), (it.2.2.2.1 : Int), (c : Int), F 228 it.2.2.2.2.1)] else []) ++ fnsO F (c + it.2.2.2.2.2.length) r
def useO : List IT → List Int
  | [] => []
  | it :: r => (if it.2.1 = 1 then [(it.2.2.1 : Int)] else []) ++ useO r
def wrdO : List IT → List Int
  | [] => []
  | it :: r => it.2.2.2.2.2 ++ wrdO r
/-- the items of a file -/
def ITs (F : MF) (X : Nat → List Int) (f a b : Nat) (I : List IT) : Prop := ItC F (ks X f) b (F 245 f) 0 a I (-1) ∧ fnsO F 0 I = Fw X f ∧ useO I = Uw X f ∧ wrdO I = Cw X f
section M9s
variable {F G : MF} {K : List Int} {X : Nat → List Int} {f g k : Nat}
theorem ItC.snoc {top hi : Nat} : ∀ (I : List IT) (x z w : Int) (c lo m : Nat) (it : IT), ItC F K m x c lo I (it.1 : Int) → ItP F K (c + (wrdO I).length) m hi it → hi ≤ top → F 227 it.1 = w → ItC F K top x c lo (I ++ [it]) w
  | [], x, z, w, c, lo, m, it, h, h2, ht, h3 => ⟨h.1, hi, ⟨h2.1, h2.2.1, Nat.le_trans h.2 h2.2.2.1, h2.2.2.2⟩, h3, ht⟩
  | a :: I, x, z, w, c, lo, m, it, h, h2, ht, h3 => by
    obtain ⟨k1, hi', k2, k3⟩ := h
    refine ⟨k1, hi', k2, ItC.snoc I _ z w _ _ m it k3 ?_ ht h3⟩
    have e : (wrdO (a :: I)).length = a.2.2.2.2.2.length + (wrdO I).length := by show (a.2.2.2.2.2 ++ wrdO I).length = _; rw [List.length_append]
    rw [e, ← Nat.add_assoc] at h2
    exact h2
theorem fnsO_app : ∀ (I J : List IT) (c : Nat), fnsO F c (I ++ J) = fnsO F c I ++ fnsO F (c + (wrdO I).length) J
  | [], J, c => rfl
  | a :: I, J, c => by
    show _ ++ fnsO F _ (I ++ J) = (_ ++ fnsO F _ I) ++ fnsO F (c + (a.2.2.2.2.2 ++ wrdO I).length) J
    rw [fnsO_app I J, List.append_assoc, List.length_append, Nat.add_assoc]
theorem useO_app : ∀ (I J : List IT), useO (I ++ J) = useO I ++ useO J
  | [], J => rfl
  | a :: I, J => by show _ ++ useO (I ++ J) = _ ++ useO I ++ useO J; rw [useO_app I J, List.append_assoc]
theorem wrdO_app : ∀ (I J : List IT), wrdO (I ++ J) = wrdO I ++ wrdO J
  | [], J => rfl
  | a :: I, J => by show _ ++ wrdO (I ++ J) = _ ++ wrdO I ++ wrdO J; rw [wrdO_app I J, List.append_assoc]
theorem IL.its {n0 : Nat} : ∀ (k hi : Nat) (x y : Int) (C : List Int) (Fn : FF) (U : List Int), IL F K n0 k hi x y C Fn U → hi ≤ 1590 → ∃ I : List IT, (∀ v z : Int, (if k = 0 then z = v else z = x ∧ F 227 y.toNat = v) → ItC F K hi z 0 n0 I v) ∧ fnsO F 0 I = Fn ∧ useO I = U ∧ wrdO I = C := by
  intro k
  induction k with
  | zero => rintro hi x y C Fn U ⟨h1, h2, h3, rfl, rfl, rfl⟩ _; exact ⟨[], fun v z h => ⟨h, h1⟩, rfl, rfl, rfl⟩
  | succ k ih =>
    rintro hi x y C Fn U ⟨m, v, x', y', C', W, Fn', U', h1, rfl, rfl, h4, h5, h6, h7⟩ hh
    obtain ⟨I, a1, a2, a3, a4⟩ := ih _ _ _ _ _ _ h1 (by omega)
    have ch : ItC F K m x 0 n0 I (v : Int) := a1 (v : Int) x (by
      by_cases e : k = 0
      · rw [if_pos e] at h6 ⊢; exact h6
      · rw [if_neg e] at h6 ⊢; exact h6)
    have c0 : 0 + (wrdO I).length = C'.length := by rw [a4]; omega
    rcases h7 with ⟨p, e1, e2, rfl, rfl, rfl⟩ | ⟨p, n, b, W1, e1, e2, e3, e4, e5, e6, e7, rfl, rfl, rfl⟩
    · refine ⟨I ++ [(v, 1, p, 0, 0, [mk 1 p 0])], fun w z hz => ?_, ?_, ?_, by rw [wrdO_app, a4]; rfl⟩
      · rw [if_neg (by omega), Int.toNat_natCast] at hz
        rw [hz.1]
        exact ItC.snoc (hi := hi) I x z w 0 n0 m (v, 1, p, 0, 0, [mk 1 p 0]) ch ⟨by show v < 1600; omega, Or.inl ⟨rfl, e1, e2, rfl⟩, h4, h5, hh⟩ (Nat.le_refl _) hz.2
      · rw [fnsO_app, a2]
        show Fn ++ ((if (1 : Nat) = 2 then _ else []) ++ []) = Fn
        rw [if_neg (by decide), List.append_nil, List.append_nil]
      · rw [useO_app, a3]
        show _ ++ ((if (1 : Nat) = 1 then _ else []) ++ []) = _
        rw [if_pos rfl, List.append_nil]
    · have g := e7.rng Sme.rng
      refine ⟨I ++ [(v, 2, p, n, b, mk 2 p n :: (W1 ++ [mk 5 0 0]))], fun w z hz => ?_, ?_, ?_, by rw [wrdO_app, a4]; show C' ++ (_ ++ []) = _; rw [List.append_nil]⟩
      · rw [if_neg (by omega), Int.toNat_natCast] at hz
        rw [hz.1]
        exact ItC.snoc (hi := hi) I x z w 0 n0 m _ ch ⟨by show v < 1600; omega, Or.inr ⟨rfl, e1, e2, e3, e4, e5, e6, W1, by rw [c0]; exact e7, rfl⟩, h4, h5, hh⟩ (Nat.le_refl _) hz.2
      · rw [fnsO_app, a2, c0]
        show Fn' ++ ((if (2 : Nat) = 2 then _ else []) ++ []) = _
        rw [if_pos rfl, List.append_nil]
      · rw [useO_app, a3]
        show U ++ ((if (2 : Nat) = 1 then _ else []) ++ []) = U
        rw [if_neg (by decide), List.append_nil, List.append_nil]
theorem MT.its {n N : Nat} (h : MT F X f n N) (hN : N ≤ 1590) : ∃ I, ITs F X f n N I := by
  obtain ⟨-, ⟨k, y, h1, h2⟩, -⟩ := h
  have r := IL.rng _ _ _ _ _ _ _ h1
  obtain ⟨I, a1, a2⟩ := IL.its _ _ _ _ _ _ _ h1 hN
  refine ⟨I, a1 _ _ ?_, a2⟩
  by_cases e : k = 0
  · rw [if_pos e]; omega
  · rw [if_neg e]; exact ⟨rfl, h2 (by omega)⟩
theorem RA.cong {nn : Nat → Nat} (h : RA F X nn) (h1 : ∀ c, c ≠ 201 → (c < 220 ∨ 221 ≤ c ∧ c ≤ 229 ∨ 245 ≤ c ∧ c ≤ 249) → G c = F c) (h2 : G 201 27 = F 201 27) (hX : ∀ r, r < 24 → Rok (X r)) : RA G X nn := by
  obtain ⟨a1, a2, a3, a4, a5, a6⟩ := h
  refine ⟨a1.cong (fun k hk => by rw [h1 202 (by decide) (by omega)]) (fun k hk => by rw [h1 203 (by decide) (by omega)]), fun f hf => ?_, a3, a4, fun f hf => ?_, h2.trans a6⟩
  · have := a2 f hf
    unfold LexM TokM at this ⊢
    rw [h1 213 (by decide) (by omega), h1 214 (by decide) (by omega), h1 215 (by decide) (by omega), h1 216 (by decide) (by omega), h1 217 (by decide) (by omega), h1 218 (by decide) (by omega), h1 219 (by decide) (by omega)]
    exact this
  · exact (a5 f hf).cong (fun c i x y _ => by rw [h1 c (by omega) (by omega)]) (by rw [h1 245 (by decide) (by omega)]) (by rw [h1 246 (by decide) (by omega)]) (fun c i x y _ _ => by rw [h1 c (by omega) (by omega)]) (by have := Ew_len hX hf; omega)
theorem RA.hX {nn : Nat → Nat} (h : RA F X nn) : ∀ r, r < 24 → Rok (X r) := fun r hr => (h.1 r hr).2.1
theorem RA.nle {nn : Nat → Nat} (h : RA F X nn) : ∀ f, f ≤ 3 → nn f ≤ 1152 := by
  obtain ⟨-, -, a3, a4, a5, -⟩ := h
  intro f hf
  have e0 := (a5 0 (by decide)).1
  have e1 := (a5 1 (by decide)).1
  have e2 := (a5 2 (by decide)).1
  change nn 0 ≤ nn 1 at e0
  change nn 1 ≤ nn 2 at e1
  change nn 2 ≤ nn 3 at e2
  match f, hf with
  | 0, _ => omega
  | 1, _ => omega
  | 2, _ => omega
  | 3, _ => omega
theorem RA.its {nn : Nat → Nat} (h : RA F X nn) (hf : f < 3) : ∃ I, ITs F X f (nn f) (nn (f + 1)) I := (h.2.2.2.2.1 f hf).its (by have := h.nle (f + 1) (by omega); omega)
/-- tokens of items -/
theorem it_fn (hX : ∀ r, r < 24 → Rok (X r)) (hf : f < 3) : ∀ (I : List IT) (c : Nat), (∀ e ∈ fnsO F c I, e ∈ Fw X f) → ∀ it ∈ I, it.2.1 = 2 → it.2.2.1 < 256 ∧ ∀ j, j ≤ it.2.2.2.1 → kn (ks X f) (it.2.2.1 + 2 * j) = 0
  | [], _, _, it, h, _ => absurd h (List.not_mem_nil)
  | a :: I, c, hh, it, h, h2 => by
    rcases List.mem_cons.mp h with h | h
    · subst h
      obtain ⟨p, n, i, e0, e1, e2, -, -, -, e6⟩ := Fw_tok hX hf (hh ((it.2.2.1 : Int), (it.2.2.2.1 : Int), (c : Int), F 228 it.2.2.2.2.1) (List.mem_append_left _ (by rw [if_pos h2]; exact List.mem_singleton.mpr rfl)))
      have e1' : it.2.2.1 = p := by have : (it.2.2.1 : Int) = (p : Int) := e1; omega
      have e2' : it.2.2.2.1 = n := by have : (it.2.2.2.1 : Int) = (n : Int) := e2; omega
      rw [e1', e2']
      exact ⟨e0, e6⟩
    · exact it_fn hX hf I _ (fun e he => hh e (List.mem_append_right _ he)) it h h2
theorem s_253 {nn : Nat → Nat} (hS : St F) (hR : RA F X nn) (hg : g < 3) (hf : f < 3) (hk : k < (toks X f).length) : C_253 (g : Int) ((200 * f + k : Nat) : Int) F (fun r F' => r = fnI X g f k ∧ F' = F) m_no := by
  have hX := hR.hX
  obtain ⟨I, i1, i2, i3, i4⟩ := hR.its hg
  have lg := toks_len hX hg
  have key : ∀ (I : List IT) (c lo : Nat) (x : Int), ItC F (ks X g) (nn (g + 1)) x c lo I (-1) → (∀ e ∈ fnsO F c I, e ∈ Fw X g) → L_253_7 (g : Int) ((200 * f + k : Nat) : Int) x F (fun r F' => r = ffn X g f k (fnsO F c I) ∧ F' = F) m_no := by
    intro I
    induction I with
    | nil =>
      intro c lo x hx _
      exact b_253_7 hS ⟨fun _ => ⟨rfl, rfl⟩, fun h => absurd hx.1 h⟩
    | cons it I ih =>
      rintro c lo x ⟨rfl, hi, ⟨h1, h2, -⟩, h3⟩ hm
      have hm2 : ∀ e ∈ fnsO F (c + it.2.2.2.2.2.length) I, e ∈ Fw X g := fun e he => hm e (List.mem_append_right _ he)
      have nx := ih _ _ _ h3 hm2
      refine b_253_7 hS ⟨fun h => by omega, fun _ => ?_⟩
      rw [Int.toNat_natCast]
      refine ⟨by omega, fun e2 => ?_, fun e2 => ⟨by omega, ?_⟩⟩
      · have hk2 : it.2.1 = 2 := by
          rcases h2 with h2 | h2
          · rw [h2.2.1] at e2; exact absurd e2 (by decide)
          · exact h2.1
        have h22 : F 222 it.1 = (it.2.2.1 : Int) := by
          rcases h2 with h2 | h2
          · exact h2.2.2.1
          · exact h2.2.2.1
        have ht := it_fn (F := F) hX hg (it :: I) c hm it (List.mem_cons_self) hk2
        have hp : it.2.2.1 < (toks X g).length := kn_tok (by have := ht.2 0 (Nat.zero_le _); rw [show it.2.2.1 + 2 * 0 = it.2.2.1 by omega] at this; rw [this]; decide)
        have ef : fnsO F c (it :: I) = ((it.2.2.1 : Int), (it.2.2.2.1 : Int), (c : Int), F 228 it.2.2.2.2.1) :: fnsO F (c + it.2.2.2.2.2.length) I := by
          show (if it.2.1 = 2 then _ else _) ++ _ = _
          rw [if_pos hk2]
          rfl
        rw [ef, h22, show 200 * (g : Int) + (it.2.2.1 : Int) = ((200 * g + it.2.2.1 : Nat) : Int) by omega]
        refine ⟨by omega, by omega, by omega, ?_⟩
        refine CaI.on (s_220 hS hR.1 hX hR.2.1 hg hf hp hk) ?_
        rintro r F1 hS1 ⟨rfl, rfl⟩
        have st : ffn X g f k (((it.2.2.1 : Int), (it.2.2.2.1 : Int), (c : Int), F1 228 it.2.2.2.2.1) :: fnsO F1 (c + it.2.2.2.2.2.length) I) = if tx X f k = tx X g it.2.2.1 then ((200 * g + it.2.2.1 : Nat) : Int) else ffn X g f k (fnsO F1 (c + it.2.2.2.2.2.length) I) := by
          show (if tx X f k = tx X g (it.2.2.1 : Int).toNat then 200 * (g : Int) + (it.2.2.1 : Int) else _) = _
          rw [Int.toNat_natCast, show 200 * (g : Int) + (it.2.2.1 : Int) = ((200 * g + it.2.2.1 : Nat) : Int) by omega]
        rw [st]
        refine ⟨fun h => ⟨by omega, ?_⟩, fun h => ⟨by omega, by omega, by rw [h22]; omega, ?_, rfl⟩⟩
        · rw [if_neg (fun e => (of_decide_eq_false (bi0.mp h)) e.symm)]
          exact nx
        · rw [h22, if_pos (Decidable.of_not_not (fun e => h (by rw [decide_eq_false (fun e2 => e e2.symm)]; rfl)))]
          omega
      · have hk2 : it.2.1 ≠ 2 := by
          rcases h2 with h2 | h2
          · rw [h2.1]; decide
          · exact absurd h2.2.1 e2
        have ef : fnsO F c (it :: I) = fnsO F (c + it.2.2.2.2.2.length) I := by
          show (if it.2.1 = 2 then _ else _) ++ _ = _
          rw [if_neg hk2]
          rfl
        rw [ef]
        exact nx
  refine c_253 hS ⟨by omega, ?_⟩
  rw [Int.toNat_natCast]
  have := key I 0 _ _ i1 (fun e he => by rw [i2] at he; exact he)
  rw [i2] at this
  unfold fnI
  rw [if_pos ⟨by omega, by omega⟩, Int.toNat_natCast]
  exact this
end M9s
