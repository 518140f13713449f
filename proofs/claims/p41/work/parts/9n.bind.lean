/-! NAMES, AS THEY ARE BOUND; BINDING OF THE CLASS -/
def ffn (X : Nat → List Int) (g f k : Nat) : FF → Int
  | [] => -1
  | e :: L => if tx X f k = tx X g e.1.toNat then 200 * (g : Int) + e.1 else ffn X g f k L
def uf (X : Nat → List Int) (f u : Nat) : Int := if ts X f u = 1 then (if chr X f u 0 - 97 < 3 then chr X f u 0 - 97 else -1) else -1
def fnI (X : Nat → List Int) (g : Int) (f k : Nat) : Int := if 0 ≤ g ∧ g < 3 then ffn X g.toNat f k (Fw X g.toNat) else -1
def fnU (X : Nat → List Int) (f k : Nat) : List Int → Int
  | [] => -1
  | u :: L => if fnI X (uf X f u.toNat) f k = -1 then fnU X f k L else fnI X (uf X f u.toNat) f k
def fnF (X : Nat → List Int) (f k : Nat) : Int := if fnI X f f k = -1 then fnU X f k (Uw X f) else fnI X f f k
def sat (C : List Int) : Nat → SS
  | 0 => ss0
  | i + 1 => sstep (sat C i) (gx C i)
def bval (X : Nat → List Int) (f : Nat) (s : SS) (w : Int) (id : Nat) : Int :=
  if wo w = 15 then fnF X f (wt w).toNat else if wo w = 8 ∨ wo w = 14 then (if fst' X f (wt w).toNat (cand s) = -1 then -1 else 200 * (f : Int) + fst' X f (wt w).toNat (cand s)) else (id : Int)
def bset (X : Nat → List Int) (f : Nat) (w t : Int) : Prop := tin t w ∧ (wo w = 14 → kn (ks X f) (wt w).toNat = 0)
noncomputable def bwd (X : Nat → List Int) (f : Nat) (s : SS) (w : Int) (B : Nat → Int) : Nat → Int := fun id => @ite Int (bset X f w ((id : Int) - 200 * (f : Int))) (Classical.propDecidable _) (bval X f s w id) (B id)
noncomputable def bat (X : Nat → List Int) (f : Nat) (B : Nat → Int) : Nat → Nat → Int
  | 0 => B
  | i + 1 => bwd X f (sat (Cw X f) (i + 1)) (gx (Cw X f) i) (bat X f B i)
/-- what all tokens are bound to -/
noncomputable def bnd (X : Nat → List Int) : Nat → Int := bat X 2 (bat X 1 (bat X 0 (fun _ => -1) (Cw X 0).length) (Cw X 1).length) (Cw X 2).length
def DTT (F : MF) (n : Nat) (X : Nat → List Int) : Prop := LinC F (n + 1) X ∧ GTC F n 3 X
section M9n
variable {F : MF} {X : Nat → List Int} {f g k n : Nat} {s : SS} {w : Int}
theorem DTT.dt (h : DTT F n X) : DT F n X := ⟨h.1, fun f hf => (h.2 f hf).1⟩
theorem DTT.fr {F' : MF} {P : Nat → Prop} (h : DTT F n X) (hf : fr P F F') (hP : ∀ c, P c → c < n + 1 ∨ (n + 3 < c ∧ c < n + 11) ∨ n + 68 ≤ c) : DTT F' n X := by
  refine ⟨h.1.fr hf (fun e => by have := hP _ e; omega) (fun e => by have := hP _ e; omega), fun f hf3 => ⟨(h.2 f hf3).1.fr hf (fun c h1 h2 e => by have := hP _ e; omega), (h.2 f hf3).2.fr hf (fun c h1 h2 e => by have := hP _ e; omega)⟩⟩
theorem ge_map {E : FF} {g : Int × Int × Int × Int → Int} {i : Nat} (h : i < E.length) : gx (E.map g) i = g (E[i]'h) := by
  unfold gx
  rw [List.getD_eq_getElem?_getD, List.getElem?_map, List.getElem?_eq_getElem h]
  rfl
theorem s_15 {x : Int} (hn : n ∈ m_I1) (hS : St F) (hX : ∀ r, r < 24 → Rok (X r)) (hD : DTT F n X) (hf : f < 3) (hk : k < (toks X f).length) (hF : ∀ f, f < 3 → (Fw X f).length ≤ 40) :
    C_15 n x ((200 * f + k : Nat) : Int) F (fun r F' => r = fnI X x f k ∧ F' = F) m_no := by
  refine c_15 hn hS ?_
  unfold fnI
  refine ⟨fun h => ?_, fun h0 => ⟨fun h3 => ⟨by omega, ?_⟩, fun h => ?_⟩⟩
  · rw [if_neg (by omega)]; exact ⟨rfl, rfl⟩
  · rw [if_pos (by omega)]
    obtain ⟨g, rfl⟩ : ∃ g : Nat, x = (g : Int) := ⟨x.toNat, by omega⟩
    rw [Int.toNat_natCast]
    have hg : g < 3 := by omega
    have hT := (hD.2 g hg).2
    have hl := hF g hg
    have hc : F (n + (20 + 19 * g)) 10 = ((Fw X g).length : Int) := hT.2.2.1.1
    have ha : AL (F (n + (20 + 19 * g) + 5)) ((Fw X g).map (fun e => e.1)) := hT.2.2.1.2.1
    have i9 := i9_of hn hg
    have key : ∀ (d i : Nat), i + d = (Fw X g).length → L_15_21 n (g : Int) ((200 * f + k : Nat) : Int) (n + (20 + 19 * g)) (i : Int) F (fun r F' => r = ffn X g f k ((Fw X g).drop i) ∧ F' = F) m_no := by
      intro d
      induction d with
      | zero =>
        intro i hi
        refine b_15_21 hn i9 hS ?_
        rw [hc]
        refine ⟨fun h => by omega, fun _ => ⟨?_, rfl⟩⟩
        rw [List.drop_eq_nil_of_le (by omega)]
        rfl
      | succ d ih =>
        intro i hi
        have hi2 : i < (Fw X g).length := by omega
        have hv := ha i (by rw [List.length_map]; exact hi2)
        rw [ge_map hi2] at hv
        obtain ⟨p, m, j, e0, e1, -, -, -, -, e6⟩ := Fw_tok hX hg (List.getElem_mem hi2)
        have hp : p < (toks X g).length := by
          have := kn_lt (K := ks X g) (i := p) (by have := e6 0 (Nat.zero_le _); rw [show p + 2 * 0 = p by omega] at this; rw [this]; decide)
          rwa [ks_len'] at this
        rw [List.drop_eq_getElem_cons hi2]
        refine b_15_21 hn i9 hS ?_
        rw [hc, Int.toNat_natCast, hv, e1, show (g : Int) * 200 + (p : Int) = ((200 * g + p : Nat) : Int) by omega]
        have lg := toks_len hX hg
        refine ⟨fun _ => ⟨by omega, by omega, by omega, ?_⟩, fun h => by omega⟩
        refine CaI.on (s_17 hn hS hX hD.1 (fun f hf => (hD.2 f hf).1) hf hg hk hp) ?_
        rintro r F1 hS1 ⟨rfl, rfl⟩
        have st : ffn X g f k ((Fw X g)[i] :: (Fw X g).drop (i + 1)) = if tx X f k = tx X g p then ((200 * g + p : Nat) : Int) else ffn X g f k ((Fw X g).drop (i + 1)) := by
          show (if tx X f k = tx X g ((Fw X g)[i]).1.toNat then 200 * (g : Int) + ((Fw X g)[i]).1 else _) = _
          rw [e1, Int.toNat_natCast, show 200 * (g : Int) + (p : Int) = ((200 * g + p : Nat) : Int) by omega]
        rw [st]
        refine ⟨fun h => ⟨by omega, ?_⟩, fun h => ⟨?_, rfl⟩⟩
        · rw [if_neg (of_decide_eq_false (bi0.mp h)), show (i : Int) + 1 = ((i + 1 : Nat) : Int) by omega]
          exact ih (i + 1) (by omega)
        · rw [if_pos (Decidable.of_not_not (fun e => h (by rw [decide_eq_false e]; rfl)))]
    exact key (Fw X g).length 0 (by omega)
  · rw [if_neg (by omega)]; exact ⟨rfl, rfl⟩
theorem s_16 {u : Nat} (hn : n ∈ m_I1) (hS : St F) (hX : ∀ r, r < 24 → Rok (X r)) (hD : DTT F n X) (hf : f < 3) (hu : kn (ks X f) u = 0) : C_16 n (f : Int) (u : Int) F (fun r F' => r = uf X f u ∧ F' = F) m_no := by
  obtain ⟨hk, hl1, hl2⟩ := name_let hu
  have lk := toks_len hX hf
  have t := gac_tok (hD.2 f hf).1 hk
  have o := toks_ok hk
  have hc : F (n + (11 + 19 * f)) 8 = ((toks X f).length : Int) := (hD.2 f hf).1.1.1
  have g104 : g_104 F (n + (11 + 19 * f)) (u : Int) = 0 := by
    unfold g_104
    rw [if_neg (by omega), hc, if_pos (by omega), Int.toNat_natCast, t.1, hu]
  have o104 : o_104 F (n + (11 + 19 * f)) (u : Int) := ⟨fun _ => trivial, fun _ => ⟨fun _ => ⟨by omega, trivial⟩, fun _ => trivial⟩⟩
  refine c_16 hn hS ?_
  rw [Int.toNat_natCast, Int.toNat_natCast, g104, t.2.2.2, t.2.1, t.2.2.1]
  unfold uf
  refine ⟨by omega, o104, fun _ => ⟨by omega, fun e1 => ?_, fun e1 => ⟨?_, rfl⟩⟩, fun h => absurd rfl h⟩
  · have es : ts X f u = 1 := by omega
    have q := q_22t hD.1 hX hf hk (i := 0) (by omega)
    rw [show (f : Int) * 8 + (tl X f u : Int) = ((8 * f + tl X f u : Nat) : Int) by omega]
    change g_22 F (n + 1) ((8 * f + tl X f u : Nat) : Int) ((tc X f u : Nat) : Int) = chr X f u 0 ∧ o_22 F (n + 1) ((8 * f + tl X f u : Nat) : Int) ((tc X f u : Nat) : Int) at q
    rw [q.1, if_pos es]
    refine ⟨by omega, by omega, by omega, by omega, q.2, by omega, fun h => ⟨?_, rfl⟩, fun h => ⟨?_, rfl⟩⟩
    · rw [if_pos h]
    · rw [if_neg h]
  · rw [if_neg (by omega)]
theorem s_14 (hn : n ∈ m_I1) (hS : St F) (hX : ∀ r, r < 24 → Rok (X r)) (hD : DTT F n X) (hf : f < 3) (hk : k < (toks X f).length) (hF : ∀ f, f < 3 → (Fw X f).length ≤ 40) (hU : (Uw X f).length ≤ 40) :
    C_14 n (f : Int) ((200 * f + k : Nat) : Int) F (fun r F' => r = fnF X f k ∧ F' = F) m_no := by
  have hT := (hD.2 f hf).2
  have i9 := i9_of hn hf
  have hc : F (n + (20 + 19 * f)) 12 = ((Uw X f).length : Int) := hT.2.2.2.1
  have ha : AL (F (n + (20 + 19 * f) + 9)) (Uw X f) := hT.2.2.2.2
  have hU2 := (Cw_pv hX hf).1.2.2
  have stop : ∀ (r : Int) (i : Nat), r ≠ -1 → L_14_18 n (f : Int) ((200 * f + k : Nat) : Int) r (n + (20 + 19 * f)) (i : Int) F (fun r' F' => r' = r ∧ F' = F) m_no := fun r i hr =>
    b_14_18 hn i9 hS ⟨fun h => absurd h hr, fun _ => ⟨rfl, rfl⟩⟩
  have key : ∀ (d i : Nat), i + d = (Uw X f).length → L_14_18 n (f : Int) ((200 * f + k : Nat) : Int) (-1) (n + (20 + 19 * f)) (i : Int) F (fun r F' => r = fnU X f k ((Uw X f).drop i) ∧ F' = F) m_no := by
    intro d
    induction d with
    | zero =>
      intro i hi
      refine b_14_18 hn i9 hS ⟨fun _ => ?_, fun h => absurd rfl h⟩
      rw [hc]
      refine ⟨fun h => by omega, fun _ => ⟨?_, rfl⟩⟩
      rw [List.drop_eq_nil_of_le (by omega)]
      rfl
    | succ d ih =>
      intro i hi
      have hi2 : i < (Uw X f).length := by omega
      obtain ⟨u, e1, e2, e3⟩ := hU2 _ (gx_mem hi2)
      refine b_14_18 hn i9 hS ⟨fun _ => ?_, fun h => absurd rfl h⟩
      rw [hc, Int.toNat_natCast, ha i hi2]
      change gx (Uw X f) i = (u : Int) at e1
      rw [e1]
      refine ⟨fun _ => ⟨by omega, ?_⟩, fun h => by omega⟩
      refine CaI.on (s_16 hn hS hX hD hf e3) ?_
      rintro r F1 hS1 ⟨rfl, rfl⟩
      refine CaI.on (s_15 hn hS1 hX hD hf hk hF) ?_
      rintro r F2 hS2 ⟨rfl, rfl⟩
      refine ⟨by omega, ?_⟩
      rw [drop_cons hi2, e1]
      have st : fnU X f k ((u : Int) :: (Uw X f).drop (i + 1)) = if fnI X (uf X f u) f k = -1 then fnU X f k ((Uw X f).drop (i + 1)) else fnI X (uf X f u) f k := rfl
      rw [st, show (i : Int) + 1 = ((i + 1 : Nat) : Int) by omega]
      by_cases e : fnI X (uf X f u) f k = -1
      · rw [if_pos e, e]
        exact ih (i + 1) (by omega)
      · rw [if_neg e]
        exact stop _ (i + 1) e
  refine c_14 hn hS ?_
  refine CaI.on (s_15 hn hS hX hD hf hk hF) ?_
  rintro r F1 hS1 ⟨rfl, rfl⟩
  rw [Int.toNat_natCast]
  refine ⟨by omega, ?_⟩
  unfold fnF
  by_cases e : fnI X f f k = -1
  · rw [if_pos e, e]
    exact key (Uw X f).length 0 (by omega)
  · rw [if_neg e]
    exact stop _ 0 e
theorem ffn_rng (hX : ∀ r, r < 24 → Rok (X r)) (hg : g < 3) {L : FF} (hL : ∀ e ∈ L, e ∈ Fw X g) : ffn X g f k L = -1 ∨ ∃ p : Nat, ffn X g f k L = ((200 * g + p : Nat) : Int) ∧ p < (toks X g).length ∧ ∃ e ∈ L, e.1 = (p : Int) := by
  induction L with
  | nil => exact Or.inl rfl
  | cons e L ih =>
    show (if tx X f k = tx X g e.1.toNat then 200 * (g : Int) + e.1 else ffn X g f k L) = -1 ∨ ∃ p : Nat, (if tx X f k = tx X g e.1.toNat then 200 * (g : Int) + e.1 else ffn X g f k L) = _ ∧ _
    split
    · obtain ⟨p, m, j, e0, e1, -, -, -, -, e6⟩ := Fw_tok hX hg (hL e (List.mem_cons_self))
      have hp : p < (toks X g).length := by
        have := kn_lt (K := ks X g) (i := p) (by have := e6 0 (Nat.zero_le _); rw [show p + 2 * 0 = p by omega] at this; rw [this]; decide)
        rwa [ks_len'] at this
      exact Or.inr ⟨p, by rw [e1]; omega, hp, e, List.mem_cons_self, e1⟩
    · rcases ih (fun e he => hL e (List.mem_cons_of_mem _ he)) with h | ⟨p, h1, h2, e', h3, h4⟩
      · exact Or.inl h
      · exact Or.inr ⟨p, h1, h2, e', List.mem_cons_of_mem _ h3, h4⟩
/-- a function is found -/
def isFn (X : Nat → List Int) (v : Int) : Prop := ∃ g p : Nat, g < 3 ∧ v = ((200 * g + p : Nat) : Int) ∧ p < (toks X g).length ∧ ∃ e ∈ Fw X g, e.1 = (p : Int)
theorem fnI_rng {x : Int} (hX : ∀ r, r < 24 → Rok (X r)) : fnI X x f k = -1 ∨ isFn X (fnI X x f k) := by
  unfold fnI
  split
  · next h =>
    rcases ffn_rng (f := f) (k := k) hX (g := x.toNat) (by omega) (L := Fw X x.toNat) (fun e h => h) with h1 | ⟨p, h1, h2, h3⟩
    · exact Or.inl h1
    · exact Or.inr ⟨x.toNat, p, by omega, h1, h2, h3⟩
  · exact Or.inl rfl
theorem fnF_rng (hX : ∀ r, r < 24 → Rok (X r)) : fnF X f k = -1 ∨ isFn X (fnF X f k) := by
  have hU : ∀ L, fnU X f k L = -1 ∨ isFn X (fnU X f k L) := by
    intro L
    induction L with
    | nil => exact Or.inl rfl
    | cons u L ih =>
      show (if fnI X (uf X f u.toNat) f k = -1 then fnU X f k L else fnI X (uf X f u.toNat) f k) = -1 ∨ isFn X (if fnI X (uf X f u.toNat) f k = -1 then fnU X f k L else fnI X (uf X f u.toNat) f k)
      split
      · exact ih
      · exact fnI_rng hX
  unfold fnF
  split
  · exact hU _
  · exact fnI_rng hX
end M9n
section M9n2
variable {F : MF} {X : Nat → List Int} {f g k n : Nat} {s : SS} {w : Int}
theorem kn_tok (h : kn (ks X f) k ≠ 24) : k < (toks X f).length := by have := kn_lt h; rwa [ks_len'] at this
theorem nms_step : (nms (sstep s w)).length ≤ (nms s).length + b7 w ∧ (sstep s w).2.1.length ≤ s.2.1.length + b3 w ∧ ∀ t ∈ nms (sstep s w), t ∈ nms s ∨ (wo w = 7 ∧ t = wt w) := by
  obtain ⟨c0, bs, fp⟩ := s
  unfold sstep b3 b7
  split
  · exact ⟨Nat.zero_le _, Nat.zero_le _, fun t h => absurd h (List.not_mem_nil)⟩
  · split
    · refine ⟨by show (nms ([], c0 :: bs, fp)).length ≤ (nms (c0, bs, fp)).length + _; unfold nms; exact Nat.le_add_right _ _, Nat.le_refl _, fun t h => Or.inl h⟩
    · split
      · cases bs with
        | nil => exact ⟨Nat.le_add_right _ _, Nat.le_add_right _ _, fun t h => Or.inl h⟩
        | cons b r =>
          refine ⟨?_, ?_, fun t h => Or.inl (List.mem_append_right _ h)⟩
          · show (b ++ r.flatten).length ≤ (c0 ++ (b ++ r.flatten)).length + _
            rw [List.length_append (as := c0)]
            omega
          · show r.length ≤ (b :: r).length + _
            rw [List.length_cons]
            omega
      · split
        · refine ⟨Nat.le_refl _, Nat.le_add_right _ _, fun t h => ?_⟩
          rcases List.mem_cons.mp h with h | h
          · exact Or.inr ⟨by assumption, h⟩
          · exact Or.inl h
        · exact ⟨Nat.le_refl _, Nat.le_add_right _ _, fun t h => Or.inl h⟩
theorem pars_step (h : wo w ≠ 2) : (sstep s w).2.2 = s.2.2 := by
  obtain ⟨c0, bs, fp⟩ := s
  unfold sstep
  rw [if_neg h]
  split
  · rfl
  · split
    · cases bs with
      | nil => rfl
      | cons b r => rfl
    · split <;> rfl
theorem sm_take {g : Int → Nat} : ∀ (A : List Int) (i : Nat), sm g (A.take i) ≤ sm g A
  | [], i => by rw [List.take_nil]; exact Nat.le_refl _
  | x :: A, 0 => Nat.zero_le _
  | x :: A, i + 1 => by
    have := sm_take (g := g) A i
    show g x + sm g (A.take i) ≤ g x + sm g A
    omega
theorem sm_snoc {g : Int → Nat} : ∀ (A : List Int) (i : Nat), i < A.length → sm g (A.take (i + 1)) = sm g (A.take i) + g (gx A i)
  | [], i, h => absurd h (Nat.not_lt_zero i)
  | x :: A, 0, _ => by show g x + 0 = 0 + g x; omega
  | x :: A, i + 1, h => by
    have := sm_snoc (g := g) A i (by rw [List.length_cons] at h; omega)
    show g x + sm g (A.take (i + 1)) = g x + sm g (A.take i) + g (gx A i)
    omega
/-- a scope while a row of words is gone through -/
theorem sat_ok {C : List Int} (hC : ∀ i, i < C.length → WC (ks X f) (gx C i)) (hX : ∀ r, r < 24 → Rok (X r)) (hf : f < 3) : ∀ i, i ≤ C.length → (nms (sat C i)).length ≤ sm b7 (C.take i) ∧ (sat C i).2.1.length ≤ sm b3 (C.take i) ∧ TVs X f (cand (sat C i)) ∧ (0 ≤ (sat C i).2.2.2 ∧ (sat C i).2.2.2 < 1000 ∧ -1 ≤ (sat C i).2.2.1 ∧ (sat C i).2.2.1 < 256) := by
  have lk := toks_len hX hf
  intro i
  induction i with
  | zero => exact fun _ => ⟨Nat.zero_le _, Nat.zero_le _, fun t h => absurd h (List.not_mem_nil), show (0 : Int) ≤ 0 ∧ (0 : Int) < 1000 ∧ (-1 : Int) ≤ -1 ∧ (-1 : Int) < 256 by decide⟩
  | succ i ih =>
    intro hi
    obtain ⟨h1, h2, h3, h4⟩ := ih (by omega)
    have st := nms_step (s := sat C i) (w := gx C i)
    obtain ⟨o, t, e, e1, e2, e3⟩ := hC i (by omega)
    have ho : o < 256 := by unfold oX at e3; omega
    have w1 := wo_mk (o := o) (t := t) (e := e) ho
    have w2 := wt_mk (o := o) (t := t) (e := e) ho e2
    have w3 := we_mk (o := o) (t := t) (e := e) ho e2
    rw [← e1] at w1 w2 w3
    have lt7 : wo (gx C i) = 7 → t < (toks X f).length := fun h => kn_tok (by
      have : o = 7 := by omega
      have : kn (ks X f) t = 0 := by unfold oX at e3; omega
      rw [this]; decide)
    rw [sm_snoc C i (by omega), sm_snoc C i (by omega)]
    refine ⟨Nat.le_trans st.1 (by omega), Nat.le_trans st.2.1 (by omega), fun u hu => ?_, ?_⟩
    · rcases List.mem_append.mp hu with hu | hu
      · rcases st.2.2 u hu with hu | ⟨hu, hv⟩
        · exact h3 u (List.mem_append_left _ hu)
        · exact ⟨t, by rw [hv, w2], lt7 hu⟩
      · by_cases e4 : wo (gx C i) = 2
        · have ps : (sstep (sat C i) (gx C i)).2.2 = (wt (gx C i), we (gx C i)) := by unfold sstep; rw [if_pos e4]
          change u ∈ pars (sstep (sat C i) (gx C i)) at hu
          unfold pars at hu
          rw [ps, w2, w3] at hu
          obtain ⟨j, hj, rfl⟩ := List.mem_map.mp hu
          rw [List.mem_range] at hj
          change j < (e : Int).toNat at hj
          have hj2 : j < e := by omega
          have hk : kn (ks X f) (t + 2 * (j + 1)) = 0 := by
            have := e3
            unfold oX at this
            rcases e3 with h | h | h | h | h | h
            · unfold oX at h; omega
            · omega
            · exact h.2 (j + 1) (by omega)
            · omega
            · omega
            · omega
          exact ⟨t + 2 * (j + 1), by show (t : Int) + 2 + 2 * (j : Int) = _; omega, kn_tok (by rw [hk]; decide)⟩
        · change u ∈ pars (sstep (sat C i) (gx C i)) at hu
          unfold pars at hu
          rw [pars_step e4] at hu
          exact h3 u (List.mem_append_right _ hu)
    · show 0 ≤ (sstep (sat C i) (gx C i)).2.2.2 ∧ (sstep (sat C i) (gx C i)).2.2.2 < 1000 ∧ -1 ≤ (sstep (sat C i) (gx C i)).2.2.1 ∧ (sstep (sat C i) (gx C i)).2.2.1 < 256
      by_cases e4 : wo (gx C i) = 2
      · have ps : (sstep (sat C i) (gx C i)).2.2 = (wt (gx C i), we (gx C i)) := by unfold sstep; rw [if_pos e4]
        rw [ps]
        show 0 ≤ we (gx C i) ∧ we (gx C i) < 1000 ∧ -1 ≤ wt (gx C i) ∧ wt (gx C i) < 256
        rw [w2, w3]
        have hk : kn (ks X f) (t + 2 * e) = 0 := by
          rcases e3 with h | h | h | h | h | h
          · unfold oX at h; omega
          · omega
          · exact h.2 e (Nat.le_refl _)
          · omega
          · omega
          · omega
        have := kn_tok (X := X) (f := f) (k := t + 2 * e) (by rw [hk]; decide)
        omega
      · rw [pars_step e4]; exact h4
end M9n2
