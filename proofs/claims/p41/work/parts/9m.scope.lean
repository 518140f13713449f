/-! SCOPES -/
abbrev SS : Type := List Int × List (List Int) × Int × Int
def sstep (s : SS) (w : Int) : SS :=
  if wo w = 2 then ([], [], wt w, we w)
  else if wo w = 3 then ([], s.1 :: s.2.1, s.2.2)
  else if wo w = 4 then (match s.2.1 with
    | [] => s
    | b :: r => (b, r, s.2.2))
  else if wo w = 7 then (wt w :: s.1, s.2) else s
def ss0 : SS := ([], [], -1, 0)
/-- what is declared, the last one first -/
def nms (s : SS) : List Int := s.1 ++ s.2.1.flatten
def mrk : List (List Int) → List Int
  | [] => []
  | b :: r => mrk r ++ [((b ++ r.flatten).length : Int)]
def pars (s : SS) : List Int := (List.range s.2.2.2.toNat).map (fun i : Nat => s.2.2.1 + 2 + 2 * (i : Int))
def cand (s : SS) : List Int := nms s ++ pars s
/-- the scope of the class -/
def SCc (F : MF) (n : Nat) (s : SS) : Prop := (F n 2 = ((nms s).length : Int) ∧ AL (F (n + 1)) (nms s).reverse) ∧ (F n 3 = (s.2.1.length : Int) ∧ AL (F (n + 2)) (mrk s.2.1)) ∧ F n 4 = s.2.2.1 ∧ F n 5 = s.2.2.2
/-- the first one with the text of a token -/
def fst' (X : Nat → List Int) (f k : Nat) : List Int → Int
  | [] => -1
  | t :: L => if tx X f t.toNat = tx X f k then t else fst' X f k L
def TVs (X : Nat → List Int) (f : Nat) (L : List Int) : Prop := ∀ t ∈ L, ∃ m : Nat, t = (m : Int) ∧ m < (toks X f).length
section M9m
variable {F : MF} {X : Nat → List Int} {f k n : Nat} {s : SS} {w : Int}
theorem m_and255 (h : 0 ≤ w ∧ w < 4294967296) : m_and w 255 = w % 256 := by
  unfold m_and w32
  rw [show ((255 : Int) % 4294967296).toNat = 2 ^ 8 - 1 by decide, Nat.and_two_pow_sub_one_eq_mod]
  omega
theorem g198 (h : 0 ≤ w ∧ w < 2147483648) : g_198 F w = wo w := by
  unfold g_198 wo
  exact m_and255 (by omega)
theorem g199 (h : 0 ≤ w ∧ w < 2147483648) : g_199 F w = wt w := by
  unfold g_199 wt m_shr
  rw [show (2 : Int) ^ (8 : Int).toNat = 256 by decide]
  exact m_and255 (by omega)
theorem g200 (h : 0 ≤ w ∧ w < 2147483648) : g_200 F w = we w := by
  unfold g_200 we m_ushr w32
  rw [show (2 : Int) ^ (16 : Int).toNat = 65536 by decide]
  omega
theorem mrk_len : ∀ r : List (List Int), (mrk r).length = r.length
  | [] => rfl
  | b :: r => by show (mrk r ++ [_]).length = r.length + 1; rw [List.length_append, mrk_len r]; rfl
theorem AL.pre {A : Nat → Int} {l m : List Int} (h : AL A (l ++ m)) : AL A l := fun i hi => by
  rw [h i (by rw [List.length_append]; omega), gx_app, if_pos hi]
theorem AL.snoc {A : Nat → Int} {l : List Int} {v : Int} (h : AL A l) (hv : A l.length = v) : AL A (l ++ [v]) := fun i hi => by
  rw [gx_app]
  by_cases e : i < l.length
  · rw [if_pos e]; exact h i e
  · rw [List.length_append, List.length_singleton] at hi
    have : i = l.length := by omega
    rw [if_neg e, this, Nat.sub_self, hv]
    rfl
theorem AL.up1 {F : MF} {a : Nat} {l : List Int} {v : Int} (h : AL (F a) l) : AL (m_up F a l.length v a) (l ++ [v]) := by
  refine AL.snoc (fun i hi => ?_) u_eq
  rw [u_ne (Or.inr (by omega))]
  exact h i hi
theorem s_101 (hn : n ∈ m_I7) (hS : St F) (hw : 0 ≤ w ∧ w < 2147483648) (h : SCc F n s) (h1 : (nms s).length < 200) (h2 : s.2.1.length < 200) : C_101 n w F (fun F' => SCc F' n (sstep s w) ∧ fr (fun c => c = n ∨ c = n + 1 ∨ c = n + 2) F F') m_no := by
  obtain ⟨⟨a1, a2⟩, ⟨a3, a4⟩, a5, a6⟩ := h
  have ew : ∀ F, g_198 F w = wo w := fun F => g198 hw
  have et : ∀ F, g_199 F w = wt w := fun F => g199 hw
  have ee : ∀ F, g_200 F w = we w := fun F => g200 hw
  refine c_101 hn hS ?_
  rw [ew, a3]
  unfold sstep
  refine ⟨fun e2 => ?_, fun e2 => ⟨fun e3 => ⟨fun _ => ⟨by omega, by omega, ?_⟩, fun h => absurd (by omega) h⟩, fun e3 => ?_⟩⟩
  · rw [if_pos e2]
    refine c_100 hn hS ?_
    rw [et, ee]
    obtain ⟨G, hG⟩ : ∃ G, G = m_up (m_up (m_up (m_up (m_up (m_up F n 2 0) n 3 0) n 4 (-1)) n 5 0) n 4 (wt w)) n 5 (we w) := ⟨_, rfl⟩
    have w2 : G n 2 = 0 := by rw [hG, u_ne (Or.inr (by decide)), u_ne (Or.inr (by decide)), u_ne (Or.inr (by decide)), u_ne (Or.inr (by decide)), u_ne (Or.inr (by decide)), u_eq]
    have w3 : G n 3 = 0 := by rw [hG, u_ne (Or.inr (by decide)), u_ne (Or.inr (by decide)), u_ne (Or.inr (by decide)), u_ne (Or.inr (by decide)), u_eq]
    have w4 : G n 4 = wt w := by rw [hG, u_ne (Or.inr (by decide)), u_eq]
    have w5 : G n 5 = we w := by rw [hG, u_eq]
    have wf : fr (fun c => c = n ∨ c = n + 1 ∨ c = n + 2) F G := by
      rw [hG]
      exact (((((fr.rf.up (Or.inl rfl)).up (Or.inl rfl)).up (Or.inl rfl)).up (Or.inl rfl)).up (Or.inl rfl)).up (Or.inl rfl)
    rw [← hG]
    exact ⟨⟨⟨w2, fun i hi => absurd hi (Nat.not_lt_zero i)⟩, ⟨w3, fun i hi => absurd hi (Nat.not_lt_zero i)⟩, w4, w5⟩, wf⟩
  · rw [if_neg e2, if_pos e3, a1, Int.toNat_natCast]
    have ml := mrk_len s.2.1
    refine ⟨⟨⟨?_, ?_⟩, ⟨?_, ?_⟩, ?_, ?_⟩, (fr.rf.up (Or.inr (Or.inr rfl))).up (Or.inl rfl)⟩
    · rw [u_ne (Or.inr (by decide)), u_ne (Or.inl (by omega)), a1]; rfl
    · rw [up_row (by omega), up_row (by omega)]; exact a2
    · rw [u_eq]
      show _ = ((s.2.1.length + 1 : Nat) : Int)
      omega
    · rw [up_row (by omega), ← ml]
      exact AL.up1 a4
    · rw [u_ne (Or.inr (by decide)), u_ne (Or.inl (by omega)), a5]
    · rw [u_ne (Or.inr (by decide)), u_ne (Or.inl (by omega)), a6]
  · rw [if_neg e2, if_neg e3]
    refine b_101_74 hn hS ?_
    rw [a3]
    have tail : wo w ≠ 4 ∨ s.2.1 = [] → L_101_112 n w (wo w) F (fun F' => SCc F' n (if wo w = 7 then (wt w :: s.1, s.2) else s) ∧ fr (fun c => c = n ∨ c = n + 1 ∨ c = n + 2) F F') m_no := by
      intro _
      refine b_101_112 hn hS ?_
      rw [a1, et, Int.toNat_natCast]
      refine ⟨fun e7 => ⟨fun _ => ⟨by omega, by omega, ?_⟩, fun h => absurd (by omega) h⟩, fun e7 => ?_⟩
      · rw [if_pos e7]
        have e : (nms (wt w :: s.1, s.2)).reverse = (nms s).reverse ++ [wt w] := by
          show (wt w :: (nms s)).reverse = _
          rw [List.reverse_cons]
        refine ⟨⟨⟨?_, ?_⟩, ⟨?_, ?_⟩, ?_, ?_⟩, (fr.rf.up (Or.inr (Or.inl rfl))).up (Or.inl rfl)⟩
        · rw [u_eq]
          show _ = (((nms s).length + 1 : Nat) : Int)
          omega
        · rw [e, up_row (by omega)]
          have := AL.up1 (v := wt w) a2
          rwa [List.length_reverse] at this
        · rw [u_ne (Or.inr (by decide)), u_ne (Or.inl (by omega)), a3]
        · rw [up_row (by omega), up_row (by omega)]; exact a4
        · rw [u_ne (Or.inr (by decide)), u_ne (Or.inl (by omega)), a5]
        · rw [u_ne (Or.inr (by decide)), u_ne (Or.inl (by omega)), a6]
      · rw [if_neg e7]
        exact ⟨⟨⟨a1, a2⟩, ⟨a3, a4⟩, a5, a6⟩, fr.rf⟩
    refine ⟨fun e4 => ?_, fun e4 => ?_⟩
    · rw [if_pos e4]
      obtain ⟨c0, bs, fp⟩ := s
      cases bs with
      | nil =>
        refine ⟨fun h => absurd h (by show ¬ (0 : Int) < ((0 : Nat) : Int); decide), fun _ => ?_⟩
        have := tail (Or.inr rfl)
        rw [if_neg (by omega)] at this
        exact this
      | cons b r =>
        have ml := mrk_len r
        have hm : F (n + 2) r.length = ((b ++ r.flatten).length : Int) := by
          have := a4 r.length (by rw [mrk_len]; exact Nat.lt_succ_self _)
          rw [this]
          show gx (mrk r ++ [_]) r.length = _
          rw [gx_app, if_neg (by omega), ml, Nat.sub_self]
          rfl
        have hl : (((b :: r).length : Nat) : Int) - 1 = ((r.length : Nat) : Int) := by rw [List.length_cons]; omega
        rw [hl, Int.toNat_natCast, hm]
        have h3 : (b :: r).length < 200 := h2
        rw [List.length_cons] at h3
        refine ⟨fun _ => ⟨by omega, by omega, ?_⟩, fun h => absurd (by rw [List.length_cons]; omega) h⟩
        refine ⟨⟨⟨?_, ?_⟩, ⟨?_, ?_⟩, ?_, ?_⟩, (fr.rf.up (Or.inl rfl)).up (Or.inl rfl)⟩
        · rw [u_eq]; rfl
        · rw [up_row (by omega), up_row (by omega)]
          have e : (nms (c0, b :: r, fp)).reverse = (nms (b, r, fp)).reverse ++ c0.reverse := by
            show (c0 ++ (b ++ r.flatten)).reverse = (b ++ r.flatten).reverse ++ c0.reverse
            rw [List.reverse_append]
          rw [e] at a2
          exact a2.pre
        · rw [u_ne (Or.inr (by decide)), u_eq]
        · rw [up_row (by omega), up_row (by omega)]
          exact AL.pre (m := [((b ++ r.flatten).length : Int)]) a4
        · rw [u_ne (Or.inr (by decide)), u_ne (Or.inr (by decide))]; exact a5
        · rw [u_ne (Or.inr (by decide)), u_ne (Or.inr (by decide))]; exact a6
    · rw [if_neg e4]
      exact tail (Or.inl e4)
theorem fst_rng {L : List Int} (h : TVs X f L) : fst' X f k L = -1 ∨ ∃ m : Nat, fst' X f k L = (m : Int) ∧ m < (toks X f).length := by
  induction L with
  | nil => exact Or.inl rfl
  | cons t L ih =>
    show (if tx X f t.toNat = tx X f k then t else fst' X f k L) = -1 ∨ ∃ m : Nat, (if tx X f t.toNat = tx X f k then t else fst' X f k L) = (m : Int) ∧ _
    split
    · exact Or.inr (h t (List.mem_cons_self))
    · exact ih (fun u hu => h u (List.mem_cons_of_mem _ hu))
/-- what a desk holds for comparing texts -/
def DT (F : MF) (n : Nat) (X : Nat → List Int) : Prop := LinC F (n + 1) X ∧ ∀ f, f < 3 → GaC F (n + (11 + 19 * f)) f X
theorem s_102 {m : Nat} (hn : n ∈ m_I7) (hm : m ∈ m_I1) (hS : St F) (hX : ∀ r, r < 24 → Rok (X r)) (hD : DT F m X) (hf : f < 3) (hk : k < (toks X f).length) (h : SCc F n s) (hv : TVs X f (cand s)) (h1 : (nms s).length < 200) (hp : 0 ≤ s.2.2.2 ∧ s.2.2.2 < 1000 ∧ -1 ≤ s.2.2.1 ∧ s.2.2.1 < 256) :
    C_102 n m (f : Int) (k : Int) F (fun r F' => r = fst' X f k (cand s) ∧ F' = F) m_no := by
  obtain ⟨⟨a1, a2⟩, -, a5, a6⟩ := h
  have lk := toks_len hX hf
  have hpl : (pars s).length = s.2.2.2.toNat := by unfold pars; rw [List.length_map, List.length_range]
  have hpg : ∀ i, i < s.2.2.2.toNat → gx (pars s) i = s.2.2.1 + 2 + 2 * (i : Int) := fun i hi => by
    unfold gx pars
    rw [List.getD_eq_getElem?_getD, List.getElem?_map, List.getElem?_range hi]
    rfl
  have vp : ∀ i, i < s.2.2.2.toNat → ∃ m : Nat, s.2.2.1 + 2 + 2 * (i : Int) = (m : Int) ∧ m < (toks X f).length := fun i hi => by
    rw [← hpg i hi]
    exact hv _ (List.mem_append_right _ (gx_mem (by rw [hpl]; exact hi)))
  have vn : ∀ i, i < (nms s).length → ∃ m : Nat, gx (nms s) i = (m : Int) ∧ m < (toks X f).length := fun i hi => hv _ (List.mem_append_left _ (gx_mem hi))
  have ne1 : ∀ L, TVs X f L → ∀ A, ¬ ∃ t ∈ L, t < 0 := fun L hL _ ⟨t, ht, h0⟩ => by
    obtain ⟨m, e, -⟩ := hL t ht
    omega
  have id1 : ∀ m : Nat, (f : Int) * 200 + (m : Int) = ((200 * f + m : Nat) : Int) := fun m => by omega
  -- the parameters
  have P : ∀ (d i : Nat), i + d = s.2.2.2.toNat → L_102_61 n m (f : Int) ((200 * f + k : Nat) : Int) (i : Int) F (fun r F' => r = fst' X f k ((pars s).drop i) ∧ F' = F) m_no := by
    intro d
    induction d with
    | zero =>
      intro i hi
      refine b_102_61 hn hm hS ?_
      rw [a6]
      refine ⟨fun h => by omega, fun _ => ⟨?_, rfl⟩⟩
      rw [List.drop_eq_nil_of_le (by omega)]
      rfl
    | succ d ih =>
      intro i hi
      obtain ⟨q, e, hq⟩ := vp i (by omega)
      refine b_102_61 hn hm hS ?_
      rw [a6, a5, e, id1]
      refine ⟨fun _ => ⟨by omega, by omega, by omega, by omega, by omega, ?_⟩, fun h => by omega⟩
      refine CaI.on (s_17 hm hS hX hD.1 hD.2 hf hf hk hq) ?_
      rintro r F1 hS1 ⟨rfl, rfl⟩
      rw [drop_cons (by omega), hpg i (by omega), e]
      have st : fst' X f k ((q : Int) :: (pars s).drop (i + 1)) = if tx X f q = tx X f k then (q : Int) else fst' X f k ((pars s).drop (i + 1)) := rfl
      rw [st]
      refine ⟨fun h => ⟨by omega, ?_⟩, fun h => ⟨?_, rfl⟩⟩
      · have : ¬ tx X f k = tx X f q := of_decide_eq_false (bi0.mp h)
        rw [if_neg (fun e => this e.symm), show (i : Int) + 1 = ((i + 1 : Nat) : Int) by omega]
        exact ih (i + 1) (by omega)
      · have : tx X f k = tx X f q := Decidable.of_not_not (fun e => h (by rw [decide_eq_false e]; rfl))
        rw [if_pos this.symm]
  -- the names
  have N : ∀ (d i : Nat), i + d = (nms s).length → L_102_17 n m (f : Int) ((200 * f + k : Nat) : Int) (((d : Nat) : Int) - 1) F (fun r F' => r = fst' X f k ((nms s).drop i ++ pars s) ∧ F' = F) m_no := by
    intro d
    induction d with
    | zero =>
      intro i hi
      refine b_102_17 hn hm hS ⟨fun _ => ?_, fun h => absurd (by omega) h⟩
      rw [List.drop_eq_nil_of_le (by omega)]
      exact P s.2.2.2.toNat 0 (by omega)
    | succ d ih =>
      intro i hi
      obtain ⟨q, e, hq⟩ := vn i (by omega)
      have er : F (n + 1) d = (q : Int) := by
        rw [a2 d (by rw [List.length_reverse]; omega)]
        unfold gx at e ⊢
        rw [List.getD_eq_getElem?_getD, List.getElem?_reverse (by omega), show (nms s).length - 1 - d = i by omega, ← List.getD_eq_getElem?_getD]
        exact e
      refine b_102_17 hn hm hS ?_
      rw [show ((d + 1 : Nat) : Int) - 1 = (d : Int) by omega, Int.toNat_natCast, er, id1]
      refine ⟨fun h => by omega, fun _ => ⟨by omega, by omega, by omega, ?_⟩⟩
      refine CaI.on (s_17 hm hS hX hD.1 hD.2 hf hf hk hq) ?_
      rintro r F1 hS1 ⟨rfl, rfl⟩
      rw [drop_cons (by omega), e]
      have st : fst' X f k ((q : Int) :: (nms s).drop (i + 1) ++ pars s) = if tx X f q = tx X f k then (q : Int) else fst' X f k ((nms s).drop (i + 1) ++ pars s) := rfl
      rw [st]
      refine ⟨fun h => ⟨by omega, ?_⟩, fun h => ⟨by omega, ?_, rfl⟩⟩
      · have : ¬ tx X f k = tx X f q := of_decide_eq_false (bi0.mp h)
        rw [if_neg (fun e => this e.symm), show (d : Int) + (-1) = (d : Int) - 1 by omega]
        exact ih (i + 1) (by omega)
      · have : tx X f k = tx X f q := Decidable.of_not_not (fun e => h (by rw [decide_eq_false e]; rfl))
        rw [if_pos this.symm, er]
  refine c_102 hn hm hS ?_
  rw [a1, id1]
  exact ⟨by omega, by omega, by omega, N (nms s).length 0 (by omega)⟩
end M9m
