/-! LEXING OF A ROW IN WHICH NAMES ARE WRITTEN ANEW -/
def h0 : List Int → Int
  | [] => 32
  | c :: _ => c
def h1 : List Int → Int
  | _ :: c :: _ => c
  | _ => 32
def turnS (S : List Int) (b : Bool) : Bool := if b = true then decide (h0 S = 42 ∧ h1 S = 47) else decide (h0 S = 47 ∧ h1 S = 42)
def spanS (S : List Int) : Nat := if h0 S = 61 then (if h1 S = 61 then 2 else 1) else if isL (h0 S) = true then spn isL S else if isD (h0 S) = true then spn isD S else 1
/-- classes of tokens, and the mode at the end -/
def cls : Nat → List Int → Bool → List Int × Bool
  | 0, _, b => ([], b)
  | k + 1, S, b => if S = [] then ([], b) else if turnS S b = true then cls k (S.drop 2) (!b) else if b = true then cls k (S.drop 1) b else if h0 S = 32 then cls k (S.drop 1) b
    else (clsw (S.take (spanS S)) :: (cls k (S.drop (spanS S)) b).1, (cls k (S.drop (spanS S)) b).2)
section Mj1
variable {tx0 S T S' T' : List Int} {b : Bool}
theorem h0_drop {l : List Int} {j : Nat} : h0 (l.drop j) = sgnl l (j : Int) := by
  by_cases h : j < l.length
  · rw [drop_cons h, sgn_in h]
    rfl
  · rw [List.drop_eq_nil_of_le (by omega), sgn_out (by omega)]
    rfl
theorem h1_drop {l : List Int} {j : Nat} : h1 (l.drop j) = sgnl l ((j : Int) + 1) := by
  by_cases h : j < l.length
  · rw [drop_cons h, show (j : Int) + 1 = ((j + 1 : Nat) : Int) by omega, ← h0_drop]
    cases l.drop (j + 1) with
    | nil => rfl
    | cons c t => rfl
  · rw [List.drop_eq_nil_of_le (by omega), sgn_out (by omega)]
    rfl
theorem turnS_drop {l : List Int} {j : Nat} : turnS (l.drop j) b = turnsb l j b := by
  unfold turnS turnsb
  rw [h0_drop, h1_drop]
theorem spanS_drop {l : List Int} {j : Nat} (h : j < l.length) : spanS (l.drop j) = span l j := by
  unfold spanS span
  rw [h0_drop, h1_drop, sgn_in h]
theorem lexL_cls : ∀ (k : Nat) (l : List Int) (j : Nat) (b : Bool) (c : Nat), (lexL k l j b c).1.map (fun t => t.1) = (cls k (l.drop j) b).1 ∧ (lexL k l j b c).2.2 = (cls k (l.drop j) b).2 := by
  intro k
  induction k with
  | zero => intro l j b c; exact ⟨rfl, rfl⟩
  | succ k ih =>
    intro l j b c
    unfold lexL cls
    by_cases e : l.length ≤ j
    · rw [if_pos e, if_pos (List.drop_eq_nil_of_le e)]
      exact ⟨rfl, rfl⟩
    · have e2 : ¬ l.drop j = [] := fun h => by
        have := congrArg List.length h
        rw [List.length_drop, List.length_nil] at this
        omega
      rw [if_neg e, if_neg e2, turnS_drop, spanS_drop (by omega), List.drop_drop, List.drop_drop, List.drop_drop, h0_drop, sgn_in (by omega)]
      split
      · exact ih l (j + 2) _ _
      · split
        · exact ih l (j + 1) _ _
        · split
          · exact ih l (j + 1) _ _
          · have h := ih l (j + span l j) b (c + 1)
            refine ⟨?_, h.2⟩
            rw [List.map_cons, h.1]
            rfl
/-- chars that lexing does not tell apart -/
def hrl (c d : Int) : Prop := c = d ∨ isL c = true ∧ isL d = true
/-- a row in which some words are another one -/
def RwS (tx0 : List Int) : Nat → List Int → Bool → List Int → Prop
  | 0, S, _, S' => S = [] ∧ S' = []
  | k + 1, S, b, S' => (S = [] ∧ S' = []) ∨ (S ≠ [] ∧ ((turnS S b = true ∧ ∃ T', S' = S.take 2 ++ T' ∧ RwS tx0 k (S.drop 2) (!b) T') ∨
      (turnS S b = false ∧ (b = true ∨ h0 S = 32) ∧ ∃ T', S' = S.take 1 ++ T' ∧ RwS tx0 k (S.drop 1) b T') ∨
      (turnS S b = false ∧ b = false ∧ h0 S ≠ 32 ∧ ∃ T', (S' = S.take (spanS S) ++ T' ∨ (isL (h0 S) = true ∧ clsw (S.take (spanS S)) = 0 ∧ S' = tx0 ++ T')) ∧ RwS tx0 k (S.drop (spanS S)) b T')))
theorem isL_rng {c : Int} : isL c = true ↔ 97 ≤ c ∧ c ≤ 122 := by unfold isL; exact decide_eq_true_iff
theorem isD_rng {c : Int} : isD c = true ↔ 48 ≤ c ∧ c ≤ 57 := by unfold isD; exact decide_eq_true_iff
theorem hrl.rf {c : Int} : hrl c c := Or.inl rfl
theorem hrl.iff {c d v : Int} (h : hrl c d) (hv : isL v = false) : c = v ↔ d = v := by
  rcases h with h | ⟨h1, h2⟩
  · rw [h]
  · refine ⟨fun e => ?_, fun e => ?_⟩
    · rw [e, hv] at h1; exact absurd h1 (by decide)
    · rw [e, hv] at h2; exact absurd h2 (by decide)
theorem hrl.L {c d : Int} (h : hrl c d) : isL c = isL d := by
  rcases h with h | ⟨h1, h2⟩
  · rw [h]
  · rw [h1, h2]
theorem hrl.D {c d : Int} (h : hrl c d) : isD c = isD d := by
  rcases h with h | ⟨h1, h2⟩
  · rw [h]
  · have a := isL_rng.mp h1
    have b := isL_rng.mp h2
    have e1 : isD c = false := Bool.eq_false_iff.mpr (fun h => by have := isD_rng.mp h; omega)
    have e2 : isD d = false := Bool.eq_false_iff.mpr (fun h => by have := isD_rng.mp h; omega)
    rw [e1, e2]
theorem h0_app {A : List Int} (h : A ≠ []) : h0 (A ++ T) = h0 A := by
  cases A with
  | nil => exact absurd rfl h
  | cons a A => rfl
theorem h1_app {A : List Int} (h : 2 ≤ A.length) : h1 (A ++ T) = h1 A := by
  cases A with
  | nil => exact absurd h (by decide)
  | cons a A =>
    cases A with
    | nil => exact absurd (show 2 ≤ 1 from h) (by decide)
    | cons c A => rfl
theorem h0_take {n : Nat} (h : 1 ≤ n) : h0 (S.take n) = h0 S := by
  cases S with
  | nil => rw [List.take_nil]
  | cons a S =>
    obtain ⟨m, rfl⟩ : ∃ m, n = m + 1 := ⟨n - 1, by omega⟩
    rfl
theorem h1_take {n : Nat} (h : 2 ≤ n) : h1 (S.take n) = h1 S := by
  cases S with
  | nil => rw [List.take_nil]
  | cons a S =>
    obtain ⟨m, rfl⟩ : ∃ m, n = m + 2 := ⟨n - 2, by omega⟩
    cases S with
    | nil => rfl
    | cons c S => rfl
theorem h1_one {c : Int} : h1 (c :: T) = h0 T := by cases T <;> rfl
theorem take_ne {n : Nat} (h : 1 ≤ n) (hS : S ≠ []) : S.take n ≠ [] := by
  cases S with
  | nil => exact absurd rfl hS
  | cons a S =>
    obtain ⟨m, rfl⟩ : ∃ m, n = m + 1 := ⟨n - 1, by omega⟩
    exact fun h => by cases h
theorem spanS_pos (hS : S ≠ []) : 1 ≤ spanS S := by
  cases S with
  | nil => exact absurd rfl hS
  | cons a S =>
    unfold spanS
    split
    · split <;> decide
    · split
      · next h =>
        change isL a = true at h
        show 1 ≤ spn isL (a :: S)
        rw [spn_cons, if_pos h]
        omega
      · split
        · next h =>
          change isD a = true at h
          show 1 ≤ spn isD (a :: S)
          rw [spn_cons, if_pos h]
          omega
        · exact Nat.le_refl _
/-- both rows begin alike -/
theorem RwS.hd (h0t : isL (h0 tx0) = true) (hne : tx0 ≠ []) : ∀ (k : Nat) (S : List Int) (b : Bool) (S' : List Int), RwS tx0 k S b S' → (S = [] ↔ S' = []) ∧ hrl (h0 S) (h0 S') := by
  intro k S b S' h
  cases k with
  | zero =>
    obtain ⟨rfl, rfl⟩ := h
    exact ⟨Iff.rfl, hrl.rf⟩
  | succ k =>
    rcases h with ⟨rfl, rfl⟩ | ⟨hS, h⟩
    · exact ⟨Iff.rfl, hrl.rf⟩
    · have go : ∀ n T', 1 ≤ n → S' = S.take n ++ T' → (S = [] ↔ S' = []) ∧ hrl (h0 S) (h0 S') := fun n T' hn e => by
        have h2 := take_ne hn hS
        refine ⟨⟨fun h => absurd h hS, fun h => ?_⟩, ?_⟩
        · rw [e] at h
          exact absurd (List.append_eq_nil_iff.mp h).1 h2
        · rw [e, h0_app h2, h0_take hn]
          exact hrl.rf
      rcases h with ⟨-, T', e, -⟩ | ⟨-, -, T', e, -⟩ | ⟨-, -, -, T', e | ⟨e1, -, e⟩, -⟩
      · exact go 2 T' (by decide) e
      · exact go 1 T' (by decide) e
      · exact go _ T' (spanS_pos hS) e
      · refine ⟨⟨fun h => absurd h hS, fun h => ?_⟩, ?_⟩
        · rw [e] at h
          exact absurd (List.append_eq_nil_iff.mp h).1 hne
        · rw [e, h0_app hne]
          exact Or.inr ⟨e1, h0t⟩
theorem turn_hrl {A B : List Int} (hA : hrl (h0 A) (h0 B)) (hB : hrl (h1 A) (h1 B)) : turnS A b = turnS B b := by
  unfold turnS
  split
  · exact decide_eq_decide.mpr (and_congr (hA.iff (by decide)) (hB.iff (by decide)))
  · exact decide_eq_decide.mpr (and_congr (hA.iff (by decide)) (hB.iff (by decide)))
theorem h1_drop1 (hS : S ≠ []) : h1 S = h0 (S.drop 1) := by
  cases S with
  | nil => exact absurd rfl hS
  | cons a S => exact h1_one
theorem spn_stop (p : Int → Bool) : ∀ (S : List Int), spn p S = S.length ∨ p (h0 (S.drop (spn p S))) = false
  | [] => Or.inl rfl
  | c :: t => by
    rw [spn_cons]
    by_cases h : p c = true
    · rw [if_pos h]
      rcases spn_stop p t with e | e
      · exact Or.inl (by rw [List.length_cons, e]; omega)
      · refine Or.inr ?_
        rw [Nat.add_comm, List.drop_succ_cons]
        exact e
    · rw [if_neg h]
      exact Or.inr (Bool.eq_false_iff.mpr h)
theorem spn_app (p : Int → Bool) : ∀ (A T : List Int), (∀ c ∈ A, p c = true) → (T = [] ∨ p (h0 T) = false) → spn p (A ++ T) = A.length
  | [], T, _, h => by
    cases T with
    | nil => rfl
    | cons c t =>
      rcases h with h | h
      · cases h
      · show spn p (c :: t) = 0
        rw [spn_cons, if_neg (by rw [show p c = false from h]; decide)]
  | a :: A, T, h, h2 => by
    show spn p (a :: (A ++ T)) = (a :: A).length
    rw [spn_cons, if_pos (h a List.mem_cons_self), spn_app p A T (fun c hc => h c (List.mem_cons_of_mem _ hc)) h2, List.length_cons]
    omega
theorem spn_tk (p : Int → Bool) : ∀ (S : List Int), ∀ c ∈ S.take (spn p S), p c = true
  | [], c, h => by rw [List.take_nil] at h; exact absurd h (List.not_mem_nil)
  | a :: t, c, h => by
    rw [spn_cons] at h
    by_cases e : p a = true
    · rw [if_pos e, Nat.add_comm, List.take_succ_cons] at h
      rcases List.mem_cons.mp h with h | h
      · rw [h]; exact e
      · exact spn_tk p t c h
    · rw [if_neg e, List.take_zero] at h
      exact absurd h (List.not_mem_nil)
theorem spn_len (p : Int → Bool) (S : List Int) : (S.take (spn p S)).length = spn p S := by
  rw [List.length_take]
  have := spn_le p S
  omega
theorem cls_turn {k : Nat} (hS : S ≠ []) (ht : turnS S b = true) : cls (k + 1) S b = cls k (S.drop 2) (!b) := by
  show (if S = [] then _ else if turnS S b = true then _ else _) = _
  rw [if_neg hS, if_pos ht]
theorem cls_com {k : Nat} (hS : S ≠ []) (ht : turnS S b = false) (hb : b = true ∨ h0 S = 32) : cls (k + 1) S b = cls k (S.drop 1) b := by
  show (if S = [] then _ else if turnS S b = true then _ else if b = true then _ else if h0 S = 32 then _ else _) = _
  rw [if_neg hS, if_neg (show ¬ turnS S b = true by rw [ht]; decide)]
  by_cases c : b = true
  · rw [if_pos c]
  · rw [if_neg c, if_pos (hb.resolve_left c)]
theorem cls_tok {k : Nat} (hS : S ≠ []) (ht : turnS S false = false) (h32 : h0 S ≠ 32) : cls (k + 1) S false = (clsw (S.take (spanS S)) :: (cls k (S.drop (spanS S)) false).1, (cls k (S.drop (spanS S)) false).2) := by
  show (if S = [] then _ else if turnS S false = true then _ else if false = true then _ else if h0 S = 32 then _ else _) = _
  rw [if_neg hS, if_neg (show ¬ turnS S false = true by rw [ht]; decide), if_neg (by decide), if_neg h32]
/-- lexing tells the same classes and the same mode -/
theorem RwS.clz (hw : ∀ c ∈ tx0, isL c = true) (hne : tx0 ≠ []) (hk : kwd tx0 = 0) : ∀ (k : Nat) (S : List Int) (b : Bool) (S' : List Int), RwS tx0 k S b S' → ∀ k', S'.length ≤ k' → cls k' S' b = cls k S b := by
  have h0t : isL (h0 tx0) = true := by
    cases tx0 with
    | nil => exact absurd rfl hne
    | cons a t => exact hw a List.mem_cons_self
  intro k
  induction k with
  | zero =>
    rintro S b S' ⟨rfl, rfl⟩ k' _
    cases k' with
    | zero => rfl
    | succ k' => rfl
  | succ k ih =>
    intro S b S' h k' hk'
    have hd := RwS.hd h0t hne (k + 1) S b S' h
    rcases h with ⟨rfl, rfl⟩ | ⟨hS, h⟩
    · cases k' with
      | zero => rfl
      | succ k' => rfl
    · have hS' : S' ≠ [] := fun e => hS (hd.1.mpr e)
      obtain ⟨k', rfl⟩ : ∃ j, k' = j + 1 := ⟨k' - 1, by
        have : S'.length ≠ 0 := fun e => hS' (List.length_eq_zero_iff.mp e)
        omega⟩
      have hSl : 1 ≤ S.length := by
        have : S.length ≠ 0 := fun e => hS (List.length_eq_zero_iff.mp e)
        omega
      rcases h with ⟨ht, T', e, hr⟩ | ⟨ht, hb, T', e, hr⟩ | ⟨ht, hb, h32, T', e, hr⟩
      · have hl2 : 2 ≤ S.length := by
          by_cases c : 2 ≤ S.length
          · exact c
          · exfalso
            have : h1 S = 32 := by
              cases S with
              | nil => rfl
              | cons a S =>
                cases S with
                | nil => rfl
                | cons d S => exact absurd (by rw [List.length_cons, List.length_cons]; omega) c
            unfold turnS at ht
            rw [this] at ht
            split at ht
            · exact absurd (of_decide_eq_true ht).2 (by decide)
            · exact absurd (of_decide_eq_true ht).2 (by decide)
        have tl : (S.take 2).length = 2 := by rw [List.length_take]; omega
        have e1 : turnS S' b = turnS S b := turn_hrl (by rw [e, h0_app (take_ne (by decide) hS), h0_take (by decide)]; exact hrl.rf) (by rw [e, h1_app (by omega), h1_take (by decide)]; exact hrl.rf)
        have e2 : S'.drop 2 = T' := by rw [e, List.drop_append_of_le_length (by omega), List.drop_eq_nil_of_le (by omega)]; rfl
        rw [cls_turn hS ht, cls_turn hS' (e1.trans ht), e2]
        exact ih _ _ _ hr k' (by rw [e, List.length_append] at hk'; omega)
      · have tl : (S.take 1).length = 1 := by rw [List.length_take]; omega
        have e2 : S'.drop 1 = T' := by rw [e, List.drop_append_of_le_length (by omega), List.drop_eq_nil_of_le (by omega)]; rfl
        have hd2 := RwS.hd h0t hne k _ _ _ hr
        have e0 : h0 S' = h0 S := by rw [e, h0_app (take_ne (by decide) hS), h0_take (by decide)]
        have e1 : turnS S' b = turnS S b := (turn_hrl (by rw [e0]; exact hrl.rf) (by rw [h1_drop1 hS, h1_drop1 hS', e2]; exact hd2.2)).symm
        have nx := ih _ _ _ hr k' (by rw [e, List.length_append] at hk'; omega)
        rw [cls_com hS ht hb, cls_com hS' (e1.trans ht) (hb.imp id (fun h => e0.trans h)), e2]
        exact nx
      · subst hb
        have hd2 := RwS.hd h0t hne k _ _ _ hr
        have sp := spanS_pos hS
        -- a token: its span and its word
        have go : ∀ (A : List Int), A ≠ [] → S' = A ++ T' → spanS S' = A.length → clsw A = clsw (S.take (spanS S)) → turnS S' false = false → h0 S' ≠ 32 → cls (k' + 1) S' false = cls (k + 1) S false := by
          intro A hA eA es ec et e32
          have e2 : S'.drop A.length = T' := by rw [eA, List.drop_append_of_le_length (Nat.le_refl _), List.drop_eq_nil_of_le (Nat.le_refl _)]; rfl
          have e3 : S'.take A.length = A := by rw [eA, List.take_append_of_le_length (Nat.le_refl _), List.take_of_length_le (Nat.le_refl _)]
          have hAl : 1 ≤ A.length := by
            have : A.length ≠ 0 := fun e => hA (List.length_eq_zero_iff.mp e)
            omega
          have nx := ih _ _ _ hr k' (by rw [eA, List.length_append] at hk'; omega)
          rw [cls_tok hS ht h32, cls_tok hS' et e32, es, e2, e3, ec, nx]
        have no : ∀ (c : Int), isL c = true → ∀ V : List Int, h0 V = c → turnS V false = false ∧ h0 V ≠ 32 := fun c hc V hV => by
          have := isL_rng.mp hc
          refine ⟨?_, by omega⟩
          unfold turnS
          rw [if_neg (by decide), hV]
          exact decide_eq_false (fun h => by omega)
        -- behind a row of letters (or digits) there is none
        have beh : ∀ p : Int → Bool, (p = isL ∨ p = isD) → spanS S = spn p S → T' = [] ∨ p (h0 T') = false := by
          intro p hp es
          rw [es] at hd2
          rcases spn_stop p S with e3 | e3
          · refine Or.inl (hd2.1.mp ?_)
            rw [e3]
            exact List.drop_eq_nil_of_le (Nat.le_refl _)
          · rcases hp with rfl | rfl
            · exact Or.inr (by rw [← hd2.2.L]; exact e3)
            · exact Or.inr (by rw [← hd2.2.D]; exact e3)
        rcases e with e | ⟨e1, e2, e⟩
        · have hT := take_ne sp hS
          have e0 : h0 S' = h0 S := by rw [e, h0_app hT, h0_take sp]
          have e1r : hrl (h1 S) (h1 S') := by
            by_cases c : 2 ≤ spanS S ∧ 2 ≤ S.length
            · rw [e, h1_app (by rw [List.length_take]; omega), h1_take c.1]
              exact hrl.rf
            · have e3 : S.take (spanS S) = S.take 1 ∧ S.drop (spanS S) = S.drop 1 := by
                by_cases c2 : spanS S = 1
                · rw [c2]; exact ⟨rfl, rfl⟩
                · have c3 : S.length = 1 := by omega
                  exact ⟨by rw [List.take_of_length_le (by omega), List.take_of_length_le (by omega)], by rw [List.drop_eq_nil_of_le (by omega), List.drop_eq_nil_of_le (by omega)]⟩
              rw [e3.2] at hd2
              rw [e3.1] at e
              have e4 : S'.drop 1 = T' := by
                have tl : (S.take 1).length = 1 := by rw [List.length_take]; omega
                rw [e, List.drop_append_of_le_length (by omega), List.drop_eq_nil_of_le (by omega)]; rfl
              rw [h1_drop1 hS, h1_drop1 hS', e4]
              exact hd2.2
          have et : turnS S' false = false := (turn_hrl (by rw [e0]; exact hrl.rf) e1r).symm.trans ht
          have sl : spanS S ≤ S.length := by
            have := spanS_drop (l := S) (j := 0) (by omega)
            rw [List.drop_zero] at this
            rw [this]
            have := span_le S 0 (by omega)
            omega
          have tl : (S.take (spanS S)).length = spanS S := by rw [List.length_take]; omega
          refine go (S.take (spanS S)) hT e ?_ rfl et (by rw [e0]; exact h32)
          rw [tl]
          by_cases c61 : h0 S = 61
          · unfold spanS
            rw [e0, if_pos c61, if_pos c61]
            by_cases c : h1 S = 61
            · rw [if_pos c, if_pos ((e1r.iff (by decide)).mp c)]
            · rw [if_neg c, if_neg (fun h => c ((e1r.iff (by decide)).mpr h))]
          · by_cases cL : isL (h0 S) = true
            · have es : spanS S = spn isL S := by unfold spanS; rw [if_neg c61, if_pos cL]
              have es2 : spanS S' = spn isL S' := by unfold spanS; rw [e0, if_neg c61, if_pos cL]
              rw [es2, e]
              have := spn_app isL (S.take (spanS S)) T' (by rw [es]; exact spn_tk isL S) (beh isL (Or.inl rfl) es)
              rw [this, tl]
            · by_cases cD : isD (h0 S) = true
              · have es : spanS S = spn isD S := by unfold spanS; rw [if_neg c61, if_neg cL, if_pos cD]
                have es2 : spanS S' = spn isD S' := by unfold spanS; rw [e0, if_neg c61, if_neg cL, if_pos cD]
                rw [es2, e]
                have := spn_app isD (S.take (spanS S)) T' (by rw [es]; exact spn_tk isD S) (beh isD (Or.inr rfl) es)
                rw [this, tl]
              · unfold spanS
                rw [e0, if_neg c61, if_neg cL, if_neg cD, if_neg c61, if_neg cL, if_neg cD]
        · have c61 : h0 S ≠ 61 := fun h => by rw [h] at e1; exact absurd e1 (by decide)
          have es : spanS S = spn isL S := by unfold spanS; rw [if_neg c61, if_pos e1]
          have e0 : h0 S' = h0 tx0 := by rw [e, h0_app hne]
          have n0 := no (h0 tx0) h0t S' e0
          have ct : h0 tx0 ≠ 61 := fun h => by rw [h] at h0t; exact absurd h0t (by decide)
          refine go tx0 hne e ?_ ?_ n0.1 n0.2
          · have es2 : spanS S' = spn isL S' := by unfold spanS; rw [e0, if_neg ct, if_pos h0t]
            rw [es2, e]
            exact spn_app isL tx0 T' hw (beh isL (Or.inl rfl) es)
          · rw [e2]
            have e5 : gx tx0 0 = h0 tx0 := by
              cases tx0 with
              | nil => exact absurd rfl hne
              | cons a t => rfl
            unfold clsw
            rw [e5, if_pos h0t]
            exact hk
end Mj1
