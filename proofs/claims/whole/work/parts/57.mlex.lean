/-! LEXING OF THE REFERENCE -/
def TxM (F : MF) (X : Nat → List Int) : Prop := Rws (F 202) (F 203) X
def cend : Nat → List Int → Nat → Nat × Bool
  | 0, _, j => (j, false)
  | k + 1, l, j => if l.length ≤ j then (j, false) else if turnsb l j true = true then (j + 2, true) else cend k l (j + 1)
theorem cend_le : ∀ (k : Nat) (l : List Int) (j : Nat), j ≤ l.length → l.length ≤ j + k → j ≤ (cend k l j).1 ∧ (cend k l j).1 ≤ l.length ∧ ((cend k l j).2 = false → (cend k l j).1 = l.length) := by
  intro k
  induction k with
  | zero => intro l j h1 h2; exact ⟨Nat.le_refl _, h1, fun _ => by show j = l.length; omega⟩
  | succ k ih =>
    intro l j h1 h2
    unfold cend
    split
    · exact ⟨Nat.le_refl _, h1, fun _ => by show j = l.length; omega⟩
    · split
      · next h3 =>
        have := turnsb_le h3
        exact ⟨by show j ≤ j + 2; omega, this, fun h => by cases h⟩
      · have := ih l (j + 1) (by omega) (by omega)
        exact ⟨by omega, this.2.1, this.2.2⟩
theorem lexL_nil {k : Nat} {l : List Int} {j : Nat} {b : Bool} {c : Nat} (h : l.length ≤ j) : lexL k l j b c = ([], [], b) := by
  cases k with
  | zero => rfl
  | succ k => unfold lexL; rw [if_pos h]
theorem lexL_cend : ∀ (k : Nat) (l : List Int) (j c : Nat), j ≤ l.length → l.length ≤ j + k →
    lexL k l j true c = ((lexL k l (cend k l j).1 (!(cend k l j).2) c).1, List.replicate ((cend k l j).1 - j) (-2) ++ (lexL k l (cend k l j).1 (!(cend k l j).2) c).2.1, (lexL k l (cend k l j).1 (!(cend k l j).2) c).2.2) := by
  intro k
  induction k with
  | zero => intro l j c h1 h2; unfold cend; rw [Nat.sub_self]; rfl
  | succ k ih =>
    intro l j c h1 h2
    conv => lhs; unfold lexL
    unfold cend
    by_cases e : l.length ≤ j
    · rw [if_pos e, if_pos e, lexL_nil e, Nat.sub_self]
      rfl
    · rw [if_neg e, if_neg e]
      by_cases h3 : turnsb l j true = true
      · have := turnsb_le h3
        rw [if_pos h3, if_pos h3]
        show _ = ((lexL (k + 1) l (j + 2) false c).1, List.replicate (j + 2 - j) (-2) ++ (lexL (k + 1) l (j + 2) false c).2.1, (lexL (k + 1) l (j + 2) false c).2.2)
        rw [lexL_fuel (k + 1) k l (j + 2) false c (by omega) (by omega), show j + 2 - j = 2 by omega]
        rfl
      · have hc := cend_le k l (j + 1) (by omega) (by omega)
        rw [if_neg h3, if_neg h3, if_pos rfl, ih l (j + 1) c (by omega) (by omega), lexL_fuel (k + 1) k l (cend k l (j + 1)).1 _ c (by omega) (by omega),
          show (cend k l (j + 1)).1 - j = ((cend k l (j + 1)).1 - (j + 1)) + 1 by omega, List.replicate_succ]
        rfl
/-- words as numbers -/
def pkl : List Int → Int → Int
  | [], a => a
  | c :: t, a => pkl t (w32 (w32 (a * 128) + c))
theorem pkl_app (l m : List Int) : ∀ a, pkl (l ++ m) a = pkl m (pkl l a) := by
  induction l with
  | nil => intro a; rfl
  | cons c t ih => intro a; exact ih _
def isW (w : List Int) : Prop := ∀ c ∈ w, 97 ≤ c ∧ c ≤ 122
theorem kwd_long {w : List Int} (h : 4 < w.length) : kwd w = 0 := by
  have e : ∀ m : List Int, m.length ≤ 4 → w ≠ m := fun m h2 e => by rw [e] at h; omega
  unfold kwd
  rw [if_neg (e _ (by decide)), if_neg (e _ (by decide)), if_neg (e _ (by decide)), if_neg (e _ (by decide)), if_neg (e _ (by decide)), if_neg (e _ (by decide)), if_neg (e _ (by decide)), if_neg (e _ (by decide))]
theorem kwd_pk {F : MF} {w : List Int} (h : isW w) (h1 : 1 ≤ w.length) (h2 : w.length ≤ 4) : g_210 F (pkl w 0) = kwd w := by
  have e2 : kwt 2 = [117, 115, 101] := by decide +kernel
  have e3 : kwt 3 = [102, 110] := by decide +kernel
  have e4 : kwt 4 = [108, 101, 116] := by decide +kernel
  have e5 : kwt 5 = [105, 102] := by decide +kernel
  have e6 : kwt 6 = [101, 108, 115, 101] := by decide +kernel
  have e7 : kwt 7 = [114, 101, 116] := by decide +kernel
  have e8 : kwt 8 = [121, 101, 115] := by decide +kernel
  have e9 : kwt 9 = [110, 111] := by decide +kernel
  unfold kwd g_210 g_209
  rw [e2, e3, e4, e5, e6, e7, e8, e9]
  match w, h, h1, h2 with
  | [a], h, _, _ =>
    have ha := h a (by simp)
    have e : pkl [a] 0 = a := by simp only [pkl, w32]; omega
    rw [e]
    simp only [List.cons.injEq, reduceCtorEq, and_false, if_false]
    (repeat' split) <;> first | rfl | omega
  | [a, b], h, _, _ =>
    have ha := h a (by simp)
    have hb := h b (by simp)
    have e : pkl [a, b] 0 = a * 128 + b := by simp only [pkl, w32]; omega
    rw [e]
    simp only [List.cons.injEq, reduceCtorEq, and_false, if_false, and_true]
    (repeat' split) <;> first | rfl | omega
  | [a, b, c], h, _, _ =>
    have ha := h a (by simp)
    have hb := h b (by simp)
    have hc := h c (by simp)
    have e : pkl [a, b, c] 0 = (a * 128 + b) * 128 + c := by simp only [pkl, w32]; omega
    rw [e]
    simp only [List.cons.injEq, reduceCtorEq, and_false, if_false, and_true]
    (repeat' split) <;> first | rfl | omega
  | [a, b, c, d], h, _, _ =>
    have ha := h a (by simp)
    have hb := h b (by simp)
    have hc := h c (by simp)
    have hd := h d (by simp)
    have e : pkl [a, b, c, d] 0 = ((a * 128 + b) * 128 + c) * 128 + d := by simp only [pkl, w32]; omega
    rw [e]
    simp only [List.cons.injEq, reduceCtorEq, and_false, if_false, and_true]
    (repeat' split) <;> first | rfl | omega
  | [], _, h1, _ => exact absurd h1 (by decide)
  | a :: b :: c :: d :: e :: t, _, _, h2 => simp at h2
theorem sgc_211 {F : MF} {c : Int} (h : c ≠ 32) : g_211 F c = sgc c := by
  unfold g_211 sgc
  rw [if_neg h]
  repeat' split
  all_goals first | rfl | omega
def TokM (F : MF) (f : Nat) (T : TT) : Prop := F 217 f = (T.length : Int) ∧ TokAt (F 213) (F 214) (F 215) (F 216) (200 * f) T
/-- nothing but the tokens of a file is changed -/
def Oth (f : Nat) (F F' : MF) : Prop := (∀ q, ¬ (200 * f ≤ q ∧ q < 200 * f + 200) → F' 213 q = F 213 q ∧ F' 214 q = F 214 q ∧ F' 215 q = F 215 q ∧ F' 216 q = F 216 q) ∧ (∀ q, q ≠ f → F' 217 q = F 217 q) ∧
  (∀ q, ¬ (8 * f ≤ q ∧ q < 8 * f + 8) → F' 218 q = F 218 q) ∧ (∀ q, ¬ (192 * f ≤ q ∧ q < 192 * f + 192) → F' 219 q = F 219 q) ∧ (∀ q, q ≠ 23 → F' 201 q = F 201 q) ∧ fr (fun c => c = 201 ∨ (213 ≤ c ∧ c ≤ 219)) F F'
theorem Oth.rf {f : Nat} {F : MF} : Oth f F F := ⟨fun _ _ => ⟨rfl, rfl, rfl, rfl⟩, fun _ _ => rfl, fun _ _ => rfl, fun _ _ => rfl, fun _ _ => rfl, fr.rf⟩
theorem Oth.tr {f : Nat} {F G H : MF} (h : Oth f F G) (k : Oth f G H) : Oth f F H :=
  ⟨fun q hq => ⟨(k.1 q hq).1.trans (h.1 q hq).1, (k.1 q hq).2.1.trans (h.1 q hq).2.1, (k.1 q hq).2.2.1.trans (h.1 q hq).2.2.1, (k.1 q hq).2.2.2.trans (h.1 q hq).2.2.2⟩,
   fun q hq => (k.2.1 q hq).trans (h.2.1 q hq), fun q hq => (k.2.2.1 q hq).trans (h.2.2.1 q hq), fun q hq => (k.2.2.2.1 q hq).trans (h.2.2.2.1 q hq), fun q hq => (k.2.2.2.2.1 q hq).trans (h.2.2.2.2.1 q hq), h.2.2.2.2.2.tr k.2.2.2.2.2⟩
theorem Oth.tx {f : Nat} {F F' : MF} {X : Nat → List Int} (h : Oth f F F') (hX : TxM F X) : TxM F' X := by
  unfold TxM
  rw [h.2.2.2.2.2 202 (by omega), h.2.2.2.2.2 203 (by omega)]
  exact hX
section M57
variable {F : MF} {X : Nat → List Int} {r f m : Nat} {T : TT}
theorem q_206 {j : Nat} (h : TxM F X) (hr : r < 24) (hj : j < (X r).length) : g_206 F (r : Int) (j : Int) = gx (X r) j := by
  unfold g_206
  rw [show (24 * (r : Int) + (j : Int)).toNat = 24 * r + j by omega]
  exact h.at hr hj
theorem ob_206 {j : Nat} (hr : r < 24) (hj : j < 24) : o_206 F (r : Int) (j : Int) := by
  unfold o_206
  exact ⟨by omega, by omega, by omega, trivial⟩
theorem l_213 (hr : r < 24) : ∀ (d j : Nat) (F : MF), (X r).length ≤ j + d → j ≤ (X r).length → St F → TxM F X → F 201 23 = 0 →
    L_213_7 (r : Int) (j : Int) F (fun x F' => x = ((cend d (X r) j).1 : Nat) ∧ F' 201 23 = bi (cend d (X r) j).2 ∧ (∀ q, q ≠ 23 → F' 201 q = F 201 q) ∧ fr (fun c => c = 201) F F') m_no := by
  intro d
  induction d with
  | zero =>
    intro j F h1 h2 hS hX h0
    refine b_213_7 hS ⟨by omega, ⟨fun h => ?_, fun _ => ⟨rfl, h0, fun _ _ => rfl, fr.rf⟩⟩⟩
    rw [Int.toNat_natCast, hX.len hr] at h
    omega
  | succ d ih =>
    intro j F h1 h2 hS hX h0
    have h24 := hX.le hr
    have hset : ∀ v : Int, St (m_up F 201 23 v) ∧ TxM (m_up F 201 23 v) X ∧ m_up F 201 23 v 201 23 = v ∧ (∀ q, q ≠ 23 → m_up F 201 23 v 201 q = F 201 q) ∧ fr (fun c => c = 201) F (m_up F 201 23 v) := fun v =>
      ⟨hS.fld kd_201 rk_12_23, by unfold TxM; rw [up_row (by decide), up_row (by decide)]; exact hX, u_eq, fun q hq => u_ne (Or.inr hq), fr.rf.up (by rfl)⟩
    unfold cend
    by_cases e : (X r).length ≤ j
    · rw [if_pos e]
      refine b_213_7 hS ⟨by omega, ⟨fun h => ?_, fun _ => ⟨rfl, h0, fun _ _ => rfl, fr.rf⟩⟩⟩
      rw [Int.toNat_natCast, hX.len hr] at h
      omega
    · rw [if_neg e]
      have no : ¬ turnsb (X r) j true = true → (-2147483648 ≤ ((j : Int) + 1) ∧ ((j : Int) + 1) < 2147483648) ∧ L_213_7 (r : Int) ((j : Int) + 1) (m_up F 201 23 0) (fun x F' => x = ((if turnsb (X r) j true = true then (j + 2, true) else cend d (X r) (j + 1)).1 : Nat) ∧ F' 201 23 = bi (if turnsb (X r) j true = true then (j + 2, true) else cend d (X r) (j + 1)).2 ∧ (∀ q, q ≠ 23 → F' 201 q = F 201 q) ∧ fr (fun c => c = 201) F F') m_no := fun h3 => by
        rw [if_neg h3]
        obtain ⟨k1, k2, k3, k4, k5⟩ := hset 0
        have := ih (j + 1) _ (by omega) (by omega) k1 k2 k3
        rw [show ((j + 1 : Nat) : Int) = (j : Int) + 1 by omega] at this
        exact ⟨by omega, EvI.mono this (fun x F' _ h => ⟨h.1, h.2.1, fun q hq => (h.2.2.1 q hq).trans (k4 q hq), k5.tr h.2.2.2⟩) (fun _ _ _ h => h)⟩
      have htu : turnsb (X r) j true = true ↔ j + 1 < (X r).length ∧ gx (X r) j = 42 ∧ gx (X r) (j + 1) = 47 := by
        constructor
        · intro h3
          have h4 := turnsb_le h3
          unfold turnsb at h3
          rw [if_pos rfl, decide_eq_true_iff, sgn_in (by omega), show (j : Int) + 1 = ((j + 1 : Nat) : Int) by omega, sgn_in (by omega)] at h3
          exact ⟨by omega, h3⟩
        · rintro ⟨h3, h4⟩
          unfold turnsb
          rw [if_pos rfl, decide_eq_true_iff, sgn_in (by omega), show (j : Int) + 1 = ((j + 1 : Nat) : Int) by omega, sgn_in (by omega)]
          exact h4
      refine b_213_7 hS ?_
      rw [Int.toNat_natCast, hX.len hr, h0, q_206 hX hr (by omega)]
      refine ⟨by omega, ⟨fun _ => ⟨fun _ => ⟨by omega, by omega, ⟨fun h3 => ?_, fun h3 => no (fun h4 => by have := htu.mp h4; omega)⟩⟩, fun h => absurd rfl h⟩, fun h => by omega⟩⟩
      have e1 : (j : Int) + 1 = ((j + 1 : Nat) : Int) := by omega
      rw [e1, q_206 hX hr (by omega), ← e1]
      refine ⟨ob_206 hr (by omega), ⟨fun h4 => ⟨by omega, by rw [e1]; exact ob_206 hr (by omega), ⟨fun h5 => ⟨by omega, ?_⟩, fun h5 => no (fun h6 => h5 (htu.mp h6).2.2)⟩⟩, fun h4 => no (fun h6 => h4 (htu.mp h6).2.1)⟩⟩
      rw [if_pos (htu.mpr ⟨by omega, h4, h5⟩)]
      obtain ⟨k1, k2, k3, k4, k5⟩ := hset 1
      rw [show (j : Int) + 2 = ((j + 2 : Nat) : Int) by omega]
      refine b_213_7 k1 ⟨by omega, ⟨fun _ => ⟨fun h6 => ?_, fun _ => ⟨rfl, k3, k4, k5⟩⟩, fun _ => ⟨rfl, k3, k4, k5⟩⟩⟩
      rw [k3] at h6
      exact absurd h6 (by decide)
theorem s_213 {j : Nat} (hr : r < 24) (hj : j ≤ (X r).length) (hS : St F) (hX : TxM F X) :
    C_213 (r : Int) (j : Int) F (fun x F' => x = ((cend 24 (X r) j).1 : Nat) ∧ F' 201 23 = bi (cend 24 (X r) j).2 ∧ (∀ q, q ≠ 23 → F' 201 q = F 201 q) ∧ fr (fun c => c = 201) F F') m_no := by
  refine c_213 hS ?_
  have hX2 : TxM (m_up F 201 23 0) X := by unfold TxM; rw [up_row (by decide), up_row (by decide)]; exact hX
  exact EvI.mono (l_213 hr 24 j _ (by have := hX.le hr; omega) hj (hS.fld kd_201 rk_12_23) hX2 u_eq) (fun x F' _ h => ⟨h.1, h.2.1, fun q hq => (h.2.2.1 q hq).trans (u_ne (Or.inr hq)), (fr.rf.up (by rfl)).tr h.2.2.2⟩) (fun _ _ _ h => h)
theorem p207 {c : Int} : p_207 F c ↔ isL c = true := by
  unfold isL p_207 p_203
  rw [decide_eq_true_iff]
  omega
theorem p208 {c : Int} : p_208 F c ↔ isD c = true := by
  unfold isD p_208 p_203
  rw [decide_eq_true_iff]
  omega
theorem l_214 (p : Int → Bool) {x3 : Int} {c : Nat} (hr : r < 24) (hS : St F) (hX : TxM F X) (hp : (p = isL ∧ x3 = 1) ∨ (p = isD ∧ x3 = 0)) : ∀ d j : Nat, j + d = (X r).length → c ≤ j →
    L_214_3 (r : Int) (c : Int) x3 (j : Int) F (fun x F' => x = (j : Int) - (c : Int) + (spn p ((X r).drop j) : Nat) ∧ F' = F) m_no := by
  have h24 := hX.le hr
  intro d
  induction d with
  | zero =>
    intro j hj hc
    refine b_214_3 hS ?_
    rw [Int.toNat_natCast, hX.len hr, List.drop_eq_nil_of_le (by omega)]
    exact ⟨by omega, ⟨fun h => by omega, fun _ => ⟨by omega, by unfold spn; omega, rfl⟩⟩⟩
  | succ d ih =>
    intro j hj hc
    have hsp : spn p ((X r).drop j) = if p (gx (X r) j) = true then 1 + spn p ((X r).drop (j + 1)) else 0 := by
      rw [drop_cons (by omega)]
      rfl
    have hgo : p (gx (X r) j) = true → L_214_3 (r : Int) (c : Int) x3 ((j : Int) + 1) F (fun x F' => x = (j : Int) - (c : Int) + (spn p ((X r).drop j) : Nat) ∧ F' = F) m_no := fun hq => by
      have := ih (j + 1) (by omega) (by omega)
      rw [show (((j + 1 : Nat)) : Int) = (j : Int) + 1 by omega] at this
      refine EvI.mono this ?_ (fun _ _ _ h => h)
      rintro x F' _ ⟨rfl, rfl⟩
      rw [hsp, if_pos hq]
      exact ⟨by omega, rfl⟩
    refine b_214_3 hS ?_
    rw [Int.toNat_natCast, hX.len hr, q_206 hX hr (by omega)]
    refine ⟨by omega, ⟨fun _ => ⟨fun h3 => ⟨ob_206 hr (by omega), fun h4 => ⟨by omega, hgo ?_⟩, fun h4 => ⟨by omega, ?_, rfl⟩⟩, fun h3 => ⟨ob_206 hr (by omega), fun h4 => ⟨by omega, hgo ?_⟩, fun h4 => ⟨by omega, ?_, rfl⟩⟩⟩, fun h => by omega⟩⟩
    · rcases hp with ⟨rfl, rfl⟩ | ⟨rfl, -⟩
      · cases h3
      · exact p208.mp h4
    · rcases hp with ⟨rfl, rfl⟩ | ⟨rfl, -⟩
      · cases h3
      · rw [hsp, if_neg (fun e => h4 (p208.mpr e))]
        omega
    · rcases hp with ⟨rfl, -⟩ | ⟨rfl, rfl⟩
      · exact p207.mp h4
      · exact absurd rfl h3
    · rcases hp with ⟨rfl, -⟩ | ⟨rfl, rfl⟩
      · rw [hsp, if_neg (fun e => h4 (p207.mpr e))]
        omega
      · exact absurd rfl h3
theorem s_214 (p : Int → Bool) {x3 : Int} {c : Nat} (hr : r < 24) (hc : c ≤ (X r).length) (hS : St F) (hX : TxM F X) (hp : (p = isL ∧ x3 = 1) ∨ (p = isD ∧ x3 = 0)) :
    C_214 (r : Int) (c : Int) x3 F (fun x F' => x = (spn p ((X r).drop c) : Nat) ∧ F' = F) m_no := by
  refine c_214 hS (EvI.mono (l_214 p hr hS hX hp ((X r).length - c) c (by omega) (Nat.le_refl _)) ?_ (fun _ _ _ h => h))
  rintro x F' _ ⟨rfl, rfl⟩
  exact ⟨by omega, rfl⟩
theorem s_212 {k : Int} {c s : Nat} (hf : f < 3) (hS : St F) (hT : TokM F f T) (hl : T.length < 192) :
    C_212 (f : Int) k (m : Int) (c : Int) (s : Int) F (fun F' => TokM F' f (T ++ [(k, m, c, s)]) ∧ Oth f F F' ∧ F' 219 = F 219 ∧ F' 218 = F 218 ∧ F' 201 = F 201) m_no := by
  refine c_212 hS ?_
  have e : (200 * (f : Int) + (T.length : Int)).toNat = 200 * f + T.length := by omega
  rw [Int.toNat_natCast, hT.1, e]
  refine ⟨by omega, by omega, by omega, by omega, by omega, by omega, by omega, by omega, by omega, by omega, ⟨?_, ?_⟩, ⟨fun q hq => ?_, fun q hq => ?_, fun q hq => ?_, fun q hq => ?_, fun q hq => ?_, ?_⟩, ?_, ?_, ?_⟩
  · rw [u_eq, List.length_append, List.length_singleton]
    omega
  · refine hT.2.push (fun i hi => ?_) ?_
    · have hi2 : i ≠ 200 * f + T.length := by omega
      refine ⟨?_, ?_, ?_, ?_⟩
      · rw [up_row (by decide), up_row (by decide), up_row (by decide), up_row (by decide), u_ne (Or.inr hi2)]
      · rw [up_row (by decide), up_row (by decide), up_row (by decide), u_ne (Or.inr hi2), up_row (by decide)]
      · rw [up_row (by decide), up_row (by decide), u_ne (Or.inr hi2), up_row (by decide), up_row (by decide)]
      · rw [up_row (by decide), u_ne (Or.inr hi2), up_row (by decide), up_row (by decide), up_row (by decide)]
    · refine ⟨?_, ?_, ?_, ?_⟩
      · rw [up_row (by decide), up_row (by decide), up_row (by decide), up_row (by decide), u_eq]
      · rw [up_row (by decide), up_row (by decide), up_row (by decide), u_eq]
      · rw [up_row (by decide), up_row (by decide), u_eq]
      · rw [up_row (by decide), u_eq]
  · have hq2 : q ≠ 200 * f + T.length := by omega
    refine ⟨?_, ?_, ?_, ?_⟩
    · rw [up_row (by decide), up_row (by decide), up_row (by decide), up_row (by decide), u_ne (Or.inr hq2)]
    · rw [up_row (by decide), up_row (by decide), up_row (by decide), u_ne (Or.inr hq2), up_row (by decide)]
    · rw [up_row (by decide), up_row (by decide), u_ne (Or.inr hq2), up_row (by decide), up_row (by decide)]
    · rw [up_row (by decide), u_ne (Or.inr hq2), up_row (by decide), up_row (by decide), up_row (by decide)]
  · rw [u_ne (Or.inr hq), up_row (by decide), up_row (by decide), up_row (by decide), up_row (by decide)]
  · rw [up_row (by decide), up_row (by decide), up_row (by decide), up_row (by decide), up_row (by decide)]
  · rw [up_row (by decide), up_row (by decide), up_row (by decide), up_row (by decide), up_row (by decide)]
  · rw [up_row (by decide), up_row (by decide), up_row (by decide), up_row (by decide), up_row (by decide)]
  · exact ((((fr.rf.up (by omega)).up (by omega)).up (by omega)).up (by omega)).up (by omega)
  · rw [up_row (by decide), up_row (by decide), up_row (by decide), up_row (by decide), up_row (by decide)]
  · rw [up_row (by decide), up_row (by decide), up_row (by decide), up_row (by decide), up_row (by decide)]
  · rw [up_row (by decide), up_row (by decide), up_row (by decide), up_row (by decide), up_row (by decide)]
end M57
