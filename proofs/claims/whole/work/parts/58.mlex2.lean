/-! LEXING OF THE REFERENCE: tokens, lines, files -/
section M58
variable {F : MF} {X : Nat → List Int} {r f m : Nat} {T : TT}
theorem ob_210 {x : Int} : o_210 F x := by
  unfold o_210 o_209
  simp
theorem seg_take {l : List Int} {j s i : Nat} (hi : i < s) (h : j + s ≤ l.length) : (seg l j s).take (i + 1) = (seg l j s).take i ++ [gx l (j + i)] := by
  have hl : i < (seg l j s).length := by rw [seg_len h]; exact hi
  rw [List.take_succ, List.getElem?_eq_getElem hl]
  have := seg_gx (l := l) (j := j) (s := s) hi
  unfold gx at this
  rw [List.getD_eq_getElem?_getD, List.getElem?_eq_getElem hl] at this
  show _ ++ [(seg l j s)[i]] = _
  congr 1
  exact congrArg (fun x => [x]) this
theorem seg_isW {l : List Int} {j s : Nat} (h : s ≤ spn isL (l.drop j)) : isW (seg l j s) := by
  intro c hc
  obtain ⟨i, hi, rfl⟩ := List.getElem_of_mem hc
  have hi2 : i < s := by
    unfold seg at hi
    rw [List.length_take] at hi
    omega
  have h1 := spn_all isL (l.drop j) i (by omega)
  rw [gx_drop, ← seg_gx hi2] at h1
  unfold gx at h1
  rw [List.getD_eq_getElem?_getD, List.getElem?_eq_getElem hi] at h1
  exact of_decide_eq_true h1
/-- what is known behind a token that is laid -/
def LT (f m j s : Nat) (k : Int) (T : TT) (F F' : MF) : Prop := TokM F' f (T ++ [(k, m, j, s)]) ∧ Oth f F F' ∧ F' 219 = F 219 ∧ F' 218 = F 218 ∧ F' 201 = F 201
theorem l_215 {j s : Nat} (hf : f < 3) (hm : m < 8) (hS : St F) (hX : TxM F X) (hT : TokM F f T) (hl : T.length < 192) (hr : r < 24) (hs : 1 ≤ s) (hj : j + s ≤ (X r).length) (hw : isW (seg (X r) j s)) :
    ∀ d i : Nat, i + d = s → L_215_51 (f : Int) (m : Int) (j : Int) (r : Int) (s : Int) (pkl ((seg (X r) j s).take i) 0) (i : Int) F (fun x F' => x = (s : Int) ∧ LT f m j s (kwd (seg (X r) j s)) T F F') m_no := by
  have h24 := hX.le hr
  have hsl := seg_len hj
  intro d
  induction d with
  | zero =>
    intro i hi
    obtain rfl : i = s := by omega
    refine b_215_51 hS ⟨fun h => by omega, fun _ => ⟨fun h4 => ?_, fun h4 => ⟨ob_210, ?_⟩⟩⟩
    · refine CaV.on (s_212 hf hS hT hl) (fun F' _ h => ⟨rfl, ?_⟩)
      rw [kwd_long (by omega)]
      exact h
    · rw [List.take_of_length_le (by omega), kwd_pk hw (by omega) (by omega)]
      exact CaV.on (s_212 hf hS hT hl) (fun F' _ h => ⟨rfl, h⟩)
  | succ d ih =>
    intro i hi
    refine b_215_51 hS ⟨fun _ => ?_, fun h => by omega⟩
    have e : (j : Int) + (i : Int) = ((j + i : Nat) : Int) := by omega
    rw [e, q_206 hX hr (by omega)]
    refine ⟨by omega, ob_206 hr (by omega), by omega, ?_⟩
    have := ih (i + 1) (by omega)
    rw [seg_take (by omega) hj, pkl_app] at this
    exact this
theorem s_215 {j : Nat} (hf : f < 3) (hm : m < 8) (hS : St F) (hX : TxM F X) (hT : TokM F f T) (hl : T.length < 192) (hr : r = 8 * f + m) (hj : j < (X r).length) (hb : gx (X r) j ≠ 32) :
    C_215 (f : Int) (m : Int) (j : Int) F (fun x F' => x = (span (X r) j : Nat) ∧ LT f m j (span (X r) j) (clsw (seg (X r) j (span (X r) j))) T F F') m_no := by
  have hr24 : r < 24 := by omega
  have h24 := hX.le hr24
  have e0 : 8 * (f : Int) + (m : Int) = (r : Int) := by omega
  have hs1 := span_pos (X r) j hj
  have hs2 := span_le (X r) j hj
  have hg : gx (seg (X r) j (span (X r) j)) 0 = gx (X r) j := seg_gx hs1
  refine c_215 hS ?_
  rw [e0, q_206 hX hr24 hj, Int.toNat_natCast, hX.len hr24]
  refine ⟨by omega, by omega, ob_206 hr24 (by omega), ⟨fun h1 => ?_, fun h1 => ⟨fun h2 => ?_, fun h2 => ?_⟩⟩⟩
  · have h1' := p207.mp h1
    have hne : gx (X r) j ≠ 61 := fun e => by rw [e] at h1'; exact absurd h1' (by decide)
    have hsp : span (X r) j = spn isL ((X r).drop j) := by unfold span; rw [if_neg hne, if_pos h1']
    refine CaI.on (s_214 isL hr24 (by omega) hS hX (Or.inl ⟨rfl, rfl⟩)) ?_
    rintro x F1 hS1 ⟨rfl, rfl⟩
    have hc : clsw (seg (X r) j (span (X r) j)) = kwd (seg (X r) j (span (X r) j)) := by unfold clsw; rw [hg, if_pos h1']
    rw [hc, ← hsp]
    exact l_215 hf hm hS1 hX hT hl hr24 hs1 hs2 (seg_isW (by omega)) (span (X r) j) 0 (by omega)
  · have h1' : ¬ isL (gx (X r) j) = true := fun e => h1 (p207.mpr e)
    have h2' := p208.mp h2
    have hne : gx (X r) j ≠ 61 := fun e => by rw [e] at h2'; exact absurd h2' (by decide)
    have hsp : span (X r) j = spn isD ((X r).drop j) := by unfold span; rw [if_neg hne, if_neg h1', if_pos h2']
    refine CaI.on (s_214 isD hr24 (by omega) hS hX (Or.inr ⟨rfl, rfl⟩)) ?_
    rintro x F1 hS1 ⟨rfl, rfl⟩
    have hc : clsw (seg (X r) j (span (X r) j)) = if 3 < span (X r) j then 23 else 1 := by unfold clsw; rw [hg, if_neg h1', if_pos h2', seg_len hs2]
    rw [hc, ← hsp]
    refine ⟨fun h3 => ?_, fun h3 => ?_⟩
    · rw [if_pos (by omega)]
      exact CaV.on (s_212 hf hS1 hT hl) (fun F' _ h => ⟨rfl, h⟩)
    · rw [if_neg (by omega)]
      exact CaV.on (s_212 hf hS1 hT hl) (fun F' _ h => ⟨rfl, h⟩)
  · have h1' : ¬ isL (gx (X r) j) = true := fun e => h1 (p207.mpr e)
    have h2' : ¬ isD (gx (X r) j) = true := fun e => h2 (p208.mpr e)
    have hc : ∀ s, span (X r) j = s → clsw (seg (X r) j (span (X r) j)) = if s = 2 then 17 else sgc (gx (X r) j) := fun s e => by unfold clsw; rw [hg, if_neg h1', if_neg h2', seg_len hs2, e]
    have one : span (X r) j = 1 → C_212 (f : Int) (g_211 F (gx (X r) j)) (m : Int) (j : Int) 1 F (fun F' => (1 : Int) = (span (X r) j : Nat) ∧ LT f m j (span (X r) j) (clsw (seg (X r) j (span (X r) j))) T F F') m_no := fun e => by
      have h3 := hc 1 e
      rw [if_neg (by decide)] at h3
      rw [h3, e, sgc_211 hb]
      exact CaV.on (s_212 (s := 1) hf hS hT hl) (fun F' _ h => ⟨rfl, h⟩)
    refine ⟨fun h3 => ⟨by omega, by omega, ⟨fun h4 => ?_, fun h4 => one ?_⟩⟩, fun h3 => one ?_⟩
    · have e1 : (j : Int) + 1 = ((j + 1 : Nat) : Int) := by omega
      have h5 := sgn_in (l := X r) (j := j + 1) (by omega)
      rw [← e1] at h5
      rw [e1, q_206 hX hr24 (by omega)]
      refine ⟨by omega, ob_206 hr24 (by omega), ⟨fun h6 => ?_, fun h6 => one ?_⟩⟩
      · have hsp : span (X r) j = 2 := by unfold span; rw [if_pos h3, h5, if_pos h6]
        have h7 := hc 2 hsp
        rw [if_pos rfl] at h7
        rw [h7, hsp]
        exact CaV.on (s_212 (s := 2) hf hS hT hl) (fun F' _ h => ⟨rfl, h⟩)
      · unfold span
        rw [if_pos h3, h5, if_neg h6]
    · unfold span
      rw [if_pos h3, sgn_out (by omega), if_neg (by decide)]
    · unfold span
      rw [if_neg h3, if_neg h1', if_neg h2']
/-- what is laid of a line of the reference -/
def ML_ (f m : Nat) (F : MF) (T : TT) (L : List (Int × Nat × Nat) × List Int × Bool) (j len : Nat) (x : Int) (F' : MF) : Prop :=
  x = bi L.2.2 ∧ TokM F' f (T ++ tln m L.1) ∧ F' 218 (8 * f + m) = bi L.2.2 ∧ (∀ q, q ≠ 8 * f + m → F' 218 q = F 218 q) ∧ (∀ i, i < len - j → F' 219 (24 * (8 * f + m) + j + i) = if gx L.2.1 i = -2 then 1 else 0) ∧
  (∀ q, ¬ (24 * (8 * f + m) + j ≤ q ∧ q < 24 * (8 * f + m) + len) → F' 219 q = F 219 q) ∧ Oth f F F'
theorem ML_step {F F2 F' : MF} {T : TT} {U : List (Int × Nat × Nat)} {L : List (Int × Nat × Nat) × List Int × Bool} {j s len : Nat} {v x : Int}
    (h : ML_ f m F2 (T ++ tln m U) L (j + s) len x F') (hs : j + s ≤ len) (ho : ∀ i, i < s → F2 219 (24 * (8 * f + m) + j + i) = if v = -2 then 1 else 0)
    (hq : ∀ q, ¬ (24 * (8 * f + m) + j ≤ q ∧ q < 24 * (8 * f + m) + j + s) → F2 219 q = F 219 q) (h8 : F2 218 = F 218) (hf : Oth f F F2) : ML_ f m F T (U ++ L.1, List.replicate s v ++ L.2.1, L.2.2) j len x F' := by
  obtain ⟨h1, h2, h3, h4, h5, h6, h7⟩ := h
  refine ⟨h1, ?_, h3, fun q hq2 => ?_, fun i hi => ?_, fun q hq2 => ?_, hf.tr h7⟩
  · show TokM F' f (T ++ tln m (U ++ L.1))
    rw [tln_app, ← List.append_assoc]
    exact h2
  · rw [h4 q hq2, h8]
  · show _ = if gx (List.replicate s v ++ L.2.1) i = -2 then 1 else 0
    rw [gx_app, List.length_replicate]
    by_cases e : i < s
    · rw [if_pos e, h6 _ (by omega), ho i e]
      unfold gx
      rw [List.getD_eq_getElem?_getD, List.getElem?_replicate, if_pos e]
      rfl
    · rw [if_neg e, ← h5 (i - s) (by omega), show 24 * (8 * f + m) + (j + s) + (i - s) = 24 * (8 * f + m) + j + i by omega]
  · rw [h6 q (by omega), hq q (by omega)]
theorem l_216c {e : Nat} {R : Int → MF → Prop} (hr : r = 8 * f + m) (hf : f < 3) (hm : m < 8) (he : e ≤ 24) : ∀ (d i : Nat) (F : MF), i + d = e → St F →
    (∀ F2, St F2 → (∀ q, i ≤ q → q < e → F2 219 (24 * r + q) = 1) → (∀ q, ¬ (24 * r + i ≤ q ∧ q < 24 * r + e) → F2 219 q = F 219 q) → fr (fun c => c = 219) F F2 →
      (F2 201 23 = 0 → L_216_14 (f : Int) (m : Int) (r : Int) 1 (e : Int) F2 R m_no) ∧ (F2 201 23 ≠ 0 → L_216_14 (f : Int) (m : Int) (r : Int) 0 (e : Int) F2 R m_no)) →
    L_216_119 (f : Int) (m : Int) (r : Int) (e : Int) (i : Int) F R m_no := by
  intro d
  induction d with
  | zero =>
    intro i F hi hS K
    refine b_216_119 hS ⟨fun h => by omega, fun _ => ?_⟩
    exact K F hS (fun q h1 h2 => by omega) (fun _ _ => rfl) fr.rf
  | succ d ih =>
    intro i F hi hS K
    refine b_216_119 hS ⟨fun _ => ⟨by omega, by omega, by omega, by omega, ?_⟩, fun h => by omega⟩
    rw [show (24 * (r : Int) + (i : Int)).toNat = 24 * r + i by omega, show (i : Int) + 1 = ((i + 1 : Nat) : Int) by omega]
    refine ih (i + 1) _ (by omega) (hS.arr kd_219 (by decide)) (fun F2 hS2 h1 h2 h3 => ?_)
    refine K F2 hS2 (fun q h4 h5 => ?_) (fun q h4 => ?_) ((fr.rf.up (by rfl)).tr h3)
    · by_cases e2 : q = i
      · rw [e2, h2 _ (by omega), u_eq]
      · exact h1 q (by omega) h5
    · rw [h2 q (by omega), u_ne (Or.inr (by omega))]
theorem Oth.up219 {q : Nat} {v : Int} (h : 192 * f ≤ q ∧ q < 192 * f + 192) : Oth f F (m_up F 219 q v) :=
  ⟨fun _ _ => ⟨by rw [up_row (by decide)], by rw [up_row (by decide)], by rw [up_row (by decide)], by rw [up_row (by decide)]⟩, fun _ _ => by rw [up_row (by decide)], fun _ _ => by rw [up_row (by decide)], fun k hk => u_ne (Or.inr (by omega)), fun _ _ => by rw [up_row (by decide)], fr.rf.up (by omega)⟩
theorem TokM.same {F' : MF} (h : TokM F f T) (hf : fr (fun c => c = 201 ∨ c = 218 ∨ c = 219) F F') : TokM F' f T := by
  unfold TokM
  rw [hf 217 (by omega), hf 213 (by omega), hf 214 (by omega), hf 215 (by omega), hf 216 (by omega)]
  exact h
theorem l_216 (hf : f < 3) (hm : m < 8) (hr : r = 8 * f + m) : ∀ (k j : Nat) (b : Bool) (F : MF) (T : TT), (X r).length ≤ j + k → j ≤ (X r).length → k ≤ 24 → St F → TxM F X → TokM F f T → T.length ≤ 24 * m + j →
    (∀ i, j ≤ i → i < (X r).length → F 219 (24 * r + i) = 0) →
    L_216_14 (f : Int) (m : Int) (r : Int) (bi b) (j : Int) F (ML_ f m F T (lexL 24 (X r) j b T.length) j (X r).length) m_no := by
  have hr24 : r < 24 := by omega
  intro k
  induction k with
  | zero =>
    intro j b F T h1 h2 hk hS hX hT hTl h0
    have h24 := hX.le hr24
    rw [lexL_nil (by omega)]
    refine b_216_14 hS ?_
    rw [Int.toNat_natCast, hX.len hr24]
    refine ⟨by omega, ⟨fun h => by omega, fun _ => ⟨by omega, bi01 b, bi01 b, rfl, ?_, ?_, fun q hq => ?_, fun i hi => by omega, fun q _ => up_row (a := 218) (c := 219) (by decide) ▸ rfl, ?_⟩⟩⟩
    · show TokM _ f (T ++ [])
      rw [List.append_nil]
      exact hT.same (fr.rf.up (by omega))
    · rw [hr, u_eq]
    · rw [u_ne (Or.inr (by omega))]
    · exact ⟨fun _ _ => ⟨by rw [up_row (by decide)], by rw [up_row (by decide)], by rw [up_row (by decide)], by rw [up_row (by decide)]⟩, fun _ _ => by rw [up_row (by decide)], fun q hq => u_ne (Or.inr (by omega)), fun _ _ => by rw [up_row (by decide)], fun _ _ => by rw [up_row (by decide)], fr.rf.up (by omega)⟩
  | succ k ih =>
    intro j b F T h1 h2 hk hS hX hT hTl h0
    have h24 := hX.le hr24
    by_cases e : (X r).length ≤ j
    · rw [lexL_nil e]
      refine b_216_14 hS ?_
      rw [Int.toNat_natCast, hX.len hr24]
      refine ⟨by omega, ⟨fun h => by omega, fun _ => ⟨by omega, bi01 b, bi01 b, rfl, ?_, ?_, fun q hq => ?_, fun i hi => by omega, fun q _ => up_row (a := 218) (c := 219) (by decide) ▸ rfl, ?_⟩⟩⟩
      · show TokM _ f (T ++ [])
        rw [List.append_nil]
        exact hT.same (fr.rf.up (by omega))
      · rw [hr, u_eq]
      · rw [u_ne (Or.inr (by omega))]
      · exact ⟨fun _ _ => ⟨by rw [up_row (by decide)], by rw [up_row (by decide)], by rw [up_row (by decide)], by rw [up_row (by decide)]⟩, fun _ _ => by rw [up_row (by decide)], fun q hq => u_ne (Or.inr (by omega)), fun _ _ => by rw [up_row (by decide)], fun _ _ => by rw [up_row (by decide)], fr.rf.up (by omega)⟩
    · -- a comment from a column on, whose inside begins at a later one
      have com : ∀ p : Nat, (p = 0 ∧ b = true ∨ p = 2 ∧ b = false ∧ turnsb (X r) j false = true) →
          C_213 (r : Int) ((j + p : Nat) : Int) F (fun x F1 => L_216_119 (f : Int) (m : Int) (r : Int) x (j : Int) F1 (ML_ f m F T (lexL 24 (X r) j b T.length) j (X r).length) m_no) m_no := by
        intro p hp
        have hp2 : j + p ≤ (X r).length := by
          rcases hp with ⟨rfl, -⟩ | ⟨rfl, -, h⟩
          · omega
          · exact turnsb_le h
        refine CaI.on (s_213 hr24 hp2 hS hX) ?_
        rintro x F1 hS1 ⟨rfl, h3, h4, h5⟩
        have hc := cend_le 24 (X r) (j + p) hp2 (by omega)
        have hlex : lexL 24 (X r) j b T.length = ((lexL 24 (X r) (cend 24 (X r) (j + p)).1 (!(cend 24 (X r) (j + p)).2) T.length).1, List.replicate ((cend 24 (X r) (j + p)).1 - j) (-2) ++ (lexL 24 (X r) (cend 24 (X r) (j + p)).1 (!(cend 24 (X r) (j + p)).2) T.length).2.1, (lexL 24 (X r) (cend 24 (X r) (j + p)).1 (!(cend 24 (X r) (j + p)).2) T.length).2.2) := by
          rcases hp with ⟨rfl, rfl⟩ | ⟨rfl, rfl, h⟩
          · exact lexL_cend 24 (X r) j T.length h2 (by omega)
          · conv => lhs; unfold lexL
            rw [if_neg e, if_pos h]
            show ((lexL 23 (X r) (j + 2) true T.length).1, -2 :: -2 :: (lexL 23 (X r) (j + 2) true T.length).2.1, (lexL 23 (X r) (j + 2) true T.length).2.2) = _
            rw [lexL_fuel 23 24 (X r) (j + 2) true T.length (by omega) (by omega), lexL_cend 24 (X r) (j + 2) T.length hp2 (by omega), show (cend 24 (X r) (j + 2)).1 - j = ((cend 24 (X r) (j + 2)).1 - (j + 2)) + 1 + 1 by omega, List.replicate_succ, List.replicate_succ]
            rfl
        have hgt : j < (cend 24 (X r) (j + p)).1 := by
          rcases hp with ⟨rfl, -⟩ | ⟨rfl, -, -⟩
          · by_cases e2 : (cend 24 (X r) (j + 0)).2 = false
            · have := hc.2.2 e2
              omega
            · unfold cend at e2 ⊢
              rw [Nat.add_zero] at e2 ⊢
              rw [if_neg e] at e2 ⊢
              split
              · show j < j + 2
                omega
              · have := (cend_le 23 (X r) (j + 1) (by omega) (by omega)).1
                omega
          · omega
        have hO1 : Oth f F F1 := ⟨fun _ _ => ⟨by rw [h5 _ (by omega)], by rw [h5 _ (by omega)], by rw [h5 _ (by omega)], by rw [h5 _ (by omega)]⟩, fun _ _ => by rw [h5 _ (by omega)], fun _ _ => by rw [h5 _ (by omega)], fun _ _ => by rw [h5 _ (by omega)], h4, h5.mo (fun c h => Or.inl h)⟩
        refine l_216c hr hf hm (by omega) ((cend 24 (X r) (j + p)).1 - j) j F1 (by omega) hS1 (fun F2 hS2 k1 k2 k3 => ?_)
        have hO2 : Oth f F1 F2 := ⟨fun _ _ => ⟨by rw [k3 _ (by omega)], by rw [k3 _ (by omega)], by rw [k3 _ (by omega)], by rw [k3 _ (by omega)]⟩, fun _ _ => by rw [k3 _ (by omega)], fun _ _ => by rw [k3 _ (by omega)], fun q hq => k2 q (by omega), fun _ _ => by rw [k3 _ (by omega)], k3.mo (fun c h => by omega)⟩
        have hO : Oth f F F2 := hO1.tr hO2
        have h23 : F2 201 23 = bi (cend 24 (X r) (j + p)).2 := by rw [k3 _ (by omega)]; exact h3
        have hT2 : TokM F2 f T := hT.same ((h5.mo (fun c h => Or.inl h)).tr (k3.mo (fun c h => Or.inr (Or.inr h))))
        have go := ih (cend 24 (X r) (j + p)).1 (!(cend 24 (X r) (j + p)).2) F2 T (by omega) hc.2.1 (by omega) hS2 (hO.tx hX) hT2 (by omega) (fun i h6 h7 => by rw [k2 _ (by omega), h5 _ (by omega)]; exact h0 i (by omega) h7)
        have fin : ∀ x F', ML_ f m F2 T (lexL 24 (X r) (cend 24 (X r) (j + p)).1 (!(cend 24 (X r) (j + p)).2) T.length) (cend 24 (X r) (j + p)).1 (X r).length x F' → ML_ f m F T (lexL 24 (X r) j b T.length) j (X r).length x F' := fun x F' h => by
          rw [hlex]
          refine ML_step (U := []) (F2 := F2) (s := (cend 24 (X r) (j + p)).1 - j) ?_ (by omega) (fun i hi => ?_) (fun q hq => ?_) (by rw [k3 _ (by omega), h5 _ (by omega)]) hO
          · show ML_ f m F2 (T ++ []) _ _ _ _ _
            rw [List.append_nil, show j + ((cend 24 (X r) (j + p)).1 - j) = (cend 24 (X r) (j + p)).1 by omega]
            exact h
          · rw [if_pos rfl, ← hr, show 24 * r + j + i = 24 * r + (j + i) by omega]
            exact k1 _ (by omega) (by omega)
          · rw [k2 q (by omega), h5 _ (by omega)]
        refine ⟨fun h6 => ?_, fun h6 => ?_⟩
        · rw [h23] at h6
          have h7 := bi0.mp h6
          rw [h7] at go fin
          exact EvI.mono go (fun x F' _ h => fin x F' h) (fun _ _ _ h => h)
        · rw [h23] at h6
          have h7 : (cend 24 (X r) (j + p)).2 = true := by
            cases hh : (cend 24 (X r) (j + p)).2
            · rw [hh] at h6; exact absurd rfl h6
            · rfl
          rw [h7] at go fin
          exact EvI.mono go (fun x F' _ h => fin x F' h) (fun _ _ _ h => h)
      -- no comment here
      have pln : (b = true ∨ ¬ turnsb (X r) j false = true) → L_216_81 (f : Int) (m : Int) (r : Int) (bi b) (j : Int) (gx (X r) j) F (ML_ f m F T (lexL 24 (X r) j b T.length) j (X r).length) m_no := by
        intro hb
        refine b_216_81 hS ⟨fun h3 => ?_, fun h3 => ?_⟩
        · have hbf := bi0.mp h3
          subst hbf
          have hnt : ¬ turnsb (X r) j false = true := by
            rcases hb with h | h
            · cases h
            · exact h
          have hlx : ∀ s T2, 1 ≤ s → j + s ≤ (X r).length → lexL 23 (X r) (j + s) false T2 = lexL 24 (X r) (j + s) false T2 := fun s T2 hs hs2 => lexL_fuel 23 24 (X r) (j + s) false T2 (by omega) (by omega)
          refine ⟨fun h4 => ⟨by omega, ?_⟩, fun h4 => ?_⟩
          · have go := ih (j + 1) false F T (by omega) (by omega) (by omega) hS hX hT (by omega) (fun i h6 h7 => h0 i (by omega) h7)
            rw [show ((j + 1 : Nat) : Int) = (j : Int) + 1 by omega] at go
            refine EvI.mono go (fun x F' _ h => ?_) (fun _ _ _ h => h)
            have hl2 : lexL 24 (X r) j false T.length = ([] ++ (lexL 24 (X r) (j + 1) false T.length).1, List.replicate 1 (-1) ++ (lexL 24 (X r) (j + 1) false T.length).2.1, (lexL 24 (X r) (j + 1) false T.length).2.2) := by
              conv => lhs; unfold lexL
              rw [if_neg e, if_neg hnt, if_neg (by decide), if_pos h4, hlx 1 _ (by omega) (by omega)]
              rfl
            rw [hl2]
            refine ML_step (F2 := F) (by show ML_ f m F (T ++ []) _ _ _ _ _; rw [List.append_nil]; exact h) (by omega) (fun i hi => ?_) (fun q hq => rfl) rfl Oth.rf
            rw [if_neg (by decide), ← hr]
            exact h0 (j + i) (by omega) (by omega) |> fun h => by rw [Nat.add_assoc]; exact h
          · have hs1 := span_pos (X r) j (by omega)
            have hs2 := span_le (X r) j (by omega)
            refine CaI.on (s_215 hf hm hS hX hT (by omega) hr (by omega) h4) ?_
            rintro x F1 hS1 ⟨rfl, h5, h6, h7, h8, h9⟩
            have go := ih (j + span (X r) j) false F1 _ (by omega) hs2 (by omega) hS1 (h6.tx hX) h5 (by rw [List.length_append, List.length_singleton]; omega) (fun i h10 h11 => by rw [h7]; exact h0 i (by omega) h11)
            rw [show ((j + span (X r) j : Nat) : Int) = (j : Int) + ((span (X r) j : Nat) : Int) by omega, List.length_append, List.length_singleton] at go
            refine ⟨by omega, EvI.mono go (fun x F' _ h => ?_) (fun _ _ _ h => h)⟩
            have hl2 : lexL 24 (X r) j false T.length = ([(clsw (seg (X r) j (span (X r) j)), j, span (X r) j)] ++ (lexL 24 (X r) (j + span (X r) j) false (T.length + 1)).1, List.replicate (span (X r) j) (T.length : Int) ++ (lexL 24 (X r) (j + span (X r) j) false (T.length + 1)).2.1, (lexL 24 (X r) (j + span (X r) j) false (T.length + 1)).2.2) := by
              conv => lhs; unfold lexL
              rw [if_neg e, if_neg hnt, if_neg (by decide), if_neg h4, hlx _ _ hs1 hs2]
              rfl
            rw [hl2]
            refine ML_step (F2 := F1) h hs2 (fun i hi => ?_) (fun q hq => by rw [h7]) h8 h6
            rw [if_neg (by omega), h7, ← hr, Nat.add_assoc]
            exact h0 (j + i) (by omega) (by omega)
        · have hbt : b = true := by
            cases b
            · exact absurd rfl h3
            · rfl
          have := com 0 (Or.inl ⟨rfl, hbt⟩)
          exact ⟨by omega, by rw [show (j : Int) + 0 = ((j + 0 : Nat) : Int) by omega]; exact this⟩
      have htu : turnsb (X r) j false = true ↔ j + 1 < (X r).length ∧ gx (X r) j = 47 ∧ gx (X r) (j + 1) = 42 := by
        constructor
        · intro h3
          have h4 := turnsb_le h3
          unfold turnsb at h3
          rw [if_neg (by decide), decide_eq_true_iff, sgn_in (by omega), show (j : Int) + 1 = ((j + 1 : Nat) : Int) by omega, sgn_in (by omega)] at h3
          exact ⟨by omega, h3⟩
        · rintro ⟨h3, h4⟩
          unfold turnsb
          rw [if_neg (by decide), decide_eq_true_iff, sgn_in (by omega), show (j : Int) + 1 = ((j + 1 : Nat) : Int) by omega, sgn_in (by omega)]
          exact h4
      refine b_216_14 hS ?_
      rw [Int.toNat_natCast, hX.len hr24, q_206 hX hr24 (by omega)]
      refine ⟨by omega, ⟨fun _ => ⟨ob_206 hr24 (by omega), ⟨fun h3 => ⟨fun h4 => ⟨by omega, by omega, ⟨fun h5 => ?_, fun h5 => pln (Or.inr (fun h => by have := htu.mp h; omega))⟩⟩, fun h4 => pln (Or.inr (fun h => h4 (htu.mp h).2.1))⟩, fun h3 => pln (Or.inl (by
        cases b
        · exact absurd rfl h3
        · rfl))⟩⟩, fun h => by omega⟩⟩
      have e1 : (j : Int) + 1 = ((j + 1 : Nat) : Int) := by omega
      rw [e1, q_206 hX hr24 (by omega)]
      refine ⟨by omega, ob_206 hr24 (by omega), ⟨fun h6 => ?_, fun h6 => pln (Or.inr (fun h => h6 (htu.mp h).2.2))⟩⟩
      have hc2 := com 2 (Or.inr ⟨rfl, bi0.mp h3, htu.mpr ⟨by omega, h4, h6⟩⟩)
      rw [show ((j + 2 : Nat) : Int) = (j : Int) + 2 by omega] at hc2
      exact ⟨by omega, hc2⟩
end M58
