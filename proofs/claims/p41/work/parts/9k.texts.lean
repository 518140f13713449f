/-! TEXTS OF TOKENS -/
abbrev tl (X : Nat → List Int) (f k : Nat) : Nat := (tk (toks X f) k).2.1
abbrev tc (X : Nat → List Int) (f k : Nat) : Nat := (tk (toks X f) k).2.2.1
abbrev ts (X : Nat → List Int) (f k : Nat) : Nat := (tk (toks X f) k).2.2.2
def chr (X : Nat → List Int) (f k i : Nat) : Int := gx (X (8 * f + tl X f k)) (tc X f k + i)
def tx (X : Nat → List Int) (f k : Nat) : List Int := (List.range (ts X f k)).map (fun i => chr X f k i)
section M9k
variable {X : Nat → List Int} {f g k h : Nat}
theorem lexL_tok : ∀ (d : Nat) (l : List Int) (j : Nat) (b : Bool) (c : Nat), ∀ t ∈ (lexL d l j b c).1, 1 ≤ t.2.2 ∧ t.2.1 + t.2.2 ≤ l.length ∧ t.1 = clsw (seg l t.2.1 t.2.2) := by
  intro d
  induction d with
  | zero => intro l j b c t h; exact absurd h (List.not_mem_nil)
  | succ d ih =>
    intro l j b c t
    unfold lexL
    split
    · intro h; exact absurd h (List.not_mem_nil)
    · next e =>
      split
      · intro h; exact ih _ _ _ _ t h
      · split
        · intro h; exact ih _ _ _ _ t h
        · split
          · intro h; exact ih _ _ _ _ t h
          · intro h
            rcases List.mem_cons.mp h with h | h
            · rw [h]
              exact ⟨span_pos l j (by omega), span_le l j (by omega), rfl⟩
            · exact ih _ _ _ _ t h
theorem lexTo_tok : ∀ m, m ≤ 8 → ∀ t ∈ (lexTo X f m).1, t.2.1 < 8 ∧ 1 ≤ t.2.2.2 ∧ t.2.2.1 + t.2.2.2 ≤ (X (8 * f + t.2.1)).length ∧ t.1 = clsw (seg (X (8 * f + t.2.1)) t.2.2.1 t.2.2.2) := by
  intro m
  induction m with
  | zero => intro _ t h; exact absurd h (List.not_mem_nil)
  | succ m ih =>
    intro hm t h
    rcases List.mem_append.mp h with h | h
    · exact ih (by omega) t h
    · obtain ⟨u, hu, rfl⟩ := List.mem_map.mp h
      have := lexL_tok _ _ _ _ _ u hu
      exact ⟨by show m < 8; omega, this.1, this.2.1, this.2.2⟩
theorem toks_ok (hk : k < (toks X f).length) : tl X f k < 8 ∧ 1 ≤ ts X f k ∧ tc X f k + ts X f k ≤ (X (8 * f + tl X f k)).length ∧ (tk (toks X f) k).1 = clsw (seg (X (8 * f + tl X f k)) (tc X f k) (ts X f k)) := lexTo_tok 8 (Nat.le_refl _) _ (tk_mem hk)
theorem kn_tk (hk : k < (toks X f).length) : kn (ks X f) k = (tk (toks X f) k).1 := by rw [kn_gx (by rw [ks_len']; exact hk), ks_at hk]
theorem tx_len : (tx X f k).length = ts X f k := by unfold tx; rw [List.length_map, List.length_range]
theorem tx_gx {i : Nat} (hi : i < ts X f k) : gx (tx X f k) i = chr X f k i := by
  unfold gx tx
  rw [List.getD_eq_getElem?_getD, List.getElem?_map, List.getElem?_range hi]
  rfl
theorem tx_eq : tx X f k = tx X g h ↔ ts X f k = ts X g h ∧ ∀ i, i < ts X f k → chr X f k i = chr X g h i := by
  constructor
  · intro e
    have e1 : ts X f k = ts X g h := by rw [← tx_len, e, tx_len]
    exact ⟨e1, fun i hi => by rw [← tx_gx hi, e, tx_gx (by omega)]⟩
  · rintro ⟨e1, e2⟩
    exact gx_ext (by rw [tx_len, tx_len, e1]) (fun j hj => by rw [tx_len] at hj; rw [tx_gx hj, tx_gx (by omega), e2 j hj])
end M9k
section M9k2
variable {F : MF} {X : Nat → List Int} {f g k h n : Nat}
theorem gac_tok (hG : GaC F n f X) (hk : k < (toks X f).length) : F (n + 1) k = kn (ks X f) k ∧ F (n + 2) k = (tl X f k : Int) ∧ F (n + 3) k = (tc X f k : Int) ∧ F (n + 4) k = (ts X f k : Int) := by
  have := hG.1.2 k hk
  rw [Nat.zero_add] at this
  rw [kn_tk hk]
  exact this
theorem q_22t (hL : LinC F n X) (hX : ∀ r, r < 24 → Rok (X r)) (hf : f < 3) (hk : k < (toks X f).length) {i : Nat} (hi : i < ts X f k) : g_22 F n ((8 * f + tl X f k : Nat) : Int) ((tc X f k + i : Nat) : Int) = chr X f k i ∧ o_22 F n ((8 * f + tl X f k : Nat) : Int) ((tc X f k + i : Nat) : Int) := by
  have h1 := toks_ok hk
  have hr : 8 * f + tl X f k < 24 := by omega
  have hl := hL.len hr
  have h24 := hL.le hr
  have hc := hL.ch hr (j := tc X f k + i) (by omega)
  have e2 : (((8 * f + tl X f k : Nat) : Int) * 24 + ((tc X f k + i : Nat) : Int)).toNat = 24 * (8 * f + tl X f k) + (tc X f k + i) := by omega
  have hv := hL.at hr (j := tc X f k + i) (by omega)
  refine ⟨?_, ?_⟩
  · unfold g_22
    rw [if_neg (by omega), if_pos (by omega), if_neg (by omega), Int.toNat_natCast, hl, if_pos (by omega), e2, hv]
    rfl
  · unfold o_22
    rw [Int.toNat_natCast, hl, e2, hv]
    refine ⟨fun _ => trivial, fun _ => ⟨fun _ => ⟨fun _ => trivial, fun _ => ⟨by omega, fun _ => ⟨by omega, by omega, by omega, by omega, trivial⟩, fun _ => trivial⟩⟩, fun _ => trivial⟩⟩
theorem s_17 (hn : n ∈ m_I1) (hS : St F) (hX : ∀ r, r < 24 → Rok (X r)) (hL : LinC F (n + 1) X) (hG : ∀ f, f < 3 → GaC F (n + (11 + 19 * f)) f X) (hf : f < 3) (hg : g < 3) (hk : k < (toks X f).length) (hh : h < (toks X g).length) :
    C_17 n ((200 * f + k : Nat) : Int) ((200 * g + h : Nat) : Int) F (fun r F' => r = bi (decide (tx X f k = tx X g h)) ∧ F' = F) m_no := by
  have lk := toks_len hX hf
  have lh := toks_len hX hg
  have e1 : ((200 * f + k : Nat) : Int) / 200 = (f : Int) := by omega
  have e2 : ((200 * f + k : Nat) : Int) % 200 = (k : Int) := by omega
  have e3 : ((200 * g + h : Nat) : Int) / 200 = (g : Int) := by omega
  have e4 : ((200 * g + h : Nat) : Int) % 200 = (h : Int) := by omega
  have tf := gac_tok (hG f hf) hk
  have tg := gac_tok (hG g hg) hh
  have o1 := toks_ok hk
  have o2 := toks_ok hh
  have hr1 : 8 * f + tl X f k < 24 := by omega
  have hr2 : 8 * g + tl X g h < 24 := by omega
  have w1 := hL.le hr1
  have w2 := hL.le hr2
  refine c_17 hn hS ?_
  rw [e1, e2, e3, e4, Int.toNat_natCast, Int.toNat_natCast, Int.toNat_natCast, Int.toNat_natCast, (hG f hf).1.1, (hG g hg).1.1, tf.2.2.2, tg.2.2.2, tf.2.1, tg.2.1]
  refine ⟨fun _ => by omega, fun _ => ⟨fun _ => ⟨fun _ => by omega, fun _ => ⟨fun _ => ⟨by omega, by omega, by omega, by omega, by omega, by omega, ⟨fun _ => ⟨fun _ => ⟨by omega, by omega, fun e => ⟨by omega, by omega, by omega, by omega, by omega, by omega, by omega, by omega, ?_⟩, fun e => ⟨?_, rfl⟩⟩, fun h => by omega⟩, fun h => by omega⟩⟩, fun h => by omega⟩⟩, fun h => by omega⟩⟩
  · have n3 := i8_of hn hf
    have n4 := i8_of hn hg
    have es : ts X f k = ts X g h := by omega
    have key : ∀ (d i : Nat), i + d = ts X f k → (∀ j, j < i → chr X f k j = chr X g h j) → L_17_140 n (n + (11 + 19 * f)) (n + (11 + 19 * g)) (k : Int) (h : Int) ((8 * f + tl X f k : Nat) : Int) ((8 * g + tl X g h : Nat) : Int) (i : Int) F (fun r F' => r = bi (decide (tx X f k = tx X g h)) ∧ F' = F) m_no := by
      intro d
      induction d with
      | zero =>
        intro i hi hj
        refine b_17_140 hn n3 n4 hS ?_
        rw [Int.toNat_natCast, tf.2.2.2]
        refine ⟨by omega, fun h => by omega, fun _ => ⟨?_, rfl⟩⟩
        rw [decide_eq_true (tx_eq.mpr ⟨es, fun j hj2 => hj j (by omega)⟩)]
        rfl
      | succ d ih =>
        intro i hi hj
        refine b_17_140 hn n3 n4 hS ?_
        rw [Int.toNat_natCast, Int.toNat_natCast, tf.2.2.2, tf.2.2.1, tg.2.2.1, show (tc X f k : Int) + (i : Int) = ((tc X f k + i : Nat) : Int) by omega, show (tc X g h : Int) + (i : Int) = ((tc X g h + i : Nat) : Int) by omega]
        have q1 := q_22t hL hX hf hk (i := i) (by omega)
        have q2 := q_22t hL hX hg hh (i := i) (by omega)
        rw [q1.1, q2.1, show (i : Int) + 1 = ((i + 1 : Nat) : Int) by omega]
        refine ⟨by omega, fun _ => ⟨by omega, by omega, q1.2, by omega, by omega, q2.2, fun e => ⟨by omega, ih (i + 1) (by omega) (fun j hj2 => ?_)⟩, fun e => ⟨?_, rfl⟩⟩, fun h => by omega⟩
        · by_cases e3 : j = i
          · rw [e3]; exact e
          · exact hj j (by omega)
        · rw [decide_eq_false (fun e3 => e ((tx_eq.mp e3).2 i (by omega)))]
          rfl
    have := key (ts X f k) 0 (by omega) (fun j hj => absurd hj (Nat.not_lt_zero j))
    rw [show (f : Int) * 8 + (tl X f k : Int) = ((8 * f + tl X f k : Nat) : Int) by omega, show (g : Int) * 8 + (tl X g h : Int) = ((8 * g + tl X g h : Nat) : Int) by omega]
    exact this
  · rw [decide_eq_false (fun e3 => e (by rw [(tx_eq.mp e3).1]))]
    rfl
end M9k2
