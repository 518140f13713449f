/-! WHICH TOKENS MAY STAND BEHIND SOME: by the class and by the reference -/
def mK (K : List Int) (m : Nat) (z : Int) : List Int := K.take m ++ (if z = 24 then [] else [z])
def hitE (E : EE) (m : Nat) : Bool := E.any (fun e => decide (e.1 = (m : Int)))
def bad (X : Nat → List Int) (f m : Nat) (z : Int) : Bool := hitE (prs (mK (ks X f) m z)).2.2.2.1 m
def msk (X : Nat → List Int) (f m : Nat) : Nat → Int
  | 0 => 0
  | z + 1 => if bad X f m (z : Int) = true then msk X f m z else m_or (msk X f m z) (m_shl 1 (z : Int))
/-- what the reference's trying leaves -/
def RH (n0 : Nat) (F F' : MF) : Prop := (∀ j, j ≠ 25 → j ≠ 26 → j ≠ 37 → j ≠ 41 → j ≠ 46 → j ≠ 48 → j ≠ 49 → j ≠ 51 → j ≠ 53 → j ≠ 54 → j ≠ 58 → j ≠ 59 → j ≠ 60 → j ≠ 63 → F' 201 j = F 201 j) ∧ Agf F F' n0 ∧ fr (fun c => c = 201 ∨ (220 ≤ c ∧ c ≤ 244)) F F'
def MP (n : Nat) : Nat → Prop := fun c => c = 97 ∨ RP (n + 68) 98 c
section Mg0
variable {F G : MF} {X : Nat → List Int} {K : List Int} {f m n n0 t : Nat} {z : Int} {E : EE}
theorem mK_len (hm : m ≤ K.length) : (mK K m z).length = m + (if z = 24 then 0 else 1) := by
  unfold mK
  rw [List.length_append, List.length_take, Nat.min_eq_left hm]
  split <;> rfl
theorem mK_lt (hm : m ≤ K.length) {i : Nat} (hi : i < m) : kn (mK K m z) i = kn K i := by
  have h1 : i < (mK K m z).length := by rw [mK_len hm]; omega
  rw [kn_gx h1, kn_gx (by omega)]
  unfold mK
  rw [gx_app, if_pos (by rw [List.length_take]; omega)]
  unfold gx
  rw [List.getD_eq_getElem?_getD, List.getD_eq_getElem?_getD, List.getElem?_take, if_pos hi]
theorem mK_at (hm : m ≤ K.length) : kn (mK K m z) m = z := by
  by_cases e : z = 24
  · rw [kn_end (by rw [mK_len hm, if_pos e]; omega), e]
  · have h1 : m < (mK K m z).length := by rw [mK_len hm, if_neg e]; omega
    rw [kn_gx h1]
    unfold mK
    have l : (K.take m).length = m := by rw [List.length_take]; omega
    rw [gx_app, if_neg (by omega), l, Nat.sub_self, if_neg e]
    rfl
theorem mK_end (hm : m ≤ K.length) {i : Nat} (hi : m < i) : kn (mK K m z) i = 24 := kn_end (by rw [mK_len hm]; split <;> omega)
theorem mK_no (hm : m ≤ K.length) (hN : ∀ i, i < K.length → kn K i ≠ 24) {i : Nat} (hi : i < (mK K m z).length) : kn (mK K m z) i ≠ 24 := by
  rw [mK_len hm] at hi
  by_cases e : i < m
  · rw [mK_lt hm e]; exact hN i (by omega)
  · by_cases e2 : z = 24
    · rw [if_pos e2] at hi; omega
    · rw [if_neg e2] at hi
      rw [show i = m by omega, mK_at hm]; exact e2
theorem wts_cong {K2 : List Int} : ∀ a, (∀ i, i < a → kn K2 i = kn K i) → wts K2 a = wts K a
  | 0, _ => rfl
  | a + 1, h => by
    show wts K2 a + wtk (kn K2 a) = wts K a + wtk (kn K a)
    rw [wts_cong a (fun i hi => h i (by omega)), h a (by omega)]
theorem mK_wt (hX : ∀ r, r < 24 → Rok (X r)) (hf : f < 3) (hm : m ≤ (ks X f).length) : wts (mK (ks X f) m z) (mK (ks X f) m z).length ≤ 199 := by
  have h1 := (lexTo_sw hX hf 8 (Nat.le_refl _)).1
  have h2 : wts (ks X f) (ks X f).length ≤ 192 := by
    rw [wts_sw]
    show sw ((lexTo X f 8).1.map _) ≤ 192
    omega
  have h3 := wts_mo (K := ks X f) (a := m) ((ks X f).length - m)
  rw [show m + ((ks X f).length - m) = (ks X f).length by omega] at h3
  have h4 : wts (mK (ks X f) m z) m = wts (ks X f) m := wts_cong m (fun i hi => mK_lt hm hi)
  rw [mK_len hm]
  by_cases e : z = 24
  · rw [if_pos e, Nat.add_zero, h4]; omega
  · rw [if_neg e]
    show wts (mK (ks X f) m z) m + wtk (kn (mK (ks X f) m z) m) ≤ 199
    have h5 : wtk (kn (mK (ks X f) m z) m) ≤ 3 := by unfold wtk; split <;> omega
    omega
theorem mK_193 (hX : ∀ r, r < 24 → Rok (X r)) (hf : f < 3) (hm : m ≤ (ks X f).length) : (mK (ks X f) m z).length ≤ 193 := by
  have h1 := ks_len hX hf
  rw [mK_len hm]
  split <;> omega
theorem mK_E (hX : ∀ r, r < 24 → Rok (X r)) (hf : f < 3) (hm : m ≤ (ks X f).length) : (prs (mK (ks X f) m z)).2.2.2.1.length ≤ 193 := by
  have hK := mK_193 (z := z) hX hf hm
  have h := PI_prun (K := mK (ks X f) m z) (by omega) (fun i hi => mK_no hm (fun i hi => ks_no hX hf hi) hi) 600 _ PI_0
  have h2 : (prs (mK (ks X f) m z)).2.2.2.1.length + (prs (mK (ks X f) m z)).2.1.length ≤ (prs (mK (ks X f) m z)).1 := h.2.2.1
  have h3 : (prs (mK (ks X f) m z)).1 ≤ (mK (ks X f) m z).length := h.1
  omega
theorem or_0 {x : Int} (h : -2147483648 ≤ x ∧ x < 2147483648) : m_or x 0 = x := by
  unfold m_or w32
  rw [show ((0 : Int) % 4294967296).toNat = 0 from rfl, Nat.or_zero]
  omega
theorem msk_rng : ∀ k, -2147483648 ≤ msk X f m k ∧ msk X f m k < 2147483648
  | 0 => by show -2147483648 ≤ (0 : Int) ∧ (0 : Int) < 2147483648; omega
  | k + 1 => by
    show -2147483648 ≤ (if bad X f m (k : Int) = true then msk X f m k else m_or (msk X f m k) (m_shl 1 (k : Int))) ∧ (if bad X f m (k : Int) = true then msk X f m k else m_or (msk X f m k) (m_shl 1 (k : Int))) < 2147483648
    split
    · exact msk_rng k
    · unfold m_or w32; omega
/-! the class -/
theorem l_124 (ht : t ∈ m_I9) (hS : St F) (h5 : F t 5 = (E.length : Int)) (hA : AL (F (t + 2)) (E.map (fun e => e.1))) (hl : E.length ≤ 200) : ∀ (d i : Nat), i + d = E.length → L_124_2 t (m : Int) (i : Int) F (fun r F' => F' = F ∧ r = (if hitE (E.drop i) m = true then 1 else 0)) m_no := by
  intro d
  induction d with
  | zero =>
    intro i hi
    obtain rfl : i = E.length := by omega
    rw [List.drop_length]
    exact b_124_2 ht hS ⟨fun h => by rw [h5] at h; omega, fun _ => ⟨rfl, rfl⟩⟩
  | succ d ih =>
    intro i hi
    have hi2 : i < E.length := by omega
    have hg : F (t + 2) i = (E[i]'hi2).1 := by
      rw [hA i (by rw [List.length_map]; exact hi2)]
      unfold gx
      rw [List.getD_eq_getElem?_getD, List.getElem?_map, List.getElem?_eq_getElem hi2]
      rfl
    have hd : hitE (E.drop i) m = (decide ((E[i]'hi2).1 = (m : Int)) || hitE (E.drop (i + 1)) m) := by
      rw [List.drop_eq_getElem_cons hi2]
      rfl
    rw [hd]
    refine b_124_2 ht hS ⟨fun _ => ⟨by omega, ?_, ?_⟩, fun h => by rw [h5] at h; omega⟩
    · rw [Int.toNat_natCast, hg]
      intro h
      rw [decide_eq_true h, Bool.true_or, if_pos rfl]
      exact ⟨rfl, rfl⟩
    · rw [Int.toNat_natCast, hg]
      intro h
      rw [decide_eq_false h, Bool.false_or, show (i : Int) + 1 = ((i + 1 : Nat) : Int) by omega]
      exact ⟨by omega, ih (i + 1) (by omega)⟩
theorem s_124 (ht : t ∈ m_I9) (hS : St F) (h5 : F t 5 = (E.length : Int)) (hA : AL (F (t + 2)) (E.map (fun e => e.1))) (hl : E.length ≤ 200) : C_124 t (m : Int) F (fun r F' => F' = F ∧ r = (if hitE E m = true then 1 else 0)) m_no :=
  c_124 ht hS (l_124 ht hS h5 hA hl E.length 0 (by omega))
theorem s_2 {b : Nat} (hb : b ∈ m_I8) (hS : St F) (hT : TokC F b (toks X f)) (hm : m ≤ (toks X f).length) (hl : (toks X f).length ≤ 192) : C_2 b (m : Int) F (fun r F' => r = (m : Int) ∧ (∀ c, c ≠ 97 → F' c = F c) ∧ ∀ i, i < m → F' 97 i = kn (ks X f) i) m_no := by
  have e : g_437 F 0 (g_438 F (m : Int) (F b 8)) = (m : Int) := by
    unfold g_437 g_438
    rw [hT.1, if_neg (show ¬ ((toks X f).length : Int) < (m : Int) by omega)]
    split <;> omega
  refine c_2 hb hS ?_
  rw [e]
  refine ⟨by omega, rfl, fun c hc => cp_row hc, fun i hi => ?_⟩
  have h1 := (hT.2 i (by omega)).1
  rw [Nat.zero_add] at h1
  rw [show (0 : Int).toNat = 0 from rfl, Int.toNat_natCast]
  unfold m_cpy
  rw [if_pos ⟨rfl, Nat.zero_le _, by omega⟩, Nat.zero_add, Nat.sub_zero, h1, kn_gx (by rw [ks_len']; omega), ks_at (by omega)]
theorem l_1 (hn : n ∈ m_I1) (hX : ∀ r, r < 24 → Rok (X r)) (hf : f < 3) (hm : m ≤ (ks X f).length) : ∀ (d k : Nat) (G : MF), k + d = 25 → St G → (∀ i, i < m → G 97 i = kn (ks X f) i) → L_1_19 n (msk X f m k) (m : Int) (k : Int) G (fun r F' => r = msk X f m 25 ∧ fr (MP n) G F') m_no := by
  have hkl := ks_len hX hf
  have h98 : 98 ∈ m_I9 := by decide
  intro d
  induction d with
  | zero =>
    intro k G hk hS hz
    obtain rfl : k = 25 := by omega
    exact b_1_19 hn hS ⟨fun _ => ⟨rfl, fr.rf⟩, fun h => absurd (by omega) h⟩
  | succ d ih =>
    intro k G hk hS hz
    obtain ⟨G1, e1⟩ : ∃ G1, G1 = m_up G 97 m (k : Int) := ⟨_, rfl⟩
    have hS1 : St G1 := by rw [e1]; exact hS.arr kd_97 (by decide)
    have hA : AL (G1 97) (mK (ks X f) m (k : Int)) := fun i hi => by
      rw [← kn_gx hi, e1]
      rw [mK_len hm] at hi
      by_cases c : i < m
      · rw [u_ne (Or.inr (by omega)), hz i c, mK_lt hm c]
      · have c2 : i = m := by
          by_cases c3 : (k : Int) = 24
          · rw [if_pos c3] at hi; omega
          · rw [if_neg c3] at hi; omega
        rw [c2, u_eq, mK_at hm]
    have hRX : RX (n + 68) 98 97 200 (mK (ks X f) m (k : Int)) := by
      have hl := mK_193 (z := (k : Int)) hX hf hm
      refine ⟨io_1_4 hn, h98, kd_97, by omega, by omega, fun c hc e => ?_, ?_⟩
      · unfold RP at hc
        unfold m_I1 at hn
        rcases List.mem_cons.mp hn with h | h
        · omega
        · have := List.mem_singleton.mp h; omega
      · unfold m_I1 at hn
        rcases List.mem_cons.mp hn with h | h
        · omega
        · have := List.mem_singleton.mp h; omega
    have key : C_58 (n + 68) 97 ((mK (ks X f) m (k : Int)).length : Int) 98 G1 (fun F16 => C_124 98 (m : Int) F16 (fun r23 F20 => ((r23 = 0 → (0 ≤ (k : Int) ∧ (k : Int) < 32) ∧ (-2147483648 ≤ ((k : Int) + 1) ∧ ((k : Int) + 1) < 2147483648) ∧ L_1_19 n (m_or (msk X f m k) (m_shl 1 (k : Int))) (m : Int) ((k : Int) + 1) F20 (fun r F' => r = msk X f m 25 ∧ fr (MP n) G F') m_no) ∧ (¬ (r23 = 0) → (-2147483648 ≤ ((k : Int) + 1) ∧ ((k : Int) + 1) < 2147483648) ∧ L_1_19 n (msk X f m k) (m : Int) ((k : Int) + 1) F20 (fun r F' => r = msk X f m 25 ∧ fr (MP n) G F') m_no))) m_no) m_no := by
      refine CaV.on (s_58 hRX hS1 hA (fun i hi => mK_no hm (fun i hi => ks_no hX hf hi) hi) (mK_wt hX hf hm)) ?_
      rintro F16 hS2 ⟨k3, k4⟩
      obtain ⟨-, -, -, -, ⟨t1, t2, -⟩, -⟩ := k4
      have hE := mK_E (z := (k : Int)) hX hf hm
      refine CaI.on (s_124 (m := m) h98 hS2 t1 t2 (by omega)) ?_
      rintro r F20 hS3 ⟨rfl, rfl⟩
      have fr1 : fr (MP n) G F20 := (show fr (MP n) G G1 by rw [e1]; exact fr.rf.up (Or.inl rfl)).tr (k3.mo (fun c h => Or.inr h))
      have hz2 : ∀ i, i < m → F20 97 i = kn (ks X f) i := fun i hi => by
        rw [k3 97 (fun h => hRX.2.2.2.2.2.1 97 h rfl), e1, u_ne (Or.inr (by omega))]
        exact hz i hi
      have nx := ih (k + 1) F20 (by omega) hS3 hz2
      rw [show ((k + 1 : Nat) : Int) = (k : Int) + 1 by omega] at nx
      have nx2 : ∀ y, y = msk X f m (k + 1) → L_1_19 n y (m : Int) ((k : Int) + 1) F20 (fun r F' => r = msk X f m 25 ∧ fr (MP n) G F') m_no := fun y hy => by
        rw [hy]
        exact EvI.mono nx (fun r F' _ h => ⟨h.1, fr1.tr h.2⟩) (fun _ _ _ h => h)
      have eb : bad X f m (k : Int) = hitE (prs (mK (ks X f) m (k : Int))).2.2.2.1 m := rfl
      have em : msk X f m (k + 1) = if bad X f m (k : Int) = true then msk X f m k else m_or (msk X f m k) (m_shl 1 (k : Int)) := rfl
      rw [← eb]
      cases hb : bad X f m (k : Int) with
      | true =>
        rw [hb, if_pos rfl] at em
        rw [if_pos rfl]
        exact ⟨fun h => absurd h (by decide), fun _ => ⟨by omega, nx2 _ em.symm⟩⟩
      | false =>
        rw [hb, if_neg (by decide)] at em
        rw [if_neg (by decide)]
        exact ⟨fun _ => ⟨by omega, by omega, nx2 _ em.symm⟩, fun h => absurd rfl h⟩
    rw [mK_len hm] at key
    refine b_1_19 hn hS ⟨fun h => by omega, fun _ => ⟨by omega, fun e24 => ?_, fun e24 => ?_⟩⟩
    · rw [if_pos e24, Nat.add_zero, e1] at key
      rw [Int.toNat_natCast]
      exact key
    · rw [if_neg e24, e1] at key
      rw [Int.toNat_natCast]
      exact ⟨by omega, key⟩
theorem s_1 (hn : n ∈ m_I1) (hS : St F) (hX : ∀ r, r < 24 → Rok (X r)) (hD : DTT F n X) (hf : f < 3) (hm : m ≤ (toks X f).length) : C_1 n (f : Int) (m : Int) F (fun r F' => r = msk X f m 25 ∧ fr (MP n) F F') m_no := by
  have hfi : (0 : Int) ≤ (f : Int) ∧ (f : Int) < 3 := by omega
  have i8 := io_rows hn hfi
  rw [Int.toNat_natCast] at i8
  refine c_1 hn hS ⟨hfi, ?_⟩
  rw [Int.toNat_natCast]
  refine CaI.on (s_2 i8 hS (hD.2 f hf).1.1 hm (toks_len hX hf)) ?_
  rintro r F1 hS1 ⟨rfl, k1, k2⟩
  refine EvI.mono (l_1 hn hX hf (by rw [ks_len']; exact hm) 25 0 F1 (by decide) hS1 k2) (fun r F' _ h => ⟨h.1, (show fr (MP n) F F1 from fun c hc => k1 c (fun e => hc (Or.inl e))).tr h.2⟩) (fun _ _ _ h => h)
/-! the reference -/
theorem RH.rf : RH n0 F F := ⟨fun _ _ _ _ _ _ _ _ _ _ _ _ _ _ _ => rfl, Agf.rf, fr.rf⟩
theorem RH.tr {F1 : MF} (h : RH n0 F F1) (k : RH n0 F1 G) : RH n0 F G := ⟨fun j a b c d e f g i x y z w u v => (k.1 j a b c d e f g i x y z w u v).trans (h.1 j a b c d e f g i x y z w u v), h.2.1.tr k.2.1 (Nat.le_refl _), h.2.2.tr k.2.2⟩
theorem LexM.cg (h : LexM F f X) (e : ∀ c, 213 ≤ c → c ≤ 219 → G c = F c) : LexM G f X := by
  unfold LexM TokM at h ⊢
  rw [e 213 (by decide) (by decide), e 214 (by decide) (by decide), e 215 (by decide) (by decide), e 216 (by decide) (by decide), e 217 (by decide) (by decide), e 218 (by decide) (by decide), e 219 (by decide) (by decide)]
  exact h
theorem l_299 {x4 : Int} (hS : St F) (hE : ErrM F E) (hEl : E.length < 600) : ∀ (d i : Nat), i + d = E.length → L_299_45 (m : Int) x4 (if hitE (E.take i) m = true then 1 else 0) (i : Int) F (fun r F' => r = (if hitE E m = true then 1 else 0) ∧ F' = m_up F 201 27 x4) m_no := by
  obtain ⟨e1, e2, -⟩ := hE
  intro d
  induction d with
  | zero =>
    intro i hi
    obtain rfl : i = E.length := by omega
    rw [List.take_length]
    refine b_299_45 hS ⟨fun h => by rw [e1] at h; omega, fun _ => ⟨?_, rfl, rfl⟩⟩
    split
    · exact Or.inr rfl
    · exact Or.inl rfl
  | succ d ih =>
    intro i hi
    have hi2 : i < E.length := by omega
    have hg : F 230 i = (E[i]'hi2).1 := by
      rw [e2 i (by rw [List.length_map]; exact hi2)]
      unfold gx
      rw [List.getD_eq_getElem?_getD, List.getElem?_map, List.getElem?_eq_getElem hi2]
      rfl
    have ht : hitE (E.take (i + 1)) m = (hitE (E.take i) m || decide ((E[i]'hi2).1 = (m : Int))) := by
      unfold hitE
      rw [List.take_succ_eq_append_getElem hi2, List.any_append, List.any_cons, List.any_nil, Bool.or_false]
    have nx := ih (i + 1) (by omega)
    rw [ht, show ((i + 1 : Nat) : Int) = (i : Int) + 1 by omega] at nx
    cases hb : hitE (E.take i) m with
    | true =>
      rw [hb, Bool.true_or, if_pos rfl] at nx
      rw [if_pos rfl]
      exact b_299_45 hS ⟨fun _ => ⟨fun h => absurd h (by decide), fun _ => ⟨by omega, nx⟩⟩, fun h => by rw [e1] at h; omega⟩
    | false =>
      rw [hb, Bool.false_or] at nx
      rw [if_neg (by decide)]
      refine b_299_45 hS ⟨fun _ => ⟨fun _ => ⟨by omega, ?_, ?_⟩, fun h => absurd rfl h⟩, fun h => by rw [e1] at h; omega⟩
      · rw [Int.toNat_natCast, hg]
        intro h
        rw [decide_eq_true h, if_pos rfl] at nx
        exact ⟨by omega, nx⟩
      · rw [Int.toNat_natCast, hg]
        intro h
        rw [decide_eq_false h, if_neg (by decide)] at nx
        exact ⟨by omega, nx⟩
theorem s_299 (hS : St F) (hX : ∀ r, r < 24 → Rok (X r)) (hf : f < 3) (hL : LexM F f X) (hm : m ≤ (toks X f).length) (hz : 0 ≤ z ∧ z ≤ 24) (h27 : F 201 27 = (n0 : Int)) (hn0 : n0 ≤ 1152) : C_299 (f : Int) (m : Int) z F (fun r F' => r = (if bad X f m z = true then 1 else 0) ∧ RH n0 F F') m_no := by
  have hmk : m ≤ (ks X f).length := by rw [ks_len']; exact hm
  have hkl := ks_len hX hf
  have hK := mK_193 (z := z) hX hf hmk
  have hE := mK_E (z := z) hX hf hmk
  have hl := mK_len (z := z) hmk
  refine c_299 hS ?_
  refine CaV.on (s_247 hS hf (by omega)) ?_
  rintro F1 hS1 ⟨a1, a2, a3, a4, a5⟩
  rw [Int.toNat_natCast, h27]
  have a6 : ∀ i, i < m → F1 220 i = kn (mK (ks X f) m z) i := fun i hi => by
    rw [a4 i hi, (lexm_tok hL (by omega)).1, mK_lt hmk hi]
  have fin : ∀ H, St H → (∀ c, c ≠ 220 → H c = F1 c) → SQ H (mK (ks X f) m z) → C_246 H (fun F7 => L_299_45 (m : Int) (n0 : Int) 0 0 F7 (fun r F' => r = (if bad X f m z = true then 1 else 0) ∧ RH n0 F F') m_no) m_no := by
    intro H hSH hz' hQ
    refine CaV.on (s_246 (n0 := n0) hSH hQ (by omega) (fun i hi => mK_no hmk (fun i hi => ks_no hX hf hi) hi) (by omega) (by rw [hz' 201 (by decide), a2 27 (by decide), h27])) ?_
    rintro G1 hS2 ⟨b1, N', b2, b3, b4, -⟩
    have hE1 : ErrM G1 (prs (mK (ks X f) m z)).2.2.2.1 := b4.2.2.2.1
    have h0 := l_299 (m := m) (x4 := (n0 : Int)) hS2 hE1 (by omega) _ 0 (Nat.zero_add _)
    rw [List.take_zero] at h0
    refine EvI.mono h0 ?_ (fun _ _ _ h => h)
    rintro r G2 hS3 ⟨c1, rfl⟩
    refine ⟨c1, fun j j25 j26 j37 j41 j46 j48 j49 j51 j53 j54 j58 j59 j60 j63 => ?_, fun c i x y w => ?_, fun c hc => ?_⟩
    · by_cases e : j = 27
      · rw [e, u_eq, h27]
      · rw [u_ne (Or.inr e), b1.1 j j26 e j37 j41 j46 j48 j49 j51 j53 j54 j58 j59 j60 j63, hz' 201 (by decide), a2 j j25]
    · rw [up_row (by omega), b1.2.1 c i x y w, hz' c (by omega), a1 c (by omega) (by omega)]
    · have hc2 : c ≠ 201 ∧ ¬ (220 ≤ c ∧ c ≤ 244) := ⟨fun e => hc (Or.inl e), fun e => hc (Or.inr e)⟩
      rw [up_row hc2.1, b1.2.2 c (fun e => hc (by omega)), hz' c (by omega), a1 c (by omega) hc2.1]
  refine ⟨fun e => ?_, fun e => ⟨by omega, by omega, by omega, ?_⟩⟩
  · refine fin F1 hS1 (fun c _ => rfl) (fun i hi => ?_)
    rw [hl, if_pos e] at hi
    by_cases c : i < m
    · exact a6 i c
    · rw [a5 i (by omega) (by omega)]
      by_cases c2 : i = m
      · rw [c2, mK_at hmk, e]
      · rw [mK_end hmk (by omega)]
  · rw [show (m : Int) + 3 = ((m + 3 : Nat) : Int) by omega, Int.toNat_natCast]
    refine fin _ ((hS1.arr kd_220 (by decide)).arr kd_220 (by decide)) (fun c hc => by rw [up_row hc, up_row hc]) (fun i hi => ?_)
    rw [hl, if_neg e] at hi
    by_cases c : i = m + 3
    · rw [c, u_eq, mK_end hmk (by omega)]
    · rw [u_ne (Or.inr c)]
      by_cases c2 : i = m
      · rw [c2, u_eq, mK_at hmk]
      · rw [u_ne (Or.inr c2)]
        by_cases c3 : i < m
        · exact a6 i c3
        · rw [a5 i (by omega) (by omega), mK_end hmk (by omega)]
theorem l_367 (hX : ∀ r, r < 24 → Rok (X r)) (hf : f < 3) (hL : LexM F f X) (hm : m ≤ (toks X f).length) (h27 : F 201 27 = (n0 : Int)) (hn0 : n0 ≤ 1152) : ∀ (d k : Nat) (G : MF), k + d = 25 → St G → RH n0 F G → L_367_15 (f : Int) (m : Int) (msk X f m k) (k : Int) G (fun r F' => r = msk X f m 25 ∧ RH n0 F F') m_no := by
  intro d
  induction d with
  | zero =>
    intro k G hk hS hr
    obtain rfl : k = 25 := by omega
    exact b_367_15 hS ⟨fun _ => ⟨rfl, hr⟩, fun h => absurd (by omega) h⟩
  | succ d ih =>
    intro k G hk hS hr
    have h27' : G 201 27 = (n0 : Int) := by
      rw [hr.1 27 (by decide) (by decide) (by decide) (by decide) (by decide) (by decide) (by decide) (by decide) (by decide) (by decide) (by decide) (by decide) (by decide) (by decide)]
      exact h27
    refine b_367_15 hS ⟨fun h => by omega, fun _ => ?_⟩
    refine CaI.on (s_299 (z := (k : Int)) hS hX hf (hL.cg (fun c a b => hr.2.2 c (by omega))) hm (by omega) h27' hn0) ?_
    rintro r F3 hS3 ⟨rfl, hr3⟩
    have nx := ih (k + 1) F3 (by omega) hS3 (hr.tr hr3)
    rw [show ((k + 1 : Nat) : Int) = (k : Int) + 1 by omega] at nx
    have em : msk X f m (k + 1) = if bad X f m (k : Int) = true then msk X f m k else m_or (msk X f m k) (m_shl 1 (k : Int)) := rfl
    rw [em] at nx
    cases hb : bad X f m (k : Int) with
    | true =>
      rw [hb, if_pos rfl] at nx
      rw [if_pos rfl]
      refine ⟨fun h => absurd h (by decide), fun _ => ⟨by omega, ?_⟩⟩
      rw [or_0 (msk_rng k)]
      exact nx
    | false =>
      rw [hb, if_neg (by decide)] at nx
      rw [if_neg (by decide)]
      exact ⟨fun _ => ⟨by omega, by omega, nx⟩, fun h => absurd rfl h⟩
end Mg0
