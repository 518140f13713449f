/-! AN INLINING, OF THE REFERENCE: whether it can be; the text -/
/-- a text that is written so far, of the reference -/
def TxR (F G : MF) (V : List Int) : Prop := (∀ c, c ≠ 201 → c ≠ 271 → G c = F c) ∧ (∀ j, j ≠ 104 → G 201 j = F 201 j) ∧ G 201 104 = (V.length : Int) ∧ AL (G 271) V
section Mk8
variable {F G : MF} {X : Nat → List Int} {W1 V : List Int} {f t e i j k c n hi iL : Nat} {L : List Nat} {it : IT} {v : Int} {nn : Nat → Nat}
theorem pif_01 {p : Prop} : (pif p 1 0 = 0 ↔ ¬ p) ∧ (pif p 1 0 = 0 ∨ pif p 1 0 = 1) := by
  by_cases h : p
  · rw [pif_1 h]
    exact ⟨⟨fun h2 => absurd h2 (by decide), fun h2 => absurd h h2⟩, Or.inr rfl⟩
  · rw [pif_0 h]
    exact ⟨⟨fun _ => h, fun _ => rfl⟩, Or.inl rfl⟩
theorem s_320 (hS : St G) (hD : LKd F X nn) (hf : f < 3) (hl : LSq F G [] (ndc L)) (hO : OrF F X f L it c hi W1) (h1 : 1 ≤ t) (ht : t + 2 ≤ e) (he : e < (toks X f).length) (hL : c ≤ iL) (hL2 : iL < c + it.2.2.2.2.2.length) (hw : gx (Cw X f) iL = mk 7 t e) (hok : ∀ q, t ≤ q → q < e → okx (kn (ks X f) q)) :
    C_320 (f : Int) ((200 * f + t : Nat) : Int) ((200 * f + e : Nat) : Int) G (fun r G' => r = pif (tl X f (t - 1) = tl X f e ∧ ¬ callsX X f (t + 2) e ∧ ¬ wrt X f t e ∧ alk X f t e) 1 0 ∧ G' = G) m_no := by
  have hX := hD.1.hX
  have lk := toks_len hX hf
  have hRG : RA G X nn := hl.w.ra hD.1
  obtain ⟨w1, w2, w3, w4, w5⟩ := or_wd hO
  have hB : ∀ id, id < 600 → G 253 id = bnd X id := fun id hid => by rw [hl.1 253 (by decide) (by decide) (by decide)]; exact hD.2.1 id hid
  obtain ⟨S, hS0⟩ : ∃ S : Int → Prop, S = stW X f c (c + it.2.2.2.2.2.length) := ⟨_, rfl⟩
  have wS : wrt X f t e ↔ S ((200 * f + t : Nat) : Int) ∨ ∃ k, t + 2 ≤ k ∧ k < e ∧ bnd X (200 * f + k) ≠ -1 ∧ S (bnd X (200 * f + k)) := by
    rw [hS0]
    constructor
    · rintro ⟨i, i1, i2, i3, i4⟩
      have hc := wrt_in hX hf hO.2.2.1 (by omega) hw (by omega) hL hL2 (by omega) hok i1 (Or.inl i2) i3 i4
      rcases i4 with h | ⟨k, k1, k2, k3⟩
      · exact Or.inl ⟨i, hc.1, hc.2, i2, h⟩
      · exact Or.inr ⟨k, k1, k2, by rw [k3]; exact i3, i, hc.1, hc.2, i2, k3.symm⟩
    · rintro (⟨i, i1, i2, i3, i4⟩ | ⟨k, k1, k2, k3, i, i1, i2, i3, i4⟩)
      · exact ⟨i, by omega, i3, by rw [i4]; omega, Or.inl i4⟩
      · exact ⟨i, by omega, i3, by rw [i4]; exact k3, Or.inr ⟨k, k1, k2, i4.symm⟩⟩
  obtain ⟨P, hP⟩ : ∃ P : Prop, P = (tl X f (t - 1) = tl X f e ∧ ¬ callsX X f (t + 2) e ∧ ¬ wrt X f t e ∧ alk X f t e) := ⟨_, rfl⟩
  rw [← hP]
  have bad : ¬ P → (0 : Int) = pif P 1 0 ∧ G = G := fun h => ⟨(pif_0 h).symm, rfl⟩
  -- the state of the asking
  obtain ⟨Iv, hIv⟩ : ∃ Iv : Int → Nat → Prop, Iv = fun x k => (x = 1 ∧ tl X f (t - 1) = tl X f e ∧ ¬ S ((200 * f + t : Nat) : Int) ∧ ∀ z, t + 2 ≤ z → z < k → kn (ks X f) z = 0 → kn (ks X f) (z + 1) ≠ 10 ∧ (bnd X (200 * f + z) ≠ -1 → ¬ S (bnd X (200 * f + z)))) ∨ (x = 0 ∧ ¬ P) := ⟨_, rfl⟩
  have e213 : ∀ z, z < (toks X f).length → G 213 (200 * f + z) = kn (ks X f) z := fun z hz => (lexm_tok (hRG.2.1 f hf) hz).1
  have key : ∀ (d k : Nat) (x : Int), e = k + d → t + 2 ≤ k → Iv x k → L_320_38 (f : Int) ((200 * f + t : Nat) : Int) ((200 * f + e : Nat) : Int) x ((200 * f + k : Nat) : Int) G (fun r G' => r = pif P 1 0 ∧ G' = G) m_no := by
    intro d
    induction d with
    | zero =>
      intro k x hk hkt hx
      refine b_320_38 hS ⟨fun h => by omega, fun _ => ?_⟩
      rw [hIv] at hx
      rcases hx with ⟨rfl, x1, x2, x3⟩ | ⟨rfl, hx⟩
      · refine ⟨fun h => absurd h (by decide), fun _ => ⟨by omega, ?_⟩⟩
        rw [show ((200 * f + t : Nat) : Int) + 2 = ((200 * f + (t + 2) : Nat) : Int) by omega]
        refine CaI.on (s_319 hS hD hf hl hO ht he hL hL2 hw hok) ?_
        rintro r G5 _ ⟨rfl, rfl⟩
        have nc : ¬ callsX X f (t + 2) e := fun ⟨z, z1, z2, z3, z4⟩ => (x3 z z1 (by omega) z3).1 z4
        have nw : ¬ wrt X f t e := fun h => by
          rcases wS.mp h with h | ⟨z, z1, z2, z3, z4⟩
          · exact x2 h
          · have hb := bnd_kn hX hf (show z < 200 by omega) z3
            exact (x3 z z1 (by omega) hb.2).2 z3 z4
        refine ⟨fun h0 => bad (fun hp => ?_), fun h0 => ⟨(pif_1 ?_).symm, rfl⟩⟩
        · rw [hP] at hp
          exact (pif_01.1.mp h0) hp.2.2.2
        · rw [hP]
          refine ⟨x1, nc, nw, ?_⟩
          by_cases ha : alk X f t e
          · exact ha
          · rw [pif_0 ha] at h0; exact absurd rfl h0
      · exact ⟨fun _ => bad hx, fun h => absurd rfl h⟩
    | succ d ih =>
      intro k x hk hkt hx
      have hke : k < e := by omega
      have nx : ∀ y : Int, Iv y (k + 1) → L_320_38 (f : Int) ((200 * f + t : Nat) : Int) ((200 * f + e : Nat) : Int) y (((200 * f + k : Nat) : Int) + 1) G (fun r G' => r = pif P 1 0 ∧ G' = G) m_no := fun y hy => by
        have := ih (k + 1) y (by omega) (by omega) hy
        rw [show ((200 * f + (k + 1) : Nat) : Int) = ((200 * f + k : Nat) : Int) + 1 by omega] at this
        exact this
      refine b_320_38 hS ?_
      rw [Int.toNat_natCast, show (((200 * f + k : Nat) : Int) + 1).toNat = 200 * f + (k + 1) by omega, e213 k (by omega), e213 (k + 1) (by omega)]
      rw [hIv] at hx
      rcases hx with ⟨rfl, x1, x2, x3⟩ | ⟨rfl, hx⟩
      · have ok1 : (kn (ks X f) k = 0 → kn (ks X f) (k + 1) ≠ 10 ∧ (bnd X (200 * f + k) ≠ -1 → ¬ S (bnd X (200 * f + k)))) → L_320_38 (f : Int) ((200 * f + t : Nat) : Int) ((200 * f + e : Nat) : Int) 1 (((200 * f + k : Nat) : Int) + 1) G (fun r G' => r = pif P 1 0 ∧ G' = G) m_no := fun h => nx 1 (by
          rw [hIv]
          refine Or.inl ⟨rfl, x1, x2, fun z z1 z2 z3 => ?_⟩
          by_cases c : z = k
          · subst c; exact h z3
          · exact x3 z z1 (by omega) z3)
        have no1 : ¬ P → L_320_38 (f : Int) ((200 * f + t : Nat) : Int) ((200 * f + e : Nat) : Int) 0 (((200 * f + k : Nat) : Int) + 1) G (fun r G' => r = pif P 1 0 ∧ G' = G) m_no := fun h => nx 0 (by rw [hIv]; exact Or.inr ⟨rfl, h⟩)
        refine ⟨fun _ => ⟨by omega, fun h0 => ⟨fun h => absurd h (by decide), fun _ => ⟨by omega, by omega, fun h10 => ⟨by omega, no1 (fun hp => ?_)⟩, fun h10 => ?_⟩⟩, fun h0 => ⟨fun h => absurd h (by decide), fun _ => b_320_85 hS ⟨fun _ => ⟨by omega, ok1 (fun h => absurd h h0)⟩, fun h => absurd rfl h⟩⟩⟩, fun h => by omega⟩
        · rw [hP] at hp
          exact hp.2.1 ⟨k, hkt, hke, h0, h10⟩
        · refine b_320_85 hS ⟨fun h => absurd h (by decide), fun _ => ?_⟩
          rw [Int.toNat_natCast, hB _ (by omega)]
          refine ⟨by omega, fun hb => ⟨by omega, ok1 (fun _ => ⟨h10, fun h => absurd hb h⟩)⟩, fun hb => ⟨by omega, ?_⟩⟩
          refine CaI.on (s_318o (v := bnd X (200 * f + k)) hS hD hf hl hO) ?_
          rintro r G5 _ ⟨rfl, rfl⟩
          rw [← hS0]
          refine ⟨fun h => ⟨by omega, ok1 (fun _ => ⟨h10, fun _ => pif_01.1.mp h⟩)⟩, fun h => ⟨by omega, no1 (fun hp => ?_)⟩⟩
          rw [hP] at hp
          refine hp.2.2.1 (wS.mpr (Or.inr ⟨k, hkt, hke, hb, ?_⟩))
          by_cases hs : S (bnd X (200 * f + k))
          · exact hs
          · rw [pif_0 hs] at h; exact absurd rfl h
      · have := nx 0 (by rw [hIv]; exact Or.inr ⟨rfl, hx⟩)
        exact ⟨fun _ => ⟨by omega, fun _ => ⟨fun _ => ⟨by omega, this⟩, fun h => absurd rfl h⟩, fun _ => ⟨fun _ => ⟨by omega, this⟩, fun h => absurd rfl h⟩⟩, fun h => by omega⟩
  have e214 : ∀ z, z < (toks X f).length → G 214 (200 * f + z) = (tl X f z : Int) := fun z hz => (lexm_tok (hRG.2.1 f hf) hz).2.1
  refine c_320 hS ?_
  rw [show (((200 * f + t : Nat) : Int) - 1).toNat = 200 * f + (t - 1) by omega, Int.toNat_natCast, e214 _ (by omega), e214 e he, show ((200 * f + t : Nat) : Int) + 2 = ((200 * f + (t + 2) : Nat) : Int) by omega]
  refine ⟨by omega, by omega, by omega, fun hl2 => ?_, fun hl2 => ⟨by omega, ?_⟩⟩
  · refine CaI.on (s_318o (v := ((200 * f + t : Nat) : Int)) hS hD hf hl hO) ?_
    rintro r G3 _ ⟨rfl, rfl⟩
    rw [← hS0]
    refine ⟨fun h => ⟨by omega, ?_⟩, fun h => ⟨by omega, ?_⟩⟩
    · refine key (e - (t + 2)) (t + 2) 1 (by omega) (Nat.le_refl _) ?_
      rw [hIv]
      exact Or.inl ⟨rfl, by omega, pif_01.1.mp h, fun z z1 z2 => by omega⟩
    · refine key (e - (t + 2)) (t + 2) 0 (by omega) (Nat.le_refl _) ?_
      rw [hIv]
      refine Or.inr ⟨rfl, fun hp => ?_⟩
      rw [hP] at hp
      refine hp.2.2.1 (wS.mpr (Or.inl ?_))
      by_cases hs : S ((200 * f + t : Nat) : Int)
      · exact hs
      · rw [pif_0 hs] at h; exact absurd rfl h
  · refine key (e - (t + 2)) (t + 2) 0 (by omega) (Nat.le_refl _) ?_
    rw [hIv]
    refine Or.inr ⟨rfl, fun hp => ?_⟩
    rw [hP] at hp
    exact hl2 (by rw [hp.1])
theorem TxR.rf (h : F 201 104 = 0) : TxR F F [] := ⟨fun _ _ _ => rfl, fun _ _ => rfl, h, fun i hi => absurd hi (Nat.not_lt_zero i)⟩
theorem s_312 {x : Int} (hS : St G) (h : TxR F G V) (hl : V.length < 120) : C_312 x G (fun G' => TxR F G' (V ++ [x])) m_no := by
  obtain ⟨h1, h2, h3, h4⟩ := h
  refine c_312 hS ?_
  rw [h3, Int.toNat_natCast]
  refine ⟨by omega, by omega, fun c a b => by rw [up_row a, up_row b, h1 c a b], fun j a => by rw [u_ne (Or.inr a), up_row (by decide), h2 j a], by rw [u_eq, List.length_append]; rfl, fun q hq => ?_⟩
  rw [up_row (by decide), gx_app]
  rw [List.length_append, List.length_singleton] at hq
  by_cases c : q < V.length
  · rw [u_ne (Or.inr (by omega)), if_pos c]
    exact h4 q c
  · obtain rfl : q = V.length := by omega
    rw [u_eq, if_neg c, Nat.sub_self]
    rfl
/-- the texts of the expr are joined -/
theorem l_321 {Q : Int → MF → Prop} {Ln : Nat} (hX : ∀ r, r < 24 → Rok (X r)) (hT : TL F X) (hf : f < 3) (h1 : t + 2 ≤ e) (h : ∀ k, t + 2 ≤ k → k < e → k < (toks X f).length ∧ tl X f k = Ln) (hel : e < 200) (hS : St F) (h104 : F 201 104 = 0)
    (hQ : ∀ G, St G → TxR F G (ity X f t e) → L_321_203 ((200 * f + t : Nat) : Int) (f : Int) ((200 * f + e : Nat) : Int) G Q m_no) :
    (t + 3 < e → C_312 40 F (fun G => L_321_106 ((200 * f + t : Nat) : Int) (f : Int) ((200 * f + e : Nat) : Int) 1 ((200 * f + (t + 2) : Nat) : Int) G Q m_no) m_no) ∧ (¬ t + 3 < e → L_321_106 ((200 * f + t : Nat) : Int) (f : Int) ((200 * f + e : Nat) : Int) 0 ((200 * f + (t + 2) : Nat) : Int) F Q m_no) := by
  have lk := toks_len hX hf
  have cut : ∀ {G : MF} {V : List Int}, TxR F G V → TL G X := fun {G V} k => hT.cg (fun c a b => k.1 c (by omega) (by omega))
  have il := ity_len hX hf h
  obtain ⟨pre0, hpre⟩ : ∃ P : List Int, P = if t + 3 < e then [40] else [] := ⟨_, rfl⟩
  have pl : pre0.length ≤ 1 := by
    rw [hpre]
    split
    · exact Nat.le_refl _
    · exact Nat.zero_le _
  obtain ⟨x5, hx5⟩ : ∃ x : Int, x = if t + 3 < e then 1 else 0 := ⟨_, rfl⟩
  have key : ∀ (d k : Nat) (G : MF), k + d = e → t + 2 ≤ k → St G → TxR F G (pre0 ++ itb X f (t + 2) (k - (t + 2))) → L_321_106 ((200 * f + t : Nat) : Int) (f : Int) ((200 * f + e : Nat) : Int) x5 ((200 * f + k : Nat) : Int) G Q m_no := by
    intro d
    induction d with
    | zero =>
      intro k G hk hkt hSG hV
      obtain rfl : k = e := by omega
      refine b_321_106 hSG ⟨fun h => by omega, fun _ => ⟨fun h0 => ?_, fun h0 => ?_⟩⟩
      · have hn : ¬ t + 3 < k := fun c => by rw [if_pos c] at hx5; omega
        rw [if_neg hn] at hpre
        refine hQ G hSG ?_
        unfold ity
        rw [if_neg hn]
        rw [hpre, List.nil_append] at hV
        exact hV
      · have hn : t + 3 < k := by
          by_cases c : t + 3 < k
          · exact c
          · rw [if_neg c] at hx5; omega
        rw [if_pos hn] at hpre
        refine CaV.on (s_312 hSG hV (by rw [List.length_append]; omega)) ?_
        intro F5 hS5 k1
        refine hQ F5 hS5 ?_
        unfold ity
        rw [if_pos hn]
        rw [hpre, List.append_assoc] at k1
        exact k1
    | succ d ih =>
      intro k G hk hkt hSG hV
      have hkl := h k hkt (by omega)
      have o := toks_ok hkl.1
      have w1 := (hX (8 * f + tl X f k) (by omega)).1
      have ibl : (itb X f (t + 2) (k - (t + 2))).length ≤ 48 := by
        have h1 := itb_len (a := t + 2) (n := k - (t + 2)) hX hf (fun q a b => h q a (by omega))
        by_cases c : k - (t + 2) = 0
        · rw [if_pos c] at h1; omega
        · rw [if_neg c] at h1
          have h3 := h (t + 2 + (k - (t + 2)) - 1) (by omega) (by omega)
          have o3 := toks_ok h3.1
          have := (hX (8 * f + tl X f (t + 2 + (k - (t + 2)) - 1)) (by omega)).1
          omega
      -- the chars of a token
      have lp : ∀ B : List Int, B.length ≤ 1 → itb X f (t + 2) (k + 1 - (t + 2)) = itb X f (t + 2) (k - (t + 2)) ++ (B ++ tx X f k) → ∀ (d i : Nat) (H : MF), i + d = ts X f k → St H → TxR F H (pre0 ++ itb X f (t + 2) (k - (t + 2)) ++ B ++ (tx X f k).take i) →
          L_321_156 ((200 * f + t : Nat) : Int) (f : Int) ((200 * f + e : Nat) : Int) x5 ((200 * f + k : Nat) : Int) (i : Int) H Q m_no := by
        intro B hB hit d
        induction d with
        | zero =>
          intro i H hi hSH hVH
          have g := lexm_tok ((cut hVH).2 f hf) hkl.1
          obtain rfl : i = ts X f k := by omega
          rw [List.take_of_length_le (by rw [tx_len]; exact Nat.le_refl _)] at hVH
          refine b_321_156 hSH ?_
          rw [Int.toNat_natCast, g.2.2.2]
          refine ⟨by omega, fun h => by omega, fun _ => ⟨by omega, ?_⟩⟩
          have := ih (k + 1) H (by omega) (by omega) hSH (by rw [hit]; rw [List.append_assoc, List.append_assoc] at hVH; exact hVH)
          rw [show ((200 * f + (k + 1) : Nat) : Int) = ((200 * f + k : Nat) : Int) + 1 by omega] at this
          exact this
        | succ d ih2 =>
          intro i H hi hSH hVH
          have g := lexm_tok ((cut hVH).2 f hf) hkl.1
          have q := q_219 (cut hVH).1 hX ((cut hVH).2 f hf) hf hkl.1 (i := i) (by omega)
          refine b_321_156 hSH ?_
          rw [q.1, Int.toNat_natCast, g.2.2.2]
          refine ⟨by omega, fun _ => ⟨q.2, ?_⟩, fun h => by omega⟩
          have tl4 : ((tx X f k).take i).length ≤ 24 := by rw [List.length_take, tx_len]; omega
          refine CaV.on (s_312 hSH hVH (by rw [List.length_append, List.length_append, List.length_append]; omega)) ?_
          intro H2 hS2 k1
          refine ⟨by omega, ?_⟩
          have et : (tx X f k).take i ++ [chr X f k i] = (tx X f k).take (i + 1) := by
            rw [List.take_succ_eq_append_getElem (show i < (tx X f k).length by rw [tx_len]; omega), ← gx_el, tx_gx (by omega)]
          rw [List.append_assoc, et] at k1
          have := ih2 (i + 1) H2 (by omega) hS2 k1
          rw [show ((i + 1 : Nat) : Int) = (i : Int) + 1 by omega] at this
          exact this
      have eit : itb X f (t + 2) (k + 1 - (t + 2)) = itb X f (t + 2) (k - (t + 2)) ++ ((if 0 < k - (t + 2) ∧ kn (ks X f) (k - 1) < 10 ∧ kn (ks X f) k < 10 then [32] else []) ++ tx X f k) := by
        rw [show k + 1 - (t + 2) = (k - (t + 2)) + 1 by omega]
        show itb X f (t + 2) (k - (t + 2)) ++ ((if 0 < k - (t + 2) ∧ kn (ks X f) (t + 2 + (k - (t + 2)) - 1) < 10 ∧ kn (ks X f) (t + 2 + (k - (t + 2))) < 10 then [32] else []) ++ tx X f (t + 2 + (k - (t + 2)))) = _
        rw [show t + 2 + (k - (t + 2)) = k by omega]
      have none1 : ¬ (0 < k - (t + 2) ∧ kn (ks X f) (k - 1) < 10 ∧ kn (ks X f) k < 10) → L_321_156 ((200 * f + t : Nat) : Int) (f : Int) ((200 * f + e : Nat) : Int) x5 ((200 * f + k : Nat) : Int) 0 G Q m_no := fun hn => by
        rw [if_neg hn] at eit
        exact lp [] (by decide) eit (ts X f k) 0 G (by omega) hSG (by rw [List.take_zero, List.append_nil, List.append_nil]; exact hV)
      have g0 := lexm_tok ((cut hV).2 f hf) hkl.1
      refine b_321_106 hSG ?_
      refine ⟨fun _ => ⟨by omega, fun hlt => ?_, fun hlt => none1 (fun h => by omega)⟩, fun h => by omega⟩
      have g1 := lexm_tok ((cut hV).2 f hf) (show k - 1 < (toks X f).length by omega)
      rw [show (((200 * f + k : Nat) : Int) - 1).toNat = 200 * f + (k - 1) by omega, Int.toNat_natCast, g0.1, g1.1]
      refine ⟨by omega, fun h2 => ⟨by omega, by omega, fun h1 => ?_, fun h1 => none1 (fun h => h1 h.2.1)⟩, fun h2 => none1 (fun h => h2 h.2.2)⟩
      rw [if_pos ⟨by omega, h1, h2⟩] at eit
      refine CaV.on (s_312 hSG hV (by rw [List.length_append]; omega)) ?_
      intro G2 hS2 k1
      exact lp [32] (by decide) eit (ts X f k) 0 G2 (by omega) hS2 (by rw [List.take_zero, List.append_nil]; exact k1)
  have st : ∀ G, St G → TxR F G pre0 → L_321_106 ((200 * f + t : Nat) : Int) (f : Int) ((200 * f + e : Nat) : Int) x5 ((200 * f + (t + 2) : Nat) : Int) G Q m_no := fun G a c => by
    refine key (e - (t + 2)) (t + 2) G (by omega) (Nat.le_refl _) a ?_
    rw [Nat.sub_self]
    show TxR F G (pre0 ++ [])
    rw [List.append_nil]
    exact c
  have t0 : TxR F F [] := TxR.rf h104
  refine ⟨fun hn => ?_, fun hn => ?_⟩
  · rw [if_pos hn] at hpre hx5
    refine CaV.on (s_312 hS t0 (by decide)) ?_
    intro G hSG k1
    rw [hx5] at st
    exact st G hSG (by rw [hpre]; exact k1)
  · rw [if_neg hn] at hpre hx5
    rw [hx5] at st
    exact st F hS (by rw [hpre]; exact t0)
end Mk8
