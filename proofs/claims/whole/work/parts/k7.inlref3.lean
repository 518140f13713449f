/-! AN INLINING, OF THE REFERENCE: whether the names of the expr would be bound alike -/
section Mk7
variable {F G : MF} {X : Nat → List Int} {W1 : List Int} {f t e i j k c n hi iL : Nat} {L : List Nat} {it : IT} {v : Int} {nn : Nat → Nat}
/-- the word of a leaf -/
theorem or_lf (hX : ∀ r, r < 24 → Rok (X r)) (hf : f < 3) (hO : OrF F X f L it c hi W1) {q p : Nat} (hq : q < W1.length) (h : gx W1 q = mk 14 p 0) : p < (toks X f).length ∧ c + 1 + q < (Cw X f).length ∧ wo (gx (Cw X f) (c + 1 + q)) = 14 ∧ wt (gx (Cw X f) (c + 1 + q)) = (p : Int) := by
  obtain ⟨w1, w2, w3, w4, w5⟩ := or_wd hO
  have hi : c + 1 + q < (Cw X f).length := by omega
  have hc := Cw_wc hX hf hi
  rw [w4 q hq, h] at hc
  have p256 := (mk14 hc).1
  have h14 : wo (gx (Cw X f) (c + 1 + q)) = 14 := by rw [w4 q hq, h, wo_mk (by decide)]; rfl
  have ht : wt (gx (Cw X f) (c + 1 + q)) = (p : Int) := by rw [w4 q hq, h, wt_mk (by decide) p256]
  obtain ⟨p', a, b⟩ := wt_rng hX hf hi (Or.inr h14)
  exact ⟨by omega, hi, h14, ht⟩
theorem s_319 (hS : St G) (hD : LKd F X nn) (hf : f < 3) (hl : LSq F G [] (ndc L)) (hO : OrF F X f L it c hi W1) (ht : t + 2 ≤ e) (he : e < (toks X f).length) (hL : c ≤ iL) (hL2 : iL < c + it.2.2.2.2.2.length) (hw : gx (Cw X f) iL = mk 7 t e) (hok : ∀ q, t ≤ q → q < e → okx (kn (ks X f) q)) :
    C_319 (f : Int) ((200 * f + t : Nat) : Int) ((200 * f + (t + 2) : Nat) : Int) ((200 * f + e : Nat) : Int) G (fun r G' => r = pif (alk X f t e) 1 0 ∧ G' = G) m_no := by
  have hX := hD.1.hX
  have lk := toks_len hX hf
  have nd := hl.w.nd
  have hRG : RA G X nn := hl.w.ra hD.1
  obtain ⟨l6, l7⟩ := hl.2.2.2
  rw [ndc_len] at l6
  obtain ⟨w1, w2, w3, w4, w5⟩ := or_wd hO
  obtain ⟨o1, o2, o3, o4, o5, o6, o7, o8, o9, o10, o11⟩ := hO.1
  have hB : ∀ id, id < 600 → G 253 id = bnd X id := fun id hid => by rw [hl.1 253 (by decide) (by decide) (by decide)]; exact hD.2.1 id hid
  have e254 : G 254 = F 254 := hl.1 254 (by decide) (by decide) (by decide)
  have hWC : ∀ i, i < (Cw X f).length → WC (ks X f) (gx (Cw X f) i) := fun i hi => Cw_wc hX hf hi
  obtain ⟨OK, hOK⟩ : ∃ OK : Nat → Prop, OK = fun i => ∀ k, t + 2 ≤ k → k < e → kn (ks X f) k = 0 → bnd X (200 * f + k) = idv f (fst' X f k (cand (sat (Cw X f) (i + 1)))) := ⟨_, rfl⟩
  -- the scope behind a leaf
  have lfs : ∀ q, q < W1.length → wo (gx (Cw X f) (c + 1 + q)) = 14 → cand (sat (Cw X f) (c + 1 + q + 1)) = ((sfo (s1 it) (W1.take q)).1 :: (sfo (s1 it) (W1.take q)).2.1).flatten ++ prs' it.2.2.1 it.2.2.2.1 := fun q hq h14 => by
    have e1 : sat (Cw X f) (c + 1 + q + 1) = sat (Cw X f) (c + 1 + q) := by
      show sstep (sat (Cw X f) (c + 1 + q)) (gx (Cw X f) (c + 1 + q)) = _
      unfold sstep
      rw [if_neg (by omega), if_neg (by omega), if_neg (by omega), if_neg (by omega)]
    rw [e1, or_cand hO (by omega)]
  have bs14 : ∀ q p : Nat, q < W1.length → gx W1 q = mk 14 p 0 → kn (ks X f) p = 0 → bset X f (gx (Cw X f) (c + 1 + q)) (p : Int) := fun q p hq h hk => by
    obtain ⟨a, b, a3, a4⟩ := or_lf hX hf hO hq h
    exact ⟨Or.inr ⟨by omega, a4.symm⟩, fun _ => by rw [a4, Int.toNat_natCast]; exact hk⟩
  have fin : (∀ m ∈ L, F 221 m = 13 → bnd X (200 * f + (F 222 m).toNat) = ((200 * f + t : Nat) : Int) → ∃ q p : Nat, q < W1.length ∧ gx W1 q = mk 14 p 0 ∧ F 222 m = (p : Int) ∧ OK (c + 1 + q)) → alk X f t e := by
    intro h i hi h14 hb
    have hc := wrt_in hX hf hO.2.2.1 (by omega) hw (by omega) hL hL2 (by omega) hok hi (Or.inr h14) (by rw [hb]; omega) (Or.inl hb)
    have n0 : i ≠ c := fun h => by rw [h, w3, wo_mk (by decide)] at h14; exact absurd h14 (by decide)
    have n1 : i ≠ c + 1 + W1.length := fun h => by rw [h, w5] at h14; exact absurd h14 (by decide)
    obtain ⟨q, rfl⟩ : ∃ q, i = c + 1 + q := ⟨i - (c + 1), by omega⟩
    have hq : q < W1.length := by omega
    obtain ⟨m, m1, p, m2, m3, m4, -⟩ := (omh_leaf _ _ _ _ _ hO.2.1).2 q hq (by rw [← w4 q hq]; exact h14)
    obtain ⟨p1, p2, p3, p4⟩ := or_lf hX hf hO hq m3
    have hbp : bnd X (200 * f + p) = ((200 * f + t : Nat) : Int) := by
      have := hb
      unfold wbd at this
      rw [p4, Int.toNat_natCast] at this
      exact this
    have hk := bnd_kn hX hf (show p < 200 by omega) (by rw [hbp]; omega)
    obtain ⟨q', p', a1, a2, a3, a4⟩ := h m m1 m2 (by rw [m4, Int.toNat_natCast]; exact hbp)
    have : p' = p := by omega
    subst this
    have := Cw_uniq hX hf (by omega) (by omega) (bs14 q p' hq m3 hk.2) (bs14 q' p' a1 a2 hk.2)
    have : q' = q := by omega
    subst this
    rw [hOK] at a4
    exact a4
  obtain ⟨Q, hQ⟩ : ∃ Q : Int → MF → Prop, Q = fun r G' => r = pif (alk X f t e) 1 0 ∧ G' = G := ⟨_, rfl⟩
  rw [← hQ]
  obtain ⟨Gd, hGd⟩ : ∃ Gd : Nat → Prop, Gd = fun m => F 221 m = 13 → bnd X (200 * f + (F 222 m).toNat) = ((200 * f + t : Nat) : Int) → ∃ q p : Nat, q < W1.length ∧ gx W1 q = mk 14 p 0 ∧ F 222 m = (p : Int) ∧ OK (c + 1 + q) := ⟨_, rfl⟩
  have key : ∀ (d k : Nat) (x : Int), k + d = L.length → (x = 1 ∧ ∀ q, (h : q < L.length) → q < k → Gd (L[q]'h)) ∨ (x = 0 ∧ ¬ alk X f t e) →
      L_319_6 (f : Int) ((200 * f + t : Nat) : Int) ((200 * f + (t + 2) : Nat) : Int) ((200 * f + e : Nat) : Int) x (k : Int) G Q m_no := by
    intro d
    induction d with
    | zero =>
      intro k x hk hx
      refine b_319_6 hS ?_
      rw [l6]
      refine ⟨fun h => by omega, fun _ => ?_⟩
      rw [hQ]
      rcases hx with ⟨rfl, hx⟩ | ⟨rfl, hx⟩
      · refine ⟨Or.inr rfl, (pif_1 (fin (fun m hm => ?_))).symm, rfl⟩
        obtain ⟨q, hq, rfl⟩ := List.mem_iff_getElem.mp hm
        have := hx q hq (by omega)
        rw [hGd] at this
        exact this
      · exact ⟨Or.inl rfl, (pif_0 hx).symm, rfl⟩
    | succ d ih =>
      intro k x hk hx
      have hk2 : k < L.length := by omega
      have e251 : G 251 k = ((L[k]'hk2 : Nat) : Int) := by rw [l7 k (by rw [ndc_len]; exact hk2), gx_ndc hk2]
      have nx : ∀ y : Int, (y = 1 ∧ x = 1 ∧ Gd (L[k]'hk2)) ∨ (y = 0 ∧ ¬ alk X f t e) → L_319_6 (f : Int) ((200 * f + t : Nat) : Int) ((200 * f + (t + 2) : Nat) : Int) ((200 * f + e : Nat) : Int) y ((k : Int) + 1) G Q m_no := fun y hy => by
        have := ih (k + 1) y (by omega) (by
          rcases hy with ⟨h1, h2, h3⟩ | h
          · refine Or.inl ⟨h1, fun q hq hq2 => ?_⟩
            by_cases c : q = k
            · subst c; exact h3
            · rcases hx with ⟨-, hx⟩ | ⟨hx, -⟩
              · exact hx q hq (by omega)
              · omega
          · exact Or.inr h)
        rw [show ((k + 1 : Nat) : Int) = (k : Int) + 1 by omega] at this
        exact this
      have nxv : Gd (L[k]'hk2) → L_319_6 (f : Int) ((200 * f + t : Nat) : Int) ((200 * f + (t + 2) : Nat) : Int) ((200 * f + e : Nat) : Int) x ((k : Int) + 1) G Q m_no := fun h => by
        rcases hx with ⟨h1, -⟩ | ⟨h1, h2⟩
        · exact nx x (Or.inl ⟨h1, h1, h⟩)
        · exact nx x (Or.inr ⟨h1, h2⟩)
      have hn := (o3 _ (List.getElem_mem hk2)).2
      refine b_319_6 hS ?_
      rw [l6, Int.toNat_natCast, e251, Int.toNat_natCast, nd 221 (by decide) (by decide), nd 222 (by decide) (by decide)]
      refine ⟨fun _ => ⟨by omega, by omega, fun e13 => ?_, fun e13 => ⟨by omega, nxv (by rw [hGd]; exact fun h => absurd h e13)⟩⟩, fun h => by omega⟩
      obtain ⟨q, p, q1, q2, q3, q4⟩ := (omh_leaf _ _ _ _ _ hO.2.1).1 _ (List.getElem_mem hk2) e13
      obtain ⟨p1, p2, p3, p4⟩ := or_lf hX hf hO q1 q2
      rw [q3, show (200 * (f : Int) + (p : Int)).toNat = 200 * f + p by omega, hB _ (by omega)]
      refine ⟨by omega, by omega, by omega, by omega, fun hb => ?_, fun hb => ⟨by omega, nxv (by rw [hGd]; exact fun _ h => absurd (by rw [q3, Int.toNat_natCast] at h; exact h) hb)⟩⟩
      have hk := bnd_kn hX hf (show p < 200 by omega) (by rw [hb]; omega)
      obtain ⟨sv, sd, s3, s4⟩ := q4 (by omega) hk.2
      have hcd := lfs q q1 p3
      have so := (sat_ok hWC hX hf (c + 1 + q + 1) (by omega)).2.2.1
      rw [hcd] at so
      -- each token of the expr
      have lp : ∀ (d k' : Nat) (y : Int), e ≤ k' + d → t + 2 ≤ k' → k' ≤ 400 → (y = 1 ∧ x = 1 ∧ ∀ z, t + 2 ≤ z → z < k' → kn (ks X f) z = 0 → bnd X (200 * f + z) = idv f (fst' X f z (cand (sat (Cw X f) (c + 1 + q + 1))))) ∨ (y = 0 ∧ ¬ alk X f t e) →
          L_319_61 (f : Int) ((200 * f + t : Nat) : Int) ((200 * f + (t + 2) : Nat) : Int) ((200 * f + e : Nat) : Int) y (k : Int) ((L[k]'hk2 : Nat) : Int) ((200 * f + k' : Nat) : Int) G Q m_no := by
        have stop : ∀ (k' : Nat) (y : Int), e ≤ k' → k' ≤ 400 → (y = 1 ∧ x = 1 ∧ ∀ z, t + 2 ≤ z → z < k' → kn (ks X f) z = 0 → bnd X (200 * f + z) = idv f (fst' X f z (cand (sat (Cw X f) (c + 1 + q + 1))))) ∨ (y = 0 ∧ ¬ alk X f t e) →
          L_319_61 (f : Int) ((200 * f + t : Nat) : Int) ((200 * f + (t + 2) : Nat) : Int) ((200 * f + e : Nat) : Int) y (k : Int) ((L[k]'hk2 : Nat) : Int) ((200 * f + k' : Nat) : Int) G Q m_no := by
          intro k' y h1 h2 hy
          refine b_319_61 hS ⟨fun h => by omega, fun _ => ⟨by omega, ?_⟩⟩
          rcases hy with ⟨rfl, hx1, hy⟩ | hy
          · refine nx 1 (Or.inl ⟨rfl, hx1, ?_⟩)
            rw [hGd]
            refine fun _ _ => ⟨q, p, q1, q2, q3, ?_⟩
            rw [hOK]
            exact fun z z1 z2 z3 => hy z z1 (by omega) z3
          · exact nx y (Or.inr hy)
        intro d
        induction d with
        | zero =>
          intro k' y h1 h2 h3 hy
          exact stop k' y (by omega) h3 hy
        | succ d ih2 =>
          intro k' y h1 h2 h3 hy
          by_cases hke : e ≤ k'
          · exact stop k' y hke h3 hy
          have hkl : k' < (toks X f).length := by omega
          have e213 : G 213 (200 * f + k') = kn (ks X f) k' := (lexm_tok (hRG.2.1 f hf) hkl).1
          have nx2 : ∀ y' : Int, (y' = 1 ∧ x = 1 ∧ ∀ z, t + 2 ≤ z → z < k' + 1 → kn (ks X f) z = 0 → bnd X (200 * f + z) = idv f (fst' X f z (cand (sat (Cw X f) (c + 1 + q + 1))))) ∨ (y' = 0 ∧ ¬ alk X f t e) → L_319_61 (f : Int) ((200 * f + t : Nat) : Int) ((200 * f + (t + 2) : Nat) : Int) ((200 * f + e : Nat) : Int) y' (k : Int) ((L[k]'hk2 : Nat) : Int) (((200 * f + k' : Nat) : Int) + 1) G Q m_no := fun y' hy' => by
            have := ih2 (k' + 1) y' (by omega) (by omega) (by omega) hy'
            rw [show ((200 * f + (k' + 1) : Nat) : Int) = ((200 * f + k' : Nat) : Int) + 1 by omega] at this
            exact this
          refine b_319_61 hS ?_
          rw [Int.toNat_natCast, Int.toNat_natCast, e213, e254, s3]
          refine ⟨fun _ => ?_, fun h => by omega⟩
          rcases hy with ⟨rfl, hx1, hy⟩ | ⟨rfl, hy⟩
          · refine ⟨fun h => absurd h (by decide), fun _ => ⟨by omega, fun h0 => ⟨by omega, ?_⟩, fun h0 => ⟨by omega, ?_⟩⟩⟩
            · refine CaI.on (s_258 hRG hf hkl o7 (o6.cong (by rw [nd 224 (by decide) (by decide)]) (fun cc i a b _ _ => by rw [nd cc (by omega) (by omega)])) (fun i hi => kn_tok (by rw [show it.2.2.1 + 2 + 2 * i = it.2.2.1 + 2 * (i + 1) by omega, hO.2.2.2.2.1 (i + 1) (by omega)]; decide)) hS sd sv _ (Env.cong nd _ _ _ s4) (fun z hz => so z (List.mem_append_left _ hz))) ?_
              rintro r G2 hS2 ⟨rfl, rfl⟩
              rw [← hcd, hB _ (by omega)]
              refine ⟨by omega, fun h => ⟨by omega, nx2 1 (Or.inl ⟨rfl, hx1, fun z z1 z2 z3 => ?_⟩)⟩, fun h => ⟨by omega, nx2 0 (Or.inr ⟨rfl, fun ha => ?_⟩)⟩⟩
              · by_cases c : z = k'
                · rw [c]; exact h.symm
                · exact hy z z1 (by omega) z3
              · exact h (ha (c + 1 + q) p2 p3 (by unfold wbd; rw [p4, Int.toNat_natCast]; exact hb) k' h2 (by omega) h0).symm
            · exact nx2 1 (Or.inl ⟨rfl, hx1, fun z z1 z2 z3 => by
                by_cases c : z = k'
                · rw [c] at z3; exact absurd z3 h0
                · exact hy z z1 (by omega) z3⟩)
          · exact ⟨fun _ => ⟨by omega, nx2 0 (Or.inr ⟨rfl, hy⟩)⟩, fun h => absurd rfl h⟩
      rcases hx with ⟨hx1, -⟩ | hx0
      · exact lp 300 (t + 2) x (by omega) (Nat.le_refl _) (by omega) (Or.inl ⟨hx1, hx1, fun z z1 z2 => by omega⟩)
      · exact lp 300 (t + 2) x (by omega) (Nat.le_refl _) (by omega) (Or.inr hx0)
  exact c_319 hS (key L.length 0 1 (by omega) (Or.inl ⟨rfl, fun q _ hq => absurd hq (Nat.not_lt_zero q)⟩))
end Mk7
