/-! AN INLINING, OF THE REFERENCE: what is asked of the words -/
/-- a variable is given a value, in some words -/
def stW (X : Nat → List Int) (f c d : Nat) (v : Int) : Prop := ∃ i, c ≤ i ∧ i < d ∧ wo (gx (Cw X f) i) = 8 ∧ wbd X f i = v
theorem pif_c {p q : Prop} {a b : Int} (h : p ↔ q) : pif p a b = pif q a b := by rw [propext h]
theorem gx_el {W : List Int} {q : Nat} (h : q < W.length) : gx W q = W[q]'h := by
  unfold gx
  rw [List.getD_eq_getElem?_getD, List.getElem?_eq_getElem h]
  rfl
section Mk6
variable {F G : MF} {X : Nat → List Int} {W1 : List Int} {f t e i j k c n hi : Nat} {L : List Nat} {it : IT} {v : Int} {nn : Nat → Nat}
theorem LSw.ra (h : LSw F G) (hR : RA F X nn) : RA G X nn := hR.cong (fun c x y => h.1 c x (by omega) (by omega)) (h.2 27 (by decide) (by decide)) hR.hX
theorem LSw.nd (h : LSw F G) : ∀ c, 221 ≤ c → c ≤ 229 → G c = F c := fun c a b => h.1 c (by omega) (by omega) (by omega)
theorem LSw.pf (h : LSw F G) : PF F G := ⟨fun c hc => h.1 c (by omega) (by omega) (by omega), fun j hj => h.2 j (by omega) (by omega)⟩
theorem wt_rng (hX : ∀ r, r < 24 → Rok (X r)) (hf : f < 3) (hi : i < (Cw X f).length) (ho : wo (gx (Cw X f) i) = 8 ∨ wo (gx (Cw X f) i) = 14) : ∃ p : Nat, wt (gx (Cw X f) i) = (p : Int) ∧ p < (toks X f).length := by
  obtain ⟨o, t0, e0, e1, e2, e3⟩ := Cw_wc hX hf hi
  have lk := toks_len hX hf
  have ho2 : o < 256 := by unfold oX at e3; omega
  rw [e1, wo_mk ho2] at ho
  refine ⟨t0, by rw [e1, wt_mk ho2 e2], ?_⟩
  have kk : t0 < (ks X f).length → t0 < (toks X f).length := fun h => by rw [ks_len'] at h; exact h
  rcases e3 with (⟨a, b, c⟩ | ⟨a, b⟩ | ⟨a, b, c⟩) | ⟨a, b⟩ | ⟨a, b⟩ | a | a | ⟨a, b⟩
  · exact kk (kn_lt (by unfold kp at c; omega))
  · omega
  · omega
  · omega
  · omega
  · omega
  · omega
  · exact kk (kn_lt (by rw [b]; decide))
/-- the words of an order, where they stand -/
theorem or_wd (hO : OrF F X f L it c hi W1) : it.2.2.2.2.2.length = W1.length + 2 ∧ c + it.2.2.2.2.2.length ≤ (Cw X f).length ∧ gx (Cw X f) c = mk 2 it.2.2.1 it.2.2.2.1 ∧ (∀ q, q < W1.length → gx (Cw X f) (c + 1 + q) = gx W1 q) ∧ wo (gx (Cw X f) (c + 1 + W1.length)) = 5 := by
  obtain ⟨⟨o1, -⟩, -, -, hW, -⟩ := hO
  have hlen : it.2.2.2.2.2.length = W1.length + 2 := by rw [o1, List.length_cons, List.length_append, List.length_singleton]
  refine ⟨hlen, hW.1, ?_, fun q hq => ?_, ?_⟩
  · have := hW.2 0 (by omega)
    rw [Nat.add_zero] at this
    rw [this, o1]
    rfl
  · have := hW.2 (q + 1) (by omega)
    rw [show c + 1 + q = c + (q + 1) by omega, this, o1]
    show gx (W1 ++ [mk 5 0 0]) q = _
    rw [gx_app, if_pos hq]
  · have := hW.2 (W1.length + 1) (by omega)
    rw [show c + 1 + W1.length = c + (W1.length + 1) by omega, this, o1]
    show wo (gx (W1 ++ [mk 5 0 0]) W1.length) = _
    rw [gx_app, if_neg (by omega), Nat.sub_self]
    exact wo_mk (by decide)
/-- the scope at a word of an order -/
theorem or_sat (hO : OrF F X f L it c hi W1) : ∀ q, q ≤ W1.length → sat (Cw X f) (c + 1 + q) = sfo (s1 it) (W1.take q) ∧ (sat (Cw X f) (c + 1 + q)).2.2 = (s1 it).2.2 := by
  obtain ⟨w1, w2, w3, w4, w5⟩ := or_wd hO
  obtain ⟨-, -, hR, -, -, hp0⟩ := hO
  intro q
  induction q with
  | zero =>
    intro _
    have es1 : sat (Cw X f) (c + 1) = s1 it := by
      show sstep (sat (Cw X f) c) (gx (Cw X f) c) = _
      rw [w3]
      unfold sstep
      rw [wo_mk (by decide), wt_mk (by decide) hp0, we_mk (by decide) hp0, if_pos (by decide)]
    rw [Nat.add_zero, es1]
    exact ⟨rfl, rfl⟩
  | succ q ih =>
    intro hq
    obtain ⟨i1, i2⟩ := ih (by omega)
    have e1 : sat (Cw X f) (c + 1 + (q + 1)) = sstep (sat (Cw X f) (c + 1 + q)) (gx (Cw X f) (c + 1 + q)) := rfl
    have et : W1.take (q + 1) = W1.take q ++ [gx W1 q] := by
      rw [List.take_succ_eq_append_getElem (by omega), gx_el (by omega)]
    refine ⟨?_, ?_⟩
    · rw [e1, i1, w4 q (by omega), et, sfo_app]
      rfl
    · rw [e1, sst_par (hR.2.2.2.1 _ (by omega) (by omega)), i2]
theorem or_cand (hO : OrF F X f L it c hi W1) {q : Nat} (hq : q ≤ W1.length) : cand (sat (Cw X f) (c + 1 + q)) = ((sfo (s1 it) (W1.take q)).1 :: (sfo (s1 it) (W1.take q)).2.1).flatten ++ prs' it.2.2.1 it.2.2.2.1 := by
  obtain ⟨a, b⟩ := or_sat hO q hq
  unfold cand pars
  rw [b, a]
  show nms _ ++ (List.range ((it.2.2.2.1 : Int)).toNat).map _ = _
  rw [Int.toNat_natCast]
  rfl
theorem st_or (hO : OrF F X f L it c hi W1) : (∃ n ∈ L, F 221 n = ((6 : Nat) : Int) ∧ bnd X (200 * f + (F 222 n).toNat) = v) ↔ stW X f c (c + it.2.2.2.2.2.length) v := by
  obtain ⟨w1, w2, w3, w4, w5⟩ := or_wd hO
  refine (om_kind (P := fun y => bnd X (200 * f + y.toNat) = v) (Or.inr ⟨rfl, rfl⟩) _ _ _ _ _ hO.1.2.1).trans ⟨?_, ?_⟩
  · rintro ⟨w, h1, h2, h3⟩
    obtain ⟨q, hq, rfl⟩ := List.mem_iff_getElem.mp h1
    rw [← gx_el hq, ← w4 q hq] at h2 h3
    exact ⟨c + 1 + q, by omega, by omega, h2, h3⟩
  · rintro ⟨i, i1, i2, i3, i4⟩
    have hq : i - (c + 1) < W1.length ∧ i = c + 1 + (i - (c + 1)) := by
      have n0 : i ≠ c := fun h => by rw [h, w3, wo_mk (by decide)] at i3; exact absurd i3 (by decide)
      have n1 : i ≠ c + 1 + W1.length := fun h => by rw [h, w5] at i3; exact absurd i3 (by decide)
      omega
    have e := w4 _ hq.1
    rw [← hq.2] at e
    refine ⟨gx W1 (i - (c + 1)), gx_mem hq.1, by rw [← e]; exact i3, ?_⟩
    show bnd X (200 * f + (wt (gx W1 (i - (c + 1)))).toNat) = v
    rw [← e]
    exact i4
theorem s_318 (hS : St G) (h71 : G 201 71 = (L.length : Int)) (h251 : ∀ q, (h : q < L.length) → G 251 q = ((L[q]'h : Nat) : Int)) (hL : ∀ n ∈ L, n < 1600) (hLl : L.length ≤ 1600) (h6 : ∀ n ∈ L, G 221 n = 6 → ∃ p : Nat, G 222 n = (p : Int) ∧ p < 200) (hB : ∀ id, id < 600 → G 253 id = bnd X id) (hf : f < 3) :
    C_318 (f : Int) v G (fun r G' => r = pif (∃ n ∈ L, G 221 n = 6 ∧ bnd X (200 * f + (G 222 n).toNat) = v) 1 0 ∧ G' = G) m_no := by
  have key : ∀ (d k : Nat) (x : Int), k + d = L.length → (x = 0 ∧ ∀ q, (h : q < L.length) → q < k → ¬ (G 221 (L[q]'h) = 6 ∧ bnd X (200 * f + (G 222 (L[q]'h)).toNat) = v)) ∨ (x = 1 ∧ ∃ n ∈ L, G 221 n = 6 ∧ bnd X (200 * f + (G 222 n).toNat) = v) →
      L_318_5 (f : Int) v x (k : Int) G (fun r G' => r = pif (∃ n ∈ L, G 221 n = 6 ∧ bnd X (200 * f + (G 222 n).toNat) = v) 1 0 ∧ G' = G) m_no := by
    intro d
    induction d with
    | zero =>
      intro k x hk hx
      refine b_318_5 hS ?_
      rw [h71]
      refine ⟨fun h => by omega, fun _ => ?_⟩
      rcases hx with ⟨rfl, hx⟩ | ⟨rfl, hx⟩
      · refine ⟨Or.inl rfl, (pif_0 ?_).symm, rfl⟩
        rintro ⟨n, hn, h⟩
        obtain ⟨q, hq, rfl⟩ := List.mem_iff_getElem.mp hn
        exact hx q hq (by omega) h
      · exact ⟨Or.inr rfl, (pif_1 hx).symm, rfl⟩
    | succ d ih =>
      intro k x hk hx
      have hk2 : k < L.length := by omega
      have nx : ∀ y : Int, _ → L_318_5 (f : Int) v y ((k : Int) + 1) G (fun r G' => r = pif (∃ n ∈ L, G 221 n = 6 ∧ bnd X (200 * f + (G 222 n).toNat) = v) 1 0 ∧ G' = G) m_no := fun y hy => by
        have := ih (k + 1) y (by omega) hy
        rw [show ((k + 1 : Nat) : Int) = (k : Int) + 1 by omega] at this
        exact this
      have hn := hL _ (List.getElem_mem hk2)
      refine b_318_5 hS ?_
      rw [h71, Int.toNat_natCast, h251 k hk2, Int.toNat_natCast]
      refine ⟨fun _ => ?_, fun h => by omega⟩
      rcases hx with ⟨rfl, hx⟩ | ⟨rfl, hx⟩
      · have st : ¬ (G 221 (L[k]'hk2) = 6 ∧ bnd X (200 * f + (G 222 (L[k]'hk2)).toNat) = v) → L_318_5 (f : Int) v 0 ((k : Int) + 1) G (fun r G' => r = pif (∃ n ∈ L, G 221 n = 6 ∧ bnd X (200 * f + (G 222 n).toNat) = v) 1 0 ∧ G' = G) m_no := fun h =>
          nx 0 (Or.inl ⟨rfl, fun q hq hq2 => by
            by_cases c : q = k
            · subst c; exact h
            · exact hx q hq (by omega)⟩)
        refine ⟨fun _ => ⟨by omega, by omega, fun e6 => ?_, fun e6 => ⟨by omega, st (fun h => e6 h.1)⟩⟩, fun h => absurd rfl h⟩
        obtain ⟨p, p1, p2⟩ := h6 _ (List.getElem_mem hk2) e6
        rw [p1] at st ⊢
        rw [show ((200 * (f : Int)) + (p : Int)).toNat = 200 * f + p by omega, hB _ (by omega)]
        rw [Int.toNat_natCast] at st
        exact ⟨by omega, by omega, by omega, by omega, by omega, fun h => ⟨by omega, nx 1 (Or.inr ⟨rfl, _, List.getElem_mem hk2, e6, by rw [p1, Int.toNat_natCast]; exact h⟩)⟩, fun h => ⟨by omega, st (fun h2 => h h2.2)⟩⟩
      · exact ⟨fun h => absurd h (by decide), fun _ => ⟨by omega, nx 1 (Or.inr ⟨rfl, hx⟩)⟩⟩
  exact c_318 hS (key L.length 0 0 (by omega) (Or.inl ⟨rfl, fun q _ hq => absurd hq (Nat.not_lt_zero q)⟩))
theorem s_318o (hS : St G) (hD : LKd F X nn) (hf : f < 3) (hl : LSq F G [] (ndc L)) (hO : OrF F X f L it c hi W1) :
    C_318 (f : Int) v G (fun r G' => r = pif (stW X f c (c + it.2.2.2.2.2.length) v) 1 0 ∧ G' = G) m_no := by
  have hX := hD.1.hX
  have lk := toks_len hX hf
  have n := hl.w.nd
  obtain ⟨l6, l7⟩ := hl.2.2.2
  rw [ndc_len] at l6
  obtain ⟨w1, w2, w3, w4, w5⟩ := or_wd hO
  obtain ⟨o1, o2, o3, o4, o5, o6, o7, o8, o9, o10, o11⟩ := hO.1
  have h := s_318 (v := v) (f := f) (X := X) (L := L) hS l6 (fun q hq => by rw [l7 q (by rw [ndc_len]; exact hq), gx_ndc hq]) (fun m hm => by have := o3 m hm; omega) o5 (fun m hm h6 => by
    rw [n 221 (by decide) (by decide)] at h6
    rw [n 222 (by decide) (by decide)]
    obtain ⟨w, a1, a2, a3⟩ := (om_kind (P := fun y => y = F 222 m) (Or.inr ⟨rfl, rfl⟩) _ _ _ _ _ o2).mp ⟨m, hm, h6, rfl⟩
    obtain ⟨q, hq, rfl⟩ := List.mem_iff_getElem.mp a1
    rw [← gx_el hq, ← w4 q hq] at a2 a3
    obtain ⟨p, p1, p2⟩ := wt_rng hX hf (show c + 1 + q < (Cw X f).length by omega) (Or.inl a2)
    exact ⟨p, by rw [← a3]; exact p1, by omega⟩) (fun id hid => by rw [hl.1 253 (by decide) (by decide) (by decide)]; exact hD.2.1 id hid) hf
  refine CaI.on h ?_
  rintro r G' _ ⟨rfl, rfl⟩
  refine ⟨pif_c ?_, rfl⟩
  rw [n 221 (by decide) (by decide), n 222 (by decide) (by decide)]
  exact st_or hO
end Mk6
