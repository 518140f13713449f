/-! READING, OF THE REFERENCE: takesUnit -/
section M82
variable {F F' : MF} {K : List Int} {n0 N a : Nat} {C0 C : List Int} {l : Lv} {r : List Lv}
def TF (n0 : Nat) (F F' : MF) : Prop := Cz n0 F F' ∧ (∀ j, j ≠ 26 → j ≠ 27 → j ≠ 51 → j ≠ 53 → j ≠ 54 → j ≠ 58 → j ≠ 60 → F' 201 j = F 201 j)
def TU (F : MF) (K : List Int) (n0 : Nat) (C0 : List Int) (l : Lv) (r : List Lv) (a N : Nat) (C : List Int) (y : XS) : Int → MF → Prop := fun v F' => TF n0 F F' ∧
  (y.1 = 1 → v = 1 ∧ ∃ N', EW F' K n0 C0 y.2.2.1 y.2.1 N' y.2.2.2 ∧ N' + PNs y.2.2.1 + a ≤ N + PNs (l :: r) + y.2.1) ∧ (y.1 = 2 → v = 0 ∧ ∃ N', EHs F' K n0 C0 y.2.2.1 y.2.1 N' y.2.2.2 ∧ N' + PH y.2.2.1 + a ≤ N + PNs (l :: r) + y.2.1) ∧
  (y.1 = 4 → v = 0 ∧ ∃ N', EHs F' K n0 C0 r (a + 1) N' (C ++ [mk 15 (opn l).toNat (szs l).toNat]) ∧ N' + PH r + a ≤ N + PNs (l :: r) + (a + 1)) ∧ (y.1 = 0 → v = 0 ∧ F' 201 58 = 1 ∧ F' 201 26 = (a : Int) ∧ F' 201 27 = F 201 27)
theorem TU.one {a' N' : Nat} {L : List Lv} {C' : List Int} (h1 : TF n0 F F') (h2 : EW F' K n0 C0 L a' N' C') (h3 : N' + PNs L + a ≤ N + PNs (l :: r) + a') : TU F K n0 C0 l r a N C (1, a', L, C') 1 F' :=
  ⟨h1, fun _ => ⟨rfl, N', h2, h3⟩, fun e => absurd (show (1 : Nat) = 2 from e) (by decide), fun e => absurd (show (1 : Nat) = 4 from e) (by decide), fun e => absurd (show (1 : Nat) = 0 from e) (by decide)⟩
theorem TU.two {a' N' : Nat} {L : List Lv} {C' : List Int} (h1 : TF n0 F F') (h2 : EHs F' K n0 C0 L a' N' C') (h3 : N' + PH L + a ≤ N + PNs (l :: r) + a') : TU F K n0 C0 l r a N C (2, a', L, C') 0 F' :=
  ⟨h1, fun e => absurd (show (2 : Nat) = 1 from e) (by decide), fun _ => ⟨rfl, N', h2, h3⟩, fun e => absurd (show (2 : Nat) = 4 from e) (by decide), fun e => absurd (show (2 : Nat) = 0 from e) (by decide)⟩
theorem TU.four {a' N' : Nat} {L : List Lv} {C' : List Int} (h1 : TF n0 F F') (h2 : EHs F' K n0 C0 r (a + 1) N' (C ++ [mk 15 (opn l).toNat (szs l).toNat])) (h3 : N' + PH r + a ≤ N + PNs (l :: r) + (a + 1)) : TU F K n0 C0 l r a N C (4, a', L, C') 0 F' :=
  ⟨h1, fun e => absurd (show (4 : Nat) = 1 from e) (by decide), fun e => absurd (show (4 : Nat) = 2 from e) (by decide), fun _ => ⟨rfl, N', h2, h3⟩, fun e => absurd (show (4 : Nat) = 0 from e) (by decide)⟩
theorem TU.zero {a' : Nat} {L : List Lv} {C' : List Int} (h1 : TF n0 F F') (h2 : F' 201 58 = 1) (h3 : F' 201 26 = (a : Int) ∧ F' 201 27 = F 201 27) : TU F K n0 C0 l r a N C (0, a', L, C') 0 F' :=
  ⟨h1, fun e => absurd (show (0 : Nat) = 1 from e) (by decide), fun e => absurd (show (0 : Nat) = 2 from e) (by decide), fun e => absurd (show (0 : Nat) = 4 from e) (by decide), fun _ => ⟨rfl, h2, h3⟩⟩
/-- the room that there is, and what holds of the innermost level -/
def TB (F : MF) (K : List Int) (n0 N a : Nat) (C0 : List Int) (l : Lv) (r : List Lv) : Prop := SQ F K ∧ a ≤ K.length ∧ K.length ≤ 195 ∧ r.length + 1 < 210 ∧ N + 4 < 1600 ∧ -1 ≤ nts l ∧ -1 ≤ nts (hdl r) ∧ 0 ≤ opn l ∧
  (∀ s : Nat, F 201 51 = (s : Int) → s < 420) ∧ (∀ q : Nat, F 201 53 = (q : Int) → q < 420) ∧ (shp l = 2 → (a : Int) = opn l + 2 → nts l = -1 ∧ pl l = [])
theorem l_157 (hS : St F) (h : EW F K n0 C0 (l :: r) a N C) (hB : TB F K n0 N a C0 l r) : L_231_157 (kn K a) F (TU F K n0 C0 l r a N C (if kn K a = 0 ∨ kn K a = 1 ∨ kn K a = 8 ∨ kn K a = 9 then (2, a + 1, l :: r, C ++ [mk 14 a 0]) else (0, a, l :: r, C))) m_no := by
  obtain ⟨b1, b2, b3, b4, b5, b6, b7, b8, b9, b10, b11⟩ := hB
  have hp : (kn K a = 0 ∨ kn K a = 1 ∨ kn K a = 8 ∨ kn K a = 9) → C_221 13 (F 201 26) (m_up (m_up F 201 58 0) 201 60 (-1)) (fun r7 F4 => C_227 r7 (F 201 60) F4 (fun F8 => (-2147483648 ≤ ((F8 201 26) + 1) ∧ ((F8 201 26) + 1) < 2147483648) ∧ (TU F K n0 C0 l r a N C (if kn K a = 0 ∨ kn K a = 1 ∨ kn K a = 8 ∨ kn K a = 9 then (2, a + 1, l :: r, C ++ [mk 14 a 0]) else (0, a, l :: r, C))) 0 (m_up F8 201 26 ((F8 201 26) + 1))) m_no) m_no := by
    intro e
    rw [if_pos e]
    refine t_plain hS h b10 (by omega) (by omega) b6 (fun F' _ k1 k2 k3 => TU.two ⟨k2, fun j x1 x2 x3 x4 x5 x6 x7 => k3 j x1 x2 x4 x6 x7⟩ k1 ?_)
    rw [wd_len]
    show N + 1 + pn1 (nts l) + (pq l + PNs r) + a ≤ N + (pq l + pn1 (nts l) + PNs r) + (a + 1)
    omega
  refine b_231_157 hS ⟨fun e => hp (Or.inl e), fun e0 => ⟨fun e => hp (Or.inr (Or.inl e)), fun e1 => ⟨fun e => hp (Or.inr (Or.inr (Or.inl e))), fun e2 => ⟨fun e => hp (Or.inr (Or.inr (Or.inr e))), fun e3 => ?_⟩⟩⟩⟩
  rw [if_neg (by omega)]
  refine TU.zero ⟨⟨fun c i x y _ => u_ne (by omega), fr.rf.up (Or.inl rfl)⟩, fun j x1 x2 x3 x4 x5 x6 x7 => u_ne (Or.inr x6)⟩ u_eq ?_
  rw [u_ne (Or.inr (by decide)), u_ne (Or.inr (by decide))]
  exact ⟨h.2.2.2.2.1, rfl⟩
theorem l_75 (hS : St F) (h : EW F K n0 C0 (l :: r) a N C) (hB : TB F K n0 N a C0 l r) (h1 : ¬ (kn K a = 22 ∧ nts l = -1)) (h2 : ¬ (kn K a = 11 ∧ shp l = 2 ∧ (a : Int) = opn l + 2)) :
    L_231_75 (kn K a) F (TU F K n0 C0 l r a N C (xop K a l r C)) m_no := by
  have hB' := hB
  obtain ⟨b1, b2, b3, b4, b5, b6, b7, b8, b9, b10, b11⟩ := hB'
  have h26 : F 201 26 = (a : Int) := h.2.2.2.2.1
  unfold xop
  rw [if_neg h1, if_neg h2]
  refine b_231_75 hS ⟨fun e => ?_, fun e => ⟨fun e0 => ?_, fun e0 => ?_⟩⟩
  · rw [if_neg (by omega), if_pos e]
    exact t_open hS h b4 b9 (by omega) (fun F' _ k1 k2 k3 => TU.one ⟨k2, fun j x1 x2 x3 x4 x5 x6 x7 => k3 j x1 x3 x5 x7⟩ k1 (by show N + (0 + (pq l + pn1 (nts l) + PNs r)) + a ≤ N + (pq l + pn1 (nts l) + PNs r) + (a + 1); omega))
  · rw [h26, show (a : Int) + 1 = ((a + 1 : Nat) : Int) by omega, Int.toNat_natCast, b1 (a + 1) (by omega)]
    refine ⟨by omega, by omega, fun e1 => ?_, fun e1 => ?_⟩
    · rw [if_pos ⟨e0, e1⟩]
      have := t_call (R := TU F K n0 C0 l r a N C (1, a + 2, lv0 2 a :: l :: r, C)) hS h b4 b9 (by omega) (by omega) (fun F' _ k1 k2 k3 => TU.one ⟨k2, fun j x1 x2 x3 x4 x5 x6 x7 => k3 j x1 x2 x3 x5 x7⟩ k1 (by show N + 1 + (0 + (pq l + pn1 (nts l) + PNs r)) + a ≤ N + (pq l + pn1 (nts l) + PNs r) + (a + 2); omega))
      rw [h26] at this
      exact this
    · rw [if_neg (fun x => e1 x.2), if_neg e]
      exact l_157 hS h hB
  · rw [if_neg (fun x => e0 x.1), if_neg e]
    exact l_157 hS h hB
theorem l_41 (hS : St F) (h : EW F K n0 C0 (l :: r) a N C) (hB : TB F K n0 N a C0 l r) (h2 : ¬ (kn K a = 11 ∧ shp l = 2 ∧ (a : Int) = opn l + 2)) :
    L_231_41 (kn K a) F (TU F K n0 C0 l r a N C (xop K a l r C)) m_no := by
  have hB' := hB
  obtain ⟨b1, b2, b3, b4, b5, b6, b7, b8, b9, b10, b11⟩ := hB'
  have h26 : F 201 26 = (a : Int) := h.2.2.2.2.1
  have h60 : F 201 60 = nts l := h.2.2.2.1
  refine b_231_41 hS ⟨fun e => ⟨fun e1 => ?_, fun e1 => ?_⟩, fun e => l_75 hS h hB (fun x => e x.1) h2⟩
  · rw [h60] at e1
    unfold xop
    rw [if_pos ⟨e, e1⟩, h26]
    exact ⟨by omega, TU.one ⟨⟨fun c i x y _ => by rw [u_ne (by omega), u_ne (by omega)], (fr.rf.up (Or.inl rfl)).up (Or.inl rfl)⟩, fun j x1 x2 x3 x4 x5 x6 x7 => by rw [u_ne (Or.inr x1), u_ne (Or.inr x7)]⟩ (t_bang h) (by have := pn1_nat a; show N + (pq l + pn1 (a : Int) + PNs r) + a ≤ N + (pq l + pn1 (nts l) + PNs r) + (a + 1); omega)⟩
  · rw [h60] at e1
    exact l_75 hS h hB (fun x => e1 x.2) h2
theorem s_231 {x1 : Int} (hS : St F) (h : EW F K n0 C0 (l :: r) a N C) (hB : TB F K n0 N a C0 l r) (hx : kn K a = 11 → (x1 ≠ 0 ↔ shp l = 2 ∧ (a : Int) = opn l + 2)) :
    C_231 x1 F (TU F K n0 C0 l r a N C (xop K a l r C)) m_no := by
  have hB' := hB
  obtain ⟨b1, b2, b3, b4, b5, b6, b7, b8, b9, b10, b11⟩ := hB'
  have h26 : F 201 26 = (a : Int) := h.2.2.2.2.1
  refine c_231 hS ?_
  rw [h26, Int.toNat_natCast, b1 a (by omega)]
  refine ⟨by omega, fun e => ⟨fun e1 => ?_, fun e1 => ?_⟩, fun e => l_41 hS h hB (fun x => e x.1)⟩
  · exact l_41 hS h hB (fun x => (hx e).mpr x.2 e1)
  · obtain ⟨c1, c2⟩ := (hx e).mp e1
    obtain ⟨n1, n2⟩ := b11 c1 c2
    obtain ⟨⟨s0, q0, lo0, W0, s, q, g1, g2, g3, g4⟩, g5, g6, g7, g8, g9⟩ := h
    change PE F K s0 q0 lo0 W0 (pl l) s q N C at g2
    rw [n2] at g2
    obtain ⟨rfl, rfl, rfl, rfl⟩ := g2
    unfold xop
    rw [if_neg (by omega), if_neg (by omega), if_neg (by omega), if_pos ⟨e, c1, c2⟩]
    refine CaV.on (s_230z hS g1 c1 b8 g5 g4 g3 g6 b7 (by omega) (b10 _ g4) (b9 _ g3) (by omega) _) ?_
    rintro F2 hS2 ⟨⟨N', y1, y2⟩, y3, y4, y5⟩
    have k26 : F2 201 26 = (a : Int) := (y4 26 (by decide) (by decide) (by decide) (by decide)).trans h26
    rw [k26]
    refine ⟨by omega, ?_⟩
    obtain ⟨F3, d3⟩ : ∃ F3, F3 = m_up F2 201 26 ((a : Int) + 1) := ⟨_, rfl⟩
    rw [← d3]
    have z : ∀ c, c ≠ 201 → F3 c = F2 c := fun c hc => by rw [d3, up_row hc]
    have w : ∀ j, j ≠ 26 → F3 201 j = F2 201 j := fun j x => by rw [d3, u_ne (Or.inr x)]
    refine TU.four (N' := N') ⟨⟨fun c i x y u => by rw [z c (by omega)]; exact y5.1 c i x y u, fun c hc => by rw [z c (fun e => hc (Or.inl e))]; exact y5.2 c hc⟩, fun j x1 x2 x3 x4 x5 x6 x7 => by rw [w j x1, y4 j x2 x3 x4 x5]⟩ ⟨?_, ?_, ?_, ?_, ?_⟩ ?_
    · obtain ⟨s1, q1, lo1, W1, u1, m, W, Wt, f, u2, u3, u4, u5, u6, u7⟩ := y1
      exact ⟨s1, q1, lo1, W1, u1.z z, m, W, Wt, f, u2.z z, u3.cong (by rw [z 239 (by decide)]) (fun c i x y _ => by rw [z c (by omega)]), u4, (w 27 (by decide)).trans u5, (w 51 (by decide)).trans u6, (w 53 (by decide)).trans u7⟩
    · rw [w 54 (by decide)]; exact y3
    · rw [w 60 (by decide), y4 60 (by decide) (by decide) (by decide) (by decide), g7]; exact n1
    · rw [d3, u_eq]; omega
    · rw [w 58 (by decide), y4 58 (by decide) (by decide) (by decide) (by decide)]; exact g9
    · have := PH_PN r
      rw [y2, wd_len]
      show N + pn1 (nts (hdl r)) + PH r + a ≤ N + (pq l + pn1 (nts l) + PNs r) + (a + 1)
      omega
end M82
