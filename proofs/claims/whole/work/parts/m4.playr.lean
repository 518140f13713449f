/-! A PLAN IS PLAYED, OF THE REFERENCE -/
/-- the plan, in the cells of the reference -/
def PlR (F : MF) (L : List CH) : Prop := F 201 7 = (L.length : Int) ∧ L.length ≤ 3 ∧ ∀ i, (h : i < L.length) → CHok (L[i]'h) ∧ F 207 i = ((L[i]'h).1 : Int) + 1 ∧ F 208 i = ((L[i]'h).2.1 : Int) ∧ F 209 i = ((L[i]'h).2.2.1 : Int) ∧ ((L[i]'h).1 = 2 → F 210 i = ((L[i]'h).2.2.2.1 : Int)) ∧ ((L[i]'h).1 = 0 → F 212 i = ((L[i]'h).2.2.2.2.length : Int) ∧ ∀ j, j < (L[i]'h).2.2.2.2.length → F 211 (6 * i + j) = gx (L[i]'h).2.2.2.2 j)
/-- what playing may change -/
def PFk (F F' : MF) : Prop := (∀ c, (c < 201 ∨ (204 ≤ c ∧ c ≤ 212) ∨ 279 ≤ c) → F' c = F c) ∧ ∀ j, j ≤ 15 → F' 201 j = F 201 j
section Mm4
variable {F F0 G : MF} {X Y : Nat → List Int} {L : List CH} {i : Nat}
theorem PFk.rf : PFk F F := ⟨fun _ _ => rfl, fun _ _ => rfl⟩
theorem PFk.tr {H : MF} (h : PFk F G) (k : PFk G H) : PFk F H := ⟨fun c a => (k.1 c a).trans (h.1 c a), fun j a => (k.2 j a).trans (h.2 j a)⟩
theorem PF.k (h : PF F G) : PFk F G := ⟨fun c hc => h.1 c (by omega), h.2⟩
theorem PFk.pl (h : PFk F G) (k : PlR F L) : PlR G L := by
  obtain ⟨k1, k2, k3⟩ := k
  refine ⟨by rw [h.2 7 (by decide)]; exact k1, k2, fun i hi => ?_⟩
  rw [h.1 207 (by omega), h.1 208 (by omega), h.1 209 (by omega), h.1 210 (by omega), h.1 211 (by omega), h.1 212 (by omega)]
  exact k3 i hi
/-- a token that is none: a reason -/
theorem chw_no {c : CH} (hX : ∀ r, r < 24 → Rok (X r)) (hc : CHok c) (ht : (toks X c.2.1).length ≤ c.2.2.1) : chw X c = 2 := by
  obtain ⟨c1, c2, c3, c4, c5, c6, c7⟩ := hc
  unfold chw
  by_cases k0 : c.1 = 0
  · rw [if_pos k0]
    refine pif_1 (fun h => ?_)
    have := bnd_kn (f := c.2.1) (k := c.2.2.1) hX c2 c3 (by rw [h.1]; omega)
    omega
  · by_cases k1 : c.1 = 1
    · rw [if_neg k0, if_pos k1]
      refine pif_1 (fun ⟨e, h1, _⟩ => ?_)
      obtain ⟨iL, e', l1, l2, l3, l4, l5, l6, -⟩ := let_at (t := c.2.2.1) hX c2 (by rw [h1]; omega)
      omega
    · rw [if_neg k0, if_neg k1]
      refine pif_1 (fun ⟨l, h1, _⟩ => ?_)
      obtain ⟨l', a1, a2, a3, a4, -⟩ := last_sp hX c2 (show lastX X c.2.1 c.2.2.1 ≠ -1 by omega)
      omega
/-- a change -/
theorem s_332 (hS : St F) (hT : TxM F X) (hP : PlR F L) (hi : i < L.length) : C_332 (i : Int) F (fun x F' => x = chw X (L[i]'hi) ∧ (x = 0 → TxM F' (chX X (L[i]'hi))) ∧ PF F F') m_no := by
  have hX : ∀ r, r < 24 → Rok (X r) := fun r hr => (hT r hr).2.1
  have hi3 : i < 3 := by have := hP.2.1; omega
  refine c_332 hS ?_
  refine CaV.on (s_262 hS hT) ?_
  rintro F1 hS1 ⟨r1, nn, d1⟩
  have p1 : PF F F1 := r1.pf
  obtain ⟨hc, q207, q208, q209, q210, q212⟩ := (p1.k.pl hP).2.2 i hi
  obtain ⟨c, ec⟩ : ∃ c, c = L[i]'hi := ⟨_, rfl⟩
  rw [← ec] at hc q207 q208 q209 q210 q212 ⊢
  have hco := hc
  obtain ⟨c1, c2, c3, c4, c5, c6, c7⟩ := hc
  have e217 : F1 217 c.2.1 = ((toks X c.2.1).length : Int) := (d1.1.2.1 c.2.1 c2).1.1
  rw [Int.toNat_natCast, q207, q208, q209, Int.toNat_natCast, e217, show 200 * (c.2.1 : Int) + (c.2.2.1 : Int) = ((200 * c.2.1 + c.2.2.1 : Nat) : Int) by omega]
  refine ⟨by omega, by omega, by omega, by omega, by omega, by omega, by omega, fun ht => ⟨by omega, fun e0 => ?_, fun e0 => ⟨by omega, fun e1 => ?_, fun e1 => ⟨by omega, ?_⟩⟩⟩, fun ht => ⟨(chw_no hX hco (by omega)).symm, fun h => absurd h (by decide), p1⟩⟩
  · have k0 : c.1 = 0 := by omega
    have ew : chw X c = rnm X (200 * c.2.1 + c.2.2.1) c.2.2.2.2 := if_pos k0
    have eX : chX X c = rnmX X (200 * c.2.1 + c.2.2.1) c.2.2.2.2 := if_pos k0
    refine CaI.on (s_316 hS1 d1 hi3 (by omega) (q212 k0).1 c6 (q212 k0).2 c7) ?_
    rintro x F' _ ⟨u1, u2, u3⟩
    exact ⟨by rw [ew]; exact u1, fun h => by rw [eX]; exact u2 h, p1.tr u3⟩
  · have k1 : c.1 = 1 := by omega
    have ew : chw X c = iln X c.2.1 c.2.2.1 := by unfold chw; rw [if_neg (by omega), if_pos k1]
    have eX : chX X c = inlX X c.2.1 c.2.2.1 := by unfold chX; rw [if_neg (by omega), if_pos k1]
    refine CaI.on (s_321 hS1 d1 c2 c3) ?_
    rintro x F' _ ⟨u1, u2, u3⟩
    exact ⟨by rw [ew]; exact u1, fun h => by rw [eX]; exact u2 h, p1.tr u3⟩
  · have k2 : c.1 = 2 := by omega
    have ew : chw X c = mvn X c.2.1 c.2.2.1 c.2.2.2.1 := by unfold chw; rw [if_neg (by omega), if_neg (by omega)]
    have eX : chX X c = mvX X c.2.1 c.2.2.1 c.2.2.2.1 := by unfold chX; rw [if_neg (by omega), if_neg (by omega)]
    rw [q210 k2]
    refine CaI.on (s_331 hS1 d1 c2 c4 (c5 k2) c3) ?_
    rintro x F' _ ⟨u1, u2, u3⟩
    exact ⟨by rw [ew]; exact u1, fun h => by rw [eX]; exact u2 h, p1.tr u3⟩
/-- the text that was kept comes back -/
theorem s_334 (hS : St F) (hK : Rws (F 267) (F 268) X) : C_334 F (fun F' => TxM F' X ∧ fr (fun c => c = 202 ∨ c = 203) F F') m_no := by
  refine c_334 hS ?_
  refine CaV.on (s_309 (m := 576) kd_267 kd_202 hS (by decide) (by decide) (by decide)) ?_
  rintro F1 hS1 ⟨a1, a2⟩
  refine CaV.on (s_309 (m := 24) kd_268 kd_203 hS1 (by decide) (by decide) (by decide)) ?_
  rintro F2 hS2 ⟨b1, b2⟩
  refine ⟨?_, (a2.mo (fun c hc => Or.inl hc)).tr (b2.mo (fun c hc => Or.inr hc))⟩
  refine Rws.cong hK (fun k hk => ?_) (fun k hk => ?_)
  · rw [b2 202 (by decide), a1 k, if_pos hk]
  · rw [b1 k, if_pos hk, a2 268 (by decide)]
theorem plw_nn : ∀ (L : List CH) (Y : Nat → List Int), 0 ≤ (plw L Y).1 := fun L => by
  induction L with
  | nil => intro Y; exact Int.le_refl 0
  | cons c L ih =>
    intro Y
    by_cases h : chw Y c = 0
    · rw [plw_0 h]; exact ih _
    · rw [plw_n h]
      show 0 ≤ chw Y c
      unfold chw rnm iln mvn
      have p0 : ∀ (p : Prop) (a b : Int), 0 ≤ a → 0 ≤ b → 0 ≤ pif p a b := fun p a b ha hb => by
        by_cases h : p
        · rw [pif_1 h]; exact ha
        · rw [pif_0 h]; exact hb
      split
      · exact p0 _ _ _ (by decide) (p0 _ _ _ (by decide) (p0 _ _ _ (by decide) (by decide)))
      · split
        · exact p0 _ _ _ (by decide) (p0 _ _ _ (by decide) (by decide))
        · refine p0 _ _ _ (by decide) (p0 _ _ _ (by decide) ?_)
          split
          · decide
          · exact p0 _ _ _ (by decide) (by decide)
/-- the plan is played -/
theorem s_333 (hS : St F) (hT : TxM F X) (hP : PlR F L) : C_333 F (fun x F' => x = (if L ≠ [] ∧ F 201 14 ≠ 0 then 1 else (plw L X).1) ∧ (x = 0 → TxM F' (plw L X).2 ∧ Rws (F' 267) (F' 268) X) ∧ (x ≠ 0 → TxM F' X) ∧ PFk F F') m_no := by
  have hX : ∀ r, r < 24 → Rok (X r) := fun r hr => (hT r hr).2.1
  have hlen : (0 < (L.length : Int)) ↔ L ≠ [] := by
    constructor
    · intro h e
      rw [e] at h
      exact absurd h (by decide)
    · intro h
      have := List.length_pos_iff.mpr h
      omega
  have go : ¬ (L ≠ [] ∧ F 201 14 ≠ 0) → L_333_16 F (fun x F' => x = (if L ≠ [] ∧ F 201 14 ≠ 0 then 1 else (plw L X).1) ∧ (x = 0 → TxM F' (plw L X).2 ∧ Rws (F' 267) (F' 268) X) ∧ (x ≠ 0 → TxM F' X) ∧ PFk F F') m_no := by
    intro hst
    rw [if_neg hst]
    refine b_333_16 hS ?_
    refine CaV.on (s_309 (m := 576) kd_202 kd_267 hS (by decide) (by decide) (by decide)) ?_
    rintro F1 hS1 ⟨a1, a2⟩
    refine CaV.on (s_309 (m := 24) kd_203 kd_268 hS1 (by decide) (by decide) (by decide)) ?_
    rintro F2 hS2 ⟨b1, b2⟩
    have hK2 : Rws (F2 267) (F2 268) X := Rws.cong hT (fun k hk => by rw [b2 267 (by decide), a1 k, if_pos hk]) (fun k hk => by rw [b1 k, if_pos hk, a2 203 (by decide)])
    have hT2 : TxM F2 X := (hT.fr a2 (by decide) (by decide)).fr b2 (by decide) (by decide)
    have p2 : PFk F F2 := ⟨fun c hc => by rw [b2 c (by omega), a2 c (by omega)], fun j _ => by rw [b2 201 (by decide), a2 201 (by decide)]⟩
    -- it was refused
    have ref : ∀ (x : Int) (j : Int) (G : MF), 0 < x → x = (plw L X).1 → St G → Rws (G 267) (G 268) X → PFk F G → ((0 < x → C_334 G (fun F' => x = (plw L X).1 ∧ (x = 0 → TxM F' (plw L X).2 ∧ Rws (F' 267) (F' 268) X) ∧ (x ≠ 0 → TxM F' X) ∧ PFk F F') m_no) ∧ (¬ (0 < x) → x = (plw L X).1 ∧ (x = 0 → TxM G (plw L X).2 ∧ Rws (G 267) (G 268) X) ∧ (x ≠ 0 → TxM G X) ∧ PFk F G)) := fun x j G hx he hSG hK hp => by
      refine ⟨fun _ => CaV.on (s_334 hSG hK) ?_, fun h => absurd hx h⟩
      rintro F' _ ⟨u1, u2⟩
      exact ⟨he, fun h => by omega, fun _ => u1, hp.tr ⟨fun c hc => u2 c (by omega), fun j _ => by rw [u2 201 (by decide)]⟩⟩
    have key : ∀ (d i : Nat) (Y : Nat → List Int) (G : MF), i + d = L.length → St G → TxM G Y → Rws (G 267) (G 268) X → PFk F G → plw L X = plw (L.drop i) Y → L_333_47 0 (i : Int) G (fun x F' => x = (plw L X).1 ∧ (x = 0 → TxM F' (plw L X).2 ∧ Rws (F' 267) (F' 268) X) ∧ (x ≠ 0 → TxM F' X) ∧ PFk F F') m_no := by
      intro d
      induction d with
      | zero =>
        intro i Y G hi hSG hTG hKG hp he
        have hc := (hp.pl hP).1
        rw [List.drop_eq_nil_of_le (by omega)] at he
        refine b_333_47 hSG ?_
        rw [hc]
        refine ⟨fun h => by omega, fun _ => ⟨fun h => absurd h (by decide), fun _ => ⟨by rw [he]; rfl, fun _ => ⟨by rw [he]; exact hTG, hKG⟩, fun h => absurd rfl h, hp⟩⟩⟩
      | succ d ih =>
        intro i Y G hi hSG hTG hKG hp he
        have hi2 : i < L.length := by omega
        have hl3 := hP.2.1
        have hc := (hp.pl hP).1
        have edr : L.drop i = L[i]'hi2 :: L.drop (i + 1) := List.drop_eq_getElem_cons hi2
        rw [edr] at he
        refine b_333_47 hSG ?_
        rw [hc]
        refine ⟨fun _ => ⟨fun _ => ?_, fun h => absurd rfl h⟩, fun h => by omega⟩
        refine CaI.on (s_332 hSG hTG (hp.pl hP) hi2) ?_
        rintro x F17 hS17 ⟨u1, u2, u3⟩
        have hK17 : Rws (F17 267) (F17 268) X := by rw [u3.1 267 (by omega), u3.1 268 (by omega)]; exact hKG
        refine ⟨by omega, ?_⟩
        by_cases h : chw Y (L[i]'hi2) = 0
        · have hx0 : x = 0 := by rw [u1, h]
          subst hx0
          have := ih (i + 1) (chX Y (L[i]'hi2)) F17 (by omega) hS17 (u2 rfl) hK17 (hp.tr u3.k) (by rw [he, plw_0 h])
          rw [show ((i + 1 : Nat) : Int) = (i : Int) + 1 by omega] at this
          exact this
        · rw [plw_n h] at he
          have hx : x = (plw L X).1 := by rw [he]; exact u1
          have hxn : x ≠ 0 := by rw [u1]; exact h
          have hpos : 0 < x := by have := plw_nn L X; omega
          have rr := ref x 0 F17 hpos hx hS17 hK17 (hp.tr u3.k)
          refine b_333_47 hS17 ⟨fun _ => ⟨fun h => absurd h hxn, fun _ => rr⟩, fun _ => rr⟩
    exact key L.length 0 X F2 (by omega) hS2 hT2 hK2 p2 rfl
  refine c_333 hS ?_
  rw [hP.1, hlen]
  refine ⟨fun h => ⟨fun h2 => go (fun h3 => h3.2 h2), fun h2 => ⟨(if_pos ⟨h, h2⟩).symm, fun h => absurd h (by decide), fun _ => hT, PFk.rf⟩⟩, fun h => go (fun h3 => h h3.1)⟩
end Mm4
