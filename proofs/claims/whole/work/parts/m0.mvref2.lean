/-! A LINE WITH A USE, AND WHERE TOKENS HAVE COME, OF THE REFERENCE -/
section Mm0
variable {F G : MF} {X Y Z : Nat → List Int} {og s oz : Nat → Int} {f t o l g a b n r i k top at' old new : Nat} {P : Nat → Prop} {nn : Nat → Nat}
/-- a line with a USE comes in -/
theorem s_326 (hS : St F) (hT : TxM F Y) (h275 : ∀ r, r < 24 → F 275 r = og r) (ha : a < 3) (hb : b < 3) :
    C_326 (a : Int) (b : Int) F (fun x F' => ((x = 0 ∧ Y (8 * a + 7) ≠ []) ∨ (x = 1 ∧ Y (8 * a + 7) = [] ∧ TxM F' (useY a b Y) ∧ ∀ r, r < 24 → F' 275 r = sho (useS a) og r)) ∧ fr (fun c => LyF c ∨ c = 202 ∨ c = 203 ∨ c = 275) F F') m_no := by
  have hY : ∀ r, r < 24 → Rok (Y r) := fun r hr => (hT r hr).2.1
  have hrg : ∀ r, r < 24 → useS a r = -1 ∨ 0 ≤ useS a r ∧ useS a r < 24 := fun r hr => by
    obtain ⟨q, m, hq, hm, rfl⟩ := r8 hr
    by_cases c : q = a
    · subst c
      rw [useS_a hm]
      split
      · exact Or.inl rfl
      · exact Or.inr ⟨by omega, by omega⟩
    · rw [useS_x hm c]; exact Or.inr ⟨by omega, by omega⟩
  have e203 := (hT (8 * a + 7) (by omega)).1
  refine c_326 hS ?_
  rw [show (8 * (a : Int) + 8 - 1).toNat = 8 * a + 7 by omega, e203]
  refine ⟨by omega, by omega, by omega, by omega, fun h => ⟨Or.inl ⟨rfl, fun e => ?_⟩, fr.rf⟩, fun h => ?_⟩
  · rw [e] at h; exact absurd h (by decide)
  have h7 : Y (8 * a + 7) = [] := List.length_eq_zero_iff.mp (by omega)
  have key : ∀ (d r : Nat) (G : MF), r + d = 24 → St G → fr LyF F G → (∀ q, q < r → Lay G (sh (useS a) Y) (sho (useS a) og) q) →
      L_326_21 (a : Int) (b : Int) (r : Int) G (fun x F' => ((x = 0 ∧ Y (8 * a + 7) ≠ []) ∨ (x = 1 ∧ Y (8 * a + 7) = [] ∧ TxM F' (useY a b Y) ∧ ∀ r, r < 24 → F' 275 r = sho (useS a) og r)) ∧ fr (fun c => LyF c ∨ c = 202 ∨ c = 203 ∨ c = 275) F F') m_no := by
    intro d
    induction d with
    | zero =>
      intro r G hr hSG hfr hA
      obtain rfl : r = 24 := by omega
      refine b_326_21 hSG ⟨fun h => by omega, fun _ => ?_⟩
      rw [show (8 * (a : Int)).toNat = 8 * a by omega, show (24 * (8 * (a : Int))).toNat = 24 * (8 * a) by omega, show (24 * (8 * (a : Int)) + 1).toNat = 24 * (8 * a) + 1 by omega, show (24 * (8 * (a : Int)) + 2).toNat = 24 * (8 * a) + 2 by omega, show (24 * (8 * (a : Int)) + 3).toNat = 24 * (8 * a) + 3 by omega, show (24 * (8 * (a : Int)) + 4).toNat = 24 * (8 * a) + 4 by omega, show (24 * (8 * (a : Int)) + 5).toNat = 24 * (8 * a) + 5 by omega, show 97 + (b : Int) = ((97 + b : Nat) : Int) by omega]
      obtain ⟨H, eH⟩ : ∃ H, H = m_up (m_up (m_up (m_up (m_up (m_up (m_up G 270 (8 * a) 6) 269 (24 * (8 * a)) 117) 269 (24 * (8 * a) + 1) 115) 269 (24 * (8 * a) + 2) 101) 269 (24 * (8 * a) + 3) 32) 269 (24 * (8 * a) + 4) ((97 + b : Nat) : Int)) 269 (24 * (8 * a) + 5) 59 := ⟨_, rfl⟩
      have s0 : St (m_up G 270 (8 * a) 6) := hSG.arr kd_270 (by decide)
      have hSH : St H := by rw [eH]; exact (((((s0.arr kd_269 (by decide)).arr kd_269 (by decide)).arr kd_269 (by decide)).arr kd_269 (by decide)).arr kd_269 (by decide)).arr kd_269 (by decide)
      have fH : fr LyF G H := by
        rw [eH]
        exact ((((((fr.rf.up (Or.inr (Or.inl rfl))).up (Or.inl rfl)).up (Or.inl rfl)).up (Or.inl rfl)).up (Or.inl rfl)).up (Or.inl rfl)).up (Or.inl rfl)
      have h270 : ∀ r, H 270 r = if r = 8 * a then 6 else G 270 r := fun r => by
        rw [eH, up_row (by decide), up_row (by decide), up_row (by decide), up_row (by decide), up_row (by decide), up_row (by decide)]
        by_cases c : r = 8 * a
        · rw [c, u_eq, if_pos rfl]
        · rw [u_ne (Or.inr c), if_neg c]
      have h276 : ∀ r, H 276 r = G 276 r := fun r => by
        rw [eH, up_row (by decide), up_row (by decide), up_row (by decide), up_row (by decide), up_row (by decide), up_row (by decide), up_row (by decide)]
      have h269 : ∀ z, (z < 24 * (8 * a) ∨ 24 * (8 * a) + 6 ≤ z) → H 269 z = G 269 z := fun z hz => by
        rw [eH, u_ne (Or.inr (by omega)), u_ne (Or.inr (by omega)), u_ne (Or.inr (by omega)), u_ne (Or.inr (by omega)), u_ne (Or.inr (by omega)), u_ne (Or.inr (by omega)), up_row (by decide)]
      have hch : ∀ j, j < 6 → H 269 (24 * (8 * a) + j) = gx (useW b) j := fun j hj => by
        have : j = 0 ∨ j = 1 ∨ j = 2 ∨ j = 3 ∨ j = 4 ∨ j = 5 := by omega
        rw [eH]
        rcases this with rfl | rfl | rfl | rfl | rfl | rfl
        · rw [u_ne (Or.inr (by omega)), u_ne (Or.inr (by omega)), u_ne (Or.inr (by omega)), u_ne (Or.inr (by omega)), u_ne (Or.inr (by omega)), Nat.add_zero, u_eq]
          rfl
        · rw [u_ne (Or.inr (by omega)), u_ne (Or.inr (by omega)), u_ne (Or.inr (by omega)), u_ne (Or.inr (by omega)), u_eq]
          rfl
        · rw [u_ne (Or.inr (by omega)), u_ne (Or.inr (by omega)), u_ne (Or.inr (by omega)), u_eq]
          rfl
        · rw [u_ne (Or.inr (by omega)), u_ne (Or.inr (by omega)), u_eq]
          rfl
        · rw [u_ne (Or.inr (by omega)), u_eq]
          rfl
        · rw [u_eq]
          rfl
      rw [← eH]
      have hZ : ∀ r, r < 24 → Rok (useY a b Y r) := fun r hr => by
        unfold useY
        by_cases c : r = 8 * a
        · rw [c, upd_eq]; exact rok_use hb
        · rw [upd_ne c]; exact sh_rok hY (hrg r hr)
      have hLz : ∀ r, r < 24 → Lay H (useY a b Y) (sho (useS a) og) r := fun r hr => by
        by_cases c : r = 8 * a
        · have eZ : useY a b Y r = useW b := by unfold useY; rw [c, upd_eq]
          refine ⟨by rw [eZ, h270, if_pos c]; rfl, fun j hj => ?_, by rw [h276]; exact (hA r hr).2.2⟩
          rw [eZ] at hj ⊢
          rw [c]
          exact hch j hj
        · have eZ : useY a b Y r = sh (useS a) Y r := by unfold useY; rw [upd_ne c]
          obtain ⟨a1, a2, a3⟩ := hA r hr
          have l24 := (sh_rok hY (hrg r hr)).1
          exact ⟨by rw [eZ, h270, if_neg c]; exact a1, fun j hj => by rw [eZ] at hj ⊢; rw [h269 _ (by omega)]; exact a2 j hj, by rw [h276]; exact a3⟩
      refine ⟨by omega, by omega, by omega, by omega, by omega, by omega, by omega, by omega, by omega, by omega, by omega, by omega, by omega, by omega, by omega, by omega, by omega, by omega, by omega, by omega, ?_⟩
      refine CaV.on (s_323 hSH hZ hLz) ?_
      rintro F' hS' ⟨k1, k2, k3⟩
      exact ⟨Or.inr ⟨rfl, h7, k1, k2⟩, (hfr.mo (fun c h => Or.inl h)).tr ((fH.mo (fun c h => Or.inl h)).tr (k3.mo (fun c h => Or.inr h)))⟩
    | succ d ih =>
      intro r G hr hSG hfr hA
      have hTG : TxM G Y := hT.fr hfr (by unfold LyF; omega) (by unfold LyF; omega)
      have h275G : ∀ r, r < 24 → G 275 r = og r := fun r hr => by rw [hfr 275 (by unfold LyF; omega)]; exact h275 r hr
      have nx : ∀ {x : Int}, x = useS a r → C_322 (r : Int) x G (fun F16 => (-2147483648 ≤ (r : Int) + 1 ∧ (r : Int) + 1 < 2147483648) ∧ L_326_21 (a : Int) (b : Int) ((r : Int) + 1) F16 (fun x F' => ((x = 0 ∧ Y (8 * a + 7) ≠ []) ∨ (x = 1 ∧ Y (8 * a + 7) = [] ∧ TxM F' (useY a b Y) ∧ ∀ r, r < 24 → F' 275 r = sho (useS a) og r)) ∧ fr (fun c => LyF c ∨ c = 202 ∨ c = 203 ∨ c = 275) F F') m_no) m_no := fun hx => by
        refine CaV.on (lay_st hSG hTG h275G (by omega) hrg hA hx) ?_
        rintro G2 hS2 ⟨k1, k2⟩
        refine ⟨by omega, ?_⟩
        have := ih (r + 1) G2 (by omega) hS2 (hfr.tr k2) k1
        rw [show ((r + 1 : Nat) : Int) = (r : Int) + 1 by omega] at this
        exact this
      obtain ⟨q, m, hq, hm, rfl⟩ := r8 (show r < 24 by omega)
      refine b_326_21 hSG ⟨fun _ => ⟨by omega, fun e => ⟨by omega, fun e2 => nx ?_, fun e2 => ⟨by omega, nx ?_⟩⟩, fun e => nx ?_⟩, fun h => by omega⟩
      · have c : q = a := by omega
        subst c
        rw [useS_a hm, if_pos (by omega)]
      · have c : q = a := by omega
        subst c
        rw [useS_a hm, if_neg (by omega)]
        omega
      · have c : q ≠ a := fun h => e (by omega)
        rw [useS_x hm c]
  exact key 24 0 F (by decide) hS fr.rf (fun q hq => absurd hq (Nat.not_lt_zero q))
/-- which token a new one was: by the row and the column -/
theorem mv_key {q : Nat} (hX : ∀ r, r < 24 → Rok (X r)) (h : OgI P X Y og) (hn : new < 600) (hv : vid Y new) (hq : og (8 * (new / 200) + tl Y (new / 200) (new % 200)) = (q : Int)) (ho : old < 600) :
    MvT X Y og old new ↔ keyX X old = ((32 * q + tc Y (new / 200) (new % 200) : Nat) : Int) := by
  have hY := h.1
  have hg : new / 200 < 3 := by omega
  obtain ⟨i, a1, a2, a3⟩ := tk_row hY hg hv
  have oY := toks_ok hv
  have wY := (hY (8 * (new / 200) + tl Y (new / 200) (new % 200)) (by omega)).1
  constructor
  · intro hm
    obtain ⟨-, t1, -, -, -, t2, t3⟩ := mv_tok hX h hm
    unfold keyX
    rw [pif_1 t1, t2]
    omega
  · intro hk
    have hvo : vid X old := by
      by_cases c : vid X old
      · exact c
      · unfold keyX at hk
        rw [pif_0 c] at hk
        omega
    have hf : old / 200 < 3 := by omega
    have oX := toks_ok hvo
    have wX := (hX (8 * (old / 200) + tl X (old / 200) (old % 200)) (by omega)).1
    unfold keyX at hk
    rw [pif_1 hvo] at hk
    have e1 : q = 8 * (old / 200) + tl X (old / 200) (old % 200) ∧ tc X (old / 200) (old % 200) = tc Y (new / 200) (new % 200) := by omega
    have hrow := h.2.2.2.1 (8 * (new / 200) + tl Y (new / 200) (new % 200)) (by omega) (by omega)
    rw [hq, Int.toNat_natCast, e1.1, (d8 a1).1, (d8 a1).2, (d8 oX.1).1, (d8 oX.1).2] at hrow
    have ent : nt Y (new / 200) (tl Y (new / 200) (new % 200)) = nt X (old / 200) (tl X (old / 200) (old % 200)) ∧ ∀ j, ron Y (new / 200) (tl Y (new / 200) (new % 200)) j = ron X (old / 200) (tl X (old / 200) (old % 200)) j := by
      unfold nt ron
      rw [hrow.1, hrow.2]
      exact ⟨rfl, fun _ => rfl⟩
    have uX := tok_tl hX hf oX.1 (show i < nt X (old / 200) (tl X (old / 200) (old % 200)) by omega)
    have uY := tok_tl hY hg a1 a2
    have tX := tok_at hX hf oX.1 (show i < nt X (old / 200) (tl X (old / 200) (old % 200)) by omega)
    have ez : fs X (old / 200) (tl X (old / 200) (old % 200)) + i = old % 200 := by
      refine tok_one (q := tc X (old / 200) (old % 200)) hX hf tX.1 hvo uX.2.1 ?_ ⟨Nat.le_refl _, by omega⟩
      rw [← a3] at uY
      have o2 := toks_ok tX.1
      have : tc X (old / 200) (fs X (old / 200) (tl X (old / 200) (old % 200)) + i) = tc X (old / 200) (old % 200) := by
        rw [uX.2.2.1, ← ent.2 i, ← uY.2.2.1, e1.2]
      omega
    exact (mv_iff hX h).mpr ⟨old / 200, _, new / 200, _, i, hf, oX.1, hg, a1, by rw [hq, e1.1], by omega, ent.1, by omega, by omega, ent.2⟩
/-- where tokens have come, and from where -/
def MvR (F : MF) (X Y : Nat → List Int) (og : Nat → Int) : Prop := (∀ i, i < 600 → F 277 i = bcm X Y og i) ∧ ∀ j, j < 600 → (F 278 j = -1 ∧ ∀ old, ¬ MvT X Y og old j) ∨ ∃ old : Nat, F 278 j = (old : Int) ∧ MvT X Y og old j
theorem s_327 (hS : St F) (hX : ∀ r, r < 24 → Rok (X r)) (hI : OgI P X Y og) (hT : TL F Y) (h275 : ∀ r, r < 24 → F 275 r = og r) (h273 : ∀ i, i < 600 → F 273 i = keyX X i) :
    C_327 F (fun F' => MvR F' X Y og ∧ fr (fun c => c = 277 ∨ c = 278) F F') m_no := by
  have hY := hI.1
  obtain ⟨Q, hQ⟩ : ∃ Q : MF → Prop, Q = fun F' => MvR F' X Y og ∧ fr (fun c => c = 277 ∨ c = 278) F F' := ⟨_, rfl⟩
  rw [← hQ]
  -- what is laid when the tokens ahead of n were looked at
  obtain ⟨W, hW⟩ : ∃ W : MF → Nat → Prop, W = fun G n => (∀ i, i < 600 → (G 277 i = -1 ∧ ∀ new, new < n → ¬ MvT X Y og i new) ∨ ∃ new : Nat, G 277 i = (new : Int) ∧ MvT X Y og i new) ∧ ∀ j, j < 600 → (j < n → (G 278 j = -1 ∧ ∀ old, ¬ MvT X Y og old j) ∨ ∃ old : Nat, G 278 j = (old : Int) ∧ MvT X Y og old j) ∧ (n ≤ j → G 278 j = -1) := ⟨_, rfl⟩
  have l31 : ∀ (d n : Nat) (G : MF), n + d = 600 → St G → fr (fun c => c = 277 ∨ c = 278) F G → W G n → L_327_31 (n : Int) G Q m_no := by
    intro d
    induction d with
    | zero =>
      intro n G hn hSG hf hw
      obtain rfl : n = 600 := by omega
      refine b_327_31 hSG ⟨fun h => by omega, fun _ => ?_⟩
      rw [hQ]
      rw [hW] at hw
      refine ⟨⟨fun i hi => ?_, fun j hj => (hw.2 j hj).1 hj⟩, hf⟩
      rcases hw.1 i hi with ⟨h1, h2⟩ | ⟨new, h1, h2⟩
      · rw [h1]
        exact (bcm_no (fun new hm => h2 new (mv_tok hX hI hm).2.2.1 hm)).symm
      · rw [h1, bcm_at hX hI h2]
    | succ d ih =>
      intro n G hn hSG hf hw
      have hn6 : n < 600 := by omega
      have hg : n / 200 < 3 := by omega
      have hTG : TL G Y := hT.cg (fun c a b => hf c (by omega))
      have hc : G 217 (n / 200) = ((toks Y (n / 200)).length : Int) := (hTG.2 (n / 200) hg).1.1
      have nx : ∀ H, St H → fr (fun c => c = 277 ∨ c = 278) F H → W H (n + 1) → L_327_31 ((n : Int) + 1) H Q m_no := fun H hSH hfH hwH => by
        have := ih (n + 1) H (by omega) hSH hfH hwH
        rw [show ((n + 1 : Nat) : Int) = (n : Int) + 1 by omega] at this
        exact this
      -- no token was this one
      have none1 : (∀ old, ¬ MvT X Y og old n) → W G (n + 1) := fun h => by
        rw [hW] at hw ⊢
        refine ⟨fun i hi => ?_, fun j hj => ⟨fun hjn => ?_, fun hjn => (hw.2 j hj).2 (by omega)⟩⟩
        · rcases hw.1 i hi with ⟨h1, h2⟩ | h1
          · exact Or.inl ⟨h1, fun new hnew => by
              by_cases e : new = n
              · rw [e]; exact h i
              · exact h2 new (by omega)⟩
          · exact Or.inr h1
        · by_cases e : j = n
          · subst e
            exact Or.inl ⟨(hw.2 j hj).2 (Nat.le_refl _), h⟩
          · exact (hw.2 j hj).1 (by omega)
      refine b_327_31 hSG ?_
      rw [show (n : Int) / 200 = ((n / 200 : Nat) : Int) by omega, show (n : Int) % 200 = ((n % 200 : Nat) : Int) by omega, Int.toNat_natCast, Int.toNat_natCast, hc]
      refine ⟨fun _ => ⟨by omega, by omega, by omega, fun hv => ?_, fun hv => ⟨by omega, nx G hSG hf (none1 (fun old hm => ?_))⟩⟩, fun h => by omega⟩
      · have hvn : vid Y n := by unfold vid; omega
        have tt := lexm_tok (hTG.2 (n / 200) hg) (show n % 200 < (toks Y (n / 200)).length from hvn)
        rw [show 200 * (n / 200) + n % 200 = n by omega] at tt
        have oY := toks_ok (show n % 200 < (toks Y (n / 200)).length from hvn)
        have wY := (hY (8 * (n / 200) + tl Y (n / 200) (n % 200)) (by omega)).1
        have er : (8 * ((n / 200 : Nat) : Int) + (tl Y (n / 200) (n % 200) : Int)).toNat = 8 * (n / 200) + tl Y (n / 200) (n % 200) := by omega
        have e275 : G 275 (8 * (n / 200) + tl Y (n / 200) (n % 200)) = og (8 * (n / 200) + tl Y (n / 200) (n % 200)) := by rw [hf 275 (by omega)]; exact h275 _ (by omega)
        rw [tt.2.1, er, e275]
        refine ⟨by omega, by omega, by omega, by omega, by omega, ?_⟩
        rcases hI.2.1 (8 * (n / 200) + tl Y (n / 200) (n % 200)) (by omega) with hog | hog
        · rw [hog]
          refine b_327_79 hSG ⟨fun _ => ⟨fun _ => ⟨by omega, nx G hSG hf (none1 (fun old hm => ?_))⟩, fun h => absurd rfl h⟩, fun h => absurd (by decide) h⟩
          have := (mv_tok hX hI hm).2.2.2.2.2.2
          omega
        · obtain ⟨q, hq⟩ : ∃ q : Nat, og (8 * (n / 200) + tl Y (n / 200) (n % 200)) = (q : Int) := ⟨_, (Int.toNat_of_nonneg hog.1).symm⟩
          rw [hq] at hog ⊢
          have mk0 := fun {old : Nat} (ho : old < 600) => mv_key (old := old) hX hI hn6 hvn hq ho
          have lp : ∀ (d k : Nat) (H : MF), k + d = 600 → St H → fr (fun c => c = 277 ∨ c = 278) F H →
              ((∀ i, i < 600 → (H 277 i = -1 ∧ ∀ new, new < (if i < k then n + 1 else n) → ¬ MvT X Y og i new) ∨ ∃ new : Nat, H 277 i = (new : Int) ∧ MvT X Y og i new) ∧ (∀ j, j < 600 → j ≠ n → H 278 j = G 278 j) ∧ ((H 278 n = -1 ∧ ∀ old, old < k → ¬ MvT X Y og old n) ∨ ∃ old : Nat, H 278 n = (old : Int) ∧ MvT X Y og old n)) → L_327_79 (n : Int) (q : Int) (k : Int) H Q m_no := by
            intro d
            induction d with
            | zero =>
              intro k H hk hSH hfH ⟨h1, h2, h3⟩
              obtain rfl : k = 600 := by omega
              refine b_327_79 hSH ⟨fun h => by omega, fun _ => ⟨by omega, nx H hSH hfH ?_⟩⟩
              rw [hW] at hw ⊢
              refine ⟨fun i hi => ?_, fun j hj => ⟨fun hjn => ?_, fun hjn => by rw [h2 j hj (by omega)]; exact (hw.2 j hj).2 (by omega)⟩⟩
              · have := h1 i hi
                rw [if_pos hi] at this
                exact this
              · by_cases c : j = n
                · subst c
                  exact h3.imp (fun ⟨a, b⟩ => ⟨a, fun old hm => b old (mv_tok hX hI hm).1 hm⟩) (fun h => h)
                · rw [h2 j hj c]
                  exact (hw.2 j hj).1 (by omega)
            | succ d ih2 =>
              intro k H hk hSH hfH ⟨h1, h2, h3⟩
              have hk6 : k < 600 := by omega
              have e273 : H 273 k = keyX X k := by rw [hfH 273 (by omega)]; exact h273 k hk6
              have hTH : TL H Y := hT.cg (fun c a b => hfH c (by omega))
              have t2 := lexm_tok (hTH.2 (n / 200) hg) (show n % 200 < (toks Y (n / 200)).length from hvn)
              rw [show 200 * (n / 200) + n % 200 = n by omega] at t2
              have eg : g_314 H (q : Int) (tc Y (n / 200) (n % 200) : Int) = ((32 * q + tc Y (n / 200) (n % 200) : Nat) : Int) := by unfold g_314; omega
              refine b_327_79 hSH ?_
              rw [Int.toNat_natCast, Int.toNat_natCast, t2.2.2.1, e273, eg]
              have nx2 : ∀ H2, St H2 → fr (fun c => c = 277 ∨ c = 278) F H2 → _ → L_327_79 (n : Int) (q : Int) ((k : Int) + 1) H2 Q m_no := fun H2 a1 a2 a3 => by
                have := ih2 (k + 1) H2 (by omega) a1 a2 a3
                rw [show ((k + 1 : Nat) : Int) = (k : Int) + 1 by omega] at this
                exact this
              refine ⟨fun _ => ⟨fun h => by omega, fun _ => ⟨by omega, by omega, ⟨by omega, by omega, trivial⟩, fun e => ⟨by omega, by omega, by omega, ?_⟩, fun e => ⟨by omega, ?_⟩⟩⟩, fun h => by omega⟩
              · have hm : MvT X Y og k n := (mk0 hk6).mpr e
                refine nx2 _ ((hSH.arr kd_277 (by decide)).arr kd_278 (by decide)) ((hfH.up (Or.inl rfl)).up (Or.inr rfl)) ⟨fun i hi => ?_, fun j hj hjn => by rw [u_ne (Or.inr hjn), up_row (by decide)]; exact h2 j hj hjn, Or.inr ⟨k, u_eq, hm⟩⟩
                rw [up_row (by decide)]
                by_cases c : i = k
                · subst c
                  exact Or.inr ⟨n, u_eq, hm⟩
                · rw [u_ne (Or.inr c)]
                  have := h1 i hi
                  by_cases c2 : i < k
                  · rw [if_pos c2] at this; rw [if_pos (by omega)]; exact this
                  · rw [if_neg c2] at this; rw [if_neg (by omega)]; exact this
              · have hm : ¬ MvT X Y og k n := fun h => e ((mk0 hk6).mp h)
                have h33 : (H 278 n = -1 ∧ ∀ old, old < k + 1 → ¬ MvT X Y og old n) ∨ ∃ old : Nat, H 278 n = (old : Int) ∧ MvT X Y og old n := by
                  rcases h3 with ⟨h4, h5⟩ | h4
                  · exact Or.inl ⟨h4, fun old ho => by
                      by_cases e2 : old = k
                      · rw [e2]; exact hm
                      · exact h5 old (by omega)⟩
                  · exact Or.inr h4
                refine nx2 H hSH hfH ⟨fun i hi => ?_, h2, h33⟩
                · have := h1 i hi
                  by_cases c2 : i < k
                  · rw [if_pos c2] at this; rw [if_pos (by omega)]; exact this
                  · rw [if_neg c2] at this
                    by_cases c3 : i = k
                    · subst c3
                      rw [if_pos (by omega)]
                      exact this.imp (fun ⟨a, b⟩ => ⟨a, fun new hnew => by
                        by_cases c4 : new = n
                        · rw [c4]; exact hm
                        · exact b new (by omega)⟩) (fun h => h)
                    · rw [if_neg (by omega)]; exact this
          rw [hW] at hw
          exact lp 600 0 G (by decide) hSG hf ⟨fun i hi => by rw [if_neg (Nat.not_lt_zero i)]; exact hw.1 i hi, fun j _ _ => rfl, Or.inl ⟨(hw.2 n hn6).2 (Nat.le_refl _), fun old ho => absurd ho (Nat.not_lt_zero old)⟩⟩
      · have := (mv_tok hX hI hm).2.2.2.1
        unfold vid at this
        omega
  have l2 : ∀ (d n : Nat) (G : MF), n + d = 600 → St G → fr (fun c => c = 277 ∨ c = 278) F G → (∀ i, i < n → G 277 i = -1 ∧ G 278 i = -1) → L_327_2 (n : Int) G Q m_no := by
    intro d
    induction d with
    | zero =>
      intro n G hn hSG hf hz
      obtain rfl : n = 600 := by omega
      refine b_327_2 hSG ⟨fun h => by omega, fun _ => l31 600 0 G (by decide) hSG hf ?_⟩
      rw [hW]
      exact ⟨fun i hi => Or.inl ⟨(hz i hi).1, fun new h => absurd h (Nat.not_lt_zero new)⟩, fun j hj => ⟨fun h => absurd h (Nat.not_lt_zero j), fun _ => (hz j hj).2⟩⟩
    | succ d ih =>
      intro n G hn hSG hf hz
      refine b_327_2 hSG ⟨fun _ => ⟨by omega, by omega, by omega, ?_⟩, fun h => by omega⟩
      rw [Int.toNat_natCast]
      have := ih (n + 1) (m_up (m_up G 277 n (-1)) 278 n (-1)) (by omega) ((hSG.arr kd_277 (by decide)).arr kd_278 (by decide)) ((hf.up (Or.inl rfl)).up (Or.inr rfl)) (fun i hi => by
        by_cases c : i = n
        · rw [c, up_row (by decide), u_eq, u_eq]; exact ⟨rfl, rfl⟩
        · rw [up_row (by decide), u_ne (Or.inr c), u_ne (Or.inr c), up_row (by decide)]
          exact hz i (by omega))
      rw [show ((n + 1 : Nat) : Int) = (n : Int) + 1 by omega] at this
      exact this
  exact c_327 hS (l2 600 0 F (by decide) hS fr.rf (fun i hi => absurd hi (Nat.not_lt_zero i)))
end Mm0
