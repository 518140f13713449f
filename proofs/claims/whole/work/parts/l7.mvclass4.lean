/-! USE LINES COME IN, OF THE CLASS; PAIRS OF FILES -/
/-- the pairs that are left: text, origins, and 3 where there is no room -/
noncomputable def mvP (X : Nat → List Int) : Nat → (Nat → List Int) → (Nat → Int) → (Nat → List Int) × (Nat → Int) × Int
  | 0, Y, og => (Y, og, 0)
  | d + 1, Y, og => @ite _ (ndX X Y og ((8 - d) / 3) ((8 - d) % 3)) (Classical.propDecidable _) (if Y (8 * ((8 - d) / 3) + 7) = [] then mvP X d (useY ((8 - d) / 3) ((8 - d) % 3) Y) (sho (useS ((8 - d) / 3)) og) else (Y, og, 3)) (mvP X d Y og)
/-- the state of the class behind a change -/
def HsT (P : Nat → Prop) (F0 F : MF) (X Y : Nat → List Int) (og : Nat → Int) : Prop := DB F 110 Y ∧ (∀ r, r < 24 → F 114 r = og r) ∧ (∀ i, i < 600 → F 195 i = bnd X i) ∧ (∀ r, r < 24 → F 196 r = frt X r) ∧ (∀ i, i < 600 → F 197 i = bcm X Y og i) ∧ OgI P X Y og ∧ DF F0 F
section Ml7
variable {F F0 G : MF} {X Y : Nat → List Int} {og s : Nat → Int} {f t o l g a b n r i k : Nat} {P : Nat → Prop}
theorem mvP_no {d : Nat} (h : ¬ ndX X Y og ((8 - d) / 3) ((8 - d) % 3)) : mvP X (d + 1) Y og = mvP X d Y og := if_neg h
theorem mvP_3 {d : Nat} (h : ndX X Y og ((8 - d) / 3) ((8 - d) % 3)) (h2 : Y (8 * ((8 - d) / 3) + 7) ≠ []) : mvP X (d + 1) Y og = (Y, og, 3) := by
  show (@ite _ _ (Classical.propDecidable _) _ _) = _
  rw [if_pos h, if_neg h2]
theorem mvP_y {d : Nat} (h : ndX X Y og ((8 - d) / 3) ((8 - d) % 3)) (h2 : Y (8 * ((8 - d) / 3) + 7) = []) : mvP X (d + 1) Y og = mvP X d (useY ((8 - d) / 3) ((8 - d) % 3) Y) (sho (useS ((8 - d) / 3)) og) := by
  show (@ite _ _ (Classical.propDecidable _) _ _) = _
  rw [if_pos h, if_pos h2]
theorem m_ct16 : m_ct 10 = [117, 115, 101, 32] := by decide +kernel
theorem frt_rng (hX : ∀ r, r < 24 → Rok (X r)) (hr : r < 24) : frt X r = -1 ∨ 0 ≤ frt X r ∧ frt X r < 600 := by
  obtain ⟨f, m, hf, hm, rfl⟩ := r8 hr
  rw [frt_at hm]
  by_cases c : 0 < nt X f m
  · rw [if_pos c]
    have := (tok_at hX hf hm c).1
    have := toks_len hX hf
    exact Or.inr ⟨by omega, by omega⟩
  · rw [if_neg c]; exact Or.inl rfl
/-- a line with a USE comes in -/
theorem s_56 (hS : St F) (hL : LinC F 111 Y) (h114 : ∀ r, r < 24 → F 114 r = og r) (ha : a < 3) (hb : b < 3) :
    C_56 (a : Int) (b : Int) F (fun x F' => (x = 3 ∧ Y (8 * a + 7) ≠ [] ∧ F' = F) ∨ (x = 0 ∧ Y (8 * a + 7) = [] ∧ LinC F' 111 (useY a b Y) ∧ (∀ r, r < 24 → F' 114 r = sho (useS a) og r) ∧ fr (fun c => 112 ≤ c ∧ c ≤ 114) F F')) m_no := by
  obtain ⟨Q, hQ⟩ : ∃ Q : Int → MF → Prop, Q = fun x F' => (x = 3 ∧ Y (8 * a + 7) ≠ [] ∧ F' = F) ∨ (x = 0 ∧ Y (8 * a + 7) = [] ∧ LinC F' 111 (useY a b Y) ∧ (∀ r, r < 24 → F' 114 r = sho (useS a) og r) ∧ fr (fun c => 112 ≤ c ∧ c ≤ 114) F F') := ⟨_, rfl⟩
  rw [← hQ]
  have w0 : WS F Y og idS := ws_id hL h114
  have e7 : ∀ z, sh idS Y z = Y z := fun z => sh_at (s := idS) rfl
  refine c_56 hS ?_
  refine CaI.on (s_31 (a := 0) (n := 1) hS w0 ha (by decide) (by decide) (by decide)) ?_
  have nr : noRm (sh idS Y) a 0 1 ↔ Y (8 * a + 7) ≠ [] := by
    unfold noRm
    constructor
    · rintro (h | ⟨l, l1, l2, l3, l4⟩)
      · omega
      · rw [e7, show l = 7 by omega] at l4
        exact l4
    · intro h
      exact Or.inr ⟨7, by omega, by omega, by omega, by rw [e7]; exact h⟩
  rw [nr]
  rintro x F1 hS1 (⟨rfl, k1, rfl⟩ | ⟨rfl, k1, k2, k3⟩)
  · refine ⟨fun _ => ?_, fun h => absurd rfl h⟩
    rw [hQ]
    exact Or.inl ⟨rfl, k1, rfl⟩
  refine ⟨fun h => absurd h (by decide), fun _ => ⟨by omega, ?_⟩⟩
  have k1' : Y (8 * a + 7) = [] := Classical.not_not.mp k1
  have w1 : WS F1 Y og (useS a) := k2.cg (fun r hr => by
    obtain ⟨q, m, hq, hm, rfl⟩ := r8 hr
    by_cases c1 : q = a
    · subst c1
      rw [useS_a hm]
      by_cases c2 : m = 0
      · rw [if_pos c2, sho_no (by rw [opS_g hm, if_neg (by omega), if_pos (by omega)])]
      · rw [if_neg c2, sho_at (by rw [opS_g hm, if_neg (by omega), if_neg (by omega)])]
        rfl
    · rw [useS_x hm c1, sho_at (opS_x hm c1)]
      rfl)
  obtain ⟨Z, hZ⟩ : ∃ Z : Nat → Nat → List Int, Z = fun i => rupd (sh (useS a) Y) (8 * a) ((useW b).take i) := ⟨_, rfl⟩
  have z0 : LinC F1 111 (Z 0) := lin_cg w1.1 (fun r hr => by
    rw [hZ]
    show rupd _ _ _ r = _
    by_cases c : r = 8 * a
    · rw [c, upd_eq, List.take_zero]
      exact (sh_no (by have := useS_a (a := a) (show 0 < 8 by decide); rw [if_pos rfl] at this; exact this)).symm
    · rw [upd_ne c])
  have ul : (useW b).length = 6 := rfl
  have put : ∀ (i : Nat) (ch : Int) (H : MF), i < 6 → St H → LinC H 111 (Z i) → gx (useW b) i = ch → C_23 111 (8 * (a : Int)) (i : Int) ch H (fun F' => LinC F' 111 (Z (i + 1)) ∧ F' 114 = H 114 ∧ fr (fun c => c = 112 ∨ c = 113) H F') m_no := by
    intro i ch H hi hSH hH hch
    have zl : (Z i (8 * a)).length = i := by
      rw [hZ]
      show (rupd _ _ _ (8 * a)).length = i
      rw [upd_eq, List.length_take]
      omega
    have hr : 32 ≤ ch ∧ ch ≤ 126 := by rw [← hch]; exact (rok_use hb).2 _ (gx_mem (by omega))
    rw [show 8 * (a : Int) = ((8 * a : Nat) : Int) by omega]
    refine CaV.on (s_23 (n := 111) (r := 8 * a) (c := i) d_i2 hSH hH (by omega) (by omega) (by omega) hr) ?_
    rintro F' hS' ⟨u1, u2, u3⟩
    refine ⟨lin_cg u1 (fun r hr => ?_), u2, u3⟩
    by_cases c : r = 8 * a
    · rw [c, upd_eq]
      have e1 : Z (i + 1) (8 * a) = (useW b).take (i + 1) := by rw [hZ]; exact upd_eq
      have e2 : Z i (8 * a) = (useW b).take i := by rw [hZ]; exact upd_eq
      rw [e1, e2, List.take_succ_eq_append_getElem (show i < (useW b).length by omega), ← gx_el, hch]
      have hl : ((useW b).take i).length = i := by rw [List.length_take]; omega
      generalize (useW b).take i = T at hl
      unfold ins
      rw [← hl, List.take_length, List.drop_length]
    · rw [upd_ne c, hZ]
      show rupd _ _ _ r = rupd _ _ _ r
      rw [upd_ne c, upd_ne c]
  have g4 : ∀ H : MF, g_421 H 5 = ((4 : Nat) : Int) := fun H => by rw [q_421, show (5 : Nat) + 5 = 10 from rfl, m_ct16]; rfl
  rw [show (a : Int) * 8 = 8 * (a : Int) by omega]
  have key : ∀ (d i : Nat) (H : MF), i + d = 4 → St H → LinC H 111 (Z i) → H 114 = F1 114 → fr (fun c => 112 ≤ c ∧ c ≤ 114) F1 H → L_56_31 (b : Int) 5 (8 * (a : Int)) (i : Int) H Q m_no := by
    intro d
    induction d with
    | zero =>
      intro i H hi hSH hH h1 h2
      obtain rfl : i = 4 := by omega
      refine b_56_31 hSH ?_
      rw [g4]
      refine ⟨ob_421 (by decide), fun h => by omega, fun _ => ⟨ob_421 (by decide), by omega, by omega, ?_⟩⟩
      refine CaV.on (put 4 _ H (by decide) hSH hH (show ((97 + b : Nat) : Int) = 97 + (b : Int) by omega)) ?_
      rintro H2 hS2 ⟨u1, u2, u3⟩
      rw [g4]
      refine ⟨ob_421 (by decide), by omega, ?_⟩
      refine CaV.on (put 5 59 H2 (by decide) hS2 u1 rfl) ?_
      rintro H3 hS3 ⟨v1, v2, v3⟩
      rw [hQ]
      refine Or.inr ⟨rfl, k1', lin_cg v1 (fun r hr => ?_), fun r hr => by rw [v2, u2, h1]; exact w1.2 r hr, k3.tr (h2.tr ((u3.tr v3).mo (fun c hc => by omega)))⟩
      rw [hZ]
      unfold useY
      show rupd _ _ _ r = rupd _ _ ((useW b).take 6) r
      rw [List.take_of_length_le (show (useW b).length ≤ 6 by rw [ul]; exact Nat.le_refl _)]
    | succ d ih =>
      intro i H hi hSH hH h1 h2
      refine b_56_31 hSH ?_
      rw [g4]
      refine ⟨ob_421 (by decide), fun _ => ?_, fun h => by omega⟩
      refine CaI.on (s_422 (y := 5) (j := i) hSH (by decide) (by rw [show (5 : Nat) + 5 = 10 from rfl, m_ct16]; show i < 4; omega)) ?_
      rintro r H1 hS1' ⟨rfl, rfl⟩
      refine CaV.on (put i _ H1 (by omega) hS1' hH ?_) ?_
      · rw [show (5 : Nat) + 5 = 10 from rfl, m_ct16]
        have : i = 0 ∨ i = 1 ∨ i = 2 ∨ i = 3 := by omega
        rcases this with rfl | rfl | rfl | rfl <;> rfl
      · rintro H2 hS2 ⟨u1, u2, u3⟩
        refine ⟨by omega, ?_⟩
        have := ih (i + 1) H2 (by omega) hS2 u1 (by rw [u2, h1]) (h2.tr (u3.mo (fun c hc => by omega)))
        rw [show ((i + 1 : Nat) : Int) = (i : Int) + 1 by omega] at this
        exact this
  exact key 4 0 F1 (by decide) hS1 z0 rfl fr.rf
end Ml7
