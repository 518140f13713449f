/-! A RENAME, OF THE REFERENCE -/
def isF (X : Nat → List Int) (v : Nat) : Bool := decide (fix' (Fw X (v / 200)) ((v % 200 : Nat) : Int) 0 ≠ -1)
/-- where a token stands -/
noncomputable def keyX (X : Nat → List Int) (id : Nat) : Int := pif (vid X id) ((32 * (8 * (id / 200) + tl X (id / 200) (id % 200)) + tc X (id / 200) (id % 200) : Nat) : Int) (-1)
noncomputable def wasF (X : Nat → List Int) (id : Nat) : Int := pif (vid X id ∧ bnd X id ≠ -1 ∧ isF X (bnd X id).toNat = true) 1 0
section Mj8
variable {F G : MF} {X Y : Nat → List Int} {id f m k i v : Nat} {N tx0 : List Int} {nn : Nat → Nat}
theorem isF_any : ∀ (L : FF) (t : Int) (i : Nat), decide (fix' L t i ≠ -1) = L.any (fun e => decide (e.1 = t)) := by
  intro L t i
  by_cases h : ∃ e ∈ L, e.1 = t
  · rw [decide_eq_true (fix_mem L t i h)]
    obtain ⟨e, he, h2⟩ := h
    exact (List.any_eq_true.mpr ⟨e, he, decide_eq_true h2⟩).symm
  · have h1 : ¬ fix' L t i ≠ -1 := fun hn => h (by
      obtain ⟨e, a, b, -⟩ := fix_at L t i hn
      exact ⟨e, a, b⟩)
    rw [decide_eq_false h1]
    exact (Bool.eq_false_iff.mpr (fun h2 => by
      obtain ⟨e, a, b⟩ := List.any_eq_true.mp h2
      exact h ⟨e, a, of_decide_eq_true b⟩)).symm
/-- whether a token is the NAME of a function -/
theorem s_306 (hS : St F) (hR : RA F X nn) (hv : v < 600) : C_306 (v : Int) F (fun r F' => r = bi (isF X v) ∧ F' = F) m_no := by
  have hX := hR.hX
  have hg : v / 200 < 3 := by omega
  obtain ⟨I, i1, i2, i3, i4⟩ := hR.its hg
  have lg := toks_len hX hg
  have key : ∀ (I : List IT) (c lo : Nat) (x : Int) (b : Bool), ItC F (ks X (v / 200)) (nn (v / 200 + 1)) x c lo I (-1) → (∀ e ∈ fnsO F c I, e ∈ Fw X (v / 200)) → L_306_16 (v : Int) ((v / 200 : Nat) : Int) (bi b) x F (fun r F' => r = bi (b || (fnsO F c I).any (fun e => decide (e.1 = ((v % 200 : Nat) : Int)))) ∧ F' = F) m_no := by
    intro I
    induction I with
    | nil =>
      intro c lo x b hx _
      refine b_306_16 hS ⟨fun _ => ⟨bi01 b, ?_, rfl⟩, fun h => absurd hx.1 h⟩
      show bi b = bi (b || false)
      rw [Bool.or_false]
    | cons it I ih =>
      rintro c lo x b ⟨rfl, hi, ⟨h1, h2, -⟩, h3⟩ hm
      have hm2 : ∀ e ∈ fnsO F (c + it.2.2.2.2.2.length) I, e ∈ Fw X (v / 200) := fun e he => hm e (List.mem_append_right _ he)
      have nx := fun b => ih _ _ _ b h3 hm2
      have ef : it.2.1 = 2 → fnsO F c (it :: I) = ((it.2.2.1 : Int), (it.2.2.2.1 : Int), (c : Int), F 228 it.2.2.2.2.1) :: fnsO F (c + it.2.2.2.2.2.length) I := fun hk2 => by
        show (if it.2.1 = 2 then _ else _) ++ _ = _
        rw [if_pos hk2]
        rfl
      have ef0 : it.2.1 ≠ 2 → fnsO F c (it :: I) = fnsO F (c + it.2.2.2.2.2.length) I := fun hk2 => by
        show (if it.2.1 = 2 then _ else _) ++ _ = _
        rw [if_neg hk2]
        rfl
      have k22 : it.2.1 = 2 → F 222 it.1 = (it.2.2.1 : Int) := fun _ => by
        rcases h2 with h2 | h2
        · exact h2.2.2.1
        · exact h2.2.2.1
      refine b_306_16 hS ⟨fun h => by omega, fun _ => ⟨fun h0 => ?_, fun h0 => ?_⟩⟩
      · have hb : b = false := bi0.mp h0
        subst hb
        rw [Int.toNat_natCast]
        refine ⟨by omega, fun e2 => ?_, fun e2 => ⟨by omega, ?_⟩⟩
        · have hk2 : it.2.1 = 2 := by
            rcases h2 with h2 | h2
            · rw [h2.2.1] at e2; exact absurd e2 (by decide)
            · exact h2.1
          have ht := (it_fn (F := F) hX hg (it :: I) c hm it (List.mem_cons_self) hk2).1
          rw [k22 hk2, ef hk2, List.any_cons]
          refine ⟨by omega, by omega, by omega, fun e3 => ⟨by omega, ?_⟩, fun e3 => ⟨by omega, ?_⟩⟩
          · rw [decide_eq_true (show (it.2.2.1 : Int) = ((v % 200 : Nat) : Int) by
              have : it.2.2.1 < 200 := by
                have h0 := (it_fn (F := F) hX hg (it :: I) c hm it (List.mem_cons_self) hk2).2 0 (Nat.zero_le _)
                have := kn_tok (X := X) (f := v / 200) (k := it.2.2.1 + 2 * 0) (by rw [h0]; decide)
                omega
              omega), Bool.true_or, Bool.false_or]
            have := nx true
            rw [Bool.true_or] at this
            exact this
          · rw [decide_eq_false (show ¬ (it.2.2.1 : Int) = ((v % 200 : Nat) : Int) from fun h => e3 (by omega)), Bool.false_or, Bool.false_or]
            have := nx false
            rw [Bool.false_or] at this
            exact this
        · have hk2 : it.2.1 ≠ 2 := by
            rcases h2 with h2 | h2
            · rw [h2.1]; decide
            · exact absurd h2.2.1 e2
          rw [ef0 hk2]
          exact nx false
      · have hb : b = true := by
          cases b with
          | true => rfl
          | false => exact absurd rfl h0
        subst hb
        rw [Int.toNat_natCast, Bool.true_or]
        refine ⟨by omega, ?_⟩
        have := nx true
        rw [Bool.true_or] at this
        exact this
  refine c_306 hS ?_
  rw [show (v : Int) / 200 = ((v / 200 : Nat) : Int) by omega, Int.toNat_natCast]
  refine ⟨by omega, by omega, ?_⟩
  have := key I 0 _ _ false i1 (fun e he => by rw [i2] at he; exact he)
  rw [i2, Bool.false_or, ← isF_any _ _ 0] at this
  exact this
/-- bindings are kept -/
theorem s_315 (hS : St F) (hR : RA F X nn) (hB : ∀ i, i < 600 → F 253 i = bnd X i) :
    C_315 F (fun F' => (∀ i, i < 600 → F' 272 i = bnd X i ∧ F' 273 i = keyX X i ∧ F' 274 i = wasF X i) ∧ fr (fun c => 272 ≤ c ∧ c ≤ 274) F F') m_no := by
  have hX := hR.hX
  have key : ∀ (d i : Nat) (G : MF), i + d = 600 → St G → fr (fun c => 272 ≤ c ∧ c ≤ 274) F G → (∀ j, j < i → G 272 j = bnd X j ∧ G 273 j = keyX X j ∧ G 274 j = wasF X j) → L_315_2 (i : Int) G (fun F' => (∀ i, i < 600 → F' 272 i = bnd X i ∧ F' 273 i = keyX X i ∧ F' 274 i = wasF X i) ∧ fr (fun c => 272 ≤ c ∧ c ≤ 274) F F') m_no := by
    intro d
    induction d with
    | zero =>
      intro i G hi hSG hf hv
      obtain rfl : i = 600 := by omega
      exact b_315_2 hSG ⟨fun h => by omega, fun _ => ⟨hv, hf⟩⟩
    | succ d ih =>
      intro i G hi hSG hf hv
      have hi2 : i < 600 := by omega
      have hg : i / 200 < 3 := by omega
      have lk := toks_len hX hg
      have hc : G 217 (i / 200) = ((toks X (i / 200)).length : Int) := by rw [hf 217 (by omega)]; exact (hR.2.1 (i / 200) hg).1.1
      have e253 : G 253 i = bnd X i := by rw [hf 253 (by omega)]; exact hB i hi2
      -- the cells of a token
      have fin : ∀ (H : MF) (a b c : Int), St H → fr (fun c => 272 ≤ c ∧ c ≤ 274) F H → H = m_up (m_up (m_up G 272 i a) 273 i b) 274 i c → a = bnd X i → b = keyX X i → c = wasF X i → L_315_2 ((i : Int) + 1) H (fun F' => (∀ i, i < 600 → F' 272 i = bnd X i ∧ F' 273 i = keyX X i ∧ F' 274 i = wasF X i) ∧ fr (fun c => 272 ≤ c ∧ c ≤ 274) F F') m_no := by
        intro H a b c hSH hfH eH ha hb hc
        have := ih (i + 1) H (by omega) hSH hfH (fun j hj => by
          rw [eH]
          by_cases e : j = i
          · rw [e, up_row (show (272 : Nat) ≠ 274 by decide), up_row (show (272 : Nat) ≠ 273 by decide), u_eq, up_row (show (273 : Nat) ≠ 274 by decide), u_eq, u_eq]
            exact ⟨ha, hb, hc⟩
          · rw [u_ne (Or.inr e), u_ne (Or.inr e), u_ne (Or.inr e), u_ne (Or.inr e), u_ne (Or.inr e), u_ne (Or.inr e), u_ne (Or.inr e), u_ne (Or.inr e), u_ne (Or.inr e)]
            exact hv j (by omega))
        rw [show ((i + 1 : Nat) : Int) = (i : Int) + 1 by omega] at this
        exact this
      have hS1 : ∀ a, St (m_up G 272 i a) := fun a => hSG.arr kd_272 (by decide)
      have hS2 : ∀ a b, St (m_up (m_up G 272 i a) 273 i b) := fun a b => (hS1 a).arr kd_273 (by decide)
      have hS3 : ∀ a b c, St (m_up (m_up (m_up G 272 i a) 273 i b) 274 i c) := fun a b c => (hS2 a b).arr kd_274 (by decide)
      have f3 : ∀ a b c, fr (fun c => 272 ≤ c ∧ c ≤ 274) F (m_up (m_up (m_up G 272 i a) 273 i b) 274 i c) := fun a b c => ((hf.up ⟨by decide, by decide⟩).up ⟨by decide, by decide⟩).up ⟨by decide, by decide⟩
      have f2 : ∀ a b, fr (fun c => 272 ≤ c ∧ c ≤ 274) F (m_up (m_up G 272 i a) 273 i b) := fun a b => (hf.up ⟨by decide, by decide⟩).up ⟨by decide, by decide⟩
      refine b_315_2 hSG ?_
      rw [Int.toNat_natCast, show (i : Int) / 200 = ((i / 200 : Nat) : Int) by omega, show (i : Int) % 200 = ((i % 200 : Nat) : Int) by omega, Int.toNat_natCast, hc, e253]
      refine ⟨fun _ => ⟨by omega, by omega, by omega, fun hvl => ?_, fun hvl => ?_⟩, fun h => by omega⟩
      · have hvi : vid X i := by unfold vid; omega
        have hk : i % 200 < (toks X (i / 200)).length := hvi
        have t := lexm_tok (hR.2.1 (i / 200) hg) hk
        have o := toks_ok hk
        have w1 := (hX (8 * (i / 200) + tl X (i / 200) (i % 200)) (by omega)).1
        rw [show 200 * (i / 200) + i % 200 = i by omega] at t
        have e214 : G 214 i = (tl X (i / 200) (i % 200) : Int) := by rw [hf 214 (by omega)]; exact t.2.1
        have e215 : G 215 i = (tc X (i / 200) (i % 200) : Int) := by rw [hf 215 (by omega)]; exact t.2.2.1
        rw [e214, e215]
        have ek : g_314 (m_up G 272 i (bnd X i)) (8 * ((i / 200 : Nat) : Int) + (tl X (i / 200) (i % 200) : Int)) (tc X (i / 200) (i % 200) : Int) = keyX X i := by
          unfold g_314 keyX
          rw [pif_1 hvi]
          omega
        rw [ek]
        refine ⟨by omega, by omega, by omega, by omega, by omega, by omega, by omega, ⟨by omega, by omega, trivial⟩, by omega, by omega, fun hb => ⟨by omega, by omega, ?_⟩, fun hb => ⟨by omega, ?_⟩⟩
        · exact fin _ _ _ _ (hS3 _ _ _) (f3 _ _ _) rfl rfl rfl (by unfold wasF; rw [pif_0 (fun h => h.2.1 hb)])
        · rcases bnd_rg2 hX hi2 with h | ⟨g, k, g1, g2, -, g4⟩
          · exact absurd h hb
          · have lg := toks_len hX g1
            have hR2 : RA (m_up (m_up G 272 i (bnd X i)) 273 i (keyX X i)) X nn := hR.cong (fun c a b => f2 _ _ c (by omega)) (by rw [f2 _ _ 201 (by omega)]) hX
            rw [g4]
            refine CaI.on (s_306 (v := 200 * g + k) (hS2 _ _) (by rw [← g4]; exact hR2) (by omega)) ?_
            rintro r H _ ⟨rfl, rfl⟩
            have ew : bi (isF X (200 * g + k)) = wasF X i := by
              unfold wasF
              rw [g4, Int.toNat_natCast]
              cases he : isF X (200 * g + k) with
              | true => rw [pif_1 ⟨hvi, by omega, rfl⟩]; rfl
              | false => rw [pif_0 (fun h => absurd h.2.2 (by decide))]; rfl
            refine ⟨fun h0 => ⟨by omega, by omega, ?_⟩, fun h0 => ⟨by omega, by omega, ?_⟩⟩
            · exact fin _ _ _ _ (hS3 _ _ _) (f3 _ _ _) rfl g4.symm rfl (by rw [← ew, h0])
            · exact fin _ _ _ _ (hS3 _ _ _) (f3 _ _ _) rfl g4.symm rfl (by rw [← ew]; rcases bi01 (isF X (200 * g + k)) with h | h; exact absurd h h0; exact h.symm)
      · have hvi : ¬ vid X i := by unfold vid; omega
        have hb : bnd X i = -1 := by
          by_cases c : bnd X i = -1
          · exact c
          · have := bnd_kn (f := i / 200) (k := i % 200) hX hg (by omega) (by rw [show 200 * (i / 200) + i % 200 = i by omega]; exact c)
            exact absurd this.1 hvi
        refine ⟨by omega, by omega, by omega, by omega, ?_⟩
        exact fin _ _ _ _ (hS3 _ _ _) (f3 _ _ _) rfl hb.symm (by unfold keyX; rw [pif_0 hvi]) (by unfold wasF; rw [pif_0 (fun h => hvi h.1)])
  exact c_315 hS (key 600 0 F (by decide) hS fr.rf (fun j hj => absurd hj (Nat.not_lt_zero j)))
theorem isL_W {w : List Int} (hw : ∀ c ∈ w, isL c = true) : isW w := fun c hc => isL_rng.mp (hw c hc)
/-- a rename -/
theorem s_316 (hS : St F) (hD : LKd F X nn) (hi : i < 3) (hid : id < 600) (h212 : F 212 i = (N.length : Int)) (hNl : N.length ≤ 6) (h211 : ∀ j, j < N.length → F 211 (6 * i + j) = gx N j) (hw : ∀ c ∈ N, isL c = true) :
    C_316 (i : Int) (id : Int) F (fun x F' => x = rnm X id N ∧ (x = 0 → TxM F' (rnmX X id N)) ∧ PF F F') m_no := by
  have hX := hD.1.hX
  have l71 : rn2 X id N → L_316_71 (i : Int) (id : Int) F (fun x F' => x = rnm X id N ∧ (x = 0 → TxM F' (rnmX X id N)) ∧ PF F F') m_no := fun h => b_316_71 hS ⟨(pif_1 h).symm, fun h => absurd h (by decide), PF.rf⟩
  -- the tokens are compared
  have l166 : ¬ rn2 X id N → ¬ rn3 X id N → ∀ G : MF, PF F G → TxM G (rnmX X id N) → (∀ f, f < 3 → G 217 f = ((toks (rnmX X id N) f).length : Int)) → (∀ j, j < 600 → G 253 j = bnd (rnmX X id N) j ∧ G 272 j = bnd X j) → St G → N ≠ [] → kwd N = 0 →
      L_316_166 1 0 G (fun x F' => x = rnm X id N ∧ (x = 0 → TxM F' (rnmX X id N)) ∧ PF F F') m_no := by
    intro n2 n3 G hP hT h217 hb hSG hne hk
    have hall : AllS X id N (-1) 0 0 24 := by
      unfold rn3 at n3
      exact Classical.not_not.mp n3
    have e3 : rnm X id N = pif (rn4 X id N) 4 0 := by unfold rnm; rw [pif_0 n2, pif_0 n3]
    have v217 : ∀ j, j < 600 → ((((j % 200 : Nat) : Int) < G 217 (j / 200)) ↔ vid X j) := fun j hj => by
      rw [h217 _ (by omega), ren_toks hX hw hne hk hall (by omega)]
      unfold vid
      omega
    have key : ∀ (d j : Nat) (x : Int), j + d = 600 → (x = 1 ∧ (∀ q, q < j → vid X q → bnd (rnmX X id N) q = bnd X q)) ∨ (x = 0 ∧ rn4 X id N) → L_316_166 x (j : Int) G (fun x F' => x = rnm X id N ∧ (x = 0 → TxM F' (rnmX X id N)) ∧ PF F F') m_no := by
      intro d
      induction d with
      | zero =>
        intro j x hj hx
        obtain rfl : j = 600 := by omega
        refine b_316_166 hSG ⟨fun h => by omega, fun _ => ⟨fun h0 => ?_, fun h0 => ?_⟩⟩
        · rcases hx with ⟨h, -⟩ | ⟨-, h⟩
          · omega
          · exact ⟨by rw [e3, pif_1 h], fun h => absurd h (by decide), hP⟩
        · rcases hx with ⟨-, h⟩ | ⟨h, -⟩
          · exact ⟨by rw [e3, pif_0 (fun ⟨q, q1, q2, q3⟩ => q3 (h q q1 q2))], fun _ => hT, hP⟩
          · exact absurd h h0
      | succ d ih =>
        intro j x hj hx
        have nx : ∀ y : Int, (y = 1 ∧ (∀ q, q < j + 1 → vid X q → bnd (rnmX X id N) q = bnd X q)) ∨ (y = 0 ∧ rn4 X id N) → L_316_166 y ((j : Int) + 1) G (fun x F' => x = rnm X id N ∧ (x = 0 → TxM F' (rnmX X id N)) ∧ PF F F') m_no := fun y hy => by
          have := ih (j + 1) y (by omega) hy
          rw [show ((j + 1 : Nat) : Int) = (j : Int) + 1 by omega] at this
          exact this
        have hj2 : j < 600 := by omega
        refine b_316_166 hSG ?_
        rw [Int.toNat_natCast, show (j : Int) / 200 = ((j / 200 : Nat) : Int) by omega, show (j : Int) % 200 = ((j % 200 : Nat) : Int) by omega, Int.toNat_natCast, v217 j hj2, (hb j hj2).1, (hb j hj2).2]
        refine ⟨fun _ => ⟨fun h0 => ⟨by omega, ?_⟩, fun h0 => ⟨by omega, by omega, by omega, fun hv => ⟨by omega, by omega, fun e => ⟨by omega, ?_⟩, fun e => ⟨by omega, ?_⟩⟩, fun hv => ⟨by omega, ?_⟩⟩⟩, fun h => by omega⟩
        · rcases hx with ⟨h, -⟩ | ⟨-, h⟩
          · omega
          · exact nx 0 (Or.inr ⟨rfl, h⟩)
        · rcases hx with ⟨-, h⟩ | ⟨h, -⟩
          · exact nx 1 (Or.inl ⟨rfl, fun q hq hv => by
              by_cases c : q = j
              · rw [c]; exact e
              · exact h q (by omega) hv⟩)
          · exact absurd h h0
        · exact nx 0 (Or.inr ⟨rfl, j, hj2, hv, e⟩)
        · rcases hx with ⟨-, h⟩ | ⟨h, -⟩
          · exact nx 1 (Or.inl ⟨rfl, fun q hq hv2 => by
              by_cases c : q = j
              · rw [c] at hv2; exact absurd hv2 hv
              · exact h q (by omega) hv2⟩)
          · exact absurd h h0
    exact key 600 0 1 (by decide) (Or.inl ⟨rfl, fun q hq => absurd hq (Nat.not_lt_zero q)⟩)
  -- it is a name
  have l67 : N ≠ [] → kwd N = 0 → L_316_67 (i : Int) (id : Int) F (fun x F' => x = rnm X id N ∧ (x = 0 → TxM F' (rnmX X id N)) ∧ PF F F') m_no := by
    intro hne hk
    refine b_316_67 hS ?_
    rw [Int.toNat_natCast, hD.2.1 id hid]
    refine ⟨by omega, fun hb => ?_, fun hb => ⟨(pif_1 (fun h => hb h.1)).symm, fun h => absurd h (by decide), PF.rf⟩⟩
    have n2 : ¬ rn2 X id N := fun h => h ⟨hb, hne, hk⟩
    refine CaV.on (s_315 hS hD.1 hD.2.1) ?_
    rintro F3 hS3 ⟨k1, k2⟩
    -- the letters are laid
    have lay : ∀ (d j : Nat) (G : MF), j + d = N.length → St G → (∀ c, c ≠ 201 → c ≠ 271 → G c = F3 c) → (∀ q, q ≠ 104 → G 201 q = F3 201 q) → G 201 104 = (j : Int) → (∀ q, q < j → G 271 q = gx N q) → L_316_103 (i : Int) (id : Int) (j : Int) G (fun x F' => x = rnm X id N ∧ (x = 0 → TxM F' (rnmX X id N)) ∧ PF F F') m_no := by
      intro d
      induction d with
      | zero =>
        intro j G hj hSG hz hz1 h104 h271
        obtain rfl : j = N.length := by omega
        have e212 : G 212 i = (N.length : Int) := by rw [hz 212 (by decide) (by decide), k2 212 (by omega)]; exact h212
        refine b_316_103 hSG ?_
        rw [Int.toNat_natCast, e212]
        refine ⟨by omega, fun h => by omega, fun _ => ?_⟩
        obtain ⟨H, eH⟩ : ∃ H, H = m_up G 201 105 (-1) := ⟨_, rfl⟩
        have hSH : St H := by rw [eH]; exact hSG.fld kd_201 rk_12_105
        rw [← eH]
        have zH : ∀ c, c ≠ 201 → c ≠ 271 → ¬ (272 ≤ c ∧ c ≤ 274) → H c = F c := fun c a b d => by rw [eH, up_row a, hz c a b, k2 c d]
        have zH1 : ∀ q, q ≠ 104 → q ≠ 105 → H 201 q = F 201 q := fun q a b => by rw [eH, u_ne (Or.inr b), hz1 q a, k2 201 (by omega)]
        have pH : PF F H := ⟨fun c hc => zH c (by omega) (by omega) (by omega), fun q hq => zH1 q (by omega) (by omega)⟩
        have hTL : TL H X := (show TL F X from ⟨hD.1.1, hD.1.2.1⟩).cg (fun c a b => zH c (by omega) (by omega) (by omega))
        refine CaV.on (s_313 (tx0 := N) (cut := -1) (fr0 := 0) (to := 0) (h := 1) hSH hX hTL (fun q hq => by rw [zH 253 (by decide) (by decide) (by decide)]; exact hD.2.1 q hq) hid (by rw [eH, u_ne (Or.inr (by decide))]; exact h104) (fun q hq => by rw [eH, up_row (by decide)]; exact h271 q hq) (by omega) (isL_chs hw) (by rw [eH, u_eq]) (Or.inl rfl) (Or.inr rfl) (fun r hr h => by omega) (fun h => absurd h (by decide))) ?_
        rintro F4 hS4 ⟨q1, q2, q3⟩
        have p4 : PF F F4 := pH.tr ⟨fun c hc => q2 c (by omega) (by omega) (by omega) (by omega) (by omega), fun q hq => q3 q (by omega) (by omega)⟩
        rcases q1 with ⟨q4, q5, q6⟩ | ⟨q4, q5, -, -⟩
        · have n3 : ¬ rn3 X id N := fun h => h q5
          refine ⟨fun _ => ?_, fun h => absurd q4 h⟩
          refine CaV.on (s_262 (X := rnmX X id N) hS4 q6) ?_
          rintro F10 hS10 ⟨r1, nn', r2⟩
          refine l166 n2 n3 F10 (p4.tr r1.pf) r2.1.1 (fun f hf => (r2.1.2.1 f hf).1.1) (fun q hq => ⟨r2.2.1 q hq, ?_⟩) hS10 hne hk
          rw [r1.2 272 (by decide), q2 272 (by decide) (by decide) (by decide) (by decide) (by decide), eH, up_row (by decide), hz 272 (by decide) (by decide)]
          exact (k1 q hq).1
        · have n3 : rn3 X id N := q5
          refine ⟨fun h => by omega, fun _ => ⟨?_, fun h => absurd h (by decide), p4⟩⟩
          unfold rnm
          rw [pif_0 n2, pif_1 n3]
      | succ d ih =>
        intro j G hj hSG hz hz1 h104 h271
        have e212 : G 212 i = (N.length : Int) := by rw [hz 212 (by decide) (by decide), k2 212 (by omega)]; exact h212
        have e211 : G 211 (6 * i + j) = gx N j := by rw [hz 211 (by decide) (by decide), k2 211 (by omega)]; exact h211 j (by omega)
        refine b_316_103 hSG ?_
        rw [Int.toNat_natCast, e212, show (6 * (i : Int) + (j : Int)).toNat = 6 * i + j by omega, e211]
        refine ⟨by omega, fun _ => ⟨by omega, by omega, by omega, ?_⟩, fun h => by omega⟩
        refine c_312 hSG ?_
        rw [h104, Int.toNat_natCast]
        refine ⟨by omega, by omega, by omega, ?_⟩
        have := ih (j + 1) (m_up (m_up G 271 j (gx N j)) 201 104 ((j : Int) + 1)) (by omega) ((hSG.arr kd_271 (by decide)).fld kd_201 rk_12_104) (fun c a b => by rw [up_row a, up_row b, hz c a b]) (fun q a => by rw [u_ne (Or.inr a), up_row (by decide), hz1 q a]) (by rw [u_eq]; omega) (fun q hq => by
          rw [up_row (by decide)]
          by_cases e : q = j
          · rw [e, u_eq]
          · rw [u_ne (Or.inr e)]; exact h271 q (by omega))
        rw [show ((j + 1 : Nat) : Int) = (j : Int) + 1 by omega] at this
        exact this
    exact lay N.length 0 _ (by omega) (hS3.fld kd_201 rk_12_104) (fun c a _ => up_row a) (fun q a => u_ne (Or.inr a)) u_eq (fun q hq => absurd hq (Nat.not_lt_zero q))
  -- the letters are packed
  have pck : ∀ (d j : Nat), j + d = N.length → L_316_5 (i : Int) (id : Int) (pkl (N.take j) 0) (j : Int) F (fun x F' => x = rnm X id N ∧ (x = 0 → TxM F' (rnmX X id N)) ∧ PF F F') m_no := by
    intro d
    induction d with
    | zero =>
      intro j hj
      obtain rfl : j = N.length := by omega
      rw [List.take_length]
      refine b_316_5 hS ?_
      rw [Int.toNat_natCast, h212]
      refine ⟨by omega, fun h => by omega, fun _ => ⟨by omega, fun h4 => ?_, fun h4 => ⟨by omega, fun h0 => ⟨ob_210, fun hk => ?_, fun hk => ?_⟩, fun h0 => ?_⟩⟩⟩
      · exact l67 (fun h => by rw [h] at h4; exact absurd h4 (by decide)) (kwd_long (by omega))
      · rw [kwd_pk (isL_W hw) (by omega) (by omega)] at hk
        exact l67 (fun h => by rw [h] at h0; exact absurd h0 (by decide)) hk
      · rw [kwd_pk (isL_W hw) (by omega) (by omega)] at hk
        exact l71 (fun h => hk h.2.2)
      · exact l71 (fun h => h.2.1 (List.length_eq_zero_iff.mp (by omega)))
    | succ d ih =>
      intro j hj
      have hj2 : j < N.length := by omega
      refine b_316_5 hS ?_
      rw [Int.toNat_natCast, h212, show (6 * (i : Int) + (j : Int)).toNat = 6 * i + j by omega, h211 j hj2]
      refine ⟨by omega, fun _ => ⟨by omega, by omega, by omega, by omega, ?_⟩, fun h => by omega⟩
      have := ih (j + 1) (by omega)
      have et : N.take (j + 1) = N.take j ++ [gx N j] := by
        rw [List.take_succ_eq_append_getElem hj2]
        congr 2
        unfold gx
        rw [List.getD_eq_getElem?_getD, List.getElem?_eq_getElem hj2]
        rfl
      rw [et, pkl_app, show ((j + 1 : Nat) : Int) = (j : Int) + 1 by omega] at this
      exact this
  have := pck N.length 0 (by omega)
  rw [List.take_zero] at this
  exact c_316 hS this
end Mj8
