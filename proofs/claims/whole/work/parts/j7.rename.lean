/-! A RENAME: as it is meant; of the class -/
noncomputable def pif (p : Prop) (a b : Int) : Int := @ite Int p (Classical.propDecidable p) a b
theorem pif_1 {p : Prop} {a b : Int} (h : p) : pif p a b = a := by unfold pif; exact if_pos h
theorem pif_0 {p : Prop} {a b : Int} (h : ¬ p) : pif p a b = b := by unfold pif; exact if_neg h
noncomputable def rnmX (X : Nat → List Int) (id : Nat) (N : List Int) : Nat → List Int := rwX X id N (-1) 0 0
def vid (X : Nat → List Int) (id : Nat) : Prop := id % 200 < (toks X (id / 200)).length
def rn2 (X : Nat → List Int) (id : Nat) (N : List Int) : Prop := ¬ (bnd X id = (id : Int) ∧ N ≠ [] ∧ kwd N = 0)
noncomputable def rn3 (X : Nat → List Int) (id : Nat) (N : List Int) : Prop := ¬ AllS X id N (-1) 0 0 24
def rn4 (X : Nat → List Int) (id : Nat) (N : List Int) : Prop := ∃ i, i < 600 ∧ vid X i ∧ bnd (rnmX X id N) i ≠ bnd X i
noncomputable def rnm (X : Nat → List Int) (id : Nat) (N : List Int) : Int := pif (rn2 X id N) 2 (pif (rn3 X id N) 3 (pif (rn4 X id N) 4 0))
/-- what the plan changes, of the class; of the reference -/
def DF (F F' : MF) : Prop := (∀ c, (c < 109 ∨ (189 ≤ c ∧ c ≤ 194) ∨ 200 ≤ c) → F' c = F c) ∧ ∀ j, j ≠ 13 → F' 109 j = F 109 j
def PF (F F' : MF) : Prop := (∀ c, (c < 201 ∨ (204 ≤ c ∧ c ≤ 212) ∨ c = 267 ∨ c = 268 ∨ 279 ≤ c) → F' c = F c) ∧ ∀ j, j ≤ 15 → F' 201 j = F 201 j
section Mj7
variable {F G : MF} {X Y : Nat → List Int} {id f m k i : Nat} {N tx0 : List Int}
theorem DF.rf : DF F F := ⟨fun _ _ => rfl, fun _ _ => rfl⟩
theorem DF.tr {H : MF} (h : DF F G) (k : DF G H) : DF F H := ⟨fun c a => (k.1 c a).trans (h.1 c a), fun j a => (k.2 j a).trans (h.2 j a)⟩
theorem PF.rf : PF F F := ⟨fun _ _ => rfl, fun _ _ => rfl⟩
theorem PF.tr {H : MF} (h : PF F G) (k : PF G H) : PF F H := ⟨fun c a => (k.1 c a).trans (h.1 c a), fun j a => (k.2 j a).trans (h.2 j a)⟩
theorem fr.df {P : Nat → Prop} (h : fr P F G) (hP : ∀ c, P c → (110 ≤ c ∧ c ≤ 188) ∨ (195 ≤ c ∧ c ≤ 199)) : DF F G := ⟨fun c hc => h c (fun e => by have := hP c e; omega), fun j _ => by rw [h 109 (fun e => by have := hP 109 e; omega)]⟩
theorem LKr.pf (h : LKr F G) : PF F G := ⟨fun c hc => h.2 c (by omega), fun j hj => h.1 j (by omega) (by omega) (by omega)⟩
theorem isL_chs (hw : ∀ c ∈ tx0, isL c = true) : chs tx0 := fun c hc => by have := isL_rng.mp (hw c hc); omega
/-- rows and modes of a text that is written anew -/
theorem ren_nt (hX : ∀ r, r < 24 → Rok (X r)) (hw : ∀ c ∈ tx0, isL c = true) (hne : tx0 ≠ []) (hk : kwd tx0 = 0) (hall : AllS X id tx0 (-1) 0 0 24) (hf : f < 3) :
    ∀ m, m ≤ 8 → md (rnmX X id tx0) f m = md X f m ∧ (m < 8 → nt (rnmX X id tx0) f m = nt X f m) := by
  have row : ∀ m, m < 8 → md (rnmX X id tx0) f m = md X f m → nt (rnmX X id tx0) f m = nt X f m ∧ md (rnmX X id tx0) f (m + 1) = md X f (m + 1) := by
    intro m hm e
    have er : rnmX X id tx0 (8 * f + m) = rwc X id tx0 (8 * f + m) 0 0 := rwX_no
    have hl : (rwc X id tx0 (8 * f + m) 0 0).length ≤ 24 := by rw [← er]; exact hall (8 * f + m) (by omega)
    have h := rw_cls (id := id) (tx0 := tx0) hX hf hm hw hne hk hl
    have c1 := lexL_cls 24 (rwc X id tx0 (8 * f + m) 0 0) 0 (md X f m) 0
    have c2 := lexL_cls 24 (X (8 * f + m)) 0 (md X f m) 0
    rw [List.drop_zero] at c1 c2
    rw [h] at c1
    refine ⟨?_, ?_⟩
    · unfold nt rtl
      rw [e, er]
      have := congrArg List.length (c1.1.trans c2.1.symm)
      rw [List.length_map, List.length_map] at this
      exact this
    · show modeL 24 (rnmX X id tx0 (8 * f + m)) 0 (md (rnmX X id tx0) f m) = modeL 24 (X (8 * f + m)) 0 (md X f m)
      rw [e, er, ← lexL_mode 24 _ 0 (md X f m) 0 (by omega), ← lexL_mode 24 (X (8 * f + m)) 0 (md X f m) 0 (by have := (hX (8 * f + m) (by omega)).1; omega)]
      exact c1.2.trans c2.2.symm
  intro m
  induction m with
  | zero => intro _; exact ⟨rfl, fun h => (row 0 h rfl).1⟩
  | succ m ih =>
    intro hm
    have h := (row m (by omega) (ih (by omega)).1).2
    exact ⟨h, fun h2 => (row (m + 1) h2 h).1⟩
theorem fs_cong (h : ∀ m, m < 8 → nt Y f m = nt X f m) : ∀ m, m ≤ 8 → fs Y f m = fs X f m
  | 0, _ => rfl
  | m + 1, hm => by
    show fs Y f m + nt Y f m = fs X f m + nt X f m
    rw [fs_cong h m (by omega), h m (by omega)]
theorem rnmX_ok (hX : ∀ r, r < 24 → Rok (X r)) (hw : chs tx0) (hall : AllS X id tx0 (-1) 0 0 24) : ∀ r, r < 24 → Rok (rnmX X id tx0 r) := fun r hr => ⟨hall r hr, rwp_chs hX hr hw _ (Nat.le_refl _)⟩
theorem ren_toks (hX : ∀ r, r < 24 → Rok (X r)) (hw : ∀ c ∈ tx0, isL c = true) (hne : tx0 ≠ []) (hk : kwd tx0 = 0) (hall : AllS X id tx0 (-1) 0 0 24) (hf : f < 3) : (toks (rnmX X id tx0) f).length = (toks X f).length := by
  rw [fs_8 (rnmX_ok hX (isL_chs hw) hall) hf, fs_8 hX hf]
  exact fs_cong (fun m hm => (ren_nt hX hw hne hk hall hf m (by omega)).2 hm) 8 (Nat.le_refl _)
/-- where rows have as many tokens as they had, each token has become the one with its number -/
theorem mv_same (hX : ∀ r, r < 24 → Rok (X r)) (hY : ∀ r, r < 24 → Rok (Y r)) (hn : ∀ f, f < 3 → ∀ m, m < 8 → nt Y f m = nt X f m) {old new : Nat} : MvT X Y (fun r => (r : Int)) old new ↔ old = new ∧ old < 600 ∧ vid X old := by
  constructor
  · rintro ⟨f, m, i, h1, h2, h3, h4, -, h6, h7⟩
    rw [Int.toNat_natCast, frt_at h2] at h6 h7
    have h8 := hn f h1 m h2
    rw [if_pos (by omega)] at h6 h7
    have h9 := fs_cong (hn f h1) m (by omega)
    have h10 := (tok_at hX h1 h2 (show i < nt X f m by omega)).1
    have lk := toks_len hX h1
    have e : old = 200 * f + (fs X f m + i) := by omega
    refine ⟨by omega, by omega, ?_⟩
    unfold vid
    rw [e, show (200 * f + (fs X f m + i)) / 200 = f by omega]
    omega
  · rintro ⟨rfl, h1, h2⟩
    have hf : old / 200 < 3 := by omega
    obtain ⟨m, i, e1, e2, e3⟩ := tok_row hX hf h2
    have h8 := hn (old / 200) hf m e1
    have h9 := fs_cong (hn (old / 200) hf) m (by omega)
    refine ⟨old / 200, m, i, hf, e1, by omega, by omega, ?_, ?_, ?_⟩
    · show ((8 * (old / 200) + m : Nat) : Int) ≠ -1
      omega
    · rw [Int.toNat_natCast, frt_at e1, if_pos (by omega)]
      omega
    · rw [Int.toNat_natCast, frt_at e1, if_pos (by omega)]
      omega
/-- a rename, of the class: up to the writing -/
theorem s_44 {t : Nat} (hS : St F) (hX : ∀ r, r < 24 → Rok (X r)) (hD : DB F 110 X) (hi : i < 3) (hf : f < 3) (ht : t < 200) (h190 : F 190 i = (f : Int)) (h191 : F 191 i = (t : Int)) (h194 : F 194 i = (N.length : Int)) (hNl : N.length ≤ 6) (h193 : ∀ j, j < N.length → F 193 (6 * i + j) = gx N j) (hw : ∀ c ∈ N, isL c = true) :
    C_44 (i : Int) F (fun x F' => (x = pif (rn2 X (200 * f + t) N) 2 (pif (rn3 X (200 * f + t) N) 3 0) ∧ (x = 0 → LinC F' 111 (rnmX X (200 * f + t) N))) ∧ F' 114 = F 114 ∧ F' 195 = F 195 ∧ F' 196 = F 196 ∧ DF F F') m_no := by
  have e1 : F 117 (200 * f + t) = bnd X (200 * f + t) := hD.2 _ (by omega)
  refine c_44 hS ?_
  rw [Int.toNat_natCast, h190, h191, h194, show (f : Int) * 200 + (t : Int) = ((200 * f + t : Nat) : Int) by omega, Int.toNat_natCast, e1]
  have two : rn2 X (200 * f + t) N → ((2 : Int) = pif (rn2 X (200 * f + t) N) 2 (pif (rn3 X (200 * f + t) N) 3 0) ∧ ((2 : Int) = 0 → LinC F 111 (rnmX X (200 * f + t) N))) ∧ F 114 = F 114 ∧ F 195 = F 195 ∧ F 196 = F 196 ∧ DF F F := fun h => ⟨⟨(pif_1 h).symm, fun h => absurd h (by decide)⟩, rfl, rfl, rfl, DF.rf⟩
  refine ⟨by omega, by omega, by omega, by omega, by omega, by omega, fun hb => ⟨by omega, fun hz => ?_, fun hz => ⟨by omega, ?_⟩⟩, fun hb => two (fun h => hb h.1)⟩
  · refine two (fun h => h.2.1 (List.length_eq_zero_iff.mp (by omega)))
  · rw [show (i : Int) * 6 = ((6 * i : Nat) : Int) by omega]
    refine CaI.on (s_195 (w := N) kd_193 hS rfl (by omega) (by decide) h193) ?_
    rintro r F5 hS5 ⟨rfl, rfl⟩
    refine ⟨fun hk => ⟨by omega, ?_⟩, fun hk => two (fun h => hk h.2.2)⟩
    have hne : N ≠ [] := fun h => hz (by rw [h]; rfl)
    rw [h194]
    refine ⟨by omega, ?_⟩
    obtain ⟨H, eH⟩ : ∃ H, H = m_cpy (m_up F5 109 13 (N.length : Int)) 193 ((6 * i : Nat) : Int).toNat 198 (0 : Int).toNat (N.length : Int).toNat := ⟨_, rfl⟩
    rw [← eH]
    have hSH : St H := by rw [eH]; exact (hS5.fld kd_109 rk_3_13).cpy kd_198 (by decide)
    have hz : ∀ c, c ≠ 109 → c ≠ 198 → H c = F5 c := fun c a b => by rw [eH, cp_row b, up_row a]
    have hz9 : ∀ j, j ≠ 13 → H 109 j = F5 109 j := fun j a => by rw [eH, cp_row (by decide), u_ne (Or.inr a)]
    have hD2 : DTT H 110 X := hD.1.fr (P := fun c => c = 109 ∨ c = 198) (fun c hc => hz c (fun e => hc (Or.inl e)) (fun e => hc (Or.inr e))) (fun c hc => by omega)
    refine CaI.on (s_45 (id := 200 * f + t) (tx0 := N) (cut := -1) (fr0 := 0) (to := 0) hSH hX (fun g hg => (hD2.2 g hg).1) (fun j hj => by rw [hz 117 (by decide) (by decide)]; exact hD.2 j hj) hD2.1 (by rw [eH, cp_row (by decide), u_eq]) (fun j hj => ?_) (by omega) (isL_chs hw) (by decide)) ?_
    · rw [eH]
      unfold m_cpy
      rw [Int.toNat_natCast, Int.toNat_natCast, if_pos ⟨rfl, Nat.zero_le _, by show j < 0 + N.length; omega⟩, up_row (by decide), show (0 : Int).toNat = 0 from rfl, Nat.sub_zero]
      exact h193 j hj
    · rintro x F' hS' ⟨k1, k2⟩
      have n2 : ¬ rn2 X (200 * f + t) N := fun h => h ⟨hb, hne, hk⟩
      refine ⟨?_, by rw [k2 114 (by omega), hz 114 (by decide) (by decide)], by rw [k2 195 (by omega), hz 195 (by decide) (by decide)], by rw [k2 196 (by omega), hz 196 (by decide) (by decide)], (show DF F5 H from ⟨fun c hc => hz c (by omega) (by omega), hz9⟩).tr (k2.df (fun c h => by omega))⟩
      rw [pif_0 n2]
      rcases k1 with ⟨rfl, a, b⟩ | ⟨rfl, r, a, b⟩
      · exact ⟨(pif_0 (fun h => h a)).symm, fun _ => b⟩
      · exact ⟨(pif_1 (fun h => by have := h r a; omega)).symm, fun h => absurd h (by decide)⟩
end Mj7
