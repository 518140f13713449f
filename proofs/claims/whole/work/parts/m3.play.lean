/-! A PLAN IS PLAYED: as it is meant; of the class -/
/-- a change: kind (0 rename, 1 inlining, 2 move), file, token, other file, name -/
abbrev CH : Type := Nat × Nat × Nat × Nat × List Int
noncomputable def chw (X : Nat → List Int) (c : CH) : Int := if c.1 = 0 then rnm X (200 * c.2.1 + c.2.2.1) c.2.2.2.2 else if c.1 = 1 then iln X c.2.1 c.2.2.1 else mvn X c.2.1 c.2.2.1 c.2.2.2.1
noncomputable def chX (X : Nat → List Int) (c : CH) : Nat → List Int := if c.1 = 0 then rnmX X (200 * c.2.1 + c.2.2.1) c.2.2.2.2 else if c.1 = 1 then inlX X c.2.1 c.2.2.1 else mvX X c.2.1 c.2.2.1 c.2.2.2.1
noncomputable def plw : List CH → (Nat → List Int) → Int × (Nat → List Int)
  | [], X => (0, X)
  | c :: L, X => if chw X c = 0 then plw L (chX X c) else (chw X c, X)
def CHok (c : CH) : Prop := c.1 ≤ 2 ∧ c.2.1 < 3 ∧ c.2.2.1 < 200 ∧ c.2.2.2.1 < 3 ∧ (c.1 = 2 → c.2.2.2.1 ≠ c.2.1) ∧ c.2.2.2.2.length ≤ 6 ∧ ∀ a ∈ c.2.2.2.2, isL a = true
/-- the plan, in the cells of the class -/
def PlC (F : MF) (L : List CH) : Prop := F 109 7 = (L.length : Int) ∧ L.length ≤ 3 ∧ ∀ i, (h : i < L.length) → CHok (L[i]'h) ∧ F 189 i = ((L[i]'h).1 : Int) ∧ F 190 i = ((L[i]'h).2.1 : Int) ∧ F 191 i = ((L[i]'h).2.2.1 : Int) ∧ ((L[i]'h).1 = 2 → F 192 i = ((L[i]'h).2.2.2.1 : Int)) ∧ ((L[i]'h).1 = 0 → F 194 i = ((L[i]'h).2.2.2.2.length : Int) ∧ ∀ j, j < (L[i]'h).2.2.2.2.length → F 193 (6 * i + j) = gx (L[i]'h).2.2.2.2 j)
section Mm3
variable {F F0 G : MF} {X Y : Nat → List Int} {L : List CH} {i f t o : Nat} {N : List Int}
theorem plw_0 {c : CH} (h : chw X c = 0) : plw (c :: L) X = plw L (chX X c) := if_pos h
theorem plw_n {c : CH} (h : chw X c ≠ 0) : plw (c :: L) X = (chw X c, X) := if_neg h
theorem DF.pl (h : DF F G) (k : PlC F L) : PlC G L := by
  obtain ⟨k1, k2, k3⟩ := k
  refine ⟨by rw [h.2 7 (by decide)]; exact k1, k2, fun i hi => ?_⟩
  rw [h.1 189 (by omega), h.1 190 (by omega), h.1 191 (by omega), h.1 192 (by omega), h.1 193 (by omega), h.1 194 (by omega)]
  exact k3 i hi
/-- the reason stands -/
theorem st_52 {Q : Int → MF → Prop} {x j : Int} (hS : St F) (hx : x ≠ 0) (h : Q x F) : L_40_52 x j F Q m_no := b_40_52 hS ⟨fun _ => ⟨fun h => absurd h hx, fun _ => h⟩, fun _ => h⟩
theorem st_193 {Q : Int → MF → Prop} {x : Int} (hS : St F) (hi : i < 3) (hx : x ≠ 0) (h : Q x F) : L_40_193 x (i : Int) F Q m_no := b_40_193 hS ⟨fun h => absurd h hx, fun _ => ⟨by omega, st_52 hS hx h⟩⟩
theorem st_127 {Q : Int → MF → Prop} {x j : Int} (hS : St F) (hi : i < 3) (hx : x ≠ 0) (h : Q x F) : L_40_127 x (i : Int) j F Q m_no := by
  refine b_40_127 hS ?_
  exact ⟨by omega, fun _ => ⟨fun h => absurd h hx, fun _ => st_193 hS hi hx h⟩, fun _ => st_193 hS hi hx h⟩
/-- names are bound anew behind a change that keeps lines -/
theorem fol_id {R : MF → Prop} (hX : ∀ r, r < 24 → Rok (X r)) (hY : ∀ r, r < 24 → Rok (Y r)) (hS : St F) (hL : LinC F 111 Y) (h114 : ∀ r : Nat, r < 24 → F 114 r = (r : Int)) (h195 : ∀ i, i < 600 → F 195 i = bnd X i) (h196 : ∀ r, r < 24 → F 196 r = frt X r) (hd : DF F0 F)
    (hR : ∀ F', St F' → DB F' 110 Y → (∀ i, i < 600 → F' 195 i = bnd X i) → BC F' X Y (fun r => (r : Int)) → DF F0 F' → R F') : C_11 110 F (fun F' => C_42 F' R m_no) m_no := by
  refine CaV.on (s_11 (n := 110) (by decide) hS hL) ?_
  rintro F1 hS1 ⟨k1, -, k2, -⟩
  refine CaV.on (s_42 (og := fun r => (r : Int)) hS1 hY (fun f hf => (k1.1.2 f hf).1) (fun r hr => ⟨by rw [k2 114 (by omega)]; exact h114 r hr, Or.inr ⟨by show (0 : Int) ≤ (r : Int); omega, by show (r : Int) < 24; omega⟩⟩) (fun r hr => by rw [k2 196 (by omega)]; exact h196 r hr) (fun r hr => frt_rng hX hr)) ?_
  rintro F2 hS2 ⟨u1, u2⟩
  exact hR F2 hS2 ⟨k1.1.fr u2 (fun c hc => by omega), fun id hid => by rw [u2 117 (by decide)]; exact k1.2 id hid⟩ (fun i hi => by rw [u2 195 (by decide), k2 195 (by omega)]; exact h195 i hi) u1 (hd.tr ((k2.df (fun c hc => by omega)).tr (u2.df (fun c hc => by omega))))
/-- the changes, one by one -/
theorem l_52 (hP : PlC F0 L) : ∀ (d i : Nat) (Y : Nat → List Int) (F : MF), i + d = L.length → St F → (∀ r, r < 24 → Rok (Y r)) → DB F 110 Y → DF F0 F →
    L_40_52 0 (i : Int) F (fun x F' => x = (plw (L.drop i) Y).1 ∧ (x = 0 → DB F' 110 (plw (L.drop i) Y).2) ∧ DF F0 F') m_no := by
  intro d
  induction d with
  | zero =>
    intro i Y F hi hS hY hD hd
    have hc := (hd.pl hP).1
    refine b_40_52 hS ?_
    rw [hc, List.drop_eq_nil_of_le (by omega)]
    exact ⟨fun h => by omega, fun _ => ⟨rfl, fun _ => hD, hd⟩⟩
  | succ d ih =>
    intro i Y F hi hS hY hD hd
    have hi2 : i < L.length := by omega
    have hi3 : i < 3 := by have := hP.2.1; omega
    have hc := (hd.pl hP).1
    obtain ⟨⟨c1, c2, c3, c4, c5, c6, c7⟩, -⟩ := hP.2.2 i hi2
    obtain ⟨c, ec⟩ : ∃ c, c = L[i]'hi2 := ⟨_, rfl⟩
    have edr : L.drop i = c :: L.drop (i + 1) := by rw [ec]; exact List.drop_eq_getElem_cons hi2
    obtain ⟨Q, hQ⟩ : ∃ Q : Int → MF → Prop, Q = fun x F' => x = (plw (L.drop i) Y).1 ∧ (x = 0 → DB F' 110 (plw (L.drop i) Y).2) ∧ DF F0 F' := ⟨_, rfl⟩
    rw [← hQ]
    -- what follows a change that is done
    have nx : chw Y c = 0 → ∀ F', St F' → DB F' 110 (chX Y c) → DF F0 F' → L_40_52 0 ((i : Int) + 1) F' Q m_no := fun h F' hS' hD' hd' => by
      have := ih (i + 1) (chX Y c) F' (by omega) hS' (fun r hr => (hD'.1.1 r hr).2.1) hD' hd'
      rw [hQ, edr, plw_0 h]
      rw [show ((i + 1 : Nat) : Int) = (i : Int) + 1 by omega] at this
      exact this
    have no : ∀ x : Int, x ≠ 0 → chw Y c = x → ∀ F', DF F0 F' → Q x F' := fun x hx h F' hd' => by
      rw [hQ, edr, plw_n (by rw [h]; exact hx)]
      exact ⟨h.symm, fun h2 => absurd h2 hx, hd'⟩
    refine b_40_52 hS ?_
    rw [hc]
    refine ⟨fun _ => ⟨fun _ => ?_, fun h => absurd rfl h⟩, fun h => by omega⟩
    refine CaV.on (s_41 hS hY hD) ?_
    rintro F5 hS5 ⟨a114, a195, a196, afr⟩
    have hD5 : DB F5 110 Y := ⟨hD.1.fr afr (fun c hc => by omega), fun id hid => by rw [afr 117 (by omega)]; exact hD.2 id hid⟩
    have hd5 : DF F0 F5 := hd.tr ⟨fun c hc => afr c (by omega), fun j _ => by rw [afr 109 (by omega)]⟩
    obtain ⟨-, q189, q190, q191, q192, q193⟩ := (hd5.pl hP).2.2 i hi2
    rw [← ec] at q189 q190 q191 q192 q193 c1 c2 c3 c4 c5 c6 c7
    have k189 : ∀ F', DF F0 F' → F' 189 i = (c.1 : Int) := fun F' h => by rw [(h.pl hP).2.2 i hi2 |>.2.1, ← ec]
    rw [Int.toNat_natCast, q189]
    refine ⟨by omega, fun e0 => ?_, fun e0 => ⟨by omega, fun e1 => ?_, fun e1 => ?_⟩⟩
    · -- a rename
      have k0 : c.1 = 0 := by omega
      have ew : chw Y c = rnm Y (200 * c.2.1 + c.2.2.1) c.2.2.2.2 := if_pos k0
      have eX : chX Y c = rnmX Y (200 * c.2.1 + c.2.2.1) c.2.2.2.2 := if_pos k0
      refine CaI.on (s_44 hS5 hY hD5 hi3 c2 c3 q190 q191 (q193 k0).1 c6 (q193 k0).2 c7) ?_
      rintro x F41 hS41 ⟨⟨u1, u2⟩, u3, u4, u5, u6⟩
      by_cases n2 : rn2 Y (200 * c.2.1 + c.2.2.1) c.2.2.2.2
      · rw [pif_1 n2] at u1
        subst u1
        exact ⟨fun h => absurd h (by decide), fun _ => st_127 hS41 hi3 (by decide) (no 2 (by decide) (by rw [ew]; exact pif_1 n2) F41 (hd5.tr u6))⟩
      rw [pif_0 n2] at u1
      by_cases n3 : rn3 Y (200 * c.2.1 + c.2.2.1) c.2.2.2.2
      · rw [pif_1 n3] at u1
        subst u1
        exact ⟨fun h => absurd h (by decide), fun _ => st_127 hS41 hi3 (by decide) (no 3 (by decide) (by rw [ew]; unfold rnm; rw [pif_0 n2, pif_1 n3]) F41 (hd5.tr u6))⟩
      rw [pif_0 n3] at u1
      subst u1
      refine ⟨fun _ => ?_, fun h => absurd rfl h⟩
      have hL := u2 rfl
      have hall : AllS Y (200 * c.2.1 + c.2.2.1) c.2.2.2.2 (-1) 0 0 24 := by
        unfold rn3 at n3
        exact Classical.not_not.mp n3
      obtain ⟨hb, hne, hk⟩ : bnd Y (200 * c.2.1 + c.2.2.1) = ((200 * c.2.1 + c.2.2.1 : Nat) : Int) ∧ c.2.2.2.2 ≠ [] ∧ kwd c.2.2.2.2 = 0 := Classical.not_not.mp n2
      have hYr : ∀ r, r < 24 → Rok (rnmX Y (200 * c.2.1 + c.2.2.1) c.2.2.2.2 r) := rnmX_ok hY (isL_chs c7) hall
      refine fol_id hY hYr hS41 hL (fun r hr => by rw [u3]; exact a114 r hr) (fun i hi => by rw [u4]; exact a195 i hi) (fun r hr => by rw [u5]; exact a196 r hr) (hd5.tr u6) (fun F' hS' hD' b195 hBC hd' => ?_)
      have ms := fun {old new : Nat} => mv_same (old := old) (new := new) hY hYr (fun f hf m hm => (ren_nt hY c7 hne hk hall hf m (by omega)).2 hm)
      refine b_40_127 hS' ?_
      rw [Int.toNat_natCast, k189 F' hd', k0]
      refine ⟨by omega, fun h => absurd h (by decide), fun _ => ?_⟩
      refine b_40_193 hS' ⟨fun _ => ?_, fun h => absurd rfl h⟩
      rw [Int.toNat_natCast, k189 F' hd', k0]
      refine ⟨by omega, fun h => absurd h (by decide), fun _ => ?_⟩
      have h197 : ∀ i, i < 600 → F' 197 i = pif (vid Y i) (i : Int) (-1) := fun i hi => by
        rcases hBC i hi with ⟨g1, g2⟩ | ⟨new, g1, g2⟩
        · rw [g1, pif_0 (fun h => g2 i (ms.mpr ⟨rfl, hi, h⟩))]
        · obtain ⟨e1, e2, e3⟩ := ms.mp g2
          rw [g1, pif_1 e3, e1]
      have pv : ∀ i : Nat, i < 600 → pif (vid Y i) (i : Int) (-1) = -1 ∨ 0 ≤ pif (vid Y i) (i : Int) (-1) ∧ pif (vid Y i) (i : Int) (-1) < 600 := fun i hi => by
        by_cases h : vid Y i
        · rw [pif_1 h]; exact Or.inr ⟨by omega, by omega⟩
        · rw [pif_0 h]; exact Or.inl rfl
      -- what a token was bound to is one
      have tv : ∀ i, i < 600 → (if bnd Y i = -1 then (-1 : Int) else pif (vid Y (bnd Y i).toNat) (((bnd Y i).toNat : Nat) : Int) (-1)) = bnd Y i := fun i hi => by
        by_cases h : bnd Y i = -1
        · rw [if_pos h, h]
        · obtain ⟨g, z, z1, z2, -, z3⟩ := (bnd_rg2 hY hi).resolve_left h
          have lg := toks_len hY z1
          rw [if_neg h, pif_1 (by rw [z3, Int.toNat_natCast]; unfold vid; rw [show (200 * g + z) / 200 = g by omega]; omega)]
          omega
      refine CaI.on (s_43 (oB := bnd Y) (bc := fun i => pif (vid Y i) (i : Int) (-1)) (nB := bnd (rnmX Y (200 * c.2.1 + c.2.2.1) c.2.2.2.2)) hS' (fun i hi => ⟨b195 i hi, (bnd_rg4 hY hi).imp (fun h => h) (fun ⟨v, a, b⟩ => ⟨by omega, by omega⟩)⟩) (fun i hi => ⟨h197 i hi, pv i hi⟩) (fun i hi => hD'.2 i hi)) ?_
      have r4 : (∀ old, old < 600 → pif (vid Y old) (old : Int) (-1) ≠ -1 → bnd (rnmX Y (200 * c.2.1 + c.2.2.1) c.2.2.2.2) (pif (vid Y old) (old : Int) (-1)).toNat = if bnd Y old = -1 then -1 else pif (vid Y (bnd Y old).toNat) (((bnd Y old).toNat : Nat) : Int) (-1)) ↔ ¬ rn4 Y (200 * c.2.1 + c.2.2.1) c.2.2.2.2 := by
        constructor
        · rintro h ⟨i, i1, i2, i3⟩
          have := h i i1 (by rw [pif_1 i2]; omega)
          rw [pif_1 i2, Int.toNat_natCast, tv i i1] at this
          exact i3 this
        · intro h old ho hp
          have hv : vid Y old := by
            by_cases hv : vid Y old
            · exact hv
            · rw [pif_0 hv] at hp; exact absurd rfl hp
          rw [pif_1 hv, Int.toNat_natCast, tv old ho]
          by_cases e : bnd (rnmX Y (200 * c.2.1 + c.2.2.1) c.2.2.2.2) old = bnd Y old
          · exact e
          · exact absurd ⟨old, ho, hv, e⟩ h
      rintro r F5' hS5' ⟨rfl, ⟨rfl, h⟩ | ⟨rfl, h⟩⟩
      · have n4 := r4.mp h
        exact ⟨fun _ => ⟨by omega, nx (by rw [ew]; unfold rnm; rw [pif_0 n2, pif_0 n3, pif_0 n4]) F5' hS5' (by rw [eX]; exact hD') hd'⟩, fun h => absurd rfl h⟩
      · have n4 : rn4 Y (200 * c.2.1 + c.2.2.1) c.2.2.2.2 := Classical.byContradiction (fun hn => by
          obtain ⟨old, o1, o2, o3⟩ := h
          exact o3 (r4.mpr hn old o1 o2))
        exact ⟨fun h => absurd h (by decide), fun _ => ⟨by omega, st_52 hS5' (by decide) (no 4 (by decide) (by rw [ew]; unfold rnm; rw [pif_0 n2, pif_0 n3, pif_1 n4]) F5' hd')⟩⟩
    · -- an inlining
      have k1 : c.1 = 1 := by omega
      have ew : chw Y c = iln Y c.2.1 c.2.2.1 := by unfold chw; rw [if_neg (by omega), if_pos k1]
      have eX : chX Y c = inlX Y c.2.1 c.2.2.1 := by unfold chX; rw [if_neg (by omega), if_pos k1]
      refine CaI.on (s_47 hS5 hY hD5 hi3 c2 c3 q190 q191) ?_
      rintro x F27 hS27 ⟨⟨u1, u2⟩, u3, u4, u5, u6⟩
      refine ⟨fun h => ?_, fun h => st_127 hS27 hi3 h (no x h (by rw [ew, u1]) F27 (hd5.tr u6))⟩
      have hL := u2 h
      subst h
      refine fol_id hY (fun r hr => (hL r hr).2.1) hS27 hL (fun r hr => by rw [u3]; exact a114 r hr) (fun i hi => by rw [u4]; exact a195 i hi) (fun r hr => by rw [u5]; exact a196 r hr) (hd5.tr u6) (fun F' hS' hD' b195 hBC hd' => ?_)
      refine b_40_127 hS' ?_
      rw [Int.toNat_natCast, k189 F' hd', k1]
      refine ⟨by omega, fun h => absurd h (by decide), fun _ => ?_⟩
      refine b_40_193 hS' ⟨fun _ => ?_, fun h => absurd rfl h⟩
      rw [Int.toNat_natCast, k189 F' hd', k1]
      exact ⟨by omega, fun _ => ⟨by omega, nx (by rw [ew, ← u1]) F' hS' (by rw [eX]; exact hD') hd'⟩, fun h => absurd rfl h⟩
    · -- a move
      have k2 : c.1 = 2 := by omega
      have ew : chw Y c = mvn Y c.2.1 c.2.2.1 c.2.2.2.1 := by unfold chw; rw [if_neg (by omega), if_neg (by omega)]
      have eX : chX Y c = mvX Y c.2.1 c.2.2.1 c.2.2.2.1 := by unfold chX; rw [if_neg (by omega), if_neg (by omega)]
      have p0 := (hP.2.2 i hi2).2
      rw [← ec] at p0
      refine c_mv (F0 := F0) hS5 hY hD5 a114 a195 a196 hd5 hi3 c2 c4 (c5 k2) c3 (by rw [p0.1, k2]; rfl) p0.2.1 p0.2.2.1 (p0.2.2.2.1 k2) (fun F' hS' hd' hD' => ?_)
      by_cases h : mvn Y c.2.1 c.2.2.1 c.2.2.2.1 = 0
      · rw [h]
        exact nx (by rw [ew]; exact h) F' hS' (by rw [eX]; exact hD' h) hd'
      · exact st_52 hS' h (no _ h ew F' hd')
/-- the plan against a desk -/
theorem s_40 {n1 : Nat} (hn : n1 ∈ m_I1) (hn2 : n1 + 1 ∈ m_I2) (hS : St F) (hL : LinC F (n1 + 1) X) (hP : PlC F L) :
    C_40 n1 F (fun x F' => x = (if L = [] then 0 else if F 109 8 ≠ 0 then 1 else (plw L X).1) ∧ (x = 0 → L ≠ [] → DB F' 110 (plw L X).2) ∧ DF F F') m_no := by
  have hX : ∀ r, r < 24 → Rok (X r) := fun r hr => (hL r hr).2.1
  have hlen : (L.length : Int) = 0 ↔ L = [] := by
    constructor
    · intro h
      exact List.length_eq_zero_iff.mp (by omega)
    · intro h
      rw [h]
      rfl
  refine c_40 hn hS ?_
  rw [hP.1, hlen]
  refine ⟨fun h => ⟨(if_pos h).symm, fun _ h2 => absurd h h2, DF.rf⟩, fun h => ⟨fun h8 => ?_, fun h8 => ⟨by rw [if_neg h, if_pos h8], fun h => absurd h (by decide), DF.rf⟩⟩⟩
  rw [if_neg h, if_neg (fun h2 => h2 h8)]
  refine CaV.on (s_28 (n := 111) d_i2 hn2 hS hL) ?_
  rintro F5 hS5 ⟨u1, u2⟩
  refine CaV.on (s_11 (n := 110) (by decide) hS5 u1) ?_
  rintro F9 hS9 ⟨v1, -, v2, -⟩
  have hd : DF F F9 := (u2.df (fun c hc => by omega)).tr (v2.df (fun c hc => by omega))
  have := l_52 hP L.length 0 X F9 (by omega) hS9 hX v1 hd
  rw [List.drop_zero] at this
  refine EvI.mono this ?_ (fun _ _ _ h => h)
  rintro x F' _ ⟨w1, w2, w3⟩
  exact ⟨w1, fun h _ => w2 h, w3⟩
end Mm3
