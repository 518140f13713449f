/-! A MOVE, OF THE CLASS: all of it -/
noncomputable def mvE (X : Nat → List Int) (f t o : Nat) : (Nat → List Int) × (Nat → Int) × Int := mvP X 9 (sh (mvO X f t o) X) (mvO X f t o)
/-- some token is bound otherwise -/
def bnO (X Y : Nat → List Int) (og : Nat → Int) : Prop := ∃ old, old < 600 ∧ bcm X Y og old ≠ -1 ∧ bnd Y (bcm X Y og old).toNat ≠ if bnd X old = -1 then -1 else bcm X Y og (bnd X old).toNat
noncomputable def mvn (X : Nat → List Int) (f t o : Nat) : Int := pif (mv2 X f t o) 2 (pif (mv3 X f t o) 3 (if (mvE X f t o).2.2 = 3 then 3 else pif (bnO X (mvE X f t o).1 (mvE X f t o).2.1) 4 0))
noncomputable def mvX (X : Nat → List Int) (f t o : Nat) : Nat → List Int := (mvE X f t o).1
section Ml8
variable {F F0 G : MF} {X Y : Nat → List Int} {og s : Nat → Int} {f t o l g a b n r i k : Nat} {P : Nat → Prop}
/-- names are bound anew, and tokens followed -/
theorem hs_fol {R : MF → Prop} (hX : ∀ r, r < 24 → Rok (X r)) (hS : St F) (hL : LinC F 111 Y) (h114 : ∀ r, r < 24 → F 114 r = og r) (h195 : ∀ i, i < 600 → F 195 i = bnd X i) (h196 : ∀ r, r < 24 → F 196 r = frt X r) (hI : OgI P X Y og) (hd : DF F0 F) (hR : ∀ F', St F' → HsT P F0 F' X Y og → R F') :
    C_11 110 F (fun F' => C_42 F' R m_no) m_no := by
  refine CaV.on (s_11 (n := 110) (by decide) hS hL) ?_
  rintro F1 hS1 ⟨k1, -, k2, -⟩
  have a114 : ∀ r, r < 24 → F1 114 r = og r := fun r hr => by rw [k2 114 (by omega)]; exact h114 r hr
  have a195 : ∀ i, i < 600 → F1 195 i = bnd X i := fun i hi => by rw [k2 195 (by omega)]; exact h195 i hi
  have a196 : ∀ r, r < 24 → F1 196 r = frt X r := fun r hr => by rw [k2 196 (by omega)]; exact h196 r hr
  refine CaV.on (s_42 hS1 hI.1 (fun f hf => (k1.1.2 f hf).1) (fun r hr => ⟨a114 r hr, hI.2.1 r hr⟩) a196 (fun r hr => frt_rng hX hr)) ?_
  rintro F2 hS2 ⟨u1, u2⟩
  refine hR F2 hS2 ⟨⟨k1.1.fr u2 (fun c hc => by omega), fun id hid => by rw [u2 117 (by decide)]; exact k1.2 id hid⟩, fun r hr => by rw [u2 114 (by decide)]; exact a114 r hr, fun i hi => by rw [u2 195 (by decide)]; exact a195 i hi, fun r hr => by rw [u2 196 (by decide)]; exact a196 r hr, fun i hi => u1.eq hX hI hi, hI, hd.tr ((k2.df (fun c hc => by omega)).tr (u2.df (fun c hc => by omega)))⟩
/-- the pairs of files, one by one -/
theorem l_127 {R : Int → MF → Prop} (hX : ∀ r, r < 24 → Rok (X r)) (hi : i < 3) (h189 : F0 189 i = 2) : ∀ (d : Nat) (Y : Nat → List Int) (og : Nat → Int) (F : MF), d ≤ 9 → St F → HsT P F0 F X Y og →
    (∀ F' Y' og', St F' → HsT P F0 F' X Y' og' → mvP X d Y og = (Y', og', 0) → L_40_193 0 (i : Int) F' R m_no) → (∀ F', St F' → DF F0 F' → (mvP X d Y og).2.2 = 3 → L_40_193 3 (i : Int) F' R m_no) → L_40_127 0 (i : Int) ((9 - d : Nat) : Int) F R m_no := by
  have k189 : ∀ F : MF, DF F0 F → F 189 i = 2 := fun F h => by rw [h.1 189 (by omega)]; exact h189
  intro d
  induction d with
  | zero =>
    intro Y og F _ hS hH h0 _
    refine b_40_127 hS ?_
    rw [Int.toNat_natCast]
    exact ⟨by omega, fun _ => ⟨fun _ => ⟨fun h => by omega, fun _ => h0 F Y og hS hH rfl⟩, fun h => absurd rfl h⟩, fun h => absurd (k189 F hH.2.2.2.2.2.2) h⟩
  | succ d ih =>
    intro Y og F hd hS hH h0 h3
    obtain ⟨hDB, h114, h195, h196, h197, hI, hDF⟩ := hH
    have ha : (8 - d) / 3 < 3 := by omega
    have hb : (8 - d) % 3 < 3 := by omega
    have e9 : 9 - (d + 1) = 8 - d := by omega
    have nx : ∀ (Y2 : Nat → List Int) (og2 : Nat → Int) (F2 : MF), St F2 → HsT P F0 F2 X Y2 og2 → mvP X (d + 1) Y og = mvP X d Y2 og2 → L_40_127 0 (i : Int) (((8 - d : Nat) : Int) + 1) F2 R m_no := fun Y2 og2 F2 hS2 hH2 he => by
      have := ih Y2 og2 F2 (by omega) hS2 hH2 (fun F' Y' og' a1 a2 a3 => h0 F' Y' og' a1 a2 (by rw [he]; exact a3)) (fun F' a1 a2 a3 => h3 F' a1 a2 (by rw [he]; exact a3))
      rw [show ((9 - d : Nat) : Int) = ((8 - d : Nat) : Int) + 1 by omega] at this
      exact this
    rw [e9]
    refine b_40_127 hS ?_
    rw [Int.toNat_natCast, show ((8 - d : Nat) : Int) / 3 = (((8 - d) / 3 : Nat) : Int) by omega, show ((8 - d : Nat) : Int) % 3 = (((8 - d) % 3 : Nat) : Int) by omega]
    refine ⟨by omega, fun _ => ⟨fun _ => ⟨fun _ => ⟨by omega, by omega, ?_⟩, fun h => by omega⟩, fun h => absurd rfl h⟩, fun h => absurd (k189 F hDF) h⟩
    refine CaI.on (s_55 hS hX hI hDB h195 h197 ha hb) ?_
    rintro r F7 hS7 ⟨rfl, rfl⟩
    by_cases hn : ndX X Y og ((8 - d) / 3) ((8 - d) % 3)
    · rw [pif_1 hn]
      refine ⟨fun h => absurd h (by decide), fun _ => ⟨by omega, by omega, ?_⟩⟩
      refine CaI.on (s_56 hS7 hDB.1.1 h114 ha hb) ?_
      rintro r F13 hS13 (⟨rfl, u1, rfl⟩ | ⟨rfl, u1, u2, u3, u4⟩)
      · refine hs_fol hX hS13 hDB.1.1 h114 h195 h196 hI hDF (fun F' hS' hH' => ⟨by omega, ?_⟩)
        refine b_40_127 hS' ?_
        rw [Int.toNat_natCast]
        exact ⟨by omega, fun _ => ⟨fun h => absurd h (by decide), fun _ => h3 F' hS' hH'.2.2.2.2.2.2 (by rw [mvP_3 hn u1])⟩, fun h => absurd (k189 F' hH'.2.2.2.2.2.2) h⟩
      · have hd4 : DF F7 F13 := ⟨fun c hc => u4 c (by omega), fun j _ => by rw [u4 109 (by omega)]⟩
        refine hs_fol hX hS13 u2 u3 (fun i hi => by rw [u4 195 (by omega)]; exact h195 i hi) (fun r hr => by rw [u4 196 (by omega)]; exact h196 r hr) (og_use ha hb hI u1) (hDF.tr hd4) (fun F' hS' hH' => ⟨by omega, nx _ _ F' hS' hH' (mvP_y hn u1)⟩)
    · rw [pif_0 hn]
      exact ⟨fun _ => ⟨by omega, nx Y og F7 hS7 ⟨hDB, h114, h195, h196, h197, hI, hDF⟩ (mvP_no hn)⟩, fun h => absurd rfl h⟩
theorem mvP_03 : ∀ (d : Nat) (Y : Nat → List Int) (og : Nat → Int), (mvP X d Y og).2.2 = 0 ∨ (mvP X d Y og).2.2 = 3
  | 0, _, _ => Or.inl rfl
  | d + 1, Y, og => by
    by_cases h : ndX X Y og ((8 - d) / 3) ((8 - d) % 3)
    · by_cases h2 : Y (8 * ((8 - d) / 3) + 7) = []
      · rw [mvP_y h h2]; exact mvP_03 d _ _
      · rw [mvP_3 h h2]; exact Or.inr rfl
    · rw [mvP_no h]; exact mvP_03 d _ _
/-- a move, with all that follows it -/
theorem c_mv {R : Int → MF → Prop} (hS : St F) (hX : ∀ r, r < 24 → Rok (X r)) (hD : DB F 110 X) (h114 : ∀ r : Nat, r < 24 → F 114 r = (r : Int)) (h195 : ∀ i, i < 600 → F 195 i = bnd X i) (h196 : ∀ r, r < 24 → F 196 r = frt X r) (hd : DF F0 F) (hi : i < 3) (hf : f < 3) (ho : o < 3) (hfo : o ≠ f) (ht : t < 200) (h189 : F0 189 i = 2) (h190 : F0 190 i = (f : Int)) (h191 : F0 191 i = (t : Int)) (h192 : F0 192 i = (o : Int))
    (hk : ∀ F', St F' → DF F0 F' → (mvn X f t o = 0 → DB F' 110 (mvX X f t o)) → L_40_52 (mvn X f t o) ((i : Int) + 1) F' R m_no) :
    C_54 (i : Int) F (fun r16 F13 => ((r16 = 0 → C_11 110 F13 (fun F19 => C_42 F19 (fun F23 => L_40_127 r16 (i : Int) 0 F23 R m_no) m_no) m_no) ∧ (¬ (r16 = 0) → L_40_127 r16 (i : Int) 0 F13 R m_no))) m_no := by
  have k189 : ∀ F : MF, DF F0 F → F 189 i = 2 := fun F h => by rw [h.1 189 (by omega)]; exact h189
  have kk : ∀ c, 189 ≤ c → c ≤ 194 → F c = F0 c := fun c h1 h2 => hd.1 c (by omega)
  have stop : ∀ (x : Int) (F' : MF), x ≠ 0 → St F' → DF F0 F' → mvn X f t o = x → L_40_193 x (i : Int) F' R m_no := fun x F' hx hS' hd' he =>
    b_40_193 hS' ⟨fun h => absurd h hx, fun _ => ⟨by omega, by rw [← he]; exact hk F' hS' hd' (fun h => absurd (he.symm.trans h) hx)⟩⟩
  have stop2 : ∀ (x : Int) (F' : MF), x ≠ 0 → St F' → DF F0 F' → mvn X f t o = x → L_40_127 x (i : Int) 0 F' R m_no := fun x F' hx hS' hd' he => by
    refine b_40_127 hS' ?_
    rw [Int.toNat_natCast]
    exact ⟨by omega, fun _ => ⟨fun h => absurd h hx, fun _ => stop x F' hx hS' hd' he⟩, fun h => absurd (k189 F' hd') h⟩
  refine CaI.on (s_54 hS hX hD.1 h114 hi hf ho hfo ht (by rw [kk 190 (by decide) (by decide)]; exact h190) (by rw [kk 191 (by decide) (by decide)]; exact h191) (by rw [kk 192 (by decide) (by decide)]; exact h192)) ?_
  rintro x F13 hS13 (⟨rfl, u1, rfl⟩ | ⟨rfl, u1, u2, rfl⟩ | ⟨rfl, u1, u2, u3, u4, u5⟩)
  · exact ⟨fun h => absurd h (by decide), fun _ => stop2 2 F13 (by decide) hS13 hd (pif_1 u1)⟩
  · exact ⟨fun h => absurd h (by decide), fun _ => stop2 3 F13 (by decide) hS13 hd (by unfold mvn; rw [pif_0 u1, pif_1 u2])⟩
  · refine ⟨fun _ => ?_, fun h => absurd rfl h⟩
    have hI := mv_og hX hf ho hfo u1 u2
    have em : mvn X f t o = if (mvE X f t o).2.2 = 3 then 3 else pif (bnO X (mvE X f t o).1 (mvE X f t o).2.1) 4 0 := by unfold mvn; rw [pif_0 u1, pif_0 u2]
    have hd5 : DF F F13 := ⟨fun c hc => u5 c (by omega), fun j _ => by rw [u5 109 (by omega)]⟩
    refine hs_fol hX hS13 u3 u4 (fun i hi => by rw [u5 195 (by omega)]; exact h195 i hi) (fun r hr => by rw [u5 196 (by omega)]; exact h196 r hr) hI (hd.tr hd5) (fun F' hS' hH' => ?_)
    refine l_127 (P := inR f (tl X f (t - 1)) (mvN X f t)) hX hi h189 9 _ _ F' (Nat.le_refl _) hS' hH' (fun G Y' og' hSG hHG he => ?_) (fun G hSG hdG he => stop 3 G (by decide) hSG hdG (by rw [em]; exact if_pos he))
    have e1 : (mvE X f t o).1 = Y' := by unfold mvE; rw [he]
    have e2 : (mvE X f t o).2.1 = og' := by unfold mvE; rw [he]
    have e3 : (mvE X f t o).2.2 = 0 := by unfold mvE; rw [he]
    rw [e1, e2, e3, if_neg (by decide)] at em
    obtain ⟨hDB, g114, g195, g196, g197, gI, gDF⟩ := hHG
    refine b_40_193 hSG ⟨fun _ => ?_, fun h => absurd rfl h⟩
    rw [Int.toNat_natCast, k189 G gDF]
    refine ⟨by omega, fun h => absurd h (by decide), fun _ => ?_⟩
    refine CaI.on (s_43 (oB := bnd X) (bc := bcm X Y' og') (nB := bnd Y') hSG (fun i hi => ⟨g195 i hi, (bnd_rg4 hX hi).imp (fun h => h) (fun ⟨v, a, b⟩ => ⟨by omega, by omega⟩)⟩) (fun i hi => ⟨g197 i hi, (bcm_cs hX gI).imp (fun h => h.1) (fun ⟨new, a, b⟩ => ⟨by omega, by have := (mv_tok hX gI b).2.2.1; omega⟩)⟩) (fun i hi => hDB.2 i hi)) ?_
    rintro r G2 hSG2 ⟨rfl, ⟨rfl, h⟩ | ⟨rfl, h⟩⟩
    · refine ⟨fun _ => ⟨by omega, ?_⟩, fun h => absurd rfl h⟩
      have e0 : mvn X f t o = 0 := by rw [em]; exact pif_0 (fun ⟨old, a, b, c⟩ => c (h old a b))
      have := hk G2 hSG2 gDF (fun _ => by unfold mvX; rw [e1]; exact hDB)
      rw [e0] at this
      exact this
    · refine ⟨fun h => absurd h (by decide), fun _ => ⟨by omega, ?_⟩⟩
      have e0 : mvn X f t o = 4 := by rw [em]; exact pif_1 h
      have := hk G2 hSG2 gDF (fun h => by omega)
      rw [e0] at this
      exact this
end Ml8
