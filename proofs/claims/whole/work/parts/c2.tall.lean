/-! TYPES: all files, on both sides -/
/-- what the reference holds when it has typed all -/
def TyM (F : MF) (X : Nat → List Int) : Prop := ∃ r : TR, TyR F r ∧ (∀ s, Dc X s → r.2.1 (r.1 s) = tyo ((tfil X 3).1 s)) ∧ r.2.2 = (tfil X 3).2.2.map trI
section Mc2
variable {F G : MF} {X : Nat → List Int} {f c : Nat} {nn : Nat → Nat}
theorem LKd.base (h : LKd F X nn) : BaseR F X := by
  refine ⟨h.1.hX, h.2.1, h.fni, fun g t hg ht => ?_⟩
  exact (lexm_tok (h.1.2.1 g hg) ht).1
theorem s_273 (hS : St F) (hK : LKd F X nn) : C_273 F (fun F' => TyM F' X ∧ frU F F') m_no := by
  have hB := hK.base
  have hX := hB.1
  have hR := hK.1
  have nl := hR.2.2.2.2.1
  have l36 : ∀ (d f : Nat) (G : MF) (r : TR), f + d = 3 → St G → frU F G → TyR G r → TJ X (Ah X f 0) (fun m => nn f ≤ m) [] ((tfil X f).1, (tfil X f).2.2) r → L_273_36 (f : Int) G (fun F' => TyM F' X ∧ frU F F') m_no := by
    intro d
    induction d with
    | zero =>
      intro f G r hf hSG hfr hT hJ
      obtain rfl : f = 3 := by omega
      exact b_273_36 hSG ⟨fun h => by omega, fun _ => ⟨⟨r, hT, fun s hs => ((hJ.1.1 s s (Or.inl ⟨hs, rfl⟩)).2).symm, hJ.2.1⟩, hfr⟩⟩
    | succ d ih =>
      intro f G r hf hSG hfr hT hJ
      have hf3 : f < 3 := by omega
      have ti := tfil_inv hSG hX f (by omega)
      have hbx := Cw_bx (f := f) hX hf3
      have hmono := (nl f hf3).1
      have hle := hR.nle (f + 1) (by omega)
      obtain ⟨I, ⟨i1, i2, i3, i4⟩, i5⟩ := hK.2.2 f hf3
      refine b_273_36 hSG ⟨fun _ => ⟨by omega, ?_⟩, fun h => by omega⟩
      rw [Int.toNat_natCast, hfr.1 245 (by decide) (by decide) (by decide) (by decide)]
      have next : ∀ (G' : MF) (h' : Nat → Nat) (E' : List Int) (r' : TR), St G' → frU F G' → TyR G' r' → TJ X (Ah X f (0 + (wrdO I).length)) (fun m => nn f ≤ m ∧ nn (f + 1) ≤ m) [] (h', E') r' → tfil X (f + 1) = (h', [], E') → L_273_48 (f : Int) (-1) G' (fun F' => TyM F' X ∧ frU F F') m_no := by
        intro G' h' E' r' hS' hfr' hT' hJ' he
        refine b_273_48 hS' ⟨fun _ => ⟨by omega, ?_⟩, fun h => absurd rfl h⟩
        rw [show (f : Int) + 1 = ((f + 1 : Nat) : Int) by omega]
        refine ih (f + 1) G' r' (by omega) hS' hfr' hT' ?_
        rw [he]
        refine hJ'.mo (fun z hz => hz) (fun s hs => ?_) (fun m hm => ⟨by omega, hm⟩)
        obtain ⟨a1, a2, a3⟩ := hs
        refine ⟨a1, a2, Or.inl ?_⟩
        rcases a3 with a3 | ⟨a3, -⟩
        · omega
        · omega
      have etf : tfil X (f + 1) = trun X f (Cw X f) 0 (tfil X f) := rfl
      revert etf next hJ ti
      generalize tfil X f = y
      obtain ⟨h, st, E⟩ := y
      rintro hJ ⟨t1, t2, t3⟩ next etf
      change st.length = 0 at t1
      have hst : st = [] := List.length_eq_zero_iff.mp t1
      subst hst
      change E.length + 0 ≤ _ at t3
      refine l_273i hB hf3 (nn (f + 1)) (nn (f + 1)) I 0 (nn f) (nn f) _ G h E r 0 _ i1 i5 (fun e he => by rw [i2] at he; exact he) ⟨by rw [i4]; omega, fun j hj => by rw [i4, Nat.zero_add]⟩ hfr hSG hT hJ (by rw [i4]; omega) (by omega) ?_
      intro G' h' E' r' hS' hfr' hT' hJ' tr' _
      rw [i4] at tr'
      exact next G' h' E' r' hS' hfr' hT' hJ' (etf.trans tr')
  have l7 : ∀ (d i : Nat) (G : MF), i + d = 2200 → St G → (∀ s, s < i → G 255 s = 0 ∧ G 256 s = (s : Int)) → G 201 78 = 0 → frU F G → L_273_7 (i : Int) G (fun F' => TyM F' X ∧ frU F F') m_no := by
    intro d
    induction d with
    | zero =>
      intro i G hi hSG hs h5 hfr
      refine b_273_7 hSG ⟨fun h => by omega, fun _ => ?_⟩
      have hT : TyR G ((fun s => s), (fun _ => 0), []) := ⟨⟨fun _ => 0, fun s hs' => ⟨hs', rfl, Or.inl ⟨(hs s (by omega)).2, rfl, rfl⟩⟩⟩, fun s hs' _ => (hs s (by omega)).1, by rw [h5]; rfl, fun j h => absurd h (Nat.not_lt_zero j)⟩
      refine l36 3 0 G _ (by decide) hSG hfr hT ⟨rel_0 (fun s u h => ?_), rfl, fun z hz => absurd hz (List.not_mem_nil), fun s hs' => ⟨hs'.1, hs'.2.1, rfl, fun x hx => hx⟩, fun m _ => ⟨rfl, rfl, fun x hx => hx⟩, rfl, rfl⟩
      rcases h with ⟨h1, h2⟩ | ⟨z, hz, -⟩
      · exact ⟨h2.symm, h1.1⟩
      · exact absurd hz (List.not_mem_nil)
    | succ d ih =>
      intro i G hi hSG hs h5 hfr
      refine b_273_7 hSG ⟨fun _ => ⟨by omega, by omega, by omega, ?_⟩, fun h => by omega⟩
      rw [Int.toNat_natCast, show (i : Int) + 1 = ((i + 1 : Nat) : Int) by omega]
      refine ih (i + 1) _ (by omega) ((hSG.arr kd_255 (by omega)).arr kd_256 (by omega)) (fun s hs' => ?_) (by rw [u_ne (Or.inl (by decide)), u_ne (Or.inl (by decide))]; exact h5) ⟨fun c x y z u => by rw [up_row (by omega), up_row (by omega)]; exact hfr.1 c x y z u, fun j x y z => by rw [u_ne (Or.inl (by decide)), u_ne (Or.inl (by decide))]; exact hfr.2 j x y z⟩
      by_cases e : s = i
      · rw [e, u_eq, u_ne (Or.inl (by decide)), u_eq]; exact ⟨rfl, rfl⟩
      · rw [u_ne (Or.inr e), u_ne (Or.inr e), u_ne (Or.inr e), u_ne (Or.inr e)]; exact hs s (by omega)
  refine c_273 hS (l7 2200 0 _ (by decide) (hS.fld kd_201 rk_12_78) (fun s h => absurd h (Nat.not_lt_zero s)) u_eq ⟨fun c x _ _ _ => up_row x, fun j _ _ z => u_ne (Or.inr z)⟩)
end Mc2
