/-! TYPES, OF THE CLASS: findAll -/
section Ma3
variable {F F0 : MF} {X : Nat → List Int} {n : Nat}
theorem rc_id : ∀ k, rc (fun s => s) k = k
  | 0 => rfl
  | k + 1 => by show rc (fun s => s) k + (if k = k then 1 else 0) = k + 1; rw [rc_id k, if_pos rfl]
theorem s_130 (hSh : Shp X) (hn : n ∈ m_I1) (hS : St F) (hX : ∀ r, r < 24 → Rok (X r)) (hD : DTT F n X) (hb : ∀ id, id < 600 → F (n + 7) id = bnd X id) :
    C_130 n F (fun F' => TyS F' (tfil X 3) ∧ fr TyP F F') m_no := by
  have l29 : ∀ (d f : Nat) (F1 : MF), f + d = 3 → St F1 → TyS (m_up F1 84 3 0) (tfil X f) → fr TyP F F1 → (d = 0 → TyS F1 (tfil X f)) → L_130_29 n (f : Int) F1 (fun F' => TyS F' (tfil X 3) ∧ fr TyP F F') m_no := by
    intro d
    induction d with
    | zero =>
      intro f F1 hf hS1 hT hfr h0
      obtain rfl : f = 3 := by omega
      exact b_130_29 hn hS1 ⟨fun h => by omega, fun _ => ⟨h0 rfl, hfr⟩⟩
    | succ d ih =>
      intro f F1 hf hS1 hT hfr _
      have ti := tfil_inv hSh hX f (by omega)
      refine b_130_29 hn hS1 ⟨fun _ => ⟨by omega, ?_⟩, fun h => by omega⟩
      rw [Int.toNat_natCast]
      have hsk := (hSh f (by omega)).1
      have hsr := (hSh f (by omega)).2
      have hbx := Cw_bx (f := f) hX (by omega)
      have d0 : (Cw X f).drop 0 = Cw X f := rfl
      have K : ∀ F', St F' → TyS F' (trun X f ((Cw X f).drop 0) 0 (tfil X f)) → fr TyP F F' → L_130_29 n ((f + 1 : Nat) : Int) F' (fun F' => TyS F' (tfil X 3) ∧ fr TyP F F') m_no := by
        intro F' hS' hT' hf'
        rw [d0] at hT'
        have hT2 : TyS F' (tfil X (f + 1)) := hT'
        have ti2 := tfil_inv hSh hX (f + 1) (by omega)
        refine ih (f + 1) F' (by omega) hS' ?_ hf' (fun _ => hT2)
        have e3 : F' 84 3 = 0 := by rw [hT2.2.1.1, ti2.1]; rfl
        have eF : m_up F' 84 3 0 = F' := by
          funext c i
          by_cases e : c = 84 ∧ i = 3
          · rw [e.1, e.2, u_eq, e3]
          · rw [u_ne (by omega)]
        rw [eF]
        exact hT2
      have hfr2 : fr TyP F (m_up F1 84 3 0) := hfr.up (Or.inl rfl)
      have hS2 : St (m_up F1 84 3 0) := hS1.fld kd_84 rk_10_3
      revert K; revert hT; revert ti
      generalize tfil X f = y
      obtain ⟨h, st, E⟩ := y
      rintro ⟨t1, t2, t3⟩ hT K
      change st.length = 0 at t1
      change E.length + st.length ≤ _ at t3
      exact l_130 hn hX (by omega) hD hb (Cw X f).length 0 0 (-1) false _ h st E (by omega) (by rw [d0, t1]; exact hsk) (by rw [d0]; exact hsr) (fun h => by cases h) t2 (by rw [d0]; omega) (by rw [d0]; omega) hS2 hT hfr2 K
  have l7 : ∀ (d i : Nat) (F1 : MF), i + d = 602 → St F1 → (∀ s, s < i → F1 85 s = (s : Int)) → F1 84 5 = 0 → fr TyP F F1 → L_130_7 n (i : Int) F1 (fun F' => TyS F' (tfil X 3) ∧ fr TyP F F') m_no := by
    intro d
    induction d with
    | zero =>
      intro i F1 hi hS1 hs h5 hfr
      refine b_130_7 hn hS1 ⟨fun h => by omega, fun _ => l29 3 0 F1 (by decide) hS1 ?_ hfr (fun h => by cases h)⟩
      refine ⟨⟨rfl, rfl, fun _ => 0, 0, by show 0 + rc (fun s => s) 600 = 600; rw [rc_id], fun s hs' => ⟨Nat.le_refl _, hs', rfl, Or.inl ⟨?_, rfl, rfl⟩⟩⟩, ⟨by rw [u_eq]; rfl, fun j h => absurd h (Nat.not_lt_zero j), fun j h => absurd h (Nat.not_lt_zero j)⟩, ?_, fun j h => absurd h (Nat.not_lt_zero j)⟩
      · rw [u_ne (Or.inl (by decide))]; exact hs s (by omega)
      · rw [u_ne (Or.inr (by decide))]; exact h5
    | succ d ih =>
      intro i F1 hi hS1 hs h5 hfr
      refine b_130_7 hn hS1 ⟨fun _ => ⟨by omega, by omega, ?_⟩, fun h => by omega⟩
      rw [Int.toNat_natCast, show (i : Int) + 1 = ((i + 1 : Nat) : Int) by omega]
      refine ih (i + 1) _ (by omega) (hS1.arr kd_85 (by omega)) (fun s hs' => ?_) (by rw [u_ne (Or.inl (by decide))]; exact h5) (hfr.up (by unfold TyP; omega))
      by_cases e : s = i
      · rw [e, u_eq]
      · rw [u_ne (Or.inr e)]; exact hs s (by omega)
  exact c_130 hn hS (l7 602 0 _ (by decide) (hS.fld kd_84 rk_10_5) (fun s h => absurd h (Nat.not_lt_zero s)) (u_eq) (fr.rf.up (Or.inl rfl)))
/-- the type of a head: none, 1 or 2 -/
def tyo (x : Nat) : Int := if x = 600 then 1 else if x = 601 then 2 else 0
theorem s_139 {h : Nat → Nat} {st : List (Nat × Int)} {E : List Int} {s : Nat} (hS : St F) (hT : TyS F (h, st, E)) (hs : s < 602) : C_139 (s : Int) F (fun r F' => r = tyo (h s) ∧ F' = F) m_no := by
  refine c_139 hS ⟨fun h => by omega, fun _ => ?_⟩
  refine CaI.on (s_138 hS (show UFc F h from hT.1) hs) ?_
  rintro r F1 hS1 ⟨rfl, rfl⟩
  unfold tyo
  refine ⟨fun e => ⟨by rw [if_pos (by omega)], rfl⟩, fun e => ⟨fun e2 => ⟨by rw [if_neg (by omega), if_pos (by omega)], rfl⟩, fun e2 => ⟨by rw [if_neg (by omega), if_neg (by omega)], rfl⟩⟩⟩
end Ma3
