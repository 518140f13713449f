/-! USE LINES THAT A MOVE NEEDS, OF THE CLASS -/
def usesX (Y : Nat → List Int) (a b : Nat) : Prop := ∃ u ∈ Uw Y a, uf Y a u.toNat = (b : Int)
/-- a file speaks of what is in another one, and does not use that -/
def ndX (X Y : Nat → List Int) (og : Nat → Int) (a b : Nat) : Prop := a ≠ b ∧ ¬ usesX Y a b ∧ ∃ old new v w : Nat, MvT X Y og old new ∧ bnd X old = (v : Int) ∧ MvT X Y og v w ∧ new / 200 = a ∧ w / 200 = b
section Ml6
variable {F G : MF} {X Y : Nat → List Int} {og s : Nat → Int} {f t o l g a b n r i k : Nat} {P : Nat → Prop}
theorem uw_at (hX : ∀ r, r < 24 → Rok (X r)) (hf : f < 3) (hi : i < (Uw X f).length) : ∃ u : Nat, gx (Uw X f) i = (u : Int) ∧ kn (ks X f) u = 0 := by
  obtain ⟨u, h1, -, h2⟩ := (Cw_pv hX hf).1.2.2 _ (gx_mem hi)
  exact ⟨u, h1, h2⟩
theorem bnd_rg4 (hX : ∀ r, r < 24 → Rok (X r)) (hi : i < 600) : bnd X i = -1 ∨ ∃ v : Nat, bnd X i = (v : Int) ∧ v < 600 := by
  rcases bnd_rg2 hX hi with h | ⟨f, k, h1, h2, -, h3⟩
  · exact Or.inl h
  · have := toks_len hX h1
    exact Or.inr ⟨_, h3, by omega⟩
/-- whether a file needs a USE of another one -/
theorem s_55 (hS : St F) (hX : ∀ r, r < 24 → Rok (X r)) (hI : OgI P X Y og) (hD : DB F 110 Y) (h195 : ∀ i, i < 600 → F 195 i = bnd X i) (h197 : ∀ i, i < 600 → F 197 i = bcm X Y og i) (ha : a < 3) (hb : b < 3) :
    C_55 (a : Int) (b : Int) F (fun x F' => x = pif (ndX X Y og a b) 1 0 ∧ F' = F) m_no := by
  have hY := hI.1
  have i9 : 110 + (20 + 19 * a) ∈ m_I9 := i9_of (by decide) ha
  obtain ⟨Q, hQ⟩ : ∃ Q : Int → MF → Prop, Q = fun x F' => x = pif (ndX X Y og a b) 1 0 ∧ F' = F := ⟨_, rfl⟩
  rw [← hQ]
  have no : ¬ ndX X Y og a b → Q 0 F := fun h => by rw [hQ]; exact ⟨(pif_0 h).symm, rfl⟩
  have or1 : ∀ x : Int, x = 0 ∨ x = 1 → m_or x 1 = 1 ∧ m_or x 0 = x := by
    intro x hx
    rcases hx with rfl | rfl <;> exact ⟨by decide, by decide⟩
  have bc : ∀ i, bcm X Y og i = -1 ∨ ∃ new : Nat, bcm X Y og i = (new : Int) ∧ MvT X Y og i new := fun i => (bcm_cs hX hI).imp (fun h => h.1) (fun h => h)
  -- tokens are looked at
  have l60 : ¬ usesX Y a b → ∀ (d i : Nat) (x : Int), i + d = 600 → (x = 0 ∧ ¬ ∃ old new v w : Nat, old < i ∧ MvT X Y og old new ∧ bnd X old = (v : Int) ∧ MvT X Y og v w ∧ new / 200 = a ∧ w / 200 = b) ∨ (x = 1 ∧ a ≠ b ∧ ∃ old new v w : Nat, MvT X Y og old new ∧ bnd X old = (v : Int) ∧ MvT X Y og v w ∧ new / 200 = a ∧ w / 200 = b) → L_55_60 (a : Int) (b : Int) x (i : Int) F Q m_no := by
    intro hu d
    have fin : ∀ x : Int, (x = 0 ∧ ¬ ndX X Y og a b) ∨ (x = 1 ∧ ndX X Y og a b) → (x = 0 ∨ x = 1) ∧ Q x F := fun x hx => by
      rw [hQ]
      rcases hx with ⟨rfl, h⟩ | ⟨rfl, h⟩
      · exact ⟨Or.inl rfl, (pif_0 h).symm, rfl⟩
      · exact ⟨Or.inr rfl, (pif_1 h).symm, rfl⟩
    induction d with
    | zero =>
      intro i x hi hx
      obtain rfl : i = 600 := by omega
      refine b_55_60 hS ⟨fun h => by omega, fun _ => ?_⟩
      by_cases hab : a = b
      · rcases hx with ⟨hx, h⟩ | ⟨hx, h⟩
        · exact fin x (Or.inl ⟨hx, fun h2 => h2.1 hab⟩)
        · exact absurd hab h.1
      · refine fin x (hx.imp (fun h => ⟨h.1, fun h2 => h.2 ?_⟩) (fun h => ⟨h.1, hab, hu, h.2.2⟩))
        obtain ⟨old, new, v, w, h3⟩ := h2.2.2
        exact ⟨old, new, v, w, (mv_tok hX hI h3.1).1, h3⟩
    | succ d ih =>
      intro i x hi hx
      have hi2 : i < 600 := by omega
      have hx01 : x = 0 ∨ x = 1 := hx.imp (fun h => h.1) (fun h => h.1)
      have nx : ∀ y : Int, (y = 0 ∧ x = 0 ∧ ¬ ∃ new v w : Nat, MvT X Y og i new ∧ bnd X i = (v : Int) ∧ MvT X Y og v w ∧ new / 200 = a ∧ w / 200 = b) ∨ (y = 1 ∧ a ≠ b ∧ ∃ old new v w : Nat, MvT X Y og old new ∧ bnd X old = (v : Int) ∧ MvT X Y og v w ∧ new / 200 = a ∧ w / 200 = b) → L_55_60 (a : Int) (b : Int) y ((i : Int) + 1) F Q m_no := fun y hy => by
        have := ih (i + 1) y (by omega) (hy.imp (fun h => ⟨h.1, fun ⟨old, new, v, w, k1, k2⟩ => by
          by_cases e : old = i
          · subst e; exact h.2.2 ⟨new, v, w, k2⟩
          · rcases hx with ⟨-, h3⟩ | ⟨h3, -⟩
            · exact h3 ⟨old, new, v, w, by omega, k2⟩
            · have := h.2.1; omega⟩) (fun h => h))
        rw [show ((i + 1 : Nat) : Int) = (i : Int) + 1 by omega] at this
        exact this
      have nx0 : (¬ ∃ new v w : Nat, MvT X Y og i new ∧ bnd X i = (v : Int) ∧ MvT X Y og v w ∧ new / 200 = a ∧ w / 200 = b) → L_55_60 (a : Int) (b : Int) (m_or x 0) ((i : Int) + 1) F Q m_no := fun h => by
        rw [(or1 x hx01).2]
        rcases hx with ⟨h1, -⟩ | ⟨h1, h2⟩
        · exact nx x (Or.inl ⟨h1, h1, h⟩)
        · exact nx x (Or.inr ⟨h1, h2⟩)
      refine b_55_60 hS ⟨fun _ => ⟨fun hab => ?_, fun hab => ?_⟩, fun h => by omega⟩
      · refine fin x ?_
        rcases hx with ⟨h1, h2⟩ | ⟨h1, h2⟩
        · exact Or.inl ⟨h1, fun h => h.1 (by omega)⟩
        · exact absurd (by omega) h2.1
      · rw [Int.toNat_natCast, h195 i hi2, h197 i hi2]
        refine ⟨by omega, by omega, fun e => ?_, fun e => ?_⟩
        · have hn : ¬ ∃ new v w : Nat, MvT X Y og i new ∧ bnd X i = (v : Int) ∧ MvT X Y og v w ∧ new / 200 = a ∧ w / 200 = b := fun ⟨new, v, w, _, h2, _⟩ => by omega
          exact ⟨fun _ => ⟨by omega, nx0 hn⟩, fun _ => ⟨by omega, nx0 hn⟩⟩
        · obtain ⟨v, v1, v2⟩ := (bnd_rg4 hX hi2).resolve_left e
          rw [v1, Int.toNat_natCast, h197 v v2]
          refine ⟨by omega, by omega, fun h => ⟨by omega, nx0 (fun ⟨new, v', w, h1, _⟩ => ?_)⟩, fun h => ⟨fun h2 => ⟨by omega, nx0 (fun ⟨new, v', w, h1, h3, h4, _⟩ => ?_)⟩, fun h2 => ?_⟩⟩
          · rw [bcm_at hX hI h1] at h; omega
          · have : v' = v := by omega
            subst this
            rw [bcm_at hX hI h4] at h2; omega
          · obtain ⟨new, n1, n2⟩ := (bc i).resolve_left (by omega)
            obtain ⟨w, m1, m2⟩ := (bc v).resolve_left (by omega)
            have t1 := mv_tok hX hI n2
            have t2 := mv_tok hX hI m2
            rw [n1, m1]
            have hn : ¬ (new / 200 = a ∧ w / 200 = b) → ¬ ∃ new v w : Nat, MvT X Y og i new ∧ bnd X i = (v : Int) ∧ MvT X Y og v w ∧ new / 200 = a ∧ w / 200 = b := fun hne ⟨new', v', w', h3, h4, h5, h6, h7⟩ => by
              have e1 := mv_fun hX hI n2 h3
              have : v' = v := by omega
              subst this
              have e2 := mv_fun hX hI m2 h5
              exact hne ⟨by rw [e1]; exact h6, by rw [e2]; exact h7⟩
            refine ⟨by omega, fun h3 => ⟨by omega, fun h4 => ⟨by omega, ?_⟩, fun h4 => ⟨by omega, nx0 (hn (fun h => h4 (by omega)))⟩⟩, fun h3 => ⟨by omega, nx0 (hn (fun h => h3 (by omega)))⟩⟩
            rw [(or1 x hx01).1]
            exact nx 1 (Or.inr ⟨rfl, fun h => hab (by omega), i, new, v, w, n2, v1, m2, by omega, by omega⟩)
  -- USE items are looked at
  have gu := (hD.1.2 a ha).2.2.2.2
  have hUl : (Uw Y a).length ≤ 40 := (Fw_len hY ha).2.1
  have l13 : ∀ (d i : Nat), i + d = (Uw Y a).length → (∀ j, j < i → uf Y a (gx (Uw Y a) j).toNat ≠ (b : Int)) → (0 < i → a ≠ b) → L_55_13 (a : Int) (b : Int) (110 + (20 + 19 * a)) (i : Int) F Q m_no := by
    intro d
    induction d with
    | zero =>
      intro i hi hz hab
      have hc : F (110 + (20 + 19 * a)) 12 = ((Uw Y a).length : Int) := gu.1
      refine b_55_13 i9 hS ?_
      rw [hc]
      refine ⟨fun h => by omega, fun _ => ?_⟩
      have hu : ¬ usesX Y a b := fun ⟨u, u1, u2⟩ => by
        obtain ⟨j, hj, rfl⟩ := List.mem_iff_getElem.mp u1
        rw [← gx_el hj] at u2
        exact hz j (by omega) u2
      exact l60 hu 600 0 0 (by decide) (Or.inl ⟨rfl, fun ⟨old, _, _, _, h, _⟩ => absurd h (Nat.not_lt_zero old)⟩)
    | succ d ih =>
      intro i hi hz hab
      have hc : F (110 + (20 + 19 * a)) 12 = ((Uw Y a).length : Int) := gu.1
      have hi2 : i < (Uw Y a).length := by omega
      have hU : F (110 + (20 + 19 * a) + 9) i = gx (Uw Y a) i := gu.2 i hi2
      obtain ⟨u, u1, u2⟩ := uw_at hY ha hi2
      refine b_55_13 i9 hS ?_
      rw [hc, Int.toNat_natCast, hU, u1]
      refine ⟨fun _ => ⟨fun e => no (fun h => h.1 (by omega)), fun e => ⟨by omega, ?_⟩⟩, fun h => by omega⟩
      refine CaI.on (s_16 (n := 110) (by decide) hS hY hD.1 ha u2) ?_
      rintro r F5 hS5 ⟨rfl, rfl⟩
      refine ⟨fun h => no (fun h2 => h2.2.1 ⟨gx (Uw Y a) i, gx_mem hi2, by rw [u1, Int.toNat_natCast]; exact h⟩), fun h => ⟨by omega, ?_⟩⟩
      have := ih (i + 1) (by omega) (fun j hj => by
        by_cases c : j = i
        · rw [c, u1, Int.toNat_natCast]; exact h
        · exact hz j (by omega)) (fun _ h => e (by omega))
      rw [show ((i + 1 : Nat) : Int) = (i : Int) + 1 by omega] at this
      exact this
  exact c_55 hS ⟨by omega, by rw [Int.toNat_natCast]; exact l13 (Uw Y a).length 0 (by omega) (fun j hj => absurd hj (Nat.not_lt_zero j)) (fun h => absurd h (Nat.lt_irrefl 0))⟩
end Ml6
