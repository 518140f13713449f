/-! TYPES: SLOTS AND THINGS -/
/-- slots of the class and things of the reference that are the same (P): the same types; those without a type are alike on both sides -/
def RelP (P : Nat → Nat → Prop) (h H : Nat → Nat) (T : Nat → Int) : Prop := (∀ s u, P s u → h s < 602 ∧ tyo (h s) = T (H u)) ∧ ∀ s u s' u', P s u → P s' u' → h s < 600 → (h s = h s' ↔ H u = H u')
section Mb1
variable {P : Nat → Nat → Prop} {h H : Nat → Nat} {T : Nat → Int} {E Ec : List Int} {s u c : Nat} {v e fi : Int}
theorem tyo_c {x : Nat} (hx : x < 602) : (x < 600 ∧ tyo x = 0) ∨ (x = 600 ∧ tyo x = 1) ∨ (x = 601 ∧ tyo x = 2) := by
  unfold tyo
  by_cases e : x = 600
  · rw [if_pos e]; exact Or.inr (Or.inl ⟨e, rfl⟩)
  · rw [if_neg e]
    by_cases e1 : x = 601
    · rw [if_pos e1]; exact Or.inr (Or.inr ⟨e1, rfl⟩)
    · rw [if_neg e1]; exact Or.inl ⟨by omega, rfl⟩
theorem rel_mu (hR : RelP P h H T) (hP : P s u) (hc : h c = c) (hv : (c = 600 ∧ v = 1) ∨ (c = 601 ∧ v = 2)) :
    RelP P (alh h s c) (muR (H, T, E) u v e).1 (muR (H, T, E) u v e).2.1 ∧ ((ale h s c fi Ec = Ec ∧ (muR (H, T, E) u v e).2.2 = E) ∨ (ale h s c fi Ec = Ec ++ [fi] ∧ (muR (H, T, E) u v e).2.2 = E ++ [e])) := by
  obtain ⟨r1, r2⟩ := hR
  obtain ⟨hs, ht⟩ := r1 s u hP
  have ty := tyo_c hs
  unfold alh ale muR
  rw [hc]
  by_cases e1 : h s = c
  · have t0 : ¬ (H, T, E).2.1 ((H, T, E).1 u) = 0 := by show ¬ T (H u) = 0; omega
    have t1 : (H, T, E).2.1 ((H, T, E).1 u) = v := by show T (H u) = v; omega
    rw [if_pos e1, if_pos e1, if_neg t0, if_pos t1]
    exact ⟨⟨r1, r2⟩, Or.inl ⟨rfl, rfl⟩⟩
  · rw [if_neg e1, if_neg e1]
    by_cases e2 : h s < 600
    · have t0 : (H, T, E).2.1 ((H, T, E).1 u) = 0 := by show T (H u) = 0; omega
      rw [if_pos e2, if_pos e2, if_pos t0]
      refine ⟨⟨fun a b hab => ?_, fun a b a' b' hab hab' hl => ?_⟩, Or.inl ⟨rfl, rfl⟩⟩
      · show (if h a = h s then c else h a) < 602 ∧ tyo (if h a = h s then c else h a) = (if H b = H u then v else T (H b))
        have r := r2 s u a b hP hab e2
        obtain ⟨q1, q2⟩ := r1 a b hab
        by_cases e3 : h a = h s
        · rw [if_pos e3, if_pos (r.mp e3.symm).symm]
          have := tyo_c (x := c) (by omega)
          omega
        · rw [if_neg e3, if_neg (fun e4 => e3 (r.mpr e4.symm).symm)]
          exact ⟨q1, q2⟩
      · change (if h a = h s then c else h a) < 600 at hl
        show (if h a = h s then c else h a) = (if h a' = h s then c else h a') ↔ H b = H b'
        by_cases e3 : h a = h s
        · rw [if_pos e3] at hl; omega
        · rw [if_neg e3] at hl ⊢
          by_cases e4 : h a' = h s
          · rw [if_pos e4]
            have r := r2 s u a' b' hP hab' e2
            have r' := r2 a b a' b' hab hab' hl
            have k1 : h a ≠ h a' := fun e5 => e3 (e5.trans e4)
            exact ⟨fun e5 => by omega, fun e5 => absurd (r'.mpr e5) k1⟩
          · rw [if_neg e4]
            exact r2 a b a' b' hab hab' hl
    · have t0 : ¬ (H, T, E).2.1 ((H, T, E).1 u) = 0 := by show ¬ T (H u) = 0; omega
      have t1 : ¬ (H, T, E).2.1 ((H, T, E).1 u) = v := by show ¬ T (H u) = v; omega
      have c6 : ¬ c < 600 := by omega
      rw [if_neg e2, if_neg e2, if_neg c6, if_neg c6, if_neg t0, if_neg t1]
      exact ⟨⟨r1, r2⟩, Or.inr ⟨rfl, rfl⟩⟩
end Mb1
