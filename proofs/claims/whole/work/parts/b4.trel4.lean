/-! TYPES: ALIKE WITH A SLOT OF NO PAIR -/
section Mb4
variable {P : Nat → Nat → Prop} {h H : Nat → Nat} {T : Nat → Int} {Ec : List Int} {s u s0 : Nat} {fi : Int}
theorem rel_out (hR : RelP P h H T) (hP : P s u) (hs : h s0 = s0) (hs6 : s0 < 600) (hn : ∀ a b, P a b → h a ≠ s0) : RelP P (alh h s s0) H T ∧ ale h s s0 fi Ec = Ec := by
  obtain ⟨r1, r2⟩ := hR
  have e1 : ¬ h s = h s0 := by rw [hs]; exact hn s u hP
  unfold alh ale
  rw [if_neg e1, if_neg e1]
  by_cases e2 : h s < 600
  · rw [if_pos e2, if_pos e2]
    refine ⟨⟨fun a b hab => ?_, fun a b a' b' hab hab' hl => ?_⟩, rfl⟩
    · show (if h a = h s then h s0 else h a) < 602 ∧ tyo (if h a = h s then h s0 else h a) = T (H b)
      obtain ⟨k1, k2⟩ := r1 a b hab
      by_cases e3 : h a = h s
      · rw [if_pos e3, hs]
        have t1 := tyo_c (x := s0) (by omega)
        have t2 := tyo_c k1
        omega
      · rw [if_neg e3]; exact ⟨k1, k2⟩
    · have k := r2 a b a' b' hab hab'
      show (if h a = h s then h s0 else h a) = (if h a' = h s then h s0 else h a') ↔ H b = H b'
      by_cases e3 : h a = h s
      · have k3 := k (by omega)
        rw [if_pos e3]
        by_cases e4 : h a' = h s
        · rw [if_pos e4]
          exact ⟨fun _ => k3.mp (e3.trans e4.symm), fun _ => rfl⟩
        · rw [if_neg e4, hs]
          exact ⟨fun e => absurd e.symm (hn a' b' hab'), fun e => absurd ((k3.mpr e).symm.trans e3) e4⟩
      · change (if h a = h s then h s0 else h a) < 600 at hl
        rw [if_neg e3] at hl ⊢
        have k3 := k hl
        by_cases e4 : h a' = h s
        · rw [if_pos e4, hs]
          exact ⟨fun e => absurd e (hn a b hab), fun e => absurd ((k3.mpr e).trans e4) e3⟩
        · rw [if_neg e4]; exact k3
  · have e3 : h s0 < 600 := by omega
    rw [if_neg e2, if_neg e2, if_pos e3, if_pos e3]
    have same : ∀ a b, P a b → (if h a = h s0 then h s else h a) = h a := fun a b hab => by rw [hs, if_neg (hn a b hab)]
    refine ⟨⟨fun a b hab => ?_, fun a b a' b' hab hab' hl => ?_⟩, rfl⟩
    · show (if h a = h s0 then h s else h a) < 602 ∧ tyo (if h a = h s0 then h s else h a) = T (H b)
      rw [same a b hab]
      exact r1 a b hab
    · change (if h a = h s0 then h s else h a) < 600 at hl
      show (if h a = h s0 then h s else h a) = (if h a' = h s0 then h s else h a') ↔ H b = H b'
      rw [same a b hab] at hl ⊢
      rw [same a' b' hab']
      exact r2 a b a' b' hab hab' hl
end Mb4
