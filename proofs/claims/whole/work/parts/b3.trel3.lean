/-! TYPES: A NEW THING -/
section Mb3
variable {P : Nat → Nat → Prop} {h H : Nat → Nat} {T : Nat → Int} {E : List Int} {c u0 s0 v : Nat} {k : Int}
def Padd (P : Nat → Nat → Prop) (s0 u0 : Nat) : Nat → Nat → Prop := fun s u => P s u ∨ (s = s0 ∧ u = u0)
/-- with a type -/
theorem rel_st (hR : RelP P h H T) (hn : ∀ s u, P s u → H u ≠ u0) (h0 : H u0 = u0) (hc : h c = c) (hk : (c = 600 ∧ k = 1) ∨ (c = 601 ∧ k = 2)) : RelP (Padd P c u0) h (stR (H, T, E) u0 k).1 (stR (H, T, E) u0 k).2.1 := by
  obtain ⟨r1, r2⟩ := hR
  have tc := tyo_c (x := c) (by omega)
  refine ⟨fun s u hsu => ?_, fun s u s' u' hsu hsu' hl => ?_⟩
  · show h s < 602 ∧ tyo (h s) = (if H u = u0 then k else T (H u))
    rcases hsu with hp | ⟨rfl, rfl⟩
    · rw [if_neg (hn s u hp)]; exact r1 s u hp
    · rw [if_pos h0, hc]
      omega
  · show h s = h s' ↔ H u = H u'
    rcases hsu with hp | ⟨rfl, rfl⟩
    · rcases hsu' with hp' | ⟨rfl, rfl⟩
      · exact r2 s u s' u' hp hp' hl
      · rw [h0, hc]
        exact ⟨fun e => by omega, fun e => absurd e (hn s u hp)⟩
    · rw [hc] at hl
      omega
/-- with a slot of its own -/
theorem rel_own (hR : RelP P h H T) (hn : ∀ s u, P s u → H u ≠ u0 ∧ h s ≠ s0) (h0 : H u0 = u0) (hs : h s0 = s0) (hs6 : s0 < 600) (ht : T u0 = 0) : RelP (Padd P s0 u0) h H T := by
  obtain ⟨r1, r2⟩ := hR
  have tc := tyo_c (x := s0) (by omega)
  refine ⟨fun s u hsu => ?_, fun s u s' u' hsu hsu' hl => ?_⟩
  · rcases hsu with hp | ⟨rfl, rfl⟩
    · exact r1 s u hp
    · rw [h0, hs, ht]
      omega
  · rcases hsu with hp | ⟨rfl, rfl⟩
    · rcases hsu' with hp' | ⟨rfl, rfl⟩
      · exact r2 s u s' u' hp hp' hl
      · rw [h0, hs]
        exact ⟨fun e => absurd e (hn s u hp).2, fun e => absurd e (hn s u hp).1⟩
    · rcases hsu' with hp' | ⟨rfl, rfl⟩
      · rw [h0, hs]
        exact ⟨fun e => absurd e.symm (hn s' u' hp').2, fun e => absurd e.symm (hn s' u' hp').1⟩
      · exact ⟨fun _ => rfl, fun _ => rfl⟩
/-- with the slot of a thing -/
theorem rel_lk (hR : RelP P h H T) (hn : ∀ s u, P s u → H u ≠ u0) (h0 : H u0 = u0) (hP : P c v) : RelP (Padd P c u0) h (lkR (H, T, E) u0 v).1 (lkR (H, T, E) u0 v).2.1 := by
  obtain ⟨r1, r2⟩ := hR
  have e0 : (if H u0 = u0 then H v else H u0) = H v := if_pos h0
  have e1 : ∀ s u, P s u → (if H u = u0 then H v else H u) = H u := fun s u hp => if_neg (hn s u hp)
  refine ⟨fun s u hsu => ?_, fun s u s' u' hsu hsu' hl => ?_⟩
  · show h s < 602 ∧ tyo (h s) = T (if H u = u0 then H v else H u)
    rcases hsu with hp | ⟨rfl, rfl⟩
    · rw [e1 s u hp]; exact r1 s u hp
    · rw [e0]; exact r1 _ _ hP
  · show h s = h s' ↔ (if H u = u0 then H v else H u) = (if H u' = u0 then H v else H u')
    rcases hsu with hp | ⟨rfl, rfl⟩
    · rw [e1 s u hp]
      rcases hsu' with hp' | ⟨rfl, rfl⟩
      · rw [e1 s' u' hp']; exact r2 s u s' u' hp hp' hl
      · rw [e0]; exact r2 s u _ v hp hP hl
    · rw [e0]
      rcases hsu' with hp' | ⟨rfl, rfl⟩
      · rw [e1 s' u' hp']; exact r2 _ v s' u' hP hp' hl
      · rw [e0]; exact ⟨fun _ => rfl, fun _ => rfl⟩
theorem RelP.sub {Q : Nat → Nat → Prop} (hR : RelP P h H T) (hQ : ∀ s u, Q s u → P s u) : RelP Q h H T := ⟨fun s u k => hR.1 s u (hQ s u k), fun s u s' u' k k' => hR.2 s u s' u' (hQ s u k) (hQ s' u' k')⟩
end Mb3
