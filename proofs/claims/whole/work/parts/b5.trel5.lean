/-! TYPES: where it begins -/
section Mb5
variable {F : MF} {X : Nat → List Int} {P : Nat → Nat → Prop}
theorem LKd.fni {nn : Nat → Nat} (h : LKd F X nn) : FnI F X := fun g hg => by
  obtain ⟨I, i1, i2⟩ := h.2.2 g hg
  refine ⟨_, _, I, i1, fun it hi h2 => ?_⟩
  obtain ⟨_, L, W1, o⟩ := HIt.fo I _ i2 it hi h2
  exact ⟨o.2.2.2.2.2.1, o.2.2.2.2.2.2.1⟩
theorem rel_0 (hP : ∀ s u, P s u → s = u ∧ s < 600) : RelP P (fun s => s) (fun u => u) (fun _ => 0) := by
  refine ⟨fun s u h => ?_, fun s u s' u' h h' _ => ?_⟩
  · obtain ⟨-, h2⟩ := hP s u h
    have t := tyo_c (x := s) (by omega)
    show s < 602 ∧ tyo s = 0
    omega
  · obtain ⟨e1, -⟩ := hP s u h
    obtain ⟨e2, -⟩ := hP s' u' h'
    show s = s' ↔ u = u'
    rw [e1, e2]
end Mb5
