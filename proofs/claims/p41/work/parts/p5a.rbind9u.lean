/-! BINDING OF THE REFERENCE: what is in a function -/
section M9u2
variable {F : MF} {X : Nat → List Int} {f k vf p n : Nat} {R : MF → Prop}
theorem bset_1 {o q e : Nat} {t : Int} (ho : o = 7 ∨ o = 8 ∨ o = 15 ∨ o = 14 ∧ kn (ks X f) q = 0) (hq : q < 256) : bset X f (mk o q e) t ↔ t = (q : Int) := by
  unfold bset tin
  rw [wo_mk (by omega), wt_mk (by omega) hq, Int.toNat_natCast]
  constructor
  · rintro ⟨h | h, -⟩
    · omega
    · exact h.2
  · intro h
    exact ⟨Or.inr ⟨by omega, h⟩, fun h2 => by omega⟩
end M9u2
