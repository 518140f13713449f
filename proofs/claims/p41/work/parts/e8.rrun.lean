/-! RUNNING, OF THE REFERENCE: all -/
section Me8
variable {F G : MF} {X : Nat → List Int} {f j top : Nat} {x1 x2 x y : Int} {nn : Nat → Nat} {K : List Int}
/-- the token of the function at a place -/
def fnt (X : Nat → List Int) (f j : Nat) : Nat := (gx ((Fw X f).map (fun e => e.1)) j).toNat
theorem fnt_ok (hX : ∀ r, r < 24 → Rok (X r)) (hf : f < 3) (hj : j < (Fw X f).length) : fnt X f j < 192 ∧ fix' (Fw X f) ((fnt X f j : Nat) : Int) 0 ≠ -1 ∧ gx ((Fw X f).map (fun e => e.1)) j = ((fnt X f j : Nat) : Int) := by
  have he : (Fw X f)[j] ∈ Fw X f := List.getElem_mem hj
  obtain ⟨p, m, i, a1, a2, a3, a4, a5, a6, a7⟩ := Fw_tok hX hf he
  have e : gx ((Fw X f).map (fun e => e.1)) j = (p : Int) := by
    unfold gx
    rw [List.getD_eq_getElem?_getD, List.getElem?_map, List.getElem?_eq_getElem hj]
    exact a2
  have k0 := a7 0 (Nat.zero_le _)
  rw [show p + 2 * 0 = p by omega] at k0
  have hl := ks_len hX hf
  have hp : p < 192 := by
    rcases Nat.lt_or_ge p 192 with h | h
    · exact h
    · rw [kn_end (by omega)] at k0; omega
  have e2 : fnt X f j = p := by unfold fnt; rw [e, Int.toNat_natCast]
  rw [e2]
  exact ⟨hp, fix_mem _ _ _ ⟨_, he, a2⟩, e⟩
end Me8
