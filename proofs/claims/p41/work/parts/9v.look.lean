/-! BINDING OF THE REFERENCE: functions, files; look -/
/-- what tokens are bound to by some words of a file -/
def Bvs (X : Nat → List Int) (f lo hi : Nat) (B B' : Nat → Int) : Prop := ∀ id : Nat, id < 600 → (∀ i, lo ≤ i → i < hi → bset X f (gx (Cw X f) i) ((id : Int) - 200 * (f : Int)) → B' id = bval X f (sat (Cw X f) (i + 1)) (gx (Cw X f) i) id) ∧
  ((∀ i, lo ≤ i → i < hi → ¬ bset X f (gx (Cw X f) i) ((id : Int) - 200 * (f : Int))) → B' id = B id)
section M9v
variable {F G : MF} {X : Nat → List Int} {f k vf lo hi c : Nat} {R : MF → Prop} {B B' : Nat → Int}
theorem Cw_uniq (hX : ∀ r, r < 24 → Rok (X r)) (hf : f < 3) {i j : Nat} {t : Int} (hi : i < (Cw X f).length) (hj : j < (Cw X f).length) (h1 : bset X f (gx (Cw X f) i) t) (h2 : bset X f (gx (Cw X f) j) t) : i = j := by
  have sp : sm (cw t) (Cw X f) ≤ 1 := ((Cw_pv hX hf).1.1.2.1 t).1
  have a1 := cw_1 h1.1
  have a2 := cw_1 h2.1
  rcases Nat.lt_trichotomy i j with h | h | h
  · have := sm_two (g := cw t) (Cw X f) i j h hj
    omega
  · exact h
  · have := sm_two (g := cw t) (Cw X f) j i h hi
    omega
theorem Bvs.rf : Bvs X f c c B B := fun id _ => ⟨fun i h1 h2 => by omega, fun _ => rfl⟩
theorem Bvs.tr {m : Nat} {B1 : Nat → Int} (hX : ∀ r, r < 24 → Rok (X r)) (hf : f < 3) (h1 : lo ≤ m) (h2 : m ≤ hi) (h3 : hi ≤ (Cw X f).length) (h : Bvs X f lo m B B1) (k : Bvs X f m hi B1 B') : Bvs X f lo hi B B' := by
  intro id hid
  refine ⟨fun i a1 a2 a3 => ?_, fun hn => ?_⟩
  · by_cases e : i < m
    · rw [(k id hid).2 (fun j b1 b2 b3 => by have := Cw_uniq hX hf (i := i) (j := j) (by omega) (by omega) a3 b3; omega)]
      exact (h id hid).1 i a1 e a3
    · exact (k id hid).1 i (by omega) a2 a3
  · rw [(k id hid).2 (fun j b1 b2 => hn j (by omega) b2)]
    exact (h id hid).2 (fun j b1 b2 => hn j b1 (by omega))
theorem Bvs.one {i : Nat} (h : ∀ id, id < 600 → B' id = bwd X f (sat (Cw X f) (i + 1)) (gx (Cw X f) i) B id) : Bvs X f i (i + 1) B B' := by
  intro id hid
  refine ⟨fun j a1 a2 a3 => ?_, fun hn => ?_⟩
  · obtain rfl : j = i := by omega
    rw [h id hid, bwd_1 a3]
  · rw [h id hid, bwd_0 (hn i (Nat.le_refl _) (Nat.lt_succ_self _))]
theorem bat_vs (hX : ∀ r, r < 24 → Rok (X r)) (hf : f < 3) : ∀ i, i ≤ (Cw X f).length → Bvs X f 0 i B (bat X f B i)
  | 0, _ => Bvs.rf
  | i + 1, h => Bvs.tr hX hf (Nat.zero_le _) (Nat.le_succ i) h (bat_vs hX hf i (by omega)) (Bvs.one (fun id _ => rfl))
end M9v
