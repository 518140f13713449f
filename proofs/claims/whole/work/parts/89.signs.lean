/-! READING, OF THE REFERENCE: goesOn, the three kinds of signs -/
def ol (p : Int) : List Nat := if p = -1 then [] else [p.toNat]
theorem pl_ol {l : Lv} : pl l = ol (tms l) ++ ol (ads l) ++ ol (cps l) := rfl
theorem ol_no : ol (-1) = [] := rfl
theorem ol_nat (a : Nat) : ol (a : Int) = [a] := by
  unfold ol
  rw [if_neg (by omega), Int.toNat_natCast]
theorem ol_len (p : Int) : (ol p).length ≤ 1 := by
  unfold ol
  split <;> simp
theorem ol_wd (p : Int) : (ol p).map (fun p => mk 17 p 0) = wd 17 p := by
  unfold ol wd
  split <;> rfl
theorem ol_mem {p : Int} {x : Nat} (h : x ∈ ol p) : p ≠ -1 ∧ x = p.toNat := by
  unfold ol at h
  split at h
  · cases h
  · next e => exact ⟨e, List.mem_singleton.mp h⟩
section M89
variable {K : List Int} {l : Lv}
theorem rk_t (h : LvK K l) : ∀ p ∈ ol (tms l), rk (kn K p) = 3 := fun p hp => by
  obtain ⟨h1, rfl⟩ := ol_mem hp
  rw [(h.1.resolve_left h1).2]
  decide
theorem rk_a (h : LvK K l) : ∀ p ∈ ol (ads l), rk (kn K p) = 2 := fun p hp => by
  obtain ⟨h1, rfl⟩ := ol_mem hp
  rcases (h.2.1.resolve_left h1).2 with e | e <;> rw [e] <;> decide
theorem rk_c (h : LvK K l) : ∀ p ∈ ol (cps l), rk (kn K p) = 1 := fun p hp => by
  obtain ⟨h1, rfl⟩ := ol_mem hp
  rcases (h.2.2.1.resolve_left h1).2 with e | e <;> rw [e] <;> decide
end M89
