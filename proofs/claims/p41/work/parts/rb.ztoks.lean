/-! THE EIGHT LINES: their tokens -/
def kdS : List Nat := [0, 3, 4, 5, 6, 7, 8, 9, 10, 16, 20, 22]
theorem kdz_mem {z n : Nat} : kdz z n ∈ kdS := by
  unfold kdz pkd
  (repeat' split) <;> decide
/-- the classes of a kind's tokens -/
def klz (k : Nat) : List Int := (rtl (ptx k) false).map (fun t => t.1)
theorem lx_k : ∀ k ∈ kdS, (lexL 24 (ptx k) 0 false 0).2.2 = false ∧ (klz k).length = tkz k := by decide +kernel
theorem kl_tab : klz 0 = [3, 0, 10, 0, 11, 12] ∧ klz 3 = [13] ∧ klz 4 = [4, 0, 16, 0, 19, 1, 15] ∧ klz 5 = [4, 0, 16, 1, 15] ∧ klz 6 = [7, 0, 15] ∧ klz 7 = [7, 0, 21, 1, 15] ∧ klz 8 = [5, 0, 18, 1, 12] ∧ klz 9 = [13, 6, 12] ∧ klz 10 = [0, 16, 0, 20, 1, 15] ∧ klz 16 = [7, 0, 17, 0, 15] ∧ klz 20 = [4, 0, 16, 22, 9, 15] ∧ klz 22 = [12] := by decide +kernel
/-- the classes of the tokens of n lines -/
def kls (z : Nat) : Nat → List Int
  | 0 => []
  | n + 1 => kls z n ++ klz (kdz z n)
theorem kls_len {z : Nat} : ∀ n, (kls z n).length = fsz z n
  | 0 => rfl
  | n + 1 => by
    show (kls z n ++ klz (kdz z n)).length = fsz z n + tkz (kdz z n)
    rw [List.length_append, kls_len n, (lx_k _ kdz_mem).2]
theorem lexTo_z {z : Nat} : ∀ m, m ≤ 8 → (lexTo (XZ z 8) 0 m).2 = false ∧ (lexTo (XZ z 8) 0 m).1.map (fun t => t.1) = kls z m
  | 0, _ => ⟨rfl, rfl⟩
  | m + 1, hm => by
    obtain ⟨h1, h2⟩ := lexTo_z (z := z) m (by omega)
    have e0 : XZ z 8 (8 * 0 + m) = ptx (kdz z m) := by
      show (if 8 * 0 + m < 8 then ptx (kdz z (8 * 0 + m)) else []) = _
      rw [if_pos (by omega), Nat.mul_zero, Nat.zero_add]
    have c0 := lexL_c0 24 (ptx (kdz z m)) 0 false (lexTo (XZ z 8) 0 m).1.length 0
    refine ⟨?_, ?_⟩
    · show (lexL 24 (XZ z 8 (8 * 0 + m)) 0 (lexTo (XZ z 8) 0 m).2 (lexTo (XZ z 8) 0 m).1.length).2.2 = false
      rw [e0, h1, c0.2]
      exact (lx_k _ kdz_mem).1
    · show ((lexTo (XZ z 8) 0 m).1 ++ (lexL 24 (XZ z 8 (8 * 0 + m)) 0 (lexTo (XZ z 8) 0 m).2 (lexTo (XZ z 8) 0 m).1.length).1.map (fun t => (t.1, m, t.2.1, t.2.2))).map (fun t => t.1) = kls z m ++ klz (kdz z m)
      rw [List.map_append, h2, e0, h1, c0.1, List.map_map]
      rfl
theorem ks_z {z : Nat} : ks (XZ z 8) 0 = kls z 8 := (lexTo_z 8 (Nat.le_refl 8)).2
theorem toks_z {z : Nat} : (toks (XZ z 8) 0).length = fsz z 8 := by
  rw [← kls_len, ← ks_z]
  exact (List.length_map ..).symm
