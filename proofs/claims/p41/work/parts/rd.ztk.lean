/-! THE EIGHT LINES: each token by its line -/
def tkt (k : Nat) : List (Int × Nat × Nat) :=
  if k = 0 then [(3, 0, 2), (0, 3, 1), (10, 4, 1), (0, 5, 1), (11, 6, 1), (12, 8, 1)]
  else if k = 3 then [(13, 0, 1)]
  else if k = 4 then [(4, 0, 3), (0, 4, 1), (16, 6, 1), (0, 8, 1), (19, 10, 1), (1, 12, 1), (15, 13, 1)]
  else if k = 5 then [(4, 0, 3), (0, 4, 1), (16, 6, 1), (1, 8, 1), (15, 9, 1)]
  else if k = 6 then [(7, 0, 3), (0, 4, 1), (15, 5, 1)]
  else if k = 7 then [(7, 0, 3), (0, 4, 1), (21, 6, 1), (1, 8, 1), (15, 9, 1)]
  else if k = 8 then [(5, 0, 2), (0, 3, 1), (18, 5, 1), (1, 7, 1), (12, 9, 1)]
  else if k = 9 then [(13, 0, 1), (6, 2, 4), (12, 7, 1)]
  else if k = 10 then [(0, 0, 1), (16, 2, 1), (0, 4, 1), (20, 6, 1), (1, 8, 1), (15, 9, 1)]
  else if k = 16 then [(7, 0, 3), (0, 4, 1), (17, 6, 2), (0, 9, 1), (15, 10, 1)]
  else if k = 20 then [(4, 0, 3), (0, 4, 1), (16, 6, 1), (22, 8, 1), (9, 9, 2), (15, 11, 1)]
  else [(12, 0, 1)]
theorem tkt_k : ∀ k ∈ kdS, rtl (ptx k) false = tkt k := by decide +kernel
theorem tkt_len : ∀ k ∈ kdS, (tkt k).length = tkz k := by decide +kernel
def tkk (k i : Nat) : Int × Nat × Nat := (tkt k)[i]?.getD (24, 0, 0)
/-- the chars of a token of a kind -/
def txk (k i : Nat) : List Int := (List.range (tkk k i).2.2).map (fun j => gx (ptx k) ((tkk k i).2.1 + j))
theorem txk_x : (txk 0 3 = [120] ∧ txk 4 3 = [120] ∧ txk 5 1 = [120] ∧ txk 6 1 = [120]) ∧ (txk 8 1 = [120] ∧ txk 10 0 = [120] ∧ txk 10 2 = [120] ∧ txk 16 1 = [120]) ∧ (txk 4 1 = [121] ∧ txk 7 1 = [121] ∧ txk 16 3 = [121] ∧ txk 20 1 = [121]) ∧ (txk 4 5 = [49] ∧ txk 5 3 = [50] ∧ txk 7 3 = [50] ∧ txk 8 3 = [51] ∧ txk 10 4 = [49]) := by decide +kernel
section Mrd
variable {z n i m k : Nat}
theorem XZ_ok : ∀ r, r < 24 → Rok (XZ z 8 r) := fun r hr => by
  unfold XZ
  have hk := kdz_lt (z := z) (n := r)
  have h1 := ptx_len (kdz z r) (by omega)
  have h2 := ptx_ok (kdz z r) (by omega)
  split
  · refine ⟨by omega, fun c hc => ?_⟩
    have := List.all_eq_true.mp h2 c hc
    exact of_decide_eq_true this
  · exact ⟨Nat.zero_le _, fun c hc => absurd hc (List.not_mem_nil)⟩
theorem lexTo_zl (hm : m ≤ 8) : (lexTo (XZ z 8) 0 m).1.length = fsz z m := by
  have := congrArg List.length (lexTo_z (z := z) m hm).2
  rwa [List.length_map, kls_len] at this
theorem fsz_mo : ∀ d, fsz z n ≤ fsz z (n + d)
  | 0 => Nat.le_refl _
  | d + 1 => by
    have := fsz_mo d
    show fsz z n ≤ fsz z (n + d) + tkz (kdz z (n + d))
    omega
theorem fsz_le2 (h : n ≤ m) : fsz z n ≤ fsz z m := by
  have := fsz_mo (z := z) (n := n) (m - n)
  rwa [show n + (m - n) = m by omega] at this
theorem fsz_s : fsz z (n + 1) = fsz z n + tkz (kdz z n) := rfl
theorem gd_map {A B : Type} {l : List A} {g : A → B} {d : A} {d' : B} (h : i < l.length) : (l.map g)[i]?.getD d' = g (l[i]?.getD d) := by
  rw [List.getElem?_map, List.getElem?_eq_getElem h]
  rfl
theorem tk_z : ∀ m, m ≤ 8 → ∀ n, n < m → i < tkz (kdz z n) → tk (lexTo (XZ z 8) 0 m).1 (fsz z n + i) = ((tkk (kdz z n) i).1, n, (tkk (kdz z n) i).2.1, (tkk (kdz z n) i).2.2)
  | 0, _, n, hn, _ => absurd hn (Nat.not_lt_zero n)
  | m + 1, hm, n, hn, hi => by
    have hs : fsz z (n + 1) = fsz z n + tkz (kdz z n) := rfl
    have e0 : XZ z 8 (8 * 0 + m) = ptx (kdz z m) := by
      show (if 8 * 0 + m < 8 then ptx (kdz z (8 * 0 + m)) else []) = _
      rw [if_pos (by omega), Nat.mul_zero, Nat.zero_add]
    have c0 := lexL_c0 24 (ptx (kdz z m)) 0 false (fsz z m) 0
    show tk ((lexTo (XZ z 8) 0 m).1 ++ (lexL 24 (XZ z 8 (8 * 0 + m)) 0 (lexTo (XZ z 8) 0 m).2 (lexTo (XZ z 8) 0 m).1.length).1.map (fun t => (t.1, m, t.2.1, t.2.2))) (fsz z n + i) = _
    rw [tk_app, lexTo_zl (by omega)]
    by_cases c : n < m
    · have h2 := fsz_le2 (z := z) (n := n + 1) (m := m) (by omega)
      rw [if_pos (by omega)]
      exact tk_z m (by omega) n c hi
    · obtain rfl : n = m := by omega
      rw [if_neg (by omega), Nat.add_sub_cancel_left, e0, (lexTo_z n (by omega)).1, c0.1]
      have e1 : (lexL 24 (ptx (kdz z n)) 0 false 0).1 = tkt (kdz z n) := tkt_k _ kdz_mem
      rw [e1]
      unfold tk
      rw [List.getD_eq_getElem?_getD]
      exact gd_map (d := (24, 0, 0)) (by rw [tkt_len _ kdz_mem]; exact hi)
theorem tk_Z (hn : n < 8) (hi : i < tkz (kdz z n)) : tk (toks (XZ z 8) 0) (fsz z n + i) = ((tkk (kdz z n) i).1, n, (tkk (kdz z n) i).2.1, (tkk (kdz z n) i).2.2) := tk_z 8 (Nat.le_refl 8) n hn hi
theorem fsz_lt (hn : n < 8) (hi : i < tkz (kdz z n)) : fsz z n + i < fsz z 8 := by
  have h2 := fsz_le2 (z := z) (n := n + 1) (m := 8) (by omega)
  have hs : fsz z (n + 1) = fsz z n + tkz (kdz z n) := rfl
  omega
theorem kn_z (hn : n < 8) (hi : i < tkz (kdz z n)) : kn (kls z 8) (fsz z n + i) = (tkk (kdz z n) i).1 := by
  have h1 := fsz_lt hn hi
  rw [← ks_z, kn_tk (by rw [toks_z]; exact h1), tk_Z hn hi]
theorem tx_z (hn : n < 8) (hi : i < tkz (kdz z n)) : tx (XZ z 8) 0 (fsz z n + i) = txk (kdz z n) i := by
  have e0 : XZ z 8 (8 * 0 + n) = ptx (kdz z n) := by
    show (if 8 * 0 + n < 8 then ptx (kdz z (8 * 0 + n)) else []) = _
    rw [if_pos (by omega), Nat.mul_zero, Nat.zero_add]
  unfold tx txk
  have h1 : ts (XZ z 8) 0 (fsz z n + i) = (tkk (kdz z n) i).2.2 := by
    show (tk (toks (XZ z 8) 0) (fsz z n + i)).2.2.2 = _
    rw [tk_Z hn hi]
  have h2 : ∀ j, chr (XZ z 8) 0 (fsz z n + i) j = gx (ptx (kdz z n)) ((tkk (kdz z n) i).2.1 + j) := fun j => by
    show gx (XZ z 8 (8 * 0 + (tk (toks (XZ z 8) 0) (fsz z n + i)).2.1)) ((tk (toks (XZ z 8) 0) (fsz z n + i)).2.2.1 + j) = _
    rw [tk_Z hn hi]
    exact congrArg (fun l => gx l ((tkk (kdz z n) i).2.1 + j)) e0
  rw [h1]
  exact List.map_congr_left (fun j _ => h2 j)
/-- a number of one digit -/
theorem nvr_1 {X : Nat → List Int} {f t : Nat} {c : Int} (h : tx X f t = [c]) (hc : 48 ≤ c ∧ c ≤ 57) : nvr X f t (ts X f t) = c - 48 := by
  have h1 : ts X f t = 1 := by rw [← tx_len, h]; rfl
  have h2 : chr X f t 0 = c := by
    have := tx_gx (X := X) (f := f) (k := t) (i := 0) (by omega)
    rw [h] at this
    exact this.symm
  rw [h1]
  show w64 (w64 (10 * 0) + (chr X f t 0 - 48)) = c - 48
  rw [h2]
  unfold w64
  omega
end Mrd
