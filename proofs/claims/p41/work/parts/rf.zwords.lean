/-! THE EIGHT LINES: their words -/
def nwk (k n : Nat) : Nat := (wlk k 0 0 n).length
/-- how many words n lines have -/
def lwz (z : Nat) : Nat → Nat
  | 0 => 0
  | n + 1 => lwz z n + nwk (kdz z n) n
/-- where the jump of a line goes to -/
def tgz (z n : Nat) : Nat := if n = 2 then lwz z 4 + 2 else lwz z 7
def wz (z : Nat) : Nat → List Int
  | 0 => []
  | n + 1 => wz z n ++ wlk (kdz z n) (fsz z n) (tgz z n) n
section Mrf
variable {z n d a j k : Nat} {b st : Int} {S : List (Int × Int)} {C : List Int} {Fn : List (Int × Int × Int × Int)}
theorem wlk_len : (wlk k a j n).length = nwk k n := by
  show (wlk k a j n).length = (wlk k 0 0 n).length
  unfold wlk
  by_cases c : k = 0
  · rw [if_pos c, if_pos c]
    simp only [List.length_cons, List.length_nil]
  rw [if_neg c, if_neg c]
  clear c
  by_cases c : k = 3
  · rw [if_pos c, if_pos c]
    by_cases c7 : n = 7
    · rw [if_pos c7, if_pos c7]
      simp only [List.length_cons, List.length_nil]
    · rw [if_neg c7, if_neg c7]
      simp only [List.length_cons, List.length_nil]
  rw [if_neg c, if_neg c]
  clear c
  by_cases c : k = 4
  · rw [if_pos c, if_pos c]
    simp only [List.length_cons, List.length_nil]
  rw [if_neg c, if_neg c]
  clear c
  by_cases c : k = 5
  · rw [if_pos c, if_pos c]
    simp only [List.length_cons, List.length_nil]
  rw [if_neg c, if_neg c]
  clear c
  by_cases c : k = 6
  · rw [if_pos c, if_pos c]
    simp only [List.length_cons, List.length_nil]
  rw [if_neg c, if_neg c]
  clear c
  by_cases c : k = 7 ∨ k = 16
  · rw [if_pos c, if_pos c]
    simp only [List.length_cons, List.length_nil]
  rw [if_neg c, if_neg c]
  clear c
  by_cases c : k = 8
  · rw [if_pos c, if_pos c]
    simp only [List.length_cons, List.length_nil]
  rw [if_neg c, if_neg c]
  clear c
  by_cases c : k = 9
  · rw [if_pos c, if_pos c]
    simp only [List.length_cons, List.length_nil]
  rw [if_neg c, if_neg c]
  clear c
  by_cases c : k = 10
  · rw [if_pos c, if_pos c]
    simp only [List.length_cons, List.length_nil]
  rw [if_neg c, if_neg c]
  clear c
  by_cases c : k = 20
  · rw [if_pos c, if_pos c]
    simp only [List.length_cons, List.length_nil]
  rw [if_neg c, if_neg c]
  clear c
  simp only [List.length_cons, List.length_nil]
theorem wz_len : ∀ n, (wz z n).length = lwz z n
  | 0 => rfl
  | n + 1 => by
    show (wz z n ++ wlk (kdz z n) (fsz z n) (tgz z n) n).length = lwz z n + nwk (kdz z n) n
    rw [List.length_append, wz_len n, wlk_len]
theorem kdn_0 : kdz z 0 = 0 := by unfold kdz; rw [if_pos rfl]
theorem kdn_7 : kdz z 7 = 3 := by unfold kdz; rw [if_neg (by decide), if_pos (Or.inl rfl)]
theorem kdn_6 (h : 0 < z % 3) : kdz z 6 = 3 := by unfold kdz; rw [if_neg (by decide), if_pos (Or.inr ⟨rfl, h⟩)]
theorem kd_free (h0 : n ≠ 0) (h7 : n ≠ 7) (h6 : n = 6 → z % 3 = 0) (h2 : n = 2 → z % 3 = 0) (h4 : n = 4 → z % 3 ≠ 1) : frk (kdz z n) := by
  have hi : ¬ isf z n := fun h => by
    unfold isf at h
    omega
  unfold kdz
  rw [if_neg h0, if_neg (by omega), if_neg hi]
  unfold pkd frk
  (repeat' split) <;> decide
theorem kdn_12 (h : z % 3 = 1) : kdz z 2 = 8 := by
  have hi : isf z 2 := Or.inl ⟨by omega, Or.inl rfl⟩
  unfold kdz
  rw [if_neg (by decide), if_neg (by omega), if_pos hi, if_neg (by decide), if_pos h]
theorem kdn_14 (h : z % 3 = 1) : kdz z 4 = 9 := by
  have hi : isf z 4 := Or.inr ⟨h, rfl⟩
  unfold kdz
  rw [if_neg (by decide), if_neg (by omega), if_pos hi, if_pos rfl]
theorem kdn_22 (h : z % 3 = 2) : kdz z 2 = 22 := by
  have hi : isf z 2 := Or.inl ⟨by omega, Or.inl rfl⟩
  unfold kdz
  rw [if_neg (by decide), if_neg (by omega), if_pos hi, if_neg (by decide), if_neg (by omega)]
theorem ka_z (hn : n < 8) : KA (kls z 8) (kdz z n) (fsz z n) := fun i hi => kn_z hn hi
theorem ka_k (hn : n < 8) (hk : kdz z n = k) : KA (kls z 8) k (fsz z n) := by rw [← hk]; exact ka_z hn
theorem prun_s {K : List Int} {x : PS} (h : x.1 < K.length ∨ x.2.1 ≠ []) : prun K (d + 1) x = prun K d (pstep K x) := by
  show (if x.1 < K.length ∨ x.2.1 ≠ [] then prun K d (pstep K x) else x) = _
  rw [if_pos h]
theorem prun_e {K : List Int} {x : PS} (h : ¬ (x.1 < K.length ∨ x.2.1 ≠ [])) : prun K d x = x := by
  cases d with
  | zero => rfl
  | succ d =>
    show (if x.1 < K.length ∨ x.2.1 ≠ [] then prun K d (pstep K x) else x) = _
    rw [if_neg h]
theorem prun_b {K : List Int} {y : PS} {E : List (Int × Int × Int)} {U : List Int} (h : pst K a b st S C E Fn U = y) : prun K (d + 1) (a, (b, st) :: S, C, E, Fn, U) = prun K d y := by
  rw [prun_s (Or.inr (List.cons_ne_nil _ _))]
  show prun K d (pst K a b st S C E Fn U) = _
  rw [h]
theorem fz_s (hk : kdz z n = k) : fsz z n + tkz k = fsz z (n + 1) := by rw [← hk]; rfl
theorem fz_lt2 (hn : n < 8) : fsz z n < 256 := by
  have := fsz_le (z := z) n
  omega
/-- a line that opens and ends nothing -/
theorem pz_f (hn : n < 8) (hk : frk (kdz z n)) : prun (kls z 8) (d + 1) (fsz z n, (b, st) :: S, C, [], Fn, []) = prun (kls z 8) d (fsz z (n + 1), (b, st) :: S, C ++ wlk (kdz z n) (fsz z n) (tgz z n) n, [], Fn, []) :=
  prun_b (ps_free (n := n) (j := tgz z n) hk (ka_z hn))
theorem pz_w (hn : n < 8) (hk : frk (kdz z n)) : prun (kls z 8) (d + 1) (fsz z n, (b, st) :: S, wz z n, [], Fn, []) = prun (kls z 8) d (fsz z (n + 1), (b, st) :: S, wz z (n + 1), [], Fn, []) := pz_f hn hk
theorem pz_0 : prun (kls z 8) (d + 1) (0, [], [], [], [], []) = prun (kls z 8) d (fsz z 1, [(0, -1)], wz z 1, [], [(1, 1, 0, -1)], []) := by
  have h := ka_k (z := z) (n := 0) (by decide) kdn_0
  have h0 : kn (kls z 8) 0 = 3 := h 0 (by decide)
  have hl := kn_lt (K := kls z 8) (i := 0) (by omega)
  rw [prun_s (Or.inl hl)]
  show prun (kls z 8) d (pit (kls z 8) 0 [] [] [] []) = _
  have e := ps_head (K := kls z 8) (a := 0) (C := []) (E := []) (Fn := []) (U := []) h
  rw [e]
  have w1 : wz z 1 = wlk 0 0 (tgz z 0) 0 := by
    show [] ++ wlk (kdz z 0) (fsz z 0) (tgz z 0) 0 = _
    rw [kdn_0]
    rfl
  have f1 : fsz z 1 = 6 := by
    show fsz z 0 + tkz (kdz z 0) = 6
    rw [kdn_0]
    rfl
  rw [w1, f1]
  rfl
theorem pz_7 : prun (kls z 8) (d + 1) (fsz z 7, [(0, -1)], wz z 7, [], [(1, 1, 0, -1)], []) = (fsz z 8, [], wz z 8, [], [(1, 1, 0, (fsz z 7 : Int))], []) := by
  have w8 : wz z 8 = wz z 7 ++ [mk 4 (fsz z 7) 1, mk 5 0 0] := by
    show wz z 7 ++ wlk (kdz z 7) (fsz z 7) (tgz z 7) 7 = _
    rw [kdn_7]
    rfl
  have f8 : fsz z 8 = fsz z 7 + 1 := (fz_s (n := 7) kdn_7).symm
  rw [prun_b (ps_end0 (ka_k (n := 7) (by decide) kdn_7)), prun_e, w8, f8]
  rw [kls_len]
  rintro (h | h)
  · have h : fsz z 7 + 1 < fsz z 8 := h
    omega
  · exact h rfl
/-- no blocks -/
theorem pz_a (h : z % 3 = 0) : prs (kls z 8) = (fsz z 8, [], wz z 8, [], [(1, 1, 0, (fsz z 7 : Int))], []) := by
  have f : ∀ n, n ≠ 0 → n ≠ 7 → frk (kdz z n) := fun n h0 h7 => kd_free h0 h7 (fun _ => h) (fun _ => h) (fun _ => by omega)
  show prun (kls z 8) 600 (0, [], [], [], [], []) = _
  rw [pz_0 (d := 599), pz_w (n := 1) (d := 598) (by decide) (f 1 (by decide) (by decide)), pz_w (n := 2) (d := 597) (by decide) (f 2 (by decide) (by decide)), pz_w (n := 3) (d := 596) (by decide) (f 3 (by decide) (by decide)), pz_w (n := 4) (d := 595) (by decide) (f 4 (by decide) (by decide)), pz_w (n := 5) (d := 594) (by decide) (f 5 (by decide) (by decide)), pz_w (n := 6) (d := 593) (by decide) (f 6 (by decide) (by decide))]
  exact pz_7
/-- a plain block -/
theorem pz_b (h : z % 3 = 2) : prs (kls z 8) = (fsz z 8, [], wz z 8, [], [(1, 1, 0, (fsz z 7 : Int))], []) := by
  have f : ∀ n, n ≠ 0 → n ≠ 7 → n ≠ 6 → n ≠ 2 → frk (kdz z n) := fun n h0 h7 h6 h2 => kd_free h0 h7 (fun e => absurd e h6) (fun e => absurd e h2) (fun _ => by omega)
  have k2 := kdn_22 h
  have k6 := kdn_6 (z := z) (by omega)
  have w3 : wz z 3 = wz z 2 ++ [mk 6 (fsz z 2) 0, mk 3 (fsz z 2) 0] := by
    show wz z 2 ++ wlk (kdz z 2) (fsz z 2) (tgz z 2) 2 = _
    rw [k2]
    rfl
  have w7 : wz z 7 = wz z 6 ++ [mk 4 (fsz z 6) 1] := by
    show wz z 6 ++ wlk (kdz z 6) (fsz z 6) (tgz z 6) 6 = _
    rw [k6]
    rfl
  show prun (kls z 8) 600 (0, [], [], [], [], []) = _
  rw [pz_0 (d := 599), pz_w (n := 1) (d := 598) (by decide) (f 1 (by decide) (by decide) (by decide) (by decide)), prun_b (d := 597) (ps_open (ka_k (n := 2) (by decide) k2)), show fsz z (1 + 1) + 1 = fsz z 3 from fz_s (n := 2) k2, ← w3,
    pz_w (n := 3) (d := 596) (by decide) (f 3 (by decide) (by decide) (by decide) (by decide)), pz_w (n := 4) (d := 595) (by decide) (f 4 (by decide) (by decide) (by decide) (by decide)), pz_w (n := 5) (d := 594) (by decide) (f 5 (by decide) (by decide) (by decide) (by decide)),
    prun_b (d := 593) (ps_end1 (ka_k (n := 6) (by decide) k6)), show fsz z (5 + 1) + 1 = fsz z 7 from fz_s (n := 6) k6, ← w7]
  exact pz_7
/-- IF and ELSE -/
theorem pz_c (h : z % 3 = 1) : prs (kls z 8) = (fsz z 8, [], wz z 8, [], [(1, 1, 0, (fsz z 7 : Int))], []) := by
  have f : ∀ n, n ≠ 0 → n ≠ 7 → n ≠ 6 → n ≠ 2 → n ≠ 4 → frk (kdz z n) := fun n h0 h7 h6 h2 h4 => kd_free h0 h7 (fun e => absurd e h6) (fun e => absurd e h2) (fun e => absurd e h4)
  have k2 := kdn_12 h
  have k4 := kdn_14 h
  have k6 := kdn_6 (z := z) (by omega)
  have f2 := fz_s (n := 2) k2
  have f4 := fz_s (n := 4) k4
  have f6 := fz_s (n := 6) k6
  obtain ⟨P, hP⟩ : ∃ P, P = wz z 2 ++ [mk 6 (fsz z 2) 0, mk 14 (fsz z 2 + 1) 0, mk 14 (fsz z 2 + 3) 0, mk 17 (fsz z 2 + 2) 0] := ⟨_, rfl⟩
  obtain ⟨V, hV⟩ : ∃ V, V = wlk (kdz z 3) (fsz z 3) (tgz z 3) 3 := ⟨_, rfl⟩
  obtain ⟨W, hW⟩ : ∃ W, W = wlk (kdz z 5) (fsz z 5) (tgz z 5) 5 := ⟨_, rfl⟩
  have lP : P.length = (wz z 2).length + 4 := by rw [hP, List.length_append]; rfl
  have w4 : wz z 4 = P ++ mk 11 (fsz z 2) (tgz z 2) :: (mk 3 (fsz z 2 + 4) 0 :: V) := by
    show wz z 2 ++ wlk (kdz z 2) (fsz z 2) (tgz z 2) 2 ++ wlk (kdz z 3) (fsz z 3) (tgz z 3) 3 = _
    rw [k2, hP, ← hV]
    show wz z 2 ++ [mk 6 (fsz z 2) 0, mk 14 (fsz z 2 + 1) 0, mk 14 (fsz z 2 + 3) 0, mk 17 (fsz z 2 + 2) 0, mk 11 (fsz z 2) (tgz z 2), mk 3 (fsz z 2 + 4) 0] ++ V = _
    simp only [List.append_assoc, List.nil_append, List.cons_append]
  have l4 : lwz z 4 = P.length + V.length + 2 := by
    rw [← wz_len, w4]
    simp only [List.length_append, List.length_cons]
    omega
  have t2 : tgz z 2 = lwz z 4 + 2 := rfl
  have t4 : tgz z 4 = lwz z 7 := rfl
  have w7 : wz z 7 = (wz z 4 ++ [mk 4 (fsz z 4) 1]) ++ mk 12 (fsz z 4 + 1) (lwz z 7) :: (mk 3 (fsz z 4 + 2) 0 :: W ++ [mk 4 (fsz z 6) 1]) := by
    show wz z 4 ++ wlk (kdz z 4) (fsz z 4) (tgz z 4) 4 ++ wlk (kdz z 5) (fsz z 5) (tgz z 5) 5 ++ wlk (kdz z 6) (fsz z 6) (tgz z 6) 6 = _
    rw [k4, k6, ← hW, t4]
    show wz z 4 ++ [mk 4 (fsz z 4) 1, mk 12 (fsz z 4 + 1) (lwz z 7), mk 3 (fsz z 4 + 2) 0] ++ W ++ [mk 4 (fsz z 6) 1] = _
    simp only [List.append_assoc, List.nil_append, List.cons_append]
  have l7 : lwz z 7 = lwz z 4 + W.length + 4 := by
    have := wz_len (z := z) 7
    rw [w7] at this
    simp only [List.length_append, List.length_cons, List.length_nil, wz_len] at this
    omega
  have e2 := ps_if (K := kls z 8) (b := 0) (st := -1) (S := []) (C := wz z 2) (E := []) (Fn := [(1, 1, 0, -1)]) (U := []) (ka_k (n := 2) (by decide) k2)
  rw [← hP, ← lP, show fsz z 2 + 5 = fsz z 3 from f2] at e2
  have e4 := ps_else (K := kls z 8) (S := [(0, -1)]) (E := []) (Fn := [(1, 1, 0, -1)]) (U := []) (P := P) (Q := mk 3 (fsz z 2 + 4) 0 :: V) (t := fsz z 2) (fz_lt2 (by decide)) (ka_k (n := 4) (by decide) k4)
  rw [show fsz z 4 + 3 = fsz z 5 from f4, show P.length + (mk 3 (fsz z 2 + 4) 0 :: V).length + 3 = tgz z 2 by rw [t2, l4, List.length_cons]; omega, show P.length + (mk 3 (fsz z 2 + 4) 0 :: V).length + 2 = (wz z 4 ++ [mk 4 (fsz z 4) 1]).length by rw [List.length_append, wz_len, l4, List.length_cons]; rfl,
    show P ++ mk 11 (fsz z 2) (tgz z 2) :: (mk 3 (fsz z 2 + 4) 0 :: V ++ [mk 4 (fsz z 4) 1, mk 12 (fsz z 4 + 1) 0, mk 3 (fsz z 4 + 2) 0]) = (wz z 4 ++ [mk 4 (fsz z 4) 1]) ++ mk 12 (fsz z 4 + 1) 0 :: [mk 3 (fsz z 4 + 2) 0] by rw [w4]; simp only [List.append_assoc, List.nil_append, List.cons_append]] at e4
  have e6 := ps_end3 (K := kls z 8) (S := [(0, -1)]) (E := []) (Fn := [(1, 1, 0, -1)]) (U := []) (P := wz z 4 ++ [mk 4 (fsz z 4) 1]) (Q := mk 3 (fsz z 4 + 2) 0 :: W) (t := fsz z 4 + 1) (by have := fz_lt2 (z := z) (n := 5) (by decide); have : fsz z 4 + 3 = fsz z 5 := f4; omega) (ka_k (n := 6) (by decide) k6)
  rw [show fsz z 6 + 1 = fsz z 7 from f6, show (wz z 4 ++ [mk 4 (fsz z 4) 1]).length + (mk 3 (fsz z 4 + 2) 0 :: W).length + 2 = lwz z 7 by rw [List.length_append, wz_len, l7, List.length_cons, List.length_cons, List.length_nil]; omega, ← w7] at e6
  have a3 : P ++ mk 11 (fsz z 2) 0 :: [mk 3 (fsz z 2 + 4) 0] ++ V = P ++ mk 11 (fsz z 2) 0 :: (mk 3 (fsz z 2 + 4) 0 :: V) := by simp only [List.append_assoc, List.nil_append, List.cons_append]
  have a5 : (wz z 4 ++ [mk 4 (fsz z 4) 1]) ++ mk 12 (fsz z 4 + 1) 0 :: [mk 3 (fsz z 4 + 2) 0] ++ W = (wz z 4 ++ [mk 4 (fsz z 4) 1]) ++ mk 12 (fsz z 4 + 1) 0 :: (mk 3 (fsz z 4 + 2) 0 :: W) := by simp only [List.append_assoc, List.nil_append, List.cons_append]
  show prun (kls z 8) 600 (0, [], [], [], [], []) = _
  rw [pz_0 (d := 599), pz_w (n := 1) (d := 598) (by decide) (f 1 (by decide) (by decide) (by decide) (by decide) (by decide))]
  refine (prun_b (d := 597) e2).trans ?_
  rw [pz_f (n := 3) (d := 596) (by decide) (f 3 (by decide) (by decide) (by decide) (by decide) (by decide)), ← hV, a3]
  refine (prun_b (d := 595) e4).trans ?_
  rw [pz_f (n := 5) (d := 594) (by decide) (f 5 (by decide) (by decide) (by decide) (by decide) (by decide)), ← hW, a5]
  refine (prun_b (d := 593) e6).trans ?_
  exact pz_7
theorem prs_z : prs (kls z 8) = (fsz z 8, [], wz z 8, [], [(1, 1, 0, (fsz z 7 : Int))], []) := by
  have h : z % 3 = 0 ∨ z % 3 = 1 ∨ z % 3 = 2 := by omega
  rcases h with h | h | h
  · exact pz_a h
  · exact pz_c h
  · exact pz_b h
theorem Cw_z : Cw (XZ z 8) 0 = wz z 8 := by unfold Cw; rw [ks_z, prs_z]
theorem Ew_z : Ew (XZ z 8) 0 = [] := by unfold Ew; rw [ks_z, prs_z]
theorem Fw_z : Fw (XZ z 8) 0 = [(1, 1, 0, (fsz z 7 : Int))] := by unfold Fw; rw [ks_z, prs_z]
theorem aFu_z : aFu (XZ z 8) 0 0 = 101 := by
  unfold aFu
  rw [show (0 : Int).toNat = 0 from rfl, Fw_z]
  rfl
/-! THE EIGHT LINES: the shape of their words -/
theorem SK_app : ∀ {A B : List Int} {x y w : Nat}, SK x A y → SK y B w → SK x (A ++ B) w
  | [], _, _, _, _, h, k => by
    have h : _ = _ := h
    subst h
    exact k
  | _ :: _, _, _, _, _, h, k => by
    obtain ⟨k1, h1, h2⟩ := h
    exact ⟨k1, h1, SK_app h2 k⟩
theorem sk_14 {x t e y : Nat} {W : List Int} (h : SK (x + 1) W y) : SK x (mk 14 t e :: W) y := ⟨x + 1, Or.inl ⟨wo_mk (by decide), rfl⟩, h⟩
theorem sk_16 {x t e y : Nat} {W : List Int} (h : SK (x + 1) W y) : SK (x + 1) (mk 16 t e :: W) y := ⟨x + 1, Or.inr (Or.inl ⟨wo_mk (by decide), by omega, rfl⟩), h⟩
theorem sk_17 {x t e y : Nat} {W : List Int} (h : SK (x + 1) W y) : SK (x + 2) (mk 17 t e :: W) y := ⟨x + 1, Or.inr (Or.inr (Or.inl ⟨wo_mk (by decide), by omega, rfl⟩)), h⟩
theorem sk_1 {o t e y : Nat} {W : List Int} (ho : o = 7 ∨ o = 8 ∨ o = 9 ∨ o = 10 ∨ o = 11) (h : SK 0 W y) : SK 1 (mk o t e :: W) y := by
  have e1 : wo (mk o t e) = (o : Int) := wo_mk (by omega)
  refine ⟨0, Or.inr (Or.inr (Or.inr (Or.inr (Or.inr (Or.inl ⟨?_, rfl, rfl⟩))))), h⟩
  rw [e1]
  omega
theorem sk_0 {o t e y : Nat} {W : List Int} (ho : (1 ≤ o ∧ o ≤ 6) ∨ o = 12 ∨ o = 13) (h : SK 0 W y) : SK 0 (mk o t e :: W) y := by
  have e1 : wo (mk o t e) = (o : Int) := wo_mk (by omega)
  refine ⟨0, Or.inr (Or.inr (Or.inr (Or.inr (Or.inr (Or.inr ⟨?_, rfl, rfl⟩))))), h⟩
  rw [e1]
  omega
theorem sk_e {x : Nat} : SK x [] x := rfl
theorem wlk_sk : SK 0 (wlk k a j n) 0 := by
  unfold wlk
  (repeat' split) <;> (repeat first | exact sk_e | refine sk_0 (by decide) ?_ | refine sk_14 ?_ | refine sk_16 ?_ | refine sk_17 ?_ | refine sk_1 (by decide) ?_)
theorem wz_sk : ∀ n, SK 0 (wz z n) 0
  | 0 => sk_e
  | n + 1 => SK_app (wz_sk n) wlk_sk
theorem SR_t : ∀ W : List Int, SR true W
  | [] => trivial
  | w :: W => ⟨fun _ => rfl, SR_t W⟩
theorem wz_1 : ∀ n, ∃ W, wz z (n + 1) = mk 2 1 1 :: W
  | 0 => ⟨[mk 3 5 0], by
    show [] ++ wlk (kdz z 0) (fsz z 0) (tgz z 0) 0 = _
    rw [kdn_0]
    rfl⟩
  | n + 1 => by
    obtain ⟨W, h⟩ := wz_1 n
    refine ⟨W ++ wlk (kdz z (n + 1)) (fsz z (n + 1)) (tgz z (n + 1)) (n + 1), ?_⟩
    show wz z (n + 1) ++ wlk (kdz z (n + 1)) (fsz z (n + 1)) (tgz z (n + 1)) (n + 1) = _
    rw [h]
    rfl
theorem shp_z : Shp (XZ z 8) := fun f hf => by
  by_cases c : f = 0
  · rw [c, Cw_z]
    refine ⟨wz_sk 8, ?_⟩
    obtain ⟨W, h⟩ := wz_1 (z := z) 7
    rw [h]
    refine ⟨fun e => absurd e (by rw [wo_mk (by decide)]; decide), ?_⟩
    have e2 : decide (wo (mk 2 1 1) = 2) = true := decide_eq_true (by rw [wo_mk (by decide)]; rfl)
    show SR (false || decide (wo (mk 2 1 1) = 2)) W
    rw [e2]
    exact SR_t W
  · rw [Cw_e (by omega)]
    exact ⟨rfl, trivial⟩
end Mrf
