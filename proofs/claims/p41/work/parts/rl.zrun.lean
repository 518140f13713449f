/-! THE EIGHT LINES: a run, word by word -/
/-- from a state on a run ends with a value -/
def RG (X : Nat → List Int) (m : Nat) (S : RuS) (R : Int) : Prop := ∀ d, m ≤ d → rrun X d S = some R
/-- the words that stand from a place on -/
def WA (X : Nat → List Int) (p : Nat) (L : List Int) : Prop := ∀ i, i < L.length → wrd X 0 (p + i) = gx L i
section Mrl
variable {X : Nat → List Int} {m m' p u y s o a j n k z : Nat} {S S' : RuS} {R res x c : Int} {g v e : Nat → Int} {vs L : List Int}
theorem RG.mo (h : RG X m S R) (q : m ≤ m') : RG X m' S R := fun d hd => h d (Nat.le_trans q hd)
theorem RG.st (h0 : S.1 ≠ []) (h1 : rst X S = some S') (h : RG X m S' R) : RG X (m + 1) S R := fun d hd => by
  obtain ⟨d, rfl⟩ : ∃ d', d = d' + 1 := ⟨d - 1, by omega⟩
  show (if S.1 = [] then some S.2.2.2 else match rst X S with
    | none => none
    | some S' => rrun X d S') = some R
  rw [if_neg h0, h1]
  exact h d (by omega)
theorem RG.en : RG X 1 ([], vs, s, R) R := fun d hd => by
  obtain ⟨d, rfl⟩ : ∃ d', d = d' + 1 := ⟨d - 1, by omega⟩
  rfl
theorem rg_w {w : Int} (hw : wrd X 0 p = w) (h1 : rsw X w 0 p g [] vs s res = some S') (h : RG X m S' R) : RG X (m + 1) ([(0, p, g)], vs, s, res) R := by
  refine RG.st (List.cons_ne_nil _ _) ?_ h
  show rsw X (wrd X 0 p) 0 p g [] vs s res = some S'
  rw [hw, h1]
theorem rgo_ok (hl : vs.length ≤ 700) : rgo 0 p g [] vs s res = some ([(0, p, g)], vs, s, res) := by
  unfold rgo
  rw [if_pos (by omega)]
theorem g_14 (hl : vs.length ≤ 600) (hu : u < 256) (hw : wrd X 0 p = mk 14 u y) (hv : lfv X 0 u g = x) (h : RG X m ([(0, p + 1, g)], x :: vs, s, res) R) : RG X (m + 1) ([(0, p, g)], vs, s, res) R := by
  refine rg_w hw ?_ h
  unfold rsw
  rw [wo_mk (by decide), if_pos (by decide), wt_mk (by decide) hu, Int.toNat_natCast, hv]
  exact rgo_ok (by rw [List.length_cons]; omega)
theorem g_16 (hl : vs.length ≤ 600) (hw : wrd X 0 p = mk 16 u y) (h : RG X m ([(0, p + 1, g)], (if x = 0 then 1 else 0) :: vs, s, res) R) : RG X (m + 1) ([(0, p, g)], x :: vs, s, res) R := by
  refine rg_w hw ?_ h
  unfold rsw
  rw [wo_mk (by decide), if_neg (by decide), if_neg (by decide), if_pos (by decide)]
  exact rgo_ok (by rw [List.length_cons]; omega)
theorem g_17 (hl : vs.length ≤ 600) (hu : u < 256) (hw : wrd X 0 p = mk 17 u y) (h : RG X m ([(0, p + 1, g)], prv (kn (ks X 0) u) c x :: vs, s, res) R) : RG X (m + 1) ([(0, p, g)], x :: c :: vs, s, res) R := by
  refine rg_w hw ?_ h
  unfold rsw
  rw [wo_mk (by decide), if_neg (by decide), if_neg (by decide), if_neg (by decide), if_pos (by decide), wt_mk (by decide) hu, Int.toNat_natCast]
  exact rgo_ok (by rw [List.length_cons]; omega)
theorem g_5 (hl : vs.length ≤ 600) (hw : wrd X 0 p = mk 5 u y) : RG X 2 ([(0, p, g)], vs, s, res) 0 := by
  refine rg_w hw ?_ (RG.en (vs := 0 :: vs) (s := s))
  unfold rsw rlv
  rw [wo_mk (by decide), if_neg (by decide), if_neg (by decide), if_neg (by decide), if_neg (by decide), if_pos (by decide), if_pos (by omega)]
theorem g_6 (hl : vs.length ≤ 600) (hs : s < 200) (hw : wrd X 0 p = mk 6 u y) (h : RG X m ([(0, p + 1, g)], vs, s + 1, res) R) : RG X (m + 1) ([(0, p, g)], vs, s, res) R := by
  refine rg_w hw ?_ h
  unfold rsw
  rw [wo_mk (by decide), if_neg (by decide), if_neg (by decide), if_neg (by decide), if_neg (by decide), if_neg (by decide), if_pos (by decide), if_neg (by omega)]
  exact rgo_ok (by omega)
theorem g_78 (ho : o = 7 ∨ o = 8) (hl : vs.length ≤ 600) (hu : u < 256) (hw : wrd X 0 p = mk o u y) {i : Nat} (hb : bnd X u = (i : Int)) (hi : i < 200) (h : RG X m ([(0, p + 1, vup g i x)], vs, s, res) R) : RG X (m + 1) ([(0, p, g)], x :: vs, s, res) R := by
  refine rg_w hw ?_ h
  unfold rsw
  rw [wo_mk (by omega), if_neg (by omega), if_neg (by omega), if_neg (by omega), if_neg (by omega), if_neg (by omega), if_neg (by omega), if_pos (by omega), wt_mk (by omega) hu, Int.toNat_natCast, Nat.mul_zero, Nat.zero_add, hb, Int.toNat_natCast]
  show rgo 0 (p + 1) (if (i : Int) = -1 then g else fun y => if y = i % 200 then x else g y) [] vs s res = _
  rw [if_neg (by omega), Nat.mod_eq_of_lt hi]
  exact rgo_ok (by omega)
theorem g_10 (hl : vs.length ≤ 600) (hw : wrd X 0 p = mk 10 u y) : RG X 2 ([(0, p, g)], x :: vs, s, res) x := by
  refine rg_w hw ?_ (RG.en (vs := x :: vs) (s := s))
  unfold rsw
  rw [wo_mk (by decide), if_neg (by decide), if_neg (by decide), if_neg (by decide), if_neg (by decide), if_neg (by decide), if_neg (by decide), if_neg (by decide), if_neg (by decide), if_pos (by decide)]
  show rlv x [] vs s = _
  unfold rlv
  rw [if_pos (by omega)]
theorem g_11 (hl : vs.length ≤ 600) (hu : u < 256) (hw : wrd X 0 p = mk 11 u y) (h : RG X m ([(0, (if x = 0 then y else p + 1), g)], vs, s, res) R) : RG X (m + 1) ([(0, p, g)], x :: vs, s, res) R := by
  refine rg_w hw ?_ h
  unfold rsw
  rw [wo_mk (by decide), if_neg (by decide), if_neg (by decide), if_neg (by decide), if_neg (by decide), if_neg (by decide), if_neg (by decide), if_neg (by decide), if_neg (by decide), if_neg (by decide), if_pos (by decide), we_mk (by decide) hu, Int.toNat_natCast]
  exact rgo_ok (by omega)
theorem g_12 (hl : vs.length ≤ 600) (hu : u < 256) (hw : wrd X 0 p = mk 12 u y) (h : RG X m ([(0, y, g)], vs, s, res) R) : RG X (m + 1) ([(0, p, g)], vs, s, res) R := by
  refine rg_w hw ?_ h
  unfold rsw
  rw [wo_mk (by decide), if_neg (by decide), if_neg (by decide), if_neg (by decide), if_neg (by decide), if_neg (by decide), if_neg (by decide), if_neg (by decide), if_neg (by decide), if_neg (by decide), if_neg (by decide), if_pos (by decide), we_mk (by decide) hu, Int.toNat_natCast]
  exact rgo_ok (by omega)
theorem g_o (ho : o = 2 ∨ o = 3 ∨ o = 4) (hl : vs.length ≤ 600) (hw : wrd X 0 p = mk o u y) (h : RG X m ([(0, p + 1, g)], vs, s, res) R) : RG X (m + 1) ([(0, p, g)], vs, s, res) R := by
  refine rg_w hw ?_ h
  unfold rsw
  rw [wo_mk (by omega), if_neg (by omega), if_neg (by omega), if_neg (by omega), if_neg (by omega), if_neg (by omega), if_neg (by omega), if_neg (by omega), if_neg (by omega), if_neg (by omega), if_neg (by omega), if_neg (by omega)]
  exact rgo_ok (by omega)
/-- what a leaf gives -/
theorem lf_i (hk : kn (ks X 0) u = 1) (ht : tx X 0 u = [c]) (hc : 48 ≤ c ∧ c ≤ 57) : lfv X 0 u g = c - 48 := by
  unfold lfv
  rw [if_pos hk, nvr_1 ht hc]
theorem lf_x {i : Int} (hk : kn (ks X 0) u = 0) (hb : bnd X u = i) (hi : 0 ≤ i ∧ i < 200) : lfv X 0 u g = g i.toNat := by
  unfold lfv
  rw [if_neg (by omega), if_pos hk, Nat.mul_zero, Nat.zero_add, hb, if_neg (by omega), Nat.mod_eq_of_lt (by omega)]
theorem lf_y {i : Int} (hk : kn (ks X 0) u = 0) (hb : bnd X u = i) (hi : i = -1 ∨ (0 ≤ i ∧ i < 200)) : lfv X 0 u g = if i < 0 then 0 else g i.toNat := by
  by_cases q : i = -1
  · unfold lfv
    rw [if_neg (by omega), if_pos hk, Nat.mul_zero, Nat.zero_add, hb, if_pos q, if_pos (by omega)]
  · rw [if_neg (by omega)]
    exact lf_x hk hb (by omega)
theorem lf_b (hk : kn (ks X 0) u = 9) : lfv X 0 u g = 0 := by
  unfold lfv
  rw [if_neg (by omega), if_neg (by omega), if_neg (by omega)]
theorem pr_17 {b : Int} : prv 17 c b = if c = b then 1 else 0 := if_pos rfl
theorem pr_18 {b : Int} : prv 18 c b = if c < b then 1 else 0 := by unfold prv; rw [if_neg (by decide), if_pos rfl]
theorem pr_19 {b : Int} : prv 19 c b = w64 (c + b) := by unfold prv; rw [if_neg (by decide), if_neg (by decide), if_pos rfl]
theorem pr_20 {b : Int} : prv 20 c b = w64 (c - b) := by unfold prv; rw [if_neg (by decide), if_neg (by decide), if_neg (by decide), if_pos rfl]
theorem pr_21 {b : Int} : prv 21 c b = w64 (c * b) := by unfold prv; rw [if_neg (by decide), if_neg (by decide), if_neg (by decide), if_neg (by decide)]
theorem le0 : ([] : List Int).length ≤ 600 := Nat.zero_le _
theorem le1 : [x].length ≤ 600 := Nat.le_of_ble_eq_true rfl
/-- two units and what stands between them -/
theorem rg_e {b d : Int} {u1 u2 u3 : Nat} (hu : u1 < 256 ∧ u2 < 256 ∧ u3 < 256) (hs : s < 200) (w0 : wrd X 0 p = mk 6 a 0) (w1 : wrd X 0 (p + 1) = mk 14 u1 0) (w2 : wrd X 0 (p + 2) = mk 14 u2 0) (w3 : wrd X 0 (p + 3) = mk 17 u3 0) (h1 : lfv X 0 u1 v = c) (h2 : lfv X 0 u2 v = b) (h3 : prv (kn (ks X 0) u3) c b = d) (h : RG X m ([(0, p + 4, v)], [d], s + 1, res) R) : RG X (m + 4) ([(0, p, v)], [], s, res) R := by
  rw [← h3] at h
  exact g_6 le0 hs w0 (g_14 le0 hu.1 w1 h1 (g_14 le1 hu.2.1 w2 h2 (g_17 le0 hu.2.2 w3 h)))
end Mrl
/-! THE EIGHT LINES: a run, line by line -/
section Mrl2
variable {X : Nat → List Int} {m p s a j n k z : Nat} {R res : Int} {v e : Nat → Int}
theorem wa_z (hn : n < 8) (hk : kdz z n = k) : WA (XZ z 8) (lwz z n) (wlk k (fsz z n) (tgz z n) n) := fun i hi => by
  obtain ⟨B, hB⟩ := wz_cut (z := z) hn
  rw [hk] at hB
  have hl : lwz z n + i < (Cw (XZ z 8) 0).length := by
    rw [hB, List.length_append, List.length_append, wz_len]
    omega
  unfold wrd
  rw [if_pos hl, hB, gx_app, if_neg (by rw [wz_len]; omega), wz_len, Nat.add_sub_cancel_left, gx_app, if_pos hi]
/-- what is asked of a line: the names' slots, the classes and texts of its tokens -/
def LIz (X : Nat → List Int) (k a : Nat) (e : Nat → Int) : Prop :=
  KA (ks X 0) k a ∧ a < 200 ∧ (0 ≤ e 0 ∧ e 0 < 200) ∧ (e 1 = -1 ∨ (0 ≤ e 1 ∧ e 1 < 200)) ∧ (∀ i, i < tkz k → tx X 0 (a + i) = txk k i) ∧
  (k = 4 → bnd X (a + 3) = e 0 ∧ bnd X (a + 1) = ((a + 1 : Nat) : Int)) ∧ (k = 5 ∨ k = 20 → bnd X (a + 1) = ((a + 1 : Nat) : Int)) ∧ (k = 6 ∨ k = 8 → bnd X (a + 1) = e 0) ∧ (k = 7 → bnd X (a + 1) = e 1) ∧ (k = 10 → bnd X a = e 0 ∧ bnd X (a + 2) = e 0) ∧ (k = 16 → bnd X (a + 1) = e 0 ∧ bnd X (a + 3) = e 1)
theorem rg_4 (H : LIz X 4 a e) (ha : a < 100) (hW : WA X p (wlk 4 a j n)) (hs : s < 200) (h : RG X m ([(0, p + 5, vup v (a + 1) (w64 (v (e 0).toNat + 1)))], [], s + 1, res) R) : RG X (m + 5) ([(0, p, v)], [], s, res) R := by
  obtain ⟨hK, -, he0, he1, hT, b4, -⟩ := H
  obtain ⟨b3, b1⟩ := b4 rfl
  rw [w_k4] at hW
  have k3 : kn (ks X 0) (a + 3) = 0 := hK 3 (by decide)
  have k4 : kn (ks X 0) (a + 4) = 19 := hK 4 (by decide)
  have k5 : kn (ks X 0) (a + 5) = 1 := hK 5 (by decide)
  have t5 : tx X 0 (a + 5) = [49] := (hT 5 (by decide)).trans txk_x.2.2.2.1
  refine rg_e (m := m + 1) ⟨by omega, by omega, by omega⟩ hs (hW 0 (Nat.le_of_ble_eq_true rfl)) (hW 1 (Nat.le_of_ble_eq_true rfl)) (hW 2 (Nat.le_of_ble_eq_true rfl)) (hW 3 (Nat.le_of_ble_eq_true rfl)) (lf_x k3 b3 he0) (lf_i k5 t5 (by decide)) (d := w64 (v (e 0).toNat + 1)) (by rw [k4, pr_19]; rfl) ?_
  exact g_78 (Or.inl rfl) le0 (by omega) (hW 4 (Nat.le_of_ble_eq_true rfl)) b1 (by omega) h
theorem rg_10 (H : LIz X 10 a e) (ha : a < 100) (hW : WA X p (wlk 10 a j n)) (hs : s < 200) (h : RG X m ([(0, p + 5, vup v (e 0).toNat (w64 (v (e 0).toNat - 1)))], [], s + 1, res) R) : RG X (m + 5) ([(0, p, v)], [], s, res) R := by
  obtain ⟨hK, -, he0, he1, hT, -, -, -, -, b10, -⟩ := H
  obtain ⟨b0, b2⟩ := b10 rfl
  rw [w_k10] at hW
  have k2 : kn (ks X 0) (a + 2) = 0 := hK 2 (by decide)
  have k3 : kn (ks X 0) (a + 3) = 20 := hK 3 (by decide)
  have k4 : kn (ks X 0) (a + 4) = 1 := hK 4 (by decide)
  have t4 : tx X 0 (a + 4) = [49] := (hT 4 (by decide)).trans txk_x.2.2.2.2.2.2.2
  refine rg_e (m := m + 1) ⟨by omega, by omega, by omega⟩ hs (hW 0 (Nat.le_of_ble_eq_true rfl)) (hW 1 (Nat.le_of_ble_eq_true rfl)) (hW 2 (Nat.le_of_ble_eq_true rfl)) (hW 3 (Nat.le_of_ble_eq_true rfl)) (lf_x k2 b2 he0) (lf_i k4 t4 (by decide)) (d := w64 (v (e 0).toNat - 1)) (by rw [k3, pr_20]; rfl) ?_
  exact g_78 (Or.inr rfl) le0 (by omega) (hW 4 (Nat.le_of_ble_eq_true rfl)) (i := (e 0).toNat) (b0.trans (by omega)) (by omega) h
theorem rg_5 (H : LIz X 5 a e) (ha : a < 100) (hW : WA X p (wlk 5 a j n)) (hs : s < 200) (h : RG X m ([(0, p + 3, vup v (a + 1) 2)], [], s + 1, res) R) : RG X (m + 3) ([(0, p, v)], [], s, res) R := by
  obtain ⟨hK, -, he0, he1, hT, -, b5, -⟩ := H
  have b1 := b5 (Or.inl rfl)
  rw [w_k5] at hW
  have k3 : kn (ks X 0) (a + 3) = 1 := hK 3 (by decide)
  have t3 : tx X 0 (a + 3) = [50] := (hT 3 (by decide)).trans txk_x.2.2.2.2.1
  exact g_6 le0 hs (hW 0 (Nat.le_of_ble_eq_true rfl)) (g_14 le0 (by omega) (hW 1 (Nat.le_of_ble_eq_true rfl)) (x := 2) (lf_i k3 t3 (by decide)) (g_78 (Or.inl rfl) le0 (by omega) (hW 2 (Nat.le_of_ble_eq_true rfl)) b1 (by omega) h))
theorem rg_20 (H : LIz X 20 a e) (ha : a < 100) (hW : WA X p (wlk 20 a j n)) (hs : s < 200) (h : RG X m ([(0, p + 4, vup v (a + 1) 1)], [], s + 1, res) R) : RG X (m + 4) ([(0, p, v)], [], s, res) R := by
  obtain ⟨hK, -, he0, he1, hT, -, b5, -⟩ := H
  have b1 := b5 (Or.inr rfl)
  rw [w_k20] at hW
  have k4 : kn (ks X 0) (a + 4) = 9 := hK 4 (by decide)
  refine g_6 le0 hs (hW 0 (Nat.le_of_ble_eq_true rfl)) (g_14 le0 (by omega) (hW 1 (Nat.le_of_ble_eq_true rfl)) (lf_b k4) (g_16 le0 (hW 2 (Nat.le_of_ble_eq_true rfl)) ?_))
  rw [if_pos rfl]
  exact g_78 (Or.inl rfl) le0 (by omega) (hW 3 (Nat.le_of_ble_eq_true rfl)) b1 (by omega) h
theorem rg_6 (H : LIz X 6 a e) (ha : a < 100) (hW : WA X p (wlk 6 a j n)) (hs : s < 200) : RG X 4 ([(0, p, v)], [], s, res) (v (e 0).toNat) := by
  obtain ⟨hK, -, he0, he1, hT, -, -, b6, -⟩ := H
  have b1 := b6 (Or.inl rfl)
  rw [w_k6] at hW
  have k1 : kn (ks X 0) (a + 1) = 0 := hK 1 (by decide)
  exact g_6 le0 hs (hW 0 (Nat.le_of_ble_eq_true rfl)) (g_14 le0 (by omega) (hW 1 (Nat.le_of_ble_eq_true rfl)) (lf_x k1 b1 he0) (g_10 le0 (hW 2 (Nat.le_of_ble_eq_true rfl))))
theorem rg_7 (H : LIz X 7 a e) (ha : a < 100) (hW : WA X p (wlk 7 a j n)) (hs : s < 200) : RG X 6 ([(0, p, v)], [], s, res) (w64 ((if e 1 < 0 then 0 else v (e 1).toNat) * 2)) := by
  obtain ⟨hK, -, he0, he1, hT, -, -, -, b7, -⟩ := H
  have b1 := b7 rfl
  rw [w_k7] at hW
  have k1 : kn (ks X 0) (a + 1) = 0 := hK 1 (by decide)
  have k2 : kn (ks X 0) (a + 2) = 21 := hK 2 (by decide)
  have k3 : kn (ks X 0) (a + 3) = 1 := hK 3 (by decide)
  have t3 : tx X 0 (a + 3) = [50] := (hT 3 (by decide)).trans txk_x.2.2.2.2.2.1
  exact rg_e (m := 2) ⟨by omega, by omega, by omega⟩ hs (hW 0 (Nat.le_of_ble_eq_true rfl)) (hW 1 (Nat.le_of_ble_eq_true rfl)) (hW 2 (Nat.le_of_ble_eq_true rfl)) (hW 3 (Nat.le_of_ble_eq_true rfl)) (lf_y k1 b1 he1) (lf_i k3 t3 (by decide)) (d := w64 ((if e 1 < 0 then 0 else v (e 1).toNat) * 2)) (by rw [k2, pr_21]; rfl) (g_10 le0 (hW 4 (Nat.le_of_ble_eq_true rfl)))
theorem rg_16 (H : LIz X 16 a e) (ha : a < 100) (hW : WA X p (wlk 16 a j n)) (hs : s < 200) : RG X 6 ([(0, p, v)], [], s, res) (if v (e 0).toNat = (if e 1 < 0 then 0 else v (e 1).toNat) then 1 else 0) := by
  obtain ⟨hK, -, he0, he1, hT, -, -, -, -, -, b16⟩ := H
  obtain ⟨b1, b3⟩ := b16 rfl
  rw [w_k16] at hW
  have k1 : kn (ks X 0) (a + 1) = 0 := hK 1 (by decide)
  have k2 : kn (ks X 0) (a + 2) = 17 := hK 2 (by decide)
  have k3 : kn (ks X 0) (a + 3) = 0 := hK 3 (by decide)
  exact rg_e (m := 2) ⟨by omega, by omega, by omega⟩ hs (hW 0 (Nat.le_of_ble_eq_true rfl)) (hW 1 (Nat.le_of_ble_eq_true rfl)) (hW 2 (Nat.le_of_ble_eq_true rfl)) (hW 3 (Nat.le_of_ble_eq_true rfl)) (lf_x k1 b1 he0) (lf_y k3 b3 he1) (d := if v (e 0).toNat = (if e 1 < 0 then 0 else v (e 1).toNat) then 1 else 0) (by rw [k2, pr_17]) (g_10 le0 (hW 4 (Nat.le_of_ble_eq_true rfl)))
/-- IF: the test holds, and it doesn't -/
theorem rg_8 (H : LIz X 8 a e) (ha : a < 100) (hW : WA X p (wlk 8 a j n)) (hs : s < 200) (h1 : v (e 0).toNat < 3 → RG X m ([(0, p + 6, v)], [], s + 1, res) R) (h2 : ¬ v (e 0).toNat < 3 → RG X m ([(0, j, v)], [], s + 1, res) R) : RG X (m + 6) ([(0, p, v)], [], s, res) R := by
  obtain ⟨hK, -, he0, he1, hT, -, -, b6, -⟩ := H
  have b1 := b6 (Or.inr rfl)
  rw [w_k8] at hW
  have k1 : kn (ks X 0) (a + 1) = 0 := hK 1 (by decide)
  have k2 : kn (ks X 0) (a + 2) = 18 := hK 2 (by decide)
  have k3 : kn (ks X 0) (a + 3) = 1 := hK 3 (by decide)
  have t3 : tx X 0 (a + 3) = [51] := (hT 3 (by decide)).trans txk_x.2.2.2.2.2.2.1
  refine rg_e (m := m + 2) ⟨by omega, by omega, by omega⟩ hs (hW 0 (Nat.le_of_ble_eq_true rfl)) (hW 1 (Nat.le_of_ble_eq_true rfl)) (hW 2 (Nat.le_of_ble_eq_true rfl)) (hW 3 (Nat.le_of_ble_eq_true rfl)) (lf_x k1 b1 he0) (lf_i k3 t3 (by decide)) (d := if v (e 0).toNat < 3 then 1 else 0) (by rw [k2, pr_18]; rfl) ?_
  refine g_11 le0 (by omega) (hW 4 (Nat.le_of_ble_eq_true rfl)) ?_
  by_cases q : v (e 0).toNat < 3
  · rw [if_pos q, if_neg (by decide)]
    exact g_o (Or.inr (Or.inl rfl)) le0 (hW 5 (Nat.le_of_ble_eq_true rfl)) (h1 q)
  · rw [if_neg q, if_pos rfl]
    exact (h2 q).mo (Nat.le_succ _)
end Mrl2
