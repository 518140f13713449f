/-! THE LAW'S OWN ROWS: the class and the length of a token -/
def pck (w : List Int) : Int := w.foldl (fun a c => a * 128 + c) 0
def kpk (x : Int) : Int := if x = 1931749 then 2 else if x = 13166 then 3 else if x = 1782516 then 4 else if x = 13542 then 5 else if x = 213596645 then 6 else if x = 1880820 then 7 else if x = 1995507 then 8 else if x = 14191 then 9 else 0
theorem pck_snoc (w : List Int) (c : Int) : pck (w ++ [c]) = pck w * 128 + c := by
  unfold pck
  rw [List.foldl_append]
  rfl
theorem gx_el {l : List Int} {i : Nat} (h : i < l.length) : gx l i = l[i] := by
  unfold gx
  rw [List.getD_eq_getElem?_getD, List.getElem?_eq_getElem h]
  rfl
theorem pck_rng (w : List Int) (h : ∀ c ∈ w, 0 ≤ c ∧ c < 128) : ∀ i, i ≤ w.length → i ≤ 5 → 0 ≤ pck (w.take i) ∧ pck (w.take i) < 34359738368 ∧ (i ≤ 4 → pck (w.take i) < 268435456) ∧ (i ≤ 3 → pck (w.take i) < 2097152) ∧ (i ≤ 2 → pck (w.take i) < 16384) ∧ (i ≤ 1 → pck (w.take i) < 128) ∧ (i ≤ 0 → pck (w.take i) = 0) := by
  intro i
  induction i with
  | zero =>
    intro _ _
    have e0 : pck (w.take 0) = 0 := rfl
    rw [e0]
    exact ⟨by decide, by decide, fun _ => by decide, fun _ => by decide, fun _ => by decide, fun _ => by decide, fun _ => rfl⟩
  | succ i ih =>
    intro h1 h2
    obtain ⟨a1, a2, a3, a4, a5, a6, a7⟩ := ih (by omega) (by omega)
    rw [List.take_succ_eq_append_getElem (show i < w.length by omega), pck_snoc]
    have hc := h w[i] (List.getElem_mem _)
    have b3 := a3 (by omega)
    refine ⟨by omega, by omega, fun h => ?_, fun h => ?_, fun h => ?_, fun h => ?_, fun h => by omega⟩
    · have := a4 (by omega); omega
    · have := a5 (by omega); omega
    · have := a6 (by omega); omega
    · have := a7 (by omega); omega
theorem pck_w {x c : Int} (h : 0 ≤ x ∧ x < 34359738368) (hc : 0 ≤ c ∧ c < 128) : w64 (w64 (x * 128) + c) = x * 128 + c := by
  rw [w64_of (x := x * 128) (by omega) (by omega), w64_of (by omega) (by omega)]
theorem isL_128 {c : Int} (h : isL c = true) : 0 ≤ c ∧ c < 128 := by
  unfold isL at h
  have := of_decide_eq_true h
  omega
theorem kwd_lng {w : List Int} (h : 4 < w.length) : kwd w = 0 := by
  have e : ∀ m : List Int, m.length ≤ 4 → w ≠ m := fun m h2 e => by rw [e] at h; omega
  unfold kwd
  rw [if_neg (e _ (by decide)), if_neg (e _ (by decide)), if_neg (e _ (by decide)), if_neg (e _ (by decide)), if_neg (e _ (by decide)), if_neg (e _ (by decide)), if_neg (e _ (by decide)), if_neg (e _ (by decide))]
theorem kpk_kwd {w : List Int} (h : ∀ c ∈ w, 97 ≤ c ∧ c ≤ 122) (h1 : 1 ≤ w.length) : kpk (pck (w.take 5)) = kwd w := by
  have e2 : kwt 2 = [117, 115, 101] := by decide +kernel
  have e3 : kwt 3 = [102, 110] := by decide +kernel
  have e4 : kwt 4 = [108, 101, 116] := by decide +kernel
  have e5 : kwt 5 = [105, 102] := by decide +kernel
  have e6 : kwt 6 = [101, 108, 115, 101] := by decide +kernel
  have e7 : kwt 7 = [114, 101, 116] := by decide +kernel
  have e8 : kwt 8 = [121, 101, 115] := by decide +kernel
  have e9 : kwt 9 = [110, 111] := by decide +kernel
  match w, h, h1 with
  | [a], h, _ =>
    have ha := h a (by simp)
    have e : pck (([a] : List Int).take 5) = a := by show 0 * 128 + a = a; omega
    unfold kwd kpk
    rw [e2, e3, e4, e5, e6, e7, e8, e9, e]
    simp only [List.cons.injEq, reduceCtorEq, and_false, if_false]
    (repeat' split) <;> first | rfl | omega
  | [a, b], h, _ =>
    have ha := h a (by simp)
    have hb := h b (by simp)
    have e : pck (([a, b] : List Int).take 5) = a * 128 + b := by show (0 * 128 + a) * 128 + b = _; omega
    unfold kwd kpk
    rw [e2, e3, e4, e5, e6, e7, e8, e9, e]
    simp only [List.cons.injEq, reduceCtorEq, and_false, if_false, and_true]
    (repeat' split) <;> first | rfl | omega
  | [a, b, c], h, _ =>
    have ha := h a (by simp)
    have hb := h b (by simp)
    have hc := h c (by simp)
    have e : pck (([a, b, c] : List Int).take 5) = (a * 128 + b) * 128 + c := by show ((0 * 128 + a) * 128 + b) * 128 + c = _; omega
    unfold kwd kpk
    rw [e2, e3, e4, e5, e6, e7, e8, e9, e]
    simp only [List.cons.injEq, reduceCtorEq, and_false, if_false, and_true]
    (repeat' split) <;> first | rfl | omega
  | [a, b, c, d], h, _ =>
    have ha := h a (by simp)
    have hb := h b (by simp)
    have hc := h c (by simp)
    have hd := h d (by simp)
    have e : pck (([a, b, c, d] : List Int).take 5) = ((a * 128 + b) * 128 + c) * 128 + d := by show (((0 * 128 + a) * 128 + b) * 128 + c) * 128 + d = _; omega
    unfold kwd kpk
    rw [e2, e3, e4, e5, e6, e7, e8, e9, e]
    simp only [List.cons.injEq, reduceCtorEq, and_false, if_false, and_true]
    (repeat' split) <;> first | rfl | omega
  | a :: b :: c :: d :: e :: t, h, _ =>
    have ha := h a (by simp)
    have hb := h b (by simp)
    have hc := h c (by simp)
    have hd := h d (by simp)
    have he := h e (by simp)
    rw [kwd_lng (by simp)]
    have e1 : pck ((a :: b :: c :: d :: e :: t).take 5) = (((a * 128 + b) * 128 + c) * 128 + d) * 128 + e := by show ((((0 * 128 + a) * 128 + b) * 128 + c) * 128 + d) * 128 + e = _; omega
    unfold kpk
    rw [e1, if_neg (by omega), if_neg (by omega), if_neg (by omega), if_neg (by omega), if_neg (by omega), if_neg (by omega), if_neg (by omega), if_neg (by omega)]
  | [], _, h1 => exact absurd h1 (by decide)
theorem spn_end (p : Int → Bool) : ∀ l : List Int, spn p l < l.length → p (gx l (spn p l)) = false := by
  intro l
  induction l with
  | nil => intro h; cases h
  | cons c t ih =>
    intro h
    rw [spn_cons] at h ⊢
    by_cases hc : p c = true
    · rw [if_pos hc] at h ⊢
      rw [List.length_cons] at h
      have := ih (by omega)
      rw [show 1 + spn p t = spn p t + 1 by omega]
      exact this
    · rw [if_neg hc]
      exact Bool.eq_false_iff.mpr hc
section Mo3
variable {n m j : Nat} {F : MF} {Y : Nat → List Int} {R : Int → MF → Prop}
theorem cz {x c : Int} : (if x < c then (-1 : Int) else if x = c then 0 else 1) = 0 ↔ x = c := by
  constructor
  · intro h
    split at h
    · cases h
    · split at h
      · assumption
      · cases h
  · intro h
    rw [if_neg (by omega), if_pos h]
theorem l_205e {s : Nat} {x : Int} (hS : St F) (hj : j ≤ 24) (hs : s ≤ 24) (hR : R (kpk x + 100 * (s : Int)) F) : L_205_85 (j : Int) ((j + s : Nat) : Int) x F R m_no := by
  refine b_205_85 hS ?_
  have e : ((j + s : Nat) : Int) - (j : Int) = (s : Int) := by omega
  rw [e]
  simp only [cz]
  unfold kpk at hR
  by_cases a1 : x = 1931749
  · rw [if_pos a1] at hR; exact ⟨fun _ => ⟨by omega, by omega, by omega, hR⟩, fun h => absurd a1 h⟩
  rw [if_neg a1] at hR; refine ⟨fun h => absurd h a1, fun _ => ?_⟩
  by_cases a2 : x = 13166
  · rw [if_pos a2] at hR; exact ⟨fun _ => ⟨by omega, by omega, by omega, hR⟩, fun h => absurd a2 h⟩
  rw [if_neg a2] at hR; refine ⟨fun h => absurd h a2, fun _ => ?_⟩
  by_cases a3 : x = 1782516
  · rw [if_pos a3] at hR; exact ⟨fun _ => ⟨by omega, by omega, by omega, hR⟩, fun h => absurd a3 h⟩
  rw [if_neg a3] at hR; refine ⟨fun h => absurd h a3, fun _ => ?_⟩
  by_cases a4 : x = 13542
  · rw [if_pos a4] at hR; exact ⟨fun _ => ⟨by omega, by omega, by omega, hR⟩, fun h => absurd a4 h⟩
  rw [if_neg a4] at hR; refine ⟨fun h => absurd h a4, fun _ => ?_⟩
  by_cases a5 : x = 213596645
  · rw [if_pos a5] at hR; exact ⟨fun _ => ⟨by omega, by omega, by omega, hR⟩, fun h => absurd a5 h⟩
  rw [if_neg a5] at hR; refine ⟨fun h => absurd h a5, fun _ => ?_⟩
  by_cases a6 : x = 1880820
  · rw [if_pos a6] at hR; exact ⟨fun _ => ⟨by omega, by omega, by omega, hR⟩, fun h => absurd a6 h⟩
  rw [if_neg a6] at hR; refine ⟨fun h => absurd h a6, fun _ => ?_⟩
  by_cases a7 : x = 1995507
  · rw [if_pos a7] at hR; exact ⟨fun _ => ⟨by omega, by omega, by omega, hR⟩, fun h => absurd a7 h⟩
  rw [if_neg a7] at hR; refine ⟨fun h => absurd h a7, fun _ => ?_⟩
  by_cases a8 : x = 14191
  · rw [if_pos a8] at hR; exact ⟨fun _ => ⟨by omega, by omega, by omega, hR⟩, fun h => absurd a8 h⟩
  rw [if_neg a8] at hR
  exact ⟨fun h => absurd h a8, fun _ => ⟨by omega, by omega, by omega, hR⟩⟩
theorem isL_p {c : Int} : p_203 F c 97 122 ↔ isL c = true := by
  unfold p_203 isL
  rw [decide_eq_true_iff]
  omega
theorem isD_p {c : Int} : p_203 F c 48 57 ↔ isD c = true := by
  unfold p_203 isD
  rw [decide_eq_true_iff]
  omega
theorem l_205w (hk : m_KD[n]? = some (101, 24)) (hS : St F) (hT : TPw (F n) Y) (hm : m < 8) {s : Nat} (hs : s = spn isL ((Y m).drop j)) (hj : j < (Y m).length) (hR : R (kpk (pck ((seg (Y m) j s).take 5)) + 100 * (s : Int)) F) : ∀ (d i : Nat), i + d = s →
    L_205_26 n (m : Int) ((Y m).length : Int) (j : Int) ((j + i : Nat) : Int) (pck ((seg (Y m) j s).take (min i 5))) F R m_no := by
  have hl := (hT.2 m hm).1
  have hsl : j + s ≤ (Y m).length := by
    have := spn_le isL ((Y m).drop j)
    rw [List.length_drop] at this
    omega
  have hW : (seg (Y m) j s).length = s := seg_len hsl
  have hWl : ∀ c ∈ seg (Y m) j s, 97 ≤ c ∧ c ≤ 122 := fun c hc => by
    obtain ⟨i, hi, rfl⟩ := List.mem_iff_getElem.mp hc
    rw [hW] at hi
    rw [← gx_el, seg_gx hi, ← gx_drop]
    have := spn_all isL _ i (by omega : i < spn isL ((Y m).drop j))
    unfold isL at this
    exact of_decide_eq_true this
  have fin : pck ((seg (Y m) j s).take (min s 5)) = pck ((seg (Y m) j s).take 5) := by
    by_cases h5 : s ≤ 5
    · rw [Nat.min_eq_left h5, List.take_of_length_le (by omega), List.take_of_length_le (by omega)]
    · rw [Nat.min_eq_right (by omega)]
  intro d
  induction d with
  | zero =>
    intro i hi
    obtain rfl : i = s := by omega
    have last := l_205e (R := R) (x := pck ((seg (Y m) j i).take (min i 5))) hS (show j ≤ 24 by omega) (show i ≤ 24 by omega) (by rw [fin]; exact hR)
    refine b_205_26 hk hS ⟨fun h => ⟨ob_201 hm (by omega), ⟨fun h2 => ?_, fun _ => last⟩⟩, fun _ => last⟩
    exfalso
    rw [isL_p, q_201y hT hm (by omega)] at h2
    have h3 := spn_end isL ((Y m).drop j) (by rw [List.length_drop]; omega)
    rw [← hs, gx_drop] at h3
    rw [h3] at h2
    cases h2
  | succ d ih =>
    intro i hi
    have hil : j + i < (Y m).length := by omega
    have hch : isL (gx (Y m) (j + i)) = true := by
      have := spn_all isL _ i (by omega : i < spn isL ((Y m).drop j))
      rwa [gx_drop] at this
    have g0 := q_201y hT hm hil
    have nx := ih (i + 1) (by omega)
    rw [show (((j + (i + 1) : Nat)) : Int) = ((j + i : Nat) : Int) + 1 by omega] at nx
    refine b_205_26 hk hS ⟨fun _ => ⟨ob_201 hm (by omega), ⟨fun _ => ⟨by omega, ⟨fun h5 => ⟨ob_201 hm (by omega), by omega, ?_⟩, fun h5 => ⟨by omega, ?_⟩⟩⟩, fun h => absurd (by rw [isL_p, g0]; exact hch) h⟩⟩, fun h => by omega⟩
    · rw [g0]
      have hi5 : i < 5 := by omega
      have e1 : min i 5 = i := Nat.min_eq_left (by omega)
      have e2 : min (i + 1) 5 = i + 1 := Nat.min_eq_left (by omega)
      rw [e2, List.take_succ_eq_append_getElem (show i < (seg (Y m) j s).length by omega), pck_snoc, ← gx_el, seg_gx (show i < s by omega)] at nx
      rw [e1]
      have hr := pck_rng (seg (Y m) j s) (fun c hc => by have := hWl c hc; omega) i (by omega) (by omega)
      rw [pck_w ⟨hr.1, hr.2.1⟩ (isL_128 hch)]
      exact nx
    · have e1 : min i 5 = 5 := Nat.min_eq_right (by omega)
      have e2 : min (i + 1) 5 = 5 := Nat.min_eq_right (by omega)
      rw [e2] at nx
      rw [e1]
      exact nx
theorem l_205d (hk : m_KD[n]? = some (101, 24)) (hS : St F) (hT : TPw (F n) Y) (hm : m < 8) {s : Nat} (hs : s = spn isD ((Y m).drop j)) (hj : j < (Y m).length) (hR : R ((if 3 < s then 23 else 1) + 100 * (s : Int)) F) : ∀ (d i : Nat), i + d = s →
    L_205_219 n (m : Int) ((Y m).length : Int) (j : Int) ((j + i : Nat) : Int) F R m_no := by
  have hl := (hT.2 m hm).1
  have hsl : j + s ≤ (Y m).length := by
    have := spn_le isD ((Y m).drop j)
    rw [List.length_drop] at this
    omega
  intro d
  induction d with
  | zero =>
    intro i hi
    obtain rfl : i = s := by omega
    have e : ((j + i : Nat) : Int) - (j : Int) = (i : Int) := by omega
    have last : L_205_248 (j : Int) ((j + i : Nat) : Int) F R m_no := by
      refine b_205_248 hS ?_
      rw [e]
      refine ⟨by omega, ⟨fun h => ⟨by omega, by omega, by omega, ?_⟩, fun h => ⟨by omega, by omega, by omega, ?_⟩⟩⟩
      · rw [if_pos (by omega)] at hR; exact hR
      · rw [if_neg (by omega)] at hR; exact hR
    refine b_205_219 hk hS ⟨fun h => ⟨ob_201 hm (by omega), ⟨fun h2 => ?_, fun _ => last⟩⟩, fun _ => last⟩
    exfalso
    rw [isD_p, q_201y hT hm (by omega)] at h2
    have h3 := spn_end isD ((Y m).drop j) (by rw [List.length_drop]; omega)
    rw [← hs, gx_drop] at h3
    rw [h3] at h2
    cases h2
  | succ d ih =>
    intro i hi
    have hil : j + i < (Y m).length := by omega
    have hch : isD (gx (Y m) (j + i)) = true := by
      have := spn_all isD _ i (by omega : i < spn isD ((Y m).drop j))
      rwa [gx_drop] at this
    have g0 := q_201y hT hm hil
    have nx := ih (i + 1) (by omega)
    rw [show (((j + (i + 1) : Nat)) : Int) = ((j + i : Nat) : Int) + 1 by omega] at nx
    exact b_205_219 hk hS ⟨fun _ => ⟨ob_201 hm (by omega), ⟨fun _ => ⟨by omega, nx⟩, fun h => absurd (by rw [isD_p, g0]; exact hch) h⟩⟩, fun h => by omega⟩
theorem l_205s {c : Int} (hS : St F) (hc : c ≠ 32) (hR : R (100 + sgc c) F) : L_205_302 c F R m_no := by
  refine b_205_302 hS ?_
  unfold sgc at hR
  by_cases a1 : c = 40
  · rw [if_pos a1] at hR; exact ⟨fun _ => hR, fun h => absurd a1 h⟩
  rw [if_neg a1] at hR; refine ⟨fun h => absurd h a1, fun _ => ?_⟩
  by_cases a2 : c = 41
  · rw [if_pos a2] at hR; exact ⟨fun _ => hR, fun h => absurd a2 h⟩
  rw [if_neg a2] at hR; refine ⟨fun h => absurd h a2, fun _ => ?_⟩
  by_cases a3 : c = 123
  · rw [if_pos a3] at hR; exact ⟨fun _ => hR, fun h => absurd a3 h⟩
  rw [if_neg a3] at hR; refine ⟨fun h => absurd h a3, fun _ => ?_⟩
  by_cases a4 : c = 125
  · rw [if_pos a4] at hR; exact ⟨fun _ => hR, fun h => absurd a4 h⟩
  rw [if_neg a4] at hR; refine ⟨fun h => absurd h a4, fun _ => ?_⟩
  by_cases a5 : c = 44
  · rw [if_pos a5] at hR; exact ⟨fun _ => hR, fun h => absurd a5 h⟩
  rw [if_neg a5] at hR; refine ⟨fun h => absurd h a5, fun _ => ?_⟩
  by_cases a6 : c = 59
  · rw [if_pos a6] at hR; exact ⟨fun _ => hR, fun h => absurd a6 h⟩
  rw [if_neg a6] at hR; refine ⟨fun h => absurd h a6, fun _ => ?_⟩
  by_cases a7 : c = 61
  · rw [if_pos a7] at hR; exact ⟨fun _ => hR, fun h => absurd a7 h⟩
  rw [if_neg a7, if_neg hc] at hR; refine ⟨fun h => absurd h a7, fun _ => ?_⟩
  by_cases a8 : c = 60
  · rw [if_pos a8] at hR; exact ⟨fun _ => hR, fun h => absurd a8 h⟩
  rw [if_neg a8] at hR; refine ⟨fun h => absurd h a8, fun _ => ?_⟩
  by_cases a9 : c = 43
  · rw [if_pos a9] at hR; exact ⟨fun _ => hR, fun h => absurd a9 h⟩
  rw [if_neg a9] at hR; refine ⟨fun h => absurd h a9, fun _ => ?_⟩
  by_cases b1 : c = 45
  · rw [if_pos b1] at hR; exact ⟨fun _ => hR, fun h => absurd b1 h⟩
  rw [if_neg b1] at hR; refine ⟨fun h => absurd h b1, fun _ => ?_⟩
  by_cases b2 : c = 42
  · rw [if_pos b2] at hR; exact ⟨fun _ => hR, fun h => absurd b2 h⟩
  rw [if_neg b2] at hR; refine ⟨fun h => absurd h b2, fun _ => ?_⟩
  by_cases b3 : c = 33
  · rw [if_pos b3] at hR; exact ⟨fun _ => hR, fun h => absurd b3 h⟩
  rw [if_neg b3] at hR
  exact ⟨fun h => absurd h b3, fun _ => hR⟩
/-- the class of a token, and 100 times its length -/
theorem s_205 (hk : m_KD[n]? = some (101, 24)) (hS : St F) (hT : TPw (F n) Y) (hm : m < 8) (hj : j < (Y m).length) (hb : gx (Y m) j ≠ 32) :
    C_205 n (m : Int) ((Y m).length : Int) (j : Int) F (fun r F' => r = clsw (seg (Y m) j (span (Y m) j)) + 100 * (span (Y m) j : Nat) ∧ F' = F) m_no := by
  have hl := (hT.2 m hm).1
  have g0 := q_201y hT hm hj
  have hsp := span_pos (Y m) j hj
  have hsl := span_le (Y m) j hj
  have hg : gx (seg (Y m) j (span (Y m) j)) 0 = gx (Y m) j := seg_gx (by omega)
  have hn := seg_len hsl
  refine c_205 hk hS ⟨ob_201 hm (by omega), ?_⟩
  rw [g0]
  refine ⟨fun h1 => ?_, fun h1 => ⟨fun h2 => ?_, fun h2 => ?_⟩⟩
  · have h1' := isL_p.mp h1
    have h61 : gx (Y m) j ≠ 61 := fun e => by rw [e] at h1'; cases h1'
    have hspan : span (Y m) j = spn isL ((Y m).drop j) := by unfold span; rw [if_neg h61, if_pos h1']
    have hcl : clsw (seg (Y m) j (span (Y m) j)) = kwd (seg (Y m) j (span (Y m) j)) := by unfold clsw; rw [hg, if_pos h1']
    have hkp : kpk (pck ((seg (Y m) j (span (Y m) j)).take 5)) = kwd (seg (Y m) j (span (Y m) j)) := kpk_kwd (fun c hc => by
      obtain ⟨i, hi, rfl⟩ := List.mem_iff_getElem.mp hc
      rw [hn] at hi
      rw [← gx_el, seg_gx hi, ← gx_drop]
      have := spn_all isL _ i (by omega : i < spn isL ((Y m).drop j))
      unfold isL at this
      exact of_decide_eq_true this) (by omega)
    exact l_205w (s := span (Y m) j) hk hS hT hm hspan hj ⟨by rw [hkp, hcl], rfl⟩ (span (Y m) j) 0 (by omega)
  · have h1' : ¬ isL (gx (Y m) j) = true := fun e => h1 (isL_p.mpr e)
    have h2' := isD_p.mp h2
    have h61 : gx (Y m) j ≠ 61 := fun e => by rw [e] at h2'; cases h2'
    have hspan : span (Y m) j = spn isD ((Y m).drop j) := by unfold span; rw [if_neg h61, if_neg h1', if_pos h2']
    have hcl : clsw (seg (Y m) j (span (Y m) j)) = if 3 < span (Y m) j then 23 else 1 := by unfold clsw; rw [hg, if_neg h1', if_pos h2', hn]
    exact l_205d (s := span (Y m) j) hk hS hT hm hspan hj ⟨by rw [hcl], rfl⟩ (span (Y m) j) 0 (by omega)
  · have h1' : ¬ isL (gx (Y m) j) = true := fun e => h1 (isL_p.mpr e)
    have h2' : ¬ isD (gx (Y m) j) = true := fun e => h2 (isD_p.mpr e)
    have one : span (Y m) j = 1 → L_205_302 (gx (Y m) j) F (fun r F' => r = clsw (seg (Y m) j (span (Y m) j)) + 100 * (span (Y m) j : Nat) ∧ F' = F) m_no := fun e => by
      refine l_205s hS hb ⟨?_, rfl⟩
      unfold clsw
      rw [hg, if_neg h1', if_neg h2', hn, e, if_neg (by decide)]
      omega
    refine ⟨fun h3 => ⟨by omega, ⟨fun h4 => ⟨by omega, ?_, ?_⟩, fun h4 => ?_⟩⟩, fun h3 => ?_⟩
    · have := ob_201 (F := F) (n := n) hm (show j + 1 < 24 by omega)
      rwa [show (((j + 1 : Nat)) : Int) = (j : Int) + 1 by omega] at this
    · have g1 : g_201 F n (m : Int) ((j : Int) + 1) = gx (Y m) (j + 1) := by
        have := q_201y hT hm (show j + 1 < (Y m).length by omega)
        rwa [show (((j + 1 : Nat)) : Int) = (j : Int) + 1 by omega] at this
      have s1 : sgnl (Y m) ((j : Int) + 1) = gx (Y m) (j + 1) := by
        have := sgn_in (l := Y m) (j := j + 1) (by omega)
        rwa [show (((j + 1 : Nat)) : Int) = (j : Int) + 1 by omega] at this
      rw [g1]
      refine ⟨fun h5 => ?_, fun h5 => one ?_⟩
      · have e : span (Y m) j = 2 := by unfold span; rw [if_pos h3, s1, if_pos h5]
        refine ⟨?_, rfl⟩
        unfold clsw
        rw [hg, if_neg h1', if_neg h2', hn, e, if_pos rfl]
        rfl
      · unfold span; rw [if_pos h3, s1, if_neg h5]
    · refine one ?_
      unfold span
      rw [if_pos h3, show sgnl (Y m) ((j : Int) + 1) = 32 from by unfold sgnl; exact if_neg (by omega), if_neg (by decide)]
    · refine one ?_
      unfold span
      rw [if_neg h3, if_neg h1', if_neg h2']
end Mo3
