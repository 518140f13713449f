/-! ROWS MADE, THE SCRIPT, CALLS OF WHAT MAKES ROWS, IN ANY WORLD -/
theorem w_tag6 {D : Nat → Prop} {nc ns M pc : Nat} {ls : ML} {st : List MV} {F : MF} {Q : Nat × List MV → MF → Prop} {q : LK} {r : List (Option (Instr × LK))} {x : Int} (hA : At M pc (some (.arraylength, q) :: r)) (K : At M (pc + 1) r → Wv D nc ns M (pc + 1) ls ((0, F 1000001 0) :: st) F Q) : Wv D nc ns M pc ls ((6, x) :: st) F Q := wv_ok hA.hd (fun c s => rfl) (K hA.tl)
theorem w_alen6 {D : Nat → Prop} {nc ns M pc : Nat} {ls : ML} {st : List MV} {F : MF} {Q : Nat × List MV → MF → Prop} {q : LK} {r : List (Option (Instr × LK))} {x : Int} (hA : At M pc (some (.arraylength, q) :: r)) (K : At M (pc + 1) r → Wv D nc ns M (pc + 1) ls ((0, F 1000001 0) :: st) F Q) : Wv D nc ns M pc ls ((6, x) :: st) F Q := w_tag6 hA K
theorem w_iald6 {D : Nat → Prop} {nc ns M pc : Nat} {ls : ML} {st : List MV} {F : MF} {Q : Nat × List MV → MF → Prop} {q : LK} {r : List (Option (Instr × LK))} {x i : Int} (hA : At M pc (some (.iaload, q) :: r)) (hi : 0 ≤ i ∧ i < F 1000001 0) (K : At M (pc + 1) r → Wv D nc ns M (pc + 1) ls ((0, F 1000000 i.toNat) :: st) F Q) : Wv D nc ns M pc ls ((0, i) :: (6, x) :: st) F Q :=
  wv_ok hA.hd (fun c s => by
    show (if 0 ≤ i ∧ i < F 1000001 0 then _ else _) = _
    rw [if_pos hi]) (K hA.tl)
abbrev WvI (D : Nat → Prop) (nc ns M pc : Nat) (ls : ML) (st : List MV) (F : MF) (R : Int → MF → Prop) : Prop := Wv D nc ns M pc ls st F (OI R m_no)
abbrev WvL (D : Nat → Prop) (nc ns M pc : Nat) (ls : ML) (st : List MV) (F : MF) (R : Int → MF → Prop) : Prop := Wv D nc ns M pc ls st F (OL R m_no)
def CaWI (D : Nat → Prop) (nc ns N : Nat) (xs : List MV) (F : MF) (R : Int → MF → Prop) : Prop := Wv D nc ns N 0 (m_ini (m_mls.getD N 0) xs) [] F (OI R m_no)
def CaWL (D : Nat → Prop) (nc ns N : Nat) (xs : List MV) (F : MF) (R : Int → MF → Prop) : Prop := Wv D nc ns N 0 (m_ini (m_mls.getD N 0) xs) [] F (OL R m_no)
section Ms6
variable {D : Nat → Prop} {nc ns M pc : Nat} {ls l : ML} {st : List MV} {F : MF} {R : Int → MF → Prop}
theorem WvI.lw (h : WvI D nc ns M pc l st F R) (hl : Lw l ls) : Wv D nc ns M pc ls st F (OI R m_no) := Wv.lw h hl
theorem WvL.lw (h : WvL D nc ns M pc l st F R) (hl : Lw l ls) : Wv D nc ns M pc ls st F (OL R m_no) := Wv.lw h hl
theorem wv_I (h : Wv D nc ns M pc l st F (OI R m_no)) : WvI D nc ns M pc l st F R := h
theorem wv_L (h : Wv D nc ns M pc l st F (OL R m_no)) : WvL D nc ns M pc l st F R := h
end Ms6
section Ms7
variable {D : Nat → Prop} {nc ns : Nat} {M pc : Nat} {ls : ML} {st : List MV} {F : MF} {Q : Nat × List MV → MF → Prop} {r : List (Option (Instr × LK))} {z N n j kc a sz gN gM v na nb : Nat}
theorem w_csWI (xs r0 : List MV) (hst : st = xs.reverse ++ r0) (hn : n = xs.length) (h8 : Nat.ble (m_cats r0) 8 = true) (hv : m_mls.getD N 0 = v) (hml : Nat.ble (m_cats xs) v = true) (hgN : m_hg N = gN) (hgM : m_hg M = gM) (hg : Nat.blt gN gM = true) (hA : At M pc (some (.invokestatic z, (N, n, j, kc)) :: none :: none :: r)) (hkc : (kc == 0 || kc == 1 || kc == 7) = true) (ha : na ≤ nc) (hb : nb ≤ ns) {R : Int → MF → Prop} (K0 : CaWI D na nb N xs F R) (K : ∀ (r1 : Int) (F1 : MF), St F1 → R r1 F1 → Wv D (nc - na) (ns - nb) M (pc + 3) ls ((0, r1) :: r0) F1 Q) : Wv D nc ns M pc ls st F Q := by
  have hgo : ∀ c s, mstep (.invokestatic z) (N, n, j, kc) pc ls st (F, m_KD, c, s) = .error (1, N, xs, r0) := fun c s => by
    simp only [Bool.or_eq_true, beq_iff_eq] at hkc
    show (if kc = 6 then _ else if kc = 0 ∨ kc = 1 ∨ kc = 7 then m_call N n st else m_ko) = _
    rw [if_neg (by omega), if_pos (by omega)]
    exact m_call_go hst hn h8 hv hml
  exact wv_callW hA.hd hgo (by rw [hgN, hgM]; exact Nat.blt_eq.mp hg) ha hb (Wv.mono K0 (fun o F1 => by
    rintro ⟨hS, h | ⟨e, rfl, h⟩⟩
    · obtain ⟨r1, rfl, h⟩ := h
      exact ⟨rfl, K r1 F1 hS h⟩
    · exact h.elim))
theorem w_csWL (xs r0 : List MV) (hst : st = xs.reverse ++ r0) (hn : n = xs.length) (h8 : Nat.ble (m_cats r0) 8 = true) (hv : m_mls.getD N 0 = v) (hml : Nat.ble (m_cats xs) v = true) (hgN : m_hg N = gN) (hgM : m_hg M = gM) (hg : Nat.blt gN gM = true) (hA : At M pc (some (.invokestatic z, (N, n, j, kc)) :: none :: none :: r)) (hkc : (kc == 0 || kc == 1 || kc == 7) = true) (ha : na ≤ nc) (hb : nb ≤ ns) {R : Int → MF → Prop} (K0 : CaWL D na nb N xs F R) (K : ∀ (r1 : Int) (F1 : MF), St F1 → R r1 F1 → Wv D (nc - na) (ns - nb) M (pc + 3) ls ((1, r1) :: r0) F1 Q) : Wv D nc ns M pc ls st F Q := by
  have hgo : ∀ c s, mstep (.invokestatic z) (N, n, j, kc) pc ls st (F, m_KD, c, s) = .error (1, N, xs, r0) := fun c s => by
    simp only [Bool.or_eq_true, beq_iff_eq] at hkc
    show (if kc = 6 then _ else if kc = 0 ∨ kc = 1 ∨ kc = 7 then m_call N n st else m_ko) = _
    rw [if_neg (by omega), if_pos (by omega)]
    exact m_call_go hst hn h8 hv hml
  exact wv_callW hA.hd hgo (by rw [hgN, hgM]; exact Nat.blt_eq.mp hg) ha hb (Wv.mono K0 (fun o F1 => by
    rintro ⟨hS, h | ⟨e, rfl, h⟩⟩
    · obtain ⟨r1, rfl, h⟩ := h
      exact ⟨rfl, K r1 F1 hS h⟩
    · exact h.elim))
end Ms7
/-- a row of the picture that is all zero -/
def m_z (F : MF) (b : Nat) : MF := fun a i => if a = b then 0 else F a i
theorem m_z_eq {F : MF} {b i : Nat} : m_z F b b i = 0 := if_pos rfl
theorem m_z_ne {F : MF} {b a i : Nat} (h : a ≠ b) : m_z F b a i = F a i := if_neg h
theorem m_z_row {F : MF} {b a : Nat} (h : a ≠ b) : m_z F b a = F a := by
  funext i
  exact m_z_ne h
theorem St.zer {F : MF} {b : Nat} (h : St F) (hb : 201 ≤ b) : St (m_z F b) := by
  intro x hx
  have h1 : ∀ y ∈ m_RT, y.1 < 201 := by decide +kernel
  have h2 := h1 x hx
  rw [m_z_ne (by omega)]
  exact h x hx
def sgW (σ : Nat → Nat) (b n : Nat) : Nat → Nat := fun a => if a = b then n else σ a
theorem sgW_eq {σ : Nat → Nat} {b n : Nat} : sgW σ b n b = n := if_pos rfl
theorem sgW_ne {σ : Nat → Nat} {b n a : Nat} (h : a ≠ b) : sgW σ b n a = σ a := if_neg h
section Ms8
variable {D : Nat → Prop} {σ : Nat → Nat} {b n : Nat}
theorem vm_sgW (hb : ¬ D b) {v : MV} (h : gv D v) : vm (sgW σ b n) v = vm σ v := by
  unfold vm
  by_cases h2 : v.1 = 2 ∧ 0 ≤ v.2
  · rw [if_pos h2, if_pos h2]
    have h3 := h h2.1 h2.2
    rw [sgW_ne (a := v.2.toNat) (b := b) (fun e => hb (e ▸ h3))]
  · rw [if_neg h2, if_neg h2]
theorem lm_sgW (hb : ¬ D b) {ls : ML} (h : gl D ls) : lm (sgW σ b n) ls = lm σ ls := by
  unfold lm
  apply List.map_congr_left
  intro o ho
  cases o with
  | none => rfl
  | some v =>
    show some _ = some _
    rw [vm_sgW hb (h v ho)]
theorem st_sgW (hb : ¬ D b) {st : List MV} (h : gs D st) : st.map (vm (sgW σ b n)) = st.map (vm σ) := List.map_congr_left (fun v hv => vm_sgW hb (h v hv))
theorem gl_or {ls : ML} (h : gl D ls) : gl (fun a => D a ∨ a = b) ls := fun v hv h1 h2 => Or.inl (h v hv h1 h2)
theorem gs_or {st : List MV} (h : gs D st) : gs (fun a => D a ∨ a = b) st := fun v hv h1 h2 => Or.inl (h v hv h1 h2)
theorem HR.new {K2 : MK} {F F2 : MF} {kd : Nat} (h : HR D σ m_KD K2 F F2) (hb : ¬ D b) (hk : m_KD[b]? = some (kd, n)) (hkd : 13 ≤ kd ∧ kd < 110) (hl : K2.length + 1 ≤ 1000000) :
    HR (fun a => D a ∨ a = b) (sgW σ b K2.length) m_KD (K2 ++ [(kd, n)]) (m_z F b) (fun c j => if c = K2.length then 0 else F2 c j) := by
  obtain ⟨h1, h2, h3, h4, h5, h6⟩ := h
  have hs : ∀ a, D a → σ a < K2.length := fun a ha => by
    obtain ⟨k, -, e2, -⟩ := h2 a ha
    exact (List.getElem?_eq_some_iff.mp e2).1
  have hn : ∀ a, D a → a ≠ b := fun a ha e => hb (e ▸ ha)
  have hb6 : b < 1000000 := Nat.lt_of_lt_of_le (List.getElem?_eq_some_iff.mp hk).1 h5
  refine ⟨?_, ?_, ?_, ?_, h5, ?_⟩
  · rintro a c (ha | rfl) (hc | rfl) he
    · rw [sgW_ne (hn a ha), sgW_ne (hn c hc)] at he
      exact h1 a c ha hc he
    · rw [sgW_ne (hn a ha), sgW_eq] at he
      have := hs a ha
      omega
    · rw [sgW_eq, sgW_ne (hn c hc)] at he
      have := hs c hc
      omega
    · rfl
  · rintro a (ha | rfl)
    · obtain ⟨k, e1, e2, e3⟩ := h2 a ha
      have hlt := hs a ha
      refine ⟨k, e1, ?_, fun i hi => ?_⟩
      · rw [sgW_ne (hn a ha), List.getElem?_append_left hlt]
        exact e2
      · obtain ⟨e4, e5⟩ := e3 i hi
        rw [sgW_ne (hn a ha), m_z_ne (hn a ha)]
        refine ⟨?_, fun h7 h8 => Or.inl (e5 h7 h8)⟩
        show (if σ a = K2.length then 0 else F2 (σ a) i) = _
        rw [if_neg (by omega), e4]
        unfold xm
        by_cases h7 : isR k.1 i = true ∧ 0 ≤ F a i
        · rw [if_pos h7, if_pos h7, sgW_ne (hn _ (e5 h7.1 h7.2))]
        · rw [if_neg h7, if_neg h7]
    · refine ⟨(kd, n), hk, ?_, fun i hi => ?_⟩
      · rw [sgW_eq, List.getElem?_append_right (Nat.le_refl _), Nat.sub_self]
        rfl
      · rw [sgW_eq, m_z_eq, isR_n hkd, xm_f]
        exact ⟨if_pos rfl, fun h7 => by cases h7⟩
  · funext j
    show (if 1000000 = K2.length then 0 else F2 1000000 j) = _
    rw [if_neg (by omega), h3, m_z_ne (by omega)]
  · funext j
    show (if 1000001 = K2.length then 0 else F2 1000001 j) = _
    rw [if_neg (by omega), h4, m_z_ne (by omega)]
  · rw [List.length_append, List.length_singleton]
    omega
end Ms8
section Ms9
variable {D : Nat → Prop} {σ : Nat → Nat} {M pc pc' nc ns b n kd N na nb : Nat} {ls ls' : ML} {st st' r : List MV} {F : MF} {Q : Nat × List MV → MF → Prop} {i : Instr} {q : LK} {z : Int}
theorem HR.back {K K2 : MK} {F1 F2 : MF} {m : Nat} (h : HR (fun a => D a ∨ a = b) (sgW σ b m) K K2 F1 F2) (hb : ¬ D b) (hc : ∀ a, D a → ∀ k : Nat × Nat, K[a]? = some k → ∀ j, j < k.2 → isR k.1 j = true → 0 ≤ F1 a j → D (F1 a j).toNat) : HR D σ K K2 F1 F2 := by
  obtain ⟨h1, h2, h3, h4, h5, h6⟩ := h
  have hn : ∀ a, D a → a ≠ b := fun a ha e => hb (e ▸ ha)
  refine ⟨fun a c ha hc he => h1 a c (Or.inl ha) (Or.inl hc) (by rw [sgW_ne (hn a ha), sgW_ne (hn c hc)]; exact he), fun a ha => ?_, h3, h4, h5, h6⟩
  obtain ⟨k, e1, e2, e3⟩ := h2 a (Or.inl ha)
  rw [sgW_ne (hn a ha)] at e2 e3
  refine ⟨k, e1, e2, fun j hj => ?_⟩
  obtain ⟨e4, e5⟩ := e3 j hj
  refine ⟨?_, fun h7 h8 => hc a ha k e1 j hj h7 h8⟩
  rw [e4]
  unfold xm
  by_cases h7 : isR k.1 j = true ∧ 0 ≤ F1 a j
  · rw [if_pos h7, if_pos h7, sgW_ne (hn _ (hc a ha k e1 j hj h7.1 h7.2))]
  · rw [if_neg h7, if_neg h7]
theorem vm_b {m : Nat} : vm (sgW σ b m) (2, ((b : Nat) : Int)) = (2, ((m : Nat) : Int)) := by
  unfold vm
  rw [if_pos ⟨rfl, by show (0 : Int) ≤ ((b : Nat) : Int); omega⟩]
  show ((2 : Nat), ((sgW σ b m ((b : Nat) : Int).toNat : Nat) : Int)) = _
  rw [Int.toNat_natCast, sgW_eq]
theorem gv_b : gv (fun a => D a ∨ a = b) (2, ((b : Nat) : Int)) := fun _ _ => Or.inr (Int.toNat_natCast b)
theorem vm_0 : vm σ (0, z) = (0, z) := by
  unfold vm
  rw [if_neg (fun h => by cases h.1)]
/-- a row is made, and given back with the method -/
theorem wv_new (ht : (m_tb M)[pc]? = some (some (i, q))) (hm : ∀ (ls : ML) (r : List MV) (h : MH), mstep i q pc ls ((0, z) :: r) h = .ok (pc', ls, (2, (h.2.1.length : Int)) :: r, m_new kd n 0 h))
    (hb : ¬ D b) (hk : m_KD[b]? = some (kd, n)) (hkd : 13 ≤ kd ∧ kd < 110) (hq : ∀ o F1, Q o F1 → gs D o.2 ∧ ∀ a, D a → F1 a = F a)
    (K : Wv (fun a => D a ∨ a = b) nc ns M pc' ls ((2, ((b : Nat) : Int)) :: r) (m_z F b) Q) : Wv D (nc + 1) (ns + n) M pc ls ((0, z) :: r) F Q := by
  intro d hd σ K2 F2 c2 s2 hR hl hs hn
  have hr : gs D r := (gs_c.mp hs).2
  obtain ⟨f, o, F1, X, F3, c1, s1, h1, h2, h3, h4, h5, h6, h7, h8⟩ := K d hd (sgW σ b K2.length) (K2 ++ [(kd, n)]) _ (c2 + 1) (s2 + n) (hR.new hb hk hkd (by omega)) (gl_or hl) (gs_c.mpr ⟨gv_b, gs_or hr⟩) (by rw [List.length_append, List.length_singleton]; omega)
  obtain ⟨q1, q2⟩ := hq o F1 h2
  refine ⟨f + 1, o, F1, (kd, n) :: X, F3, c1, s1, ?_, h2, q1, ?_, by rw [List.length_cons]; omega, by omega, by omega, fun c hc hc2 => ?_⟩
  · rw [lm_sgW hb hl, List.map_cons, vm_b, st_sgW hb hr, st_sgW hb q1, List.append_assoc] at h1
    rw [List.map_cons, vm_0]
    simp only [mx, ht, hm]
    exact h1
  · rw [List.append_assoc] at h4
    refine h4.back hb (fun a ha k hk j hj e1 e2 => ?_)
    rw [q2 a ha] at e2 ⊢
    obtain ⟨k2, e3, -, e4⟩ := hR.2.1 a ha
    rw [hk] at e3
    cases e3
    exact (e4 j hj).2 e1 e2
  · rw [h8 c (by rw [List.length_append, List.length_singleton]; omega) ?_]
    · funext j
      show (if c = K2.length then 0 else F2 c j) = _
      rw [if_neg (by omega)]
    · rintro a (ha | rfl) e
      · rw [sgW_ne (a := a) (b := b) (fun e => hb (e ▸ ha))] at e
        exact hc2 a ha e
      · rw [sgW_eq] at e
        omega
/-- a run that ends with 1 and leaves the script -/
def Wq (D : Nat → Prop) (nc ns M pc : Nat) (ls : ML) (st : List MV) (F : MF) : Prop :=
  ∀ d, m_hg M ≤ d → ∀ (σ : Nat → Nat) (K2 : MK) (F2 : MF) (c2 s2 : Nat), HR D σ m_KD K2 F F2 → gl D ls → gs D st → K2.length + nc ≤ 1000000 →
    ∃ (f : Nat) (X : MK) (F3 : MF) (c1 s1 : Nat), mx f d M pc (lm σ ls) (st.map (vm σ)) (F2, K2, c2, s2) = some ((0, [(0, 1)]), (F3, K2 ++ X, c1, s1)) ∧
      F3 1000000 = F 1000000 ∧ F3 1000001 = F 1000001 ∧ X.length ≤ nc ∧ c1 ≤ c2 + nc ∧ s1 ≤ s2 + ns
theorem wq_of (h : Wv D nc ns M pc ls st F Q) (hq : ∀ o F1, Q o F1 → o = (0, [(0, 1)]) ∧ F1 1000000 = F 1000000 ∧ F1 1000001 = F 1000001) : Wq D nc ns M pc ls st F := by
  intro d hd σ K2 F2 c2 s2 hR hl hs hn
  obtain ⟨f, o, F1, X, F3, c1, s1, h1, h2, h3, h4, h5, h6, h7, h8⟩ := h d hd σ K2 F2 c2 s2 hR hl hs hn
  obtain ⟨rfl, q1, q2⟩ := hq o F1 h2
  refine ⟨f, X, F3, c1, s1, ?_, h4.2.2.1.trans q1, h4.2.2.2.1.trans q2, h5, h6, h7⟩
  rw [h1]
  show some (((0 : Nat), [vm σ (0, 1)]), _) = _
  rw [vm_0]
theorem wq_ok (ht : (m_tb M)[pc]? = some (some (i, q))) (hm : ∀ c s, mstep i q pc ls st (F, m_KD, c, s) = .ok (pc', ls', st', (F, m_KD, c, s))) (K : Wq D nc ns M pc' ls' st' F) : Wq D nc ns M pc ls st F := by
  intro d hd σ K2 F2 c2 s2 hR hl hs hn
  obtain ⟨-, -, -, F2', e1, e2, e3, e4, e5⟩ := (rk_step (q := q) (pc := pc) (c := 0) (s := 0) (c2 := c2) (s2 := s2) hR hl hs i).1 _ _ _ _ _ _ _ (hm 0 0) rfl
  obtain ⟨f, X, F3, c1, s1, h1, h2⟩ := K d hd σ K2 F2' c2 s2 e2 e3 e4 hn
  exact ⟨f + 1, X, F3, c1, s1, (by simp only [mx, ht, e1]; exact h1), h2⟩
theorem wq_new (ht : (m_tb M)[pc]? = some (some (i, q))) (hm : ∀ (ls : ML) (r : List MV) (h : MH), mstep i q pc ls ((0, z) :: r) h = .ok (pc', ls, (2, (h.2.1.length : Int)) :: r, m_new kd n 0 h))
    (hb : ¬ D b) (hk : m_KD[b]? = some (kd, n)) (hkd : 13 ≤ kd ∧ kd < 110)
    (K : Wq (fun a => D a ∨ a = b) nc ns M pc' ls ((2, ((b : Nat) : Int)) :: r) (m_z F b)) : Wq D (nc + 1) (ns + n) M pc ls ((0, z) :: r) F := by
  intro d hd σ K2 F2 c2 s2 hR hl hs hn
  have hr : gs D r := (gs_c.mp hs).2
  have hb6 : b < 1000000 := Nat.lt_of_lt_of_le (List.getElem?_eq_some_iff.mp hk).1 hR.2.2.2.2.1
  obtain ⟨f, X, F3, c1, s1, h1, h2, h3, h5, h6, h7⟩ := K d hd (sgW σ b K2.length) (K2 ++ [(kd, n)]) _ (c2 + 1) (s2 + n) (hR.new hb hk hkd (by omega)) (gl_or hl) (gs_c.mpr ⟨gv_b, gs_or hr⟩) (by rw [List.length_append, List.length_singleton]; omega)
  refine ⟨f + 1, (kd, n) :: X, F3, c1, s1, ?_, h2.trans (m_z_row (by omega)), h3.trans (m_z_row (by omega)), by rw [List.length_cons]; omega, by omega, by omega⟩
  rw [lm_sgW hb hl, List.map_cons, vm_b, st_sgW hb hr, List.append_assoc] at h1
  rw [List.map_cons, vm_0]
  simp only [mx, ht, hm]
  exact h1
/-- a call of what ends with 1; what it made is not looked at any more -/
theorem wq_call {xs : List MV} (ht : (m_tb M)[pc]? = some (some (i, q)))
    (hm : ∀ c s, mstep i q pc ls st (F, m_KD, c, s) = .error (1, N, xs, r)) (hg : m_hg N < m_hg M) (ha : na ≤ nc) (hb : nb ≤ ns) (hl0 : gl (fun _ => False) ls) (hs0 : gs (fun _ => False) r)
    (K0 : Wq D na nb N 0 (m_ini (m_mls.getD N 0) xs) [] F) (K : Wq (fun _ => False) (nc - na) (ns - nb) M (pc + 3) ls ((0, 1) :: r) F) : Wq D nc ns M pc ls st F := by
  intro d hd σ K2 F2 c2 s2 hR hl hs hn
  obtain ⟨e1, e2, e3⟩ := (rk_step (q := q) (pc := pc) (c := 0) (s := 0) (c2 := c2) (s2 := s2) hR hl hs i).2 _ _ _ _ (hm 0 0) (by decide)
  cases d with
  | zero => omega
  | succ d =>
    obtain ⟨f, X, F3, c1, s1, k1, k2, k3, k5, k6, k7⟩ := K0 d (by omega) σ K2 F2 c2 s2 hR (gl_ini e2) gs_nil (by omega)
    rw [lm_ini] at k1
    have k1 : mx f d N 0 (m_ini (m_mls.getD N 0) (xs.map (vm σ))) [] (F2, K2, c2, s2) = some ((0, [(0, 1)]), (F3, K2 ++ X, c1, s1)) := k1
    have hR2 : HR (fun _ => False) σ m_KD (K2 ++ X) F F3 := ⟨fun _ _ h => h.elim, fun _ h => h.elim, k2, k3, hR.2.2.2.2.1, by rw [List.length_append]; omega⟩
    obtain ⟨f2, Y, F4, c3, s3, j1, j2, j3, j5, j6, j7⟩ := K (d + 1) hd σ (K2 ++ X) F3 c1 s1 hR2 hl0 (gs_c.mpr ⟨gv_n (by decide), hs0⟩) (by rw [List.length_append]; omega)
    refine ⟨max f f2 + 1, X ++ Y, F4, c3, s3, ?_, j2, j3, by rw [List.length_append]; omega, by omega, by omega⟩
    have e5 := mx_le (Nat.le_max_left f f2) k1
    simp only [mx, ht, e1, e5]
    rw [List.map_cons, vm_0, List.append_assoc] at j1
    exact mx_le (Nat.le_max_right f f2) j1
end Ms9
theorem nw_int {q : LK} {pc n : Nat} {z : Int} (hz : z = ((n : Nat) : Int)) (h : n < 100000) : ∀ (ls : ML) (r : List MV) (h : MH), mstep (.newarray .int) q pc ls ((0, z) :: r) h = .ok (pc + 2, ls, (2, (h.2.1.length : Int)) :: r, m_new 100 n 0 h) := fun ls r h => by
  show (if 0 ≤ z ∧ z < 100000 then _ else _) = _
  rw [if_pos (by omega), hz, Int.toNat_natCast]
theorem nw_long {q : LK} {pc n : Nat} {z : Int} (hz : z = ((n : Nat) : Int)) (h : n < 100000) : ∀ (ls : ML) (r : List MV) (h : MH), mstep (.newarray .long) q pc ls ((0, z) :: r) h = .ok (pc + 2, ls, (2, (h.2.1.length : Int)) :: r, m_new 101 n 0 h) := fun ls r h => by
  show (if 0 ≤ z ∧ z < 100000 then _ else _) = _
  rw [if_pos (by omega), hz, Int.toNat_natCast]
