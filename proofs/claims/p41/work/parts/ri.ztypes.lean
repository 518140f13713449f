/-! THE EIGHT LINES: types, of the class and as reckoned -/
section Mri
variable {X : Nat → List Int} {h : Nat → Nat} {E : List Int} {e t r : Nat → Int} {a u v s y fn : Nat} {fi ty : Int} {st : List (Nat × Int)}
theorem al_same (q : h s = h u) : alT (h, E) s u fi = (h, E) := by
  unfold alT alh ale
  rw [if_pos q, if_pos q]
theorem al_l (q : h s ≠ h u) (q1 : h s < 600) : alT (h, E) s u fi = (fun x => if h x = h s then h u else h x, E) := by
  unfold alT alh ale
  rw [if_neg q, if_pos q1, if_neg q, if_pos q1]
theorem al_r (q1 : ¬ h s < 600) (q2 : h u < 600) : alT (h, E) s u fi = (fun x => if h x = h u then h s else h x, E) := by
  have q : h s ≠ h u := by omega
  unfold alT alh ale
  rw [if_neg q, if_neg q1, if_pos q2, if_neg q, if_neg q1, if_pos q2]
theorem al_e (q : h s ≠ h u) (q1 : ¬ h s < 600) (q2 : ¬ h u < 600) : alT (h, E) s u fi = (h, E ++ [fi]) := by
  unfold alT alh ale
  rw [if_neg q, if_neg q1, if_neg q2, if_neg q, if_neg q1, if_neg q2]
/-- heads and errors against the law's rows; tokens from a on are their own -/
def TRz (h : Nat → Nat) (E : List Int) (t r : Nat → Int) (a : Nat) : Prop :=
  (h 600 = 600 ∧ h 601 = 601) ∧ (∀ v, t v = 0 ∨ (t v = 1 ∧ h v = 600) ∨ (t v = 2 ∧ h v = 601)) ∧ (t 3 = 0 → h 3 < 600) ∧ ((r 0 = 0 ∧ h 1 < 600) ∨ (r 0 = 1 ∧ h 1 = 600) ∨ (r 0 = 2 ∧ h 1 = 601)) ∧
  (r 1 = 1 → t 3 = r 0 ∧ h 3 = h 1) ∧ (t 3 = 0 → r 0 = 0 → h 3 = h 1 → r 1 = 1) ∧ (E.length : Int) = r 2 ∧ (∀ s, a ≤ s → s < 600 → ∀ x, h x = s → x = s) ∧ (∀ s, a ≤ s → s < 600 → h s = s)
/-- the slot of a type -/
def tyh (ty : Int) (k : Nat) : Prop := (ty = 1 ∧ k = 600) ∨ (ty = 2 ∧ k = 601)
theorem vup_eq {f : Nat → Int} {i : Nat} {x : Int} : vup f i x i = x := if_pos rfl
theorem vup_ne {f : Nat → Int} {i j : Nat} {x : Int} (q : j ≠ i) : vup f i x j = f j := if_neg q
theorem TRz.wide {b : Nat} (H : TRz h E t r a) (q : a ≤ b) : TRz h E t r b := by
  obtain ⟨h1, h2, h3, h4, h5, h6, h7, h8, h9⟩ := H
  exact ⟨h1, h2, h3, h4, h5, h6, h7, fun s q1 q2 => h8 s (by omega) q2, fun s q1 q2 => h9 s (by omega) q2⟩
/-- one more error -/
theorem TRz.err (H : TRz h E t r a) : TRz h (E ++ [fi]) t (vup r 2 (r 2 + 1)) a := by
  obtain ⟨h1, h2, h3, h4, h5, h6, h7, h8, h9⟩ := H
  have e0 : vup r 2 (r 2 + 1) 0 = r 0 := rfl
  have e1 : vup r 2 (r 2 + 1) 1 = r 1 := rfl
  have e2 : vup r 2 (r 2 + 1) 2 = r 2 + 1 := rfl
  refine ⟨h1, h2, h3, ?_, ?_, ?_, ?_, h8, h9⟩
  · rw [e0]; exact h4
  · rw [e0, e1]; exact h5
  · rw [e0, e1]; exact h6
  · rw [e2, List.length_append, List.length_singleton]; omega
/-- the parameter's class gets a type -/
theorem TRz.par {k : Nat} (H : TRz h E t r a) (ha : 3 < a) (h0 : t 3 = 0) (hk : tyh ty k) : TRz (fun x => if h x = h 3 then k else h x) E (ty212 t r 3 ty).1 (ty212 t r 3 ty).2 a := by
  obtain ⟨h1, h2, h3, h4, h5, h6, h7, h8, h9⟩ := H
  have l3 := h3 h0
  have hk2 : ¬ k < 600 ∧ k < 602 := by unfold tyh at hk; omega
  have t1 : (ty212 t r 3 ty).1 = vup t 3 ty := rfl
  have fr : ∀ s, a ≤ s → s < 600 → h s ≠ h 3 := fun s q1 q2 q3 => by
    have := h8 s q1 q2 3 (by rw [← q3]; exact h9 s q1 q2)
    omega
  have c2 : ∀ v, vup t 3 ty v = 0 ∨ (vup t 3 ty v = 1 ∧ (if h v = h 3 then k else h v) = 600) ∨ (vup t 3 ty v = 2 ∧ (if h v = h 3 then k else h v) = 601) := fun v => by
    by_cases c : v = 3
    · rw [c, vup_eq, if_pos rfl]
      unfold tyh at hk
      omega
    · rw [vup_ne c]
      by_cases c2 : h v = h 3
      · exact Or.inl (by have := h2 v; omega)
      · rw [if_neg c2]
        exact h2 v
  have c8 : ∀ s, a ≤ s → s < 600 → ∀ x, (if h x = h 3 then k else h x) = s → x = s := fun s q1 q2 x q3 => by
    by_cases c : h x = h 3
    · rw [if_pos c] at q3
      omega
    · rw [if_neg c] at q3
      exact h8 s q1 q2 x q3
  have c9 : ∀ s, a ≤ s → s < 600 → (if h s = h 3 then k else h s) = s := fun s q1 q2 => by
    rw [if_neg (fr s q1 q2)]
    exact h9 s q1 q2
  have n0 : vup t 3 ty 3 = ty := rfl
  have c1 : (if h 600 = h 3 then k else h 600) = 600 ∧ (if h 601 = h 3 then k else h 601) = 601 := by
    rw [if_neg (by omega), if_neg (by omega)]
    exact h1
  have ty0 : ty ≠ 0 := by unfold tyh at hk; omega
  rw [t1]
  by_cases c : r 1 = 1
  · obtain ⟨g1, g2⟩ := h5 c
    have t2 : (ty212 t r 3 ty).2 = vup r 0 ty := if_pos ⟨rfl, c⟩
    have m0 : vup r 0 ty 0 = ty := rfl
    have m1 : vup r 0 ty 1 = r 1 := rfl
    have m2 : vup r 0 ty 2 = r 2 := rfl
    rw [t2]
    refine ⟨c1, c2, fun q => absurd (n0.symm.trans q) ty0, ?_, fun _ => ⟨by rw [n0, m0], ?_⟩, fun q => absurd (n0.symm.trans q) ty0, by rw [m2]; exact h7, c8, c9⟩
    · rw [m0]
      show (ty = 0 ∧ (if h 1 = h 3 then k else h 1) < 600) ∨ (ty = 1 ∧ (if h 1 = h 3 then k else h 1) = 600) ∨ (ty = 2 ∧ (if h 1 = h 3 then k else h 1) = 601)
      rw [if_pos g2.symm]
      unfold tyh at hk
      omega
    · show (if h 3 = h 3 then k else h 3) = (if h 1 = h 3 then k else h 1)
      rw [if_pos rfl, if_pos g2.symm]
  · have t2 : (ty212 t r 3 ty).2 = r := if_neg (fun q => c q.2)
    rw [t2]
    have g : h 1 ≠ h 3 := fun q => by
      have : r 0 = 0 := by omega
      exact c (h6 h0 this q.symm)
    refine ⟨c1, c2, fun q => absurd (n0.symm.trans q) ty0, ?_, fun q => absurd q c, fun q => absurd (n0.symm.trans q) ty0, h7, c8, c9⟩
    show (r 0 = 0 ∧ (if h 1 = h 3 then k else h 1) < 600) ∨ (r 0 = 1 ∧ (if h 1 = h 3 then k else h 1) = 600) ∨ (r 0 = 2 ∧ (if h 1 = h 3 then k else h 1) = 601)
    rw [if_neg g]
    exact h4
/-- a token that nothing is known of yet gets what another has -/
theorem TRz.fresh {k : Nat} (H : TRz h E t r a) (ha : 3 < a) (hs : a ≤ s ∧ s < 600) (hk : ¬ k < 600 ∨ k = h 3) : TRz (fun x => if h x = h s then k else h x) E t r (s + 1) := by
  obtain ⟨h1, h2, h3, h4, h5, h6, h7, h8, h9⟩ := H
  have es := h9 s hs.1 hs.2
  have on : ∀ x, x ≠ s → h x ≠ h s := fun x q q2 => q (h8 s hs.1 hs.2 x (by rw [q2, es]))
  have ne : ∀ x, x ≠ s → (if h x = h s then k else h x) = h x := fun x q => if_neg (on x q)
  refine ⟨?_, ?_, ?_, ?_, ?_, ?_, h7, ?_, ?_⟩
  · show (if h 600 = h s then k else h 600) = 600 ∧ (if h 601 = h s then k else h 601) = 601
    rw [ne 600 (by omega), ne 601 (by omega)]
    exact h1
  · intro v
    show t v = 0 ∨ (t v = 1 ∧ (if h v = h s then k else h v) = 600) ∨ (t v = 2 ∧ (if h v = h s then k else h v) = 601)
    by_cases c : v = s
    · rw [c]
      exact Or.inl (by have := h2 s; omega)
    · rw [ne v c]
      exact h2 v
  · show t 3 = 0 → (if h 3 = h s then k else h 3) < 600
    rw [ne 3 (by omega)]
    exact h3
  · show (r 0 = 0 ∧ (if h 1 = h s then k else h 1) < 600) ∨ (r 0 = 1 ∧ (if h 1 = h s then k else h 1) = 600) ∨ (r 0 = 2 ∧ (if h 1 = h s then k else h 1) = 601)
    rw [ne 1 (by omega)]
    exact h4
  · show r 1 = 1 → t 3 = r 0 ∧ (if h 3 = h s then k else h 3) = (if h 1 = h s then k else h 1)
    rw [ne 3 (by omega), ne 1 (by omega)]
    exact h5
  · show t 3 = 0 → r 0 = 0 → (if h 3 = h s then k else h 3) = (if h 1 = h s then k else h 1) → r 1 = 1
    rw [ne 3 (by omega), ne 1 (by omega)]
    exact h6
  · intro s2 q1 q2 x q3
    have q3 : (if h x = h s then k else h x) = s2 := q3
    by_cases c : x = s
    · rw [c, if_pos rfl] at q3
      have := h8 s2 (by omega) q2 3
      omega
    · rw [ne x c] at q3
      exact h8 s2 (by omega) q2 x q3
  · intro s2 q1 q2
    show (if h s2 = h s then k else h s2) = s2
    rw [ne s2 (by omega)]
    exact h9 s2 (by omega) q2
/-- a new token gets a type, as reckoned -/
theorem TRz.decl {k : Nat} (H : TRz h E t r a) (ha : 3 < a) (hs : a ≤ s ∧ s < 600) (hk : tyh ty k) : TRz (fun x => if h x = h s then k else h x) E (vup t s ty) r (s + 1) := by
  have hk2 : ¬ k < 600 := by unfold tyh at hk; omega
  have N := H.fresh ha hs (Or.inl hk2)
  obtain ⟨h1, h2, h3, h4, h5, h6, h7, h8, h9⟩ := N
  have e3 : vup t s ty 3 = t 3 := vup_ne (by omega)
  refine ⟨h1, ?_, ?_, h4, ?_, ?_, h7, h8, h9⟩
  · intro v
    by_cases c : v = s
    · rw [c, vup_eq]
      show ty = 0 ∨ (ty = 1 ∧ (if h s = h s then k else h s) = 600) ∨ (ty = 2 ∧ (if h s = h s then k else h s) = 601)
      rw [if_pos rfl]
      unfold tyh at hk
      omega
    · rw [vup_ne c]
      exact h2 v
  · rw [e3]; exact h3
  · rw [e3]; exact h5
  · rw [e3]; exact h6
/-- the result's class gets a type -/
theorem TRz.res {k : Nat} (H : TRz h E t r a) (ha : 3 < a) (h0 : r 0 = 0) (hk : tyh ty k) : TRz (fun x => if h x = h 1 then k else h x) E (ty214 t r ty).1 (ty214 t r ty).2 a := by
  obtain ⟨h1, h2, h3, h4, h5, h6, h7, h8, h9⟩ := H
  have l1 : h 1 < 600 := by omega
  have hk2 : ¬ k < 600 ∧ k < 602 := by unfold tyh at hk; omega
  have ty0 : ty ≠ 0 := by unfold tyh at hk; omega
  have e214 : ty214 t r ty = (if r 1 = 1 then vup t 3 ty else t, vup r 0 ty) := if_pos h0
  have fr : ∀ s, a ≤ s → s < 600 → h s ≠ h 1 := fun s q1 q2 q3 => by
    have := h8 s q1 q2 1 (by rw [← q3]; exact h9 s q1 q2)
    omega
  have c8 : ∀ s, a ≤ s → s < 600 → ∀ x, (if h x = h 1 then k else h x) = s → x = s := fun s q1 q2 x q3 => by
    by_cases c : h x = h 1
    · rw [if_pos c] at q3
      omega
    · rw [if_neg c] at q3
      exact h8 s q1 q2 x q3
  have c9 : ∀ s, a ≤ s → s < 600 → (if h s = h 1 then k else h s) = s := fun s q1 q2 => by
    rw [if_neg (fr s q1 q2)]
    exact h9 s q1 q2
  have c1 : (if h 600 = h 1 then k else h 600) = 600 ∧ (if h 601 = h 1 then k else h 601) = 601 := by
    rw [if_neg (by omega), if_neg (by omega)]
    exact h1
  have m0 : vup r 0 ty 0 = ty := rfl
  have m1 : vup r 0 ty 1 = r 1 := rfl
  have m2 : vup r 0 ty 2 = r 2 := rfl
  have c4 : (vup r 0 ty 0 = 0 ∧ (if h 1 = h 1 then k else h 1) < 600) ∨ (vup r 0 ty 0 = 1 ∧ (if h 1 = h 1 then k else h 1) = 600) ∨ (vup r 0 ty 0 = 2 ∧ (if h 1 = h 1 then k else h 1) = 601) := by
    rw [m0, if_pos rfl]
    unfold tyh at hk
    omega
  have ov : ∀ v, t v ≠ 0 → h v ≠ h 1 := fun v q q2 => by
    have := h2 v
    omega
  rw [e214]
  by_cases c : r 1 = 1
  · obtain ⟨g1, g2⟩ := h5 c
    have n0 : vup t 3 ty 3 = ty := rfl
    show TRz (fun x => if h x = h 1 then k else h x) E (if r 1 = 1 then vup t 3 ty else t) (vup r 0 ty) a
    rw [if_pos c]
    refine ⟨c1, fun v => ?_, fun q => absurd (n0.symm.trans q) ty0, c4, fun _ => ⟨by rw [n0, m0], ?_⟩, fun q => absurd (n0.symm.trans q) ty0, by rw [m2]; exact h7, c8, c9⟩
    · show vup t 3 ty v = 0 ∨ (vup t 3 ty v = 1 ∧ (if h v = h 1 then k else h v) = 600) ∨ (vup t 3 ty v = 2 ∧ (if h v = h 1 then k else h v) = 601)
      by_cases cv : v = 3
      · rw [cv, vup_eq, if_pos g2]
        unfold tyh at hk
        omega
      · rw [vup_ne cv]
        by_cases c2 : t v = 0
        · exact Or.inl c2
        · rw [if_neg (ov v c2)]
          exact h2 v
    · show (if h 3 = h 1 then k else h 3) = (if h 1 = h 1 then k else h 1)
      rw [if_pos g2, if_pos rfl]
  · show TRz (fun x => if h x = h 1 then k else h x) E (if r 1 = 1 then vup t 3 ty else t) (vup r 0 ty) a
    rw [if_neg c]
    refine ⟨c1, fun v => ?_, fun q => ?_, c4, fun q => absurd (m1.symm.trans q) c, fun _ q => absurd (m0.symm.trans q) ty0, by rw [m2]; exact h7, c8, c9⟩
    · show t v = 0 ∨ (t v = 1 ∧ (if h v = h 1 then k else h v) = 600) ∨ (t v = 2 ∧ (if h v = h 1 then k else h v) = 601)
      by_cases c2 : t v = 0
      · exact Or.inl c2
      · rw [if_neg (ov v c2)]
        exact h2 v
    · show (if h 3 = h 1 then k else h 3) < 600
      rw [if_neg (fun q2 => c (h6 q h0 q2))]
      exact h3 q
/-- parameter and result are made alike -/
theorem TRz.join (H : TRz h E t r a) (ha : 3 < a) (h0 : t 3 = 0) (h01 : r 0 = 0) : TRz (fun x => if h x = h 3 then h 1 else h x) E t (vup r 1 1) a := by
  obtain ⟨h1, h2, h3, h4, h5, h6, h7, h8, h9⟩ := H
  have l3 := h3 h0
  have l1 : h 1 < 600 := by omega
  have m0 : vup r 1 1 0 = r 0 := rfl
  have m1 : vup r 1 1 1 = 1 := rfl
  have m2 : vup r 1 1 2 = r 2 := rfl
  have fr : ∀ s, a ≤ s → s < 600 → h s ≠ h 3 := fun s q1 q2 q3 => by
    have := h8 s q1 q2 3 (by rw [← q3]; exact h9 s q1 q2)
    omega
  have e1 : (if h 1 = h 3 then h 1 else h 1) = h 1 := ite_self _
  refine ⟨?_, fun v => ?_, fun _ => ?_, ?_, fun _ => ⟨?_, ?_⟩, fun _ _ _ => m1, by rw [m2]; exact h7, fun s q1 q2 x q3 => ?_, fun s q1 q2 => ?_⟩
  · show (if h 600 = h 3 then h 1 else h 600) = 600 ∧ (if h 601 = h 3 then h 1 else h 601) = 601
    rw [if_neg (by omega), if_neg (by omega)]
    exact h1
  · show t v = 0 ∨ (t v = 1 ∧ (if h v = h 3 then h 1 else h v) = 600) ∨ (t v = 2 ∧ (if h v = h 3 then h 1 else h v) = 601)
    by_cases c2 : t v = 0
    · exact Or.inl c2
    · rw [if_neg (fun q => by have := h2 v; omega)]
      exact h2 v
  · show (if h 3 = h 3 then h 1 else h 3) < 600
    rw [if_pos rfl]
    exact l1
  · show (vup r 1 1 0 = 0 ∧ (if h 1 = h 3 then h 1 else h 1) < 600) ∨ (vup r 1 1 0 = 1 ∧ (if h 1 = h 3 then h 1 else h 1) = 600) ∨ (vup r 1 1 0 = 2 ∧ (if h 1 = h 3 then h 1 else h 1) = 601)
    rw [m0, e1]
    exact h4
  · rw [m0, h0, h01]
  · show (if h 3 = h 3 then h 1 else h 3) = (if h 1 = h 3 then h 1 else h 1)
    rw [if_pos rfl, e1]
  · have q3 : (if h x = h 3 then h 1 else h x) = s := q3
    by_cases c : h x = h 3
    · rw [if_pos c] at q3
      have := h8 s q1 q2 1 q3
      omega
    · rw [if_neg c] at q3
      exact h8 s q1 q2 x q3
  · show (if h s = h 3 then h 1 else h s) = s
    rw [if_neg (fr s q1 q2)]
    exact h9 s q1 q2
/-- a name whose type is known, or the parameter, against a type, in the law's words -/
def tyX (t r : Nat → Int) (v : Nat) (ty : Int) : RT2 := if t v = 0 then ty212 t r (v : Int) ty else if t v = ty then (t, r) else (t, vup r 2 (r 2 + 1))
theorem tyX_213 (H : TRz h E t r a) : ty213 t r (v : Int) = tyX t r v 1 := by
  have h2 := H.2.1 v
  unfold ty213 tyX
  rw [if_neg (by omega), Int.toNat_natCast]
  by_cases c : t v = 0
  · rw [if_pos c, if_pos c]
  · rw [if_neg c, if_neg c]
    by_cases c2 : t v = 2
    · rw [if_pos c2, if_neg (by omega)]
    · rw [if_neg c2, if_pos (by omega)]
/-- heads that are kept: what had a type keeps it -/
def kpT (h h' : Nat → Nat) : Prop := ∀ x, ¬ h x < 600 → h' x = h x
theorem al_x {k : Nat} (H : TRz h E t r a) (ha : 3 < a) (hv : v = 3 ∨ t v ≠ 0) (hk : tyh ty k) (hu : h u = k) : (∃ h' E', alT (h, E) v u fi = (h', E') ∧ kpT h h' ∧ TRz h' E' (tyX t r v ty).1 (tyX t r v ty).2 a) ∧ (∃ h' E', alT (h, E) u v fi = (h', E') ∧ kpT h h' ∧ TRz h' E' (tyX t r v ty).1 (tyX t r v ty).2 a) := by
  have hk2 : ¬ k < 600 ∧ k < 602 := by unfold tyh at hk; omega
  have h2 := H.2.1 v
  unfold tyX
  by_cases c : t v = 0
  · have v3 : v = 3 := hv.resolve_right (fun q => q c)
    rw [v3] at c
    subst v3
    have l3 := H.2.2.1 c
    rw [if_pos c]
    have kp : kpT h (fun x => if h x = h 3 then k else h x) := fun x q => if_neg (by omega)
    refine ⟨⟨_, _, al_l (by omega) l3, ?_, ?_⟩, ⟨_, _, al_r (by omega) l3, ?_, ?_⟩⟩
    · rw [hu]; exact kp
    · rw [hu]; exact H.par ha c hk
    · rw [hu]; exact kp
    · rw [hu]; exact H.par ha c hk
  · rw [if_neg c]
    by_cases c2 : t v = ty
    · rw [if_pos c2]
      have q : h v = h u := by unfold tyh at hk; omega
      exact ⟨⟨_, _, al_same q, fun _ _ => rfl, H⟩, ⟨_, _, al_same q.symm, fun _ _ => rfl, H⟩⟩
    · rw [if_neg c2]
      have q : h v ≠ h u := by unfold tyh at hk; omega
      exact ⟨⟨_, _, al_e q (by omega) (by omega), fun _ _ => rfl, H.err⟩, ⟨_, _, al_e q.symm (by omega) (by omega), fun _ _ => rfl, H.err⟩⟩
/-- what is given back -/
theorem al_ret {k : Nat} (H : TRz h E t r a) (ha : 3 < a) (hk : tyh ty k) (hu : h u = k) : ∃ h' E', alT (h, E) u 1 fi = (h', E') ∧ TRz h' E' (ty214 t r ty).1 (ty214 t r ty).2 a := by
  have hk2 : ¬ k < 600 ∧ k < 602 := by unfold tyh at hk; omega
  have h4 := H.2.2.2.1
  by_cases c : r 0 = 0
  · refine ⟨_, _, al_r (by omega) (by omega), ?_⟩
    rw [hu]
    exact H.res ha c hk
  · have e : ty214 t r ty = if 0 < ty ∧ ty ≠ r 0 then (t, vup r 2 (r 2 + 1)) else (t, r) := if_neg c
    rw [e]
    by_cases c2 : ty = r 0
    · rw [if_neg (fun q => q.2 c2)]
      exact ⟨_, _, al_same (by unfold tyh at hk; omega), H⟩
    · rw [if_pos ⟨by unfold tyh at hk; omega, c2⟩]
      exact ⟨_, _, al_e (by unfold tyh at hk; omega) (by omega) (by omega), H.err⟩
end Mri
