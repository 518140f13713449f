/-! RUNS ARE THE SAME WHERE THE CELLS LIE ELSEWHERE -/
section Ms0
variable {D : Nat → Prop} {σ : Nat → Nat} {K K2 : MK} {F F2 : MF} {c s c2 s2 : Nat}
/-- a value where the cells lie elsewhere -/
def vm (σ : Nat → Nat) (v : MV) : MV := if v.1 = 2 ∧ 0 ≤ v.2 then (2, ((σ v.2.toNat : Nat) : Int)) else v
def gv (D : Nat → Prop) (v : MV) : Prop := v.1 = 2 → 0 ≤ v.2 → D v.2.toNat
def lm (σ : Nat → Nat) (ls : ML) : ML := ls.map (fun o => o.map (vm σ))
def gl (D : Nat → Prop) (ls : ML) : Prop := ∀ v, some v ∈ ls → gv D v
def gs (D : Nat → Prop) (st : List MV) : Prop := ∀ v ∈ st, gv D v
/-- whether the place of a thing of that kind holds a reference -/
def isR (kd i : Nat) : Bool := if kd < 13 then m_fty kd i == 4 else decide (110 ≤ kd)
def xm (σ : Nat → Nat) (b : Bool) (x : Int) : Int := if b = true ∧ 0 ≤ x then ((σ x.toNat : Nat) : Int) else x
def HR (D : Nat → Prop) (σ : Nat → Nat) (K K2 : MK) (F F2 : MF) : Prop :=
  (∀ a b, D a → D b → σ a = σ b → a = b) ∧ (∀ a, D a → ∃ k : Nat × Nat, K[a]? = some k ∧ K2[σ a]? = some k ∧ ∀ i, i < k.2 → F2 (σ a) i = xm σ (isR k.1 i) (F a i) ∧ (isR k.1 i = true → 0 ≤ F a i → D (F a i).toNat)) ∧
  F2 1000000 = F 1000000 ∧ F2 1000001 = F 1000001 ∧ K.length ≤ 1000000 ∧ K2.length ≤ 1000000
theorem vm_t {v : MV} : (vm σ v).1 = v.1 := by
  unfold vm
  split
  · next h => exact h.1.symm
  · rfl
theorem vm_n {t : Nat} {x : Int} (h : t ≠ 2) : vm σ (t, x) = (t, x) := if_neg (fun e => h e.1)
theorem vm_r {a : Nat} : vm σ (2, (a : Int)) = (2, ((σ a : Nat) : Int)) := by
  unfold vm
  rw [if_pos ⟨rfl, Int.natCast_nonneg a⟩]
  rfl
theorem vm_cat {v : MV} : m_cat (vm σ v) = m_cat v := by
  unfold m_cat
  rw [vm_t]
theorem vm_cats (st : List MV) : m_cats (st.map (vm σ)) = m_cats st := by
  unfold m_cats
  rw [List.map_map]
  congr 1
  exact List.map_congr_left (fun v _ => vm_cat)
theorem lm_get {ls : ML} {i : Nat} : (lm σ ls)[i]? = (ls[i]?).map (fun o => o.map (vm σ)) := List.getElem?_map
theorem lm_len {ls : ML} : (lm σ ls).length = ls.length := List.length_map ..
theorem lm_some {ls : ML} {i t : Nat} {x : Int} (h : ls[i]? = some (some (t, x))) : (lm σ ls)[i]? = some (some (vm σ (t, x))) := by rw [lm_get, h]; rfl
theorem gl_at {ls : ML} {i : Nat} {v : MV} (h : gl D ls) (hi : ls[i]? = some (some v)) : gv D v := h v (List.mem_of_getElem? hi)
theorem gv_n {t : Nat} {x : Int} (h : t ≠ 2) : gv D (t, x) := fun e => absurd e h
theorem gs_c {v : MV} {st : List MV} : gs D (v :: st) ↔ gv D v ∧ gs D st := ⟨fun h => ⟨h v List.mem_cons_self, fun w hw => h w (List.mem_cons_of_mem _ hw)⟩, fun h w hw => by
  rcases List.mem_cons.mp hw with rfl | hw
  · exact h.1
  · exact h.2 w hw⟩
theorem gs_nil : gs D [] := fun v h => absurd h List.not_mem_nil
/-- a store into a local -/
theorem lm_st {ls l : ML} {i : Nat} {v : MV} (h : m_st ls i v = some l) : m_st (lm σ ls) i (vm σ v) = some (lm σ l) := by
  unfold m_st at h ⊢
  rw [vm_cat, lm_len]
  split at h
  · next hi =>
    rw [if_pos hi]
    have e1 : (if (vm σ v).1 = 1 then ((lm σ ls).set i (some (vm σ v))).set (i + 1) none else (lm σ ls).set i (some (vm σ v))) = lm σ (if v.1 = 1 then (ls.set i (some v)).set (i + 1) none else ls.set i (some v)) := by
      rw [vm_t]
      unfold lm
      split
      · rw [List.map_set, List.map_set]; rfl
      · rw [List.map_set]; rfl
    dsimp only at h ⊢
    rw [e1]
    cases i with
    | zero => cases h; rfl
    | succ k =>
      dsimp only at h ⊢
      rw [lm_get]
      split at h
      · next w hk =>
        rw [hk]
        cases h
        show some ((lm σ _).set k none) = some (lm σ _)
        unfold lm
        rw [List.map_set]
        rfl
      · next hk =>
        cases h
        cases hg : ls[k]? with
        | none => rfl
        | some o =>
          cases o with
          | none => rfl
          | some w =>
            obtain ⟨t, x⟩ := w
            have ht : t ≠ 1 := fun e => by subst e; exact hk x hg
            have h3 : (vm σ (t, x)).1 = t := vm_t
            have h4 : (Option.map (fun o => Option.map (vm σ) o) (some (some (t, x))) : Option (Option MV)) = some (some (vm σ (t, x))) := rfl
            rw [h4]
            generalize vm σ (t, x) = v2 at h3
            obtain ⟨t2, x2⟩ := v2
            have h3 : t2 = t := h3
            subst h3
            match t2, ht with
            | 0, _ => rfl
            | n + 2, _ => rfl
  · cases h
theorem gl_st {ls l : ML} {i : Nat} {v : MV} (hl : gl D ls) (hv : gv D v) (h : m_st ls i v = some l) : gl D l := by
  have key : ∀ (m : ML) (j : Nat) (o : Option MV), gl D m → (∀ w, o = some w → gv D w) → gl D (m.set j o) := fun m j o hm ho w hw => by
    rcases List.mem_or_eq_of_mem_set hw with h1 | h1
    · exact hm w h1
    · exact ho w h1.symm
  unfold m_st at h
  split at h
  · dsimp only at h
    have base : gl D (if v.1 = 1 then (ls.set i (some v)).set (i + 1) none else ls.set i (some v)) := by
      split
      · exact key _ _ _ (key _ _ _ hl (fun w e => by cases e; exact hv)) (fun w e => by cases e)
      · exact key _ _ _ hl (fun w e => by cases e; exact hv)
    cases i with
    | zero => cases h; exact base
    | succ k =>
      dsimp only at h
      split at h
      · cases h; exact key _ _ _ base (fun w e => by cases e)
      · cases h; exact base
  · cases h
theorem kd_rl (hR : HR D σ K K2 F F2) {a : Nat} (ha : D a) : m_kind (F2, K2, c2, s2) ((σ a : Nat) : Int) = m_kind (F, K, c, s) ((a : Nat) : Int) ∧ (m_kind (F, K, c, s) ((a : Nat) : Int)).1 ≠ 999 → True := fun _ => trivial
theorem kd_at (hR : HR D σ K K2 F F2) {x : Int} (hg : gv D (2, x)) (h0 : 0 ≤ x) : ∃ k : Nat × Nat, (∀ c s, m_kind (F, K, c, s) x = k) ∧ (∀ c s, m_kind (F2, K2, c, s) ((σ x.toNat : Nat) : Int) = k) ∧ K[x.toNat]? = some k ∧ K2[σ x.toNat]? = some k ∧ D x.toNat ∧ ∀ i, i < k.2 → F2 (σ x.toNat) i = xm σ (isR k.1 i) (F x.toNat i) ∧ (isR k.1 i = true → 0 ≤ F x.toNat i → D (F x.toNat i).toNat) := by
  have hD := hg rfl h0
  obtain ⟨k, h1, h2, h3⟩ := hR.2.1 _ hD
  refine ⟨k, fun c s => ?_, fun c s => ?_, h1, h2, hD, h3⟩
  · unfold m_kind
    rw [if_pos h0]
    show (K[x.toNat]?).getD _ = k
    rw [h1]; rfl
  · unfold m_kind
    rw [if_pos (Int.natCast_nonneg _), Int.toNat_natCast]
    show (K2[σ x.toNat]?).getD _ = k
    rw [h2]; rfl
theorem kd_neg {x : Int} (h0 : ¬ 0 ≤ x) : m_kind (F, K, c, s) x = (999, 0) := by
  unfold m_kind
  exact if_neg h0
/-- a write -/
theorem HR.up (hR : HR D σ K K2 F F2) {a i : Nat} {k : Nat × Nat} {x : Int} (ha : D a) (hk : K[a]? = some k) (hx : isR k.1 i = true → 0 ≤ x → D x.toNat) : HR D σ K K2 (m_up F a i x) (m_up F2 (σ a) i (xm σ (isR k.1 i) x)) := by
  obtain ⟨h1, h2, h3, h4, h5, h6⟩ := hR
  have hl : a < 1000000 := Nat.lt_of_lt_of_le (List.getElem?_eq_some_iff.mp hk).1 h5
  obtain ⟨k0, g1, g2, -⟩ := h2 a ha
  have hl2 : σ a < 1000000 := Nat.lt_of_lt_of_le (List.getElem?_eq_some_iff.mp g2).1 h6
  refine ⟨h1, fun b hb => ?_, ?_, ?_, h5, h6⟩
  · obtain ⟨kb, e1, e2, e3⟩ := h2 b hb
    refine ⟨kb, e1, e2, fun j hj => ?_⟩
    by_cases e : b = a ∧ j = i
    · obtain ⟨rfl, rfl⟩ := e
      have : kb = k := by rw [e1] at hk; exact Option.some.inj hk
      subst this
      rw [u_eq, u_eq]
      exact ⟨rfl, hx⟩
    · have e' : b ≠ a ∨ j ≠ i := by
        by_cases q : b = a
        · exact Or.inr (fun w => e ⟨q, w⟩)
        · exact Or.inl q
      rw [u_ne e']
      rw [u_ne (by rcases e' with q | q; exact Or.inl (fun w => q (h1 _ _ hb ha w)); exact Or.inr q)]
      exact e3 j hj
  · funext j
    rw [u_ne (Or.inl (by omega)), u_ne (Or.inl (by omega))]
    exact congrFun h3 j
  · funext j
    rw [u_ne (Or.inl (by omega)), u_ne (Or.inl (by omega))]
    exact congrFun h4 j
end Ms0
