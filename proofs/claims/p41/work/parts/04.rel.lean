/-! HOW THE SMALL MACHINE'S STATES STAND FOR THE MACHINE'S -/
def m_cl : List vw_C := [(RX0, TX0, 4), (RX1, TX1, 7), (RX2, TX2, 3), (RX3, TX3, 15), (RX4, TX4, 15), (RX5, TX5, 1), (RX6, TX6, 10), (RX7, TX7, 6), (RX8, TX8, 9), (RX9, TX9, 13), (RX10, TX10, 6), (RX11, TX11, 10)]
abbrev m_Z : Type := (Nat → Nat) × (Nat → Nat) × Nat × Nat × (Nat → Int32)
def m_vr (ads : List Nat) (z : m_Z) (v : MV) (r : Value) : Prop := match v.1 with
  | 0 => ∃ y : Int32, r = .int y ∧ y.toInt = v.2
  | 1 => ∃ y : Int64, r = .long y ∧ y.toInt = v.2
  | 2 => 0 ≤ v.2 ∧ ∃ a : Nat, ads[v.2.toNat]? = some a ∧ r = .ref a
  | 3 => r = .null ∨ ∃ a : Nat, r = .ref a
  | 4 => 0 ≤ v.2 ∧ v.2 < 34 ∧ r = .ref (z.1 v.2.toNat)
  | 5 => 0 ≤ v.2 ∧ v.2 < 29 ∧ r = .ref (z.2.1 v.2.toNat)
  | 6 => r = .ref z.2.2.1
  | _ => False
def m_vrs (ads : List Nat) (z : m_Z) : List MV → List Value → Prop
  | [], [] => True
  | v :: vs, r :: rs => m_vr ads z v r ∧ m_vrs ads z vs rs
  | _, _ => False
def m_lr (ads : List Nat) (z : m_Z) (nL : Nat) (ls : ML) (rls : Array Slot) : Prop := ls.length = nL ∧ rls.size = nL ∧ lv_wf rls ∧ ∀ (i : Nat) (v : MV), ls[i]? = some (some v) → ∃ r : Value, rls[i]? = some (.val r) ∧ m_vr ads z v r
def m_sr (ads : List Nat) (ty : Nat) (x : Int) (r : Value) : Prop := match ty with
  | 0 => ∃ y : Int32, r = .int y ∧ y.toInt = x
  | 1 => ∃ y : Int64, r = .long y ∧ y.toInt = x
  | 2 => ∃ y : Int32, r = .int y ∧ y.toInt = x
  | 3 => ∃ y : Int32, r = .int y ∧ y.toInt = x
  | 4 => (x = -1 ∧ r = .null) ∨ (0 ≤ x ∧ ∃ a : Nat, ads[x.toNat]? = some a ∧ r = .ref a)
  | _ => False
def m_ct1 (ads : List Nat) (tys : List (ClassId × FieldType)) (ty : FieldType) (n : Nat) (F : Nat → Int) (e : va_E) : Prop := ∃ (cA : ClassId) (f : Nat → Int32) (t0 : Nat), e = .inl (cA, n, .inl f) ∧ tys[t0]? = some (cA, ty) ∧ ∀ i, i < n → (f i).toInt = F i
def m_cr (ads : List Nat) (tys : List (ClassId × FieldType)) (k : Nat × Nat) (F : Nat → Int) (e : va_E) : Prop :=
  k.2 < 100000 ∧
  if k.1 < 13 then ∃ (fs : List Value) (q : vw_C), e = .inr (k.1, fs) ∧ m_cl[k.1]? = some q ∧ q.2.2 = k.2 ∧ fs.length = k.2 ∧ ∀ i, i < k.2 → ∃ r, fs[i]? = some r ∧ m_sr ads (m_fty k.1 i) (F i) r
  else if k.1 = 100 then m_ct1 ads tys .int k.2 F e
  else if k.1 = 101 then ∃ (cA : ClassId) (f : Nat → Int64) (t0 : Nat), e = .inl (cA, k.2, .inr (.inl f)) ∧ tys[t0]? = some (cA, .long) ∧ ∀ i, i < k.2 → (f i).toInt = F i
  else if k.1 = 102 then m_ct1 ads tys .char k.2 F e ∧ ∀ i, i < k.2 → 0 ≤ F i ∧ F i < 65536
  else if k.1 = 103 then m_ct1 ads tys .boolean k.2 F e
  else if 110 ≤ k.1 ∧ k.1 < 150 then ∃ (q : vw_C) (cA : ClassId) (f : Nat → Option Nat) (t0 : Nat), m_cl[k.1 - 110]? = some q ∧ e = .inl (cA, k.2, .inr (.inr (.inr (.inr f)))) ∧ tys[t0]? = some (cA, .object q.1) ∧ ∀ i, i < k.2 → (F i = -1 ∧ f i = none) ∨ (0 ≤ F i ∧ ∃ a : Nat, ads[(F i).toNat]? = some a ∧ f i = some a)
  else False
def m_rep (D : va_G) (A : Nat → Prop) (ads : List Nat) (s : State) (h : MH) (H : Heap) : Prop :=
  ∃ (ws : va_W) (tys : List (ClassId × FieldType)), va_K D m_cl tys s ∧ va_P D m_cl ws H ∧ va_D A ws ∧ ws.map (fun q => q.1) = ads ∧ ws.length = h.2.1.length ∧
    ∀ (k : Nat) (kd : Nat × Nat), h.2.1[k]? = some kd → ∃ (a : Nat) (e : va_E), ws[k]? = some (a, e) ∧ m_cr ads tys kd (h.1 k) e
theorem m_vr_up {ads : List Nat} {z : m_Z} {v : MV} {r : Value} (b : List Nat) (h : m_vr ads z v r) : m_vr (ads ++ b) z v r := by
  obtain ⟨t, x⟩ := v
  unfold m_vr at h ⊢
  dsimp only at h ⊢
  split at h
  · exact h
  · exact h
  · obtain ⟨h0, a, h1, h2⟩ := h
    exact ⟨h0, a, by rw [List.getElem?_append_left (List.getElem?_eq_some_iff.mp h1).1]; exact h1, h2⟩
  · exact h
  · exact h
  · exact h
  · exact h
  · exact h.elim
theorem m_vrs_up {ads : List Nat} {z : m_Z} (b : List Nat) : ∀ {vs : List MV} {rs : List Value}, m_vrs ads z vs rs → m_vrs (ads ++ b) z vs rs
  | [], [], _ => trivial
  | _ :: _, _ :: _, h => ⟨m_vr_up b h.1, m_vrs_up b h.2⟩
theorem m_lr_up {ads : List Nat} {z : m_Z} {nL : Nat} {ls : ML} {rls : Array Slot} (b : List Nat) (h : m_lr ads z nL ls rls) : m_lr (ads ++ b) z nL ls rls :=
  ⟨h.1, h.2.1, h.2.2.1, fun i v hv => by obtain ⟨r, h1, h2⟩ := h.2.2.2 i v hv; exact ⟨r, h1, m_vr_up b h2⟩⟩
theorem m_sr_up {ads : List Nat} {ty : Nat} {x : Int} {r : Value} (b : List Nat) (h : m_sr ads ty x r) : m_sr (ads ++ b) ty x r := by
  unfold m_sr at h ⊢
  split at h
  · exact h
  · exact h
  · exact h
  · exact h
  · rcases h with h | ⟨h0, a, h1, h2⟩
    · exact Or.inl h
    · exact Or.inr ⟨h0, a, by rw [List.getElem?_append_left (List.getElem?_eq_some_iff.mp h1).1]; exact h1, h2⟩
  · exact h.elim
theorem m_cat_of {ads : List Nat} {z : m_Z} {v : MV} {r : Value} (h : m_vr ads z v r) : r.category = m_cat v := by
  obtain ⟨t, x⟩ := v
  unfold m_vr at h
  dsimp only at h
  split at h
  · obtain ⟨y, rfl, -⟩ := h; rfl
  · obtain ⟨y, rfl, -⟩ := h; rfl
  · obtain ⟨-, a, -, rfl⟩ := h; rfl
  · rcases h with rfl | ⟨a, rfl⟩ <;> rfl
  · obtain ⟨-, -, rfl⟩ := h; rfl
  · obtain ⟨-, -, rfl⟩ := h; rfl
  · rw [h]; rfl
  · exact h.elim
theorem m_cats_of {ads : List Nat} {z : m_Z} : ∀ {vs : List MV} {rs : List Value}, m_vrs ads z vs rs → (rs.map fun v => v.category).sum = m_cats vs
  | [], [], _ => rfl
  | v :: vs, r :: rs, h => by
    have h1 := m_cat_of h.1
    have h2 := m_cats_of h.2
    unfold m_cats at h2 ⊢
    simp only [List.map_cons, List.sum_cons]
    rw [h1, h2]
theorem m_vrs_len {ads : List Nat} {z : m_Z} : ∀ {vs : List MV} {rs : List Value}, m_vrs ads z vs rs → rs.length = vs.length
  | [], [], _ => rfl
  | _ :: _, _ :: _, h => by simp only [List.length_cons]; rw [m_vrs_len h.2]
theorem m_vrs_app {ads : List Nat} {z : m_Z} : ∀ {vs ws : List MV} {rs qs : List Value}, m_vrs ads z vs rs → m_vrs ads z ws qs → m_vrs ads z (vs ++ ws) (rs ++ qs)
  | [], _, [], _, _, h => h
  | _ :: _, _, _ :: _, _, h1, h2 => ⟨h1.1, m_vrs_app h1.2 h2⟩
theorem m_vrs_take {ads : List Nat} {z : m_Z} : ∀ (n : Nat) {vs : List MV} {rs : List Value}, m_vrs ads z vs rs → m_vrs ads z (vs.take n) (rs.take n)
  | 0, _, _, _ => by simp [m_vrs]
  | n + 1, [], [], _ => by simp [m_vrs]
  | n + 1, _ :: _, _ :: _, h => ⟨h.1, m_vrs_take n h.2⟩
theorem m_vrs_drop {ads : List Nat} {z : m_Z} : ∀ (n : Nat) {vs : List MV} {rs : List Value}, m_vrs ads z vs rs → m_vrs ads z (vs.drop n) (rs.drop n)
  | 0, _, _, h => h
  | n + 1, [], [], _ => by simp [m_vrs]
  | n + 1, _ :: _, _ :: _, h => m_vrs_drop n h.2
theorem m_vrs_rev {ads : List Nat} {z : m_Z} : ∀ {vs : List MV} {rs : List Value}, m_vrs ads z vs rs → m_vrs ads z vs.reverse rs.reverse
  | [], [], _ => by simp [m_vrs]
  | v :: vs, r :: rs, h => by
    rw [List.reverse_cons, List.reverse_cons]
    exact m_vrs_app (m_vrs_rev h.2) ⟨h.1, trivial⟩
/-- the values of a slot array, all of them -/
def m_all (rls : Array Slot) : List (Nat × Value) := (List.range rls.size).filterMap fun j => match (rls[j]? : Option Slot) with
  | some (Slot.val r) => some (j, r)
  | _ => none
theorem m_all_mem {rls : Array Slot} {j : Nat} {r : Value} : (j, r) ∈ m_all rls ↔ rls[j]? = some (.val r) := by
  unfold m_all
  rw [List.mem_filterMap]
  constructor
  · rintro ⟨k, hk, h⟩
    split at h
    · next x hx =>
      cases h
      exact hx
    · cases h
  · intro h
    refine ⟨j, List.mem_range.mpr (Array.getElem?_eq_some_iff.mp h).1, ?_⟩
    rw [h]
theorem m_all_has {rls : Array Slot} {nL : Nat} (h1 : rls.size = nL) (h2 : lv_wf rls) : lv_has rls nL (m_all rls) := ⟨h1, h2, fun q hq => m_all_mem.mp hq⟩
theorem m_store {ads : List Nat} {z : m_Z} {nL i : Nat} {ls ls' : ML} {rls rls' : Array Slot} {v : MV} {r : Value} (h : m_lr ads z nL ls rls) (hv : m_vr ads z v r) (hs : m_st ls i v = some ls')
    (h1 : m_cat v = 1 → lv_has rls' nL ((i, r) :: (m_all rls).filter (fun q => !(q.1 == i) && !(q.1 + 1 == i && q.2.category == 2))))
    (h2 : m_cat v = 2 → lv_has rls' nL ((i, r) :: (m_all rls).filter (fun q => !(q.1 == i) && (!(q.1 == i + 1) && !(q.1 + 1 == i && q.2.category == 2))))) : m_lr ads z nL ls' rls' ∧ i + m_cat v ≤ nL := by
  obtain ⟨hl, hr, hw, hg⟩ := h
  unfold m_st at hs
  split at hs
  · next hi =>
    rw [hl] at hi
    refine ⟨?_, hi⟩
    -- what stands at a place of ls' other than i stood there before
    have key : ls'.length = nL ∧ ∀ (j : Nat) (u : MV), ls'[j]? = some (some u) → (j = i ∧ u = v) ∨ (j ≠ i ∧ ls[j]? = some (some u) ∧ (v.1 = 1 → j ≠ i + 1) ∧ (j + 1 = i → u.1 ≠ 1)) := by
      have base : ∀ (j : Nat) (u : MV), (if v.1 = 1 then (ls.set i (some v)).set (i + 1) none else ls.set i (some v))[j]? = some (some u) → (j = i ∧ u = v) ∨ (j ≠ i ∧ ls[j]? = some (some u) ∧ (v.1 = 1 → j ≠ i + 1)) := by
        intro j u hj
        split at hj
        · next hv1 =>
          by_cases e1 : j = i + 1
          · subst e1
            rw [List.getElem?_set] at hj
            simp at hj
          · rw [List.getElem?_set_ne (fun e => e1 e.symm)] at hj
            by_cases e2 : j = i
            · subst e2
              rw [List.getElem?_set] at hj
              simp at hj
              exact Or.inl ⟨rfl, hj.2.symm⟩
            · rw [List.getElem?_set_ne (fun e => e2 e.symm)] at hj
              exact Or.inr ⟨e2, hj, fun _ => e1⟩
        · next hv1 =>
          by_cases e2 : j = i
          · subst e2
            rw [List.getElem?_set] at hj
            simp at hj
            exact Or.inl ⟨rfl, hj.2.symm⟩
          · rw [List.getElem?_set_ne (fun e => e2 e.symm)] at hj
            exact Or.inr ⟨e2, hj, fun h => absurd h hv1⟩
      have blen : (if v.1 = 1 then (ls.set i (some v)).set (i + 1) none else ls.set i (some v)).length = nL := by split <;> simp [hl]
      dsimp only at hs
      cases i with
      | zero =>
        cases hs
        refine ⟨blen, fun j u hj => ?_⟩
        rcases base j u hj with a | ⟨a, b, c⟩
        · exact Or.inl a
        · exact Or.inr ⟨a, b, c, fun e => by omega⟩
      | succ k =>
        dsimp only at hs
        split at hs
        · next w hk =>
          cases hs
          refine ⟨by rw [List.length_set]; exact blen, fun j u hj => ?_⟩
          by_cases e : j = k
          · subst e
            rw [List.getElem?_set] at hj
            simp at hj
          · rw [List.getElem?_set_ne (fun x => e x.symm)] at hj
            rcases base j u hj with a | ⟨a, b, c⟩
            · exact Or.inl a
            · exact Or.inr ⟨a, b, c, fun x => by omega⟩
        · next hk =>
          cases hs
          refine ⟨blen, fun j u hj => ?_⟩
          rcases base j u hj with a | ⟨a, b, c⟩
          · exact Or.inl a
          · refine Or.inr ⟨a, b, c, fun x h1 => ?_⟩
            have hjk : j = k := by omega
            subst hjk
            obtain ⟨t, y⟩ := u
            dsimp only at h1
            subst h1
            exact hk _ b
    have hcat : m_cat v = 1 ∨ m_cat v = 2 := by unfold m_cat; split <;> simp
    have hv1 : m_cat v = 2 → v.1 = 1 := by unfold m_cat; split <;> simp_all
    obtain ⟨kl, kk⟩ := key
    rcases hcat with hc | hc
    · obtain ⟨a1, a2, a3⟩ := h1 hc
      refine ⟨kl, a1, a2, fun j u hj => ?_⟩
      rcases kk j u hj with ⟨rfl, rfl⟩ | ⟨e1, e2, e3, e4⟩
      · exact ⟨r, a3 (j, r) List.mem_cons_self, hv⟩
      · obtain ⟨x, b1, b2⟩ := hg j u e2
        refine ⟨x, a3 (j, x) (List.mem_cons_of_mem _ (List.mem_filter.mpr ⟨m_all_mem.mpr b1, ?_⟩)), b2⟩
        have hx := m_cat_of b2
        by_cases e5 : j + 1 = i
        · have := e4 e5
          simp [e1, hx, m_cat, this]
        · simp [e1, e5]
    · obtain ⟨a1, a2, a3⟩ := h2 hc
      refine ⟨kl, a1, a2, fun j u hj => ?_⟩
      rcases kk j u hj with ⟨rfl, rfl⟩ | ⟨e1, e2, e3, e4⟩
      · exact ⟨r, a3 (j, r) List.mem_cons_self, hv⟩
      · obtain ⟨x, b1, b2⟩ := hg j u e2
        refine ⟨x, a3 (j, x) (List.mem_cons_of_mem _ (List.mem_filter.mpr ⟨m_all_mem.mpr b1, ?_⟩)), b2⟩
        have hx := m_cat_of b2
        have e6 := e3 (hv1 hc)
        by_cases e5 : j + 1 = i
        · have := e4 e5
          simp [e1, e6, hx, m_cat, this]
        · simp [e1, e5, e6]
  · cases hs
theorem w32_bmod (x : Int) : x.bmod 4294967296 = w32 x := by
  unfold w32 Int.bmod
  dsimp only
  split <;> omega
theorem w64_bmod (x : Int) : x.bmod 18446744073709551616 = w64 x := by
  unfold w64 Int.bmod
  dsimp only
  split <;> omega
theorem w32_of {x : Int} (h1 : -2147483648 ≤ x) (h2 : x < 2147483648) : w32 x = x := by unfold w32; omega
theorem w64_of {x : Int} (h1 : -9223372036854775808 ≤ x) (h2 : x < 9223372036854775808) : w64 x = x := by unfold w64; omega
theorem w32_lo (x : Int) : -2147483648 ≤ w32 x ∧ w32 x < 2147483648 := by unfold w32; omega
theorem w64_lo (x : Int) : -9223372036854775808 ≤ w64 x ∧ w64 x < 9223372036854775808 := by unfold w64; omega
theorem m_iadd (x y : Int32) : (x + y).toInt = w32 (x.toInt + y.toInt) := by rw [Int32.toInt_add, ← w32_bmod]
theorem m_isub (x y : Int32) : (x - y).toInt = w32 (x.toInt - y.toInt) := by rw [Int32.toInt_sub, ← w32_bmod]
theorem m_imul (x y : Int32) : (x * y).toInt = w32 (x.toInt * y.toInt) := by rw [Int32.toInt_mul, ← w32_bmod]
theorem m_ladd (x y : Int64) : (x + y).toInt = w64 (x.toInt + y.toInt) := by rw [Int64.toInt_add, ← w64_bmod]
theorem m_lsub (x y : Int64) : (x - y).toInt = w64 (x.toInt - y.toInt) := by rw [Int64.toInt_sub, ← w64_bmod]
theorem m_lmul (x y : Int64) : (x * y).toInt = w64 (x.toInt * y.toInt) := by rw [Int64.toInt_mul, ← w64_bmod]
theorem m_rng (x : Int32) : -2147483648 ≤ x.toInt ∧ x.toInt < 2147483648 := ⟨Int32.le_toInt x, Int32.toInt_lt x⟩
theorem m_idiv (x y : Int32) : (x / y).toInt = w32 (x.toInt.tdiv y.toInt) := by rw [Int32.toInt_div, ← w32_bmod]
theorem m_irem (x y : Int32) : (x - x / y * y).toInt = x.toInt.tmod y.toInt := by
  have h1 := m_rng x
  have h2 := m_rng y
  rw [m_isub, m_imul, m_idiv]
  have e1 : w32 (x.toInt - w32 (w32 (x.toInt.tdiv y.toInt) * y.toInt)) = w32 (x.toInt - x.toInt.tdiv y.toInt * y.toInt) := by
    have a : ∀ p q : Int, (p - q) % 4294967296 = 0 → w32 p = w32 q := fun p q h => by unfold w32; omega
    have b : ∀ p : Int, (w32 p - p) % 4294967296 = 0 := fun p => by unfold w32; omega
    apply a
    have c1 := b (w32 (x.toInt.tdiv y.toInt) * y.toInt)
    have c2 : (w32 (x.toInt.tdiv y.toInt) * y.toInt - x.toInt.tdiv y.toInt * y.toInt) % 4294967296 = 0 := by
      rw [← Int.sub_mul]
      obtain ⟨k, hk⟩ := Int.dvd_of_emod_eq_zero (b (x.toInt.tdiv y.toInt))
      rw [hk, Int.mul_assoc]
      exact Int.mul_emod_right _ _
    omega
  rw [e1]
  have e2 : x.toInt - x.toInt.tdiv y.toInt * y.toInt = x.toInt.tmod y.toInt := by
    have := Int.tmod_add_tdiv_mul x.toInt y.toInt
    omega
  rw [e2]
  by_cases h0 : y.toInt = 0
  · rw [h0, Int.tmod_zero]
    exact w32_of h1.1 h1.2
  · have hlt : (x.toInt.tmod y.toInt).natAbs < y.toInt.natAbs := by
      rw [Int.natAbs_tmod]
      exact Nat.mod_lt _ (by omega)
    exact w32_of (by omega) (by omega)
