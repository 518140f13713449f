/-! THE WORDS OF A FILE: which tokens they speak of -/
def wo (w : Int) : Int := w % 256
def wt (w : Int) : Int := w / 256 % 256
def we (w : Int) : Int := w / 65536
theorem wo_mk {o t e : Nat} (h : o < 256) : wo (mk o t e) = (o : Int) := by unfold wo mk; omega
theorem wt_mk {o t e : Nat} (h : o < 256) (h2 : t < 256) : wt (mk o t e) = (t : Int) := by unfold wt mk; omega
theorem we_mk {o t e : Nat} (h : o < 256) (h2 : t < 256) : we (mk o t e) = (e : Int) := by unfold we mk; omega
def sm (g : Int → Nat) : List Int → Nat
  | [] => 0
  | w :: W => g w + sm g W
theorem sm_app {g : Int → Nat} : ∀ (A B : List Int), sm g (A ++ B) = sm g A + sm g B
  | [], B => by show sm g B = 0 + sm g B; omega
  | x :: A, B => by show g x + sm g (A ++ B) = g x + sm g A + sm g B; rw [sm_app A B]; omega
theorem sm_set {g : Int → Nat} {v : Int} : ∀ (A : List Int) (i : Nat), i < A.length → g v = g (gx A i) → sm g (A.set i v) = sm g A
  | [], i, h, _ => absurd h (Nat.not_lt_zero i)
  | x :: A, 0, _, h2 => by show g v + sm g A = g x + sm g A; rw [h2]; rfl
  | x :: A, i + 1, h, h2 => by
    show g x + sm g (A.set i v) = g x + sm g A
    rw [sm_set A i (by rw [List.length_cons] at h; omega) h2]
theorem sm_get {g : Int → Nat} : ∀ (A : List Int) (i : Nat), i < A.length → g (gx A i) ≤ sm g A
  | [], i, h => absurd h (Nat.not_lt_zero i)
  | x :: A, 0, _ => by show g x ≤ g x + sm g A; omega
  | x :: A, i + 1, h => by
    have := sm_get (g := g) A i (by rw [List.length_cons] at h; omega)
    show g (gx A i) ≤ g x + sm g A
    omega
theorem sm_two {g : Int → Nat} : ∀ (A : List Int) (i j : Nat), i < j → j < A.length → g (gx A i) + g (gx A j) ≤ sm g A
  | [], i, j, _, h => absurd h (Nat.not_lt_zero j)
  | x :: A, 0, j + 1, _, h => by
    have := sm_get (g := g) A j (by rw [List.length_cons] at h; omega)
    show g x + g (gx A j) ≤ g x + sm g A
    omega
  | x :: A, i + 1, j + 1, h1, h => by
    have := sm_two (g := g) A i j (by omega) (by rw [List.length_cons] at h; omega)
    show g (gx A i) + g (gx A j) ≤ g x + sm g A
    omega
/-- a word gives a token what it is bound to -/
def tin (t w : Int) : Prop := (wo w = 2 ∧ wt w ≤ t ∧ t ≤ wt w + 2 * we w ∧ (t - wt w) % 2 = 0) ∨ ((wo w = 7 ∨ wo w = 8 ∨ wo w = 14 ∨ wo w = 15) ∧ t = wt w)
theorem tin_dec (t w : Int) : tin t w ∨ ¬ tin t w := Classical.em _
noncomputable def cw (t w : Int) : Nat := @ite Nat (tin t w) (Classical.propDecidable _) 1 0
theorem cw_1 {t w : Int} (h : tin t w) : cw t w = 1 := by unfold cw; exact if_pos h
theorem cw_0 {t w : Int} (h : ¬ tin t w) : cw t w = 0 := by unfold cw; exact if_neg h
theorem cw_le (t w : Int) : cw t w ≤ 1 := by
  rcases tin_dec t w with h | h
  · rw [cw_1 h]; exact Nat.le_refl _
  · rw [cw_0 h]; exact Nat.zero_le _
theorem cw_no {t : Int} {o u e : Nat} (h : o < 256) (h2 : o ≠ 2) (h7 : o ≠ 7) (h8 : o ≠ 8) (h14 : o ≠ 14) (h15 : o ≠ 15) : cw t (mk o u e) = 0 := by
  refine cw_0 (fun h3 => ?_)
  unfold tin at h3
  rw [wo_mk h] at h3
  omega
theorem cw_one {t : Int} {o u e : Nat} (h : o = 7 ∨ o = 8 ∨ o = 14 ∨ o = 15) (h2 : u < 256) : cw t (mk o u e) = if t = (u : Int) then 1 else 0 := by
  by_cases e1 : t = (u : Int)
  · rw [if_pos e1]
    exact cw_1 (Or.inr ⟨by rw [wo_mk (by omega)]; omega, by rw [wt_mk (by omega) h2]; exact e1⟩)
  · rw [if_neg e1]
    refine cw_0 (fun h3 => ?_)
    rcases h3 with h3 | h3
    · rw [wo_mk (by omega)] at h3; omega
    · rw [wt_mk (by omega) h2] at h3; exact e1 h3.2
def cl (t : Int) : List Lv → Nat
  | [] => 0
  | l :: r => (if shp l = 2 ∧ opn l = t then 1 else 0) + cl t r
def kp (K : List Int) (t : Nat) : Prop := kn K t = 0 ∨ kn K t = 1 ∨ kn K t = 8 ∨ kn K t = 9
/-- the words of exprs -/
def WX (K : List Int) (w : Int) : Prop := ∃ o t e : Nat, w = mk o t e ∧ t < 200 ∧ (o = 14 ∧ e = 0 ∧ kp K t ∨ o = 15 ∧ kn K t = 0 ∨ (o = 16 ∨ o = 17 ∨ o = 18) ∧ e = 0)
def LW (l : Lv) : Prop := (0 ≤ opn l ∧ opn l < 200) ∧ (-1 ≤ nts l ∧ nts l < 200) ∧ (-1 ≤ tms l ∧ tms l < 200) ∧ (-1 ≤ ads l ∧ ads l < 200) ∧ (-1 ≤ cps l ∧ cps l < 200)
/-- the reading of an expr: which tokens its words speak of -/
def XD (K : List Int) (C0 : List Int) (a0 : Nat) (x : XS) : Prop := a0 ≤ x.2.1 ∧ x.2.1 ≤ K.length + 2 ∧ (∃ D, x.2.2.2 = C0 ++ D ∧ (∀ w ∈ D, WX K w) ∧ ∀ t : Int, sm (cw t) D + cl t x.2.2.1 ≤ 1 ∧ ((t < (a0 : Int) ∨ (x.2.1 : Int) ≤ t) → sm (cw t) D + cl t x.2.2.1 = 0)) ∧
  ∀ l ∈ x.2.2.1, LW l ∧ (shp l = 2 → kn K (opn l).toNat = 0) ∧ (shp l = 1 → szs l = 0)
theorem LW.mk {s o z n t d c : Int} (h1 : 0 ≤ o ∧ o < 200) (h2 : -1 ≤ n ∧ n < 200) (h3 : -1 ≤ t ∧ t < 200) (h4 : -1 ≤ d ∧ d < 200) (h5 : -1 ≤ c ∧ c < 200) : LW (s, o, z, n, t, d, c) := ⟨h1, h2, h3, h4, h5⟩
section M9i
variable {K C0 C : List Int} {a0 a : Nat} {l l' : Lv} {r : List Lv}
theorem XD.mo {s s' a' : Nat} {V : List Int} (h : XD K C0 a0 (s, a, l :: r, C)) (h1 : a ≤ a') (h2 : a' ≤ K.length + 2) (e1 : shp l' = shp l) (e2 : opn l' = opn l) (hV : ∀ w ∈ V, WX K w) (h0 : ∀ t : Int, sm (cw t) V = 0) (hw : LW l → LW l') (hz : shp l = 1 → szs l' = szs l) : XD K C0 a0 (s', a', l' :: r, C ++ V) := by
  obtain ⟨b1, b2, ⟨D, d1, d2, d3⟩, b3⟩ := h
  change a0 ≤ a at b1
  change C = C0 ++ D at d1
  refine ⟨Nat.le_trans b1 h1, h2, ⟨D ++ V, by show C ++ V = _; rw [d1, List.append_assoc], fun w hw => ?_, fun t => ?_⟩, fun m hm => ?_⟩
  · rcases List.mem_append.mp hw with hw | hw
    · exact d2 w hw
    · exact hV w hw
  · have := d3 t
    change sm (cw t) D + ((if shp l = 2 ∧ opn l = t then 1 else 0) + cl t r) ≤ 1 ∧ ((t < (a0 : Int) ∨ (a : Int) ≤ t) → sm (cw t) D + ((if shp l = 2 ∧ opn l = t then 1 else 0) + cl t r) = 0) at this
    show sm (cw t) (D ++ V) + ((if shp l' = 2 ∧ opn l' = t then 1 else 0) + cl t r) ≤ 1 ∧ ((t < (a0 : Int) ∨ (a' : Int) ≤ t) → sm (cw t) (D ++ V) + ((if shp l' = 2 ∧ opn l' = t then 1 else 0) + cl t r) = 0)
    rw [sm_app, h0 t, e1, e2, Nat.add_zero]
    exact ⟨this.1, fun h => this.2 (by omega)⟩
  · rcases List.mem_cons.mp hm with e | hm
    · rw [e]
      have := b3 l (List.mem_cons_self)
      exact ⟨hw this.1, fun hs => by rw [e2]; exact this.2.1 (by rw [← e1]; exact hs), fun hs => by rw [hz (by rw [← e1]; exact hs)]; exact this.2.2 (by rw [← e1]; exact hs)⟩
    · exact b3 m (List.mem_cons_of_mem _ hm)
theorem wd_wx {o : Nat} {p : Int} (ho : o = 16 ∨ o = 17) (hp : -1 ≤ p ∧ p < 200) : (∀ w ∈ wd o p, WX K w) ∧ ∀ t : Int, sm (cw t) (wd o p) = 0 := by
  unfold wd
  by_cases e : p = -1
  · rw [if_pos e]
    exact ⟨fun w h => absurd h (List.not_mem_nil), fun t => rfl⟩
  · rw [if_neg e]
    refine ⟨fun w h => ?_, fun t => ?_⟩
    · rw [List.mem_singleton] at h
      exact ⟨o, p.toNat, 0, h, by omega, by omega⟩
    · show cw t (mk o p.toNat 0) + 0 = 0
      rw [cw_no (by omega) (by omega) (by omega) (by omega) (by omega) (by omega)]
theorem XD.same {s s' a' : Nat} (h : XD K C0 a0 (s, a, l :: r, C)) (h1 : a ≤ a') (h2 : a' ≤ K.length + 2) (e1 : shp l' = shp l) (e2 : opn l' = opn l) (hw : LW l → LW l') (hz : shp l = 1 → szs l' = szs l) : XD K C0 a0 (s', a', l' :: r, C) := by
  have := h.mo (s' := s') (V := []) h1 h2 e1 e2 (fun w h => absurd h (List.not_mem_nil)) (fun t => rfl) hw hz
  rwa [List.append_nil] at this
theorem XD.wds {s s' o : Nat} {p : Int} (h : XD K C0 a0 (s, a, l :: r, C)) (ho : o = 16 ∨ o = 17) (hp : LW l → -1 ≤ p ∧ p < 200) (e1 : shp l' = shp l) (e2 : opn l' = opn l) (hw : LW l → LW l') (hz : shp l = 1 → szs l' = szs l) : XD K C0 a0 (s', a, l' :: r, C ++ wd o p) :=
  h.mo (Nat.le_refl _) h.2.1 e1 e2 (wd_wx (K := K) ho (hp (h.2.2.2 l (List.mem_cons_self)).1)).1 (wd_wx (K := K) ho (hp (h.2.2.2 l (List.mem_cons_self)).1)).2 hw hz
theorem XD.push {s s' a' : Nat} {q : Int} (h : XD K C0 a0 (s, a, r, C)) (h1 : a + 1 ≤ a') (h2 : a' ≤ K.length + 2) (ha : a < 200) (hk : q = 2 → kn K a = 0) : XD K C0 a0 (s', a', lv0 q a :: r, C) := by
  obtain ⟨b1, b2, ⟨D, d1, d2, d3⟩, b3⟩ := h
  change a0 ≤ a at b1
  refine ⟨by show a0 ≤ a'; omega, h2, ⟨D, d1, d2, fun t => ?_⟩, fun m hm => ?_⟩
  · have := d3 t
    change sm (cw t) D + cl t r ≤ 1 ∧ ((t < (a0 : Int) ∨ (a : Int) ≤ t) → sm (cw t) D + cl t r = 0) at this
    show sm (cw t) D + ((if q = 2 ∧ (a : Int) = t then 1 else 0) + cl t r) ≤ 1 ∧ ((t < (a0 : Int) ∨ (a' : Int) ≤ t) → sm (cw t) D + ((if q = 2 ∧ (a : Int) = t then 1 else 0) + cl t r) = 0)
    by_cases e : q = 2 ∧ (a : Int) = t
    · rw [if_pos e]
      have := this.2 (by omega)
      exact ⟨by omega, fun h => by omega⟩
    · rw [if_neg e]
      exact ⟨by omega, fun h => by have := this.2 (by omega); omega⟩
  · rcases List.mem_cons.mp hm with e | hm
    · rw [e]
      refine ⟨⟨?_, ?_, ?_, ?_, ?_⟩, fun hs => ?_, fun _ => rfl⟩
      · show (0 : Int) ≤ (a : Int) ∧ (a : Int) < 200
        omega
      · show (-1 : Int) ≤ -1 ∧ (-1 : Int) < 200
        decide
      · show (-1 : Int) ≤ -1 ∧ (-1 : Int) < 200
        decide
      · show (-1 : Int) ≤ -1 ∧ (-1 : Int) < 200
        decide
      · show (-1 : Int) ≤ -1 ∧ (-1 : Int) < 200
        decide
      · show kn K (a : Int).toNat = 0
        rw [Int.toNat_natCast]
        exact hk hs
    · exact b3 m hm
theorem XD.leaf {s s' : Nat} (h : XD K C0 a0 (s, a, r, C)) (h2 : a + 1 ≤ K.length + 2) (ha : a < 200) (hk : kp K a) : XD K C0 a0 (s', a + 1, r, C ++ [mk 14 a 0]) := by
  obtain ⟨b1, b2, ⟨D, d1, d2, d3⟩, b3⟩ := h
  change a0 ≤ a at b1
  change C = C0 ++ D at d1
  refine ⟨by show a0 ≤ a + 1; omega, h2, ⟨D ++ [mk 14 a 0], by show C ++ _ = _; rw [d1, List.append_assoc], fun w hw => ?_, fun t => ?_⟩, b3⟩
  · rcases List.mem_append.mp hw with hw | hw
    · exact d2 w hw
    · rw [List.mem_singleton] at hw
      exact ⟨14, a, 0, hw, ha, Or.inl ⟨rfl, rfl, hk⟩⟩
  · have := d3 t
    change sm (cw t) D + cl t r ≤ 1 ∧ ((t < (a0 : Int) ∨ (a : Int) ≤ t) → sm (cw t) D + cl t r = 0) at this
    show sm (cw t) (D ++ [mk 14 a 0]) + cl t r ≤ 1 ∧ ((t < (a0 : Int) ∨ ((a + 1 : Nat) : Int) ≤ t) → sm (cw t) (D ++ [mk 14 a 0]) + cl t r = 0)
    rw [sm_app]
    show sm (cw t) D + (cw t (mk 14 a 0) + 0) + cl t r ≤ 1 ∧ (_ → sm (cw t) D + (cw t (mk 14 a 0) + 0) + cl t r = 0)
    rw [cw_one (by omega) (by omega)]
    by_cases e : t = (a : Int)
    · rw [if_pos e]
      have := this.2 (by omega)
      exact ⟨by omega, fun h => by omega⟩
    · rw [if_neg e]
      exact ⟨by omega, fun h => by have := this.2 (by omega); omega⟩
theorem XD.shut {s s' : Nat} (h : XD K C0 a0 (s, a, l :: r, C)) (h2 : a + 1 ≤ K.length + 2) (h3 : shp l = 1 ∨ shp l = 2) : XD K C0 a0 (s', a + 1, r, C ++ [mk (if shp l = 1 then 18 else 15) (opn l).toNat (szs l).toNat]) := by
  obtain ⟨b1, b2, ⟨D, d1, d2, d3⟩, b3⟩ := h
  change a0 ≤ a at b1
  change C = C0 ++ D at d1
  have hl := b3 l (List.mem_cons_self)
  refine ⟨by show a0 ≤ a + 1; omega, h2, ⟨D ++ [_], by show C ++ _ = _; rw [d1, List.append_assoc], fun w hw => ?_, fun t => ?_⟩, fun m hm => b3 m (List.mem_cons_of_mem _ hm)⟩
  · rcases List.mem_append.mp hw with hw | hw
    · exact d2 w hw
    · rw [List.mem_singleton] at hw
      have hb := hl.1.1
      refine ⟨_, _, _, hw, by omega, ?_⟩
      rcases h3 with h3 | h3
      · have := hl.2.2 h3
        rw [if_pos h3]; omega
      · rw [if_neg (by omega)]
        exact Or.inr (Or.inl ⟨rfl, hl.2.1 h3⟩)
  · have := d3 t
    change sm (cw t) D + ((if shp l = 2 ∧ opn l = t then 1 else 0) + cl t r) ≤ 1 ∧ ((t < (a0 : Int) ∨ (a : Int) ≤ t) → sm (cw t) D + ((if shp l = 2 ∧ opn l = t then 1 else 0) + cl t r) = 0) at this
    show sm (cw t) (D ++ [_]) + cl t r ≤ 1 ∧ ((t < (a0 : Int) ∨ ((a + 1 : Nat) : Int) ≤ t) → sm (cw t) (D ++ [_]) + cl t r = 0)
    rw [sm_app]
    have e : cw t (mk (if shp l = 1 then 18 else 15) (opn l).toNat (szs l).toNat) = if shp l = 2 ∧ opn l = t then 1 else 0 := by
      rcases h3 with h3 | h3
      · rw [if_pos h3, cw_no (by decide) (by decide) (by decide) (by decide) (by decide) (by decide), if_neg (by omega)]
      · have := hl.1.1
        rw [if_neg (by omega), cw_one (by omega) (by omega)]
        by_cases e : opn l = t
        · rw [if_pos (by omega), if_pos ⟨h3, e⟩]
        · rw [if_neg (by omega), if_neg (fun x => e x.2)]
    show sm (cw t) D + (cw t _ + 0) + cl t r ≤ 1 ∧ (_ → sm (cw t) D + (cw t _ + 0) + cl t r = 0)
    rw [e]
    exact ⟨by omega, fun h => by have := this.2 (by omega); omega⟩
/-- what a step of the reading of an expr comes to, ahead of the shutting of a bracket -/
def XY (K C0 : List Int) (a0 : Nat) (y : XS) : Prop := XD K C0 a0 y ∧ (y.1 = 4 → ∃ l r, y.2.2.1 = l :: r ∧ (shp l = 1 ∨ shp l = 2) ∧ y.2.1 + 1 ≤ K.length + 2)
theorem XY.no {s : Nat} {L : List Lv} {D : List Int} (h : XD K C0 a0 (s, a, L, D)) (hs : s ≠ 4) : XY K C0 a0 (s, a, L, D) := ⟨h, fun e => absurd e hs⟩
theorem XY_xop (hK : K.length ≤ 195) (h : XD K C0 a0 (1, a, l :: r, C)) (hl : ∀ m ∈ l :: r, 0 ≤ shp m ∧ shp m ≤ 2) : XY K C0 a0 (xop K a l r C) := by
  have b2 : a ≤ K.length + 2 := h.2.1
  have kl : ∀ v, kn K a = v → v ≠ 24 → a < K.length := fun v e hv => kn_lt (by rw [e]; exact hv)
  unfold xop
  by_cases e1 : kn K a = 22 ∧ nts l = -1
  · rw [if_pos e1]
    have := kl _ e1.1 (by decide)
    exact XY.no (h.same (by omega) (by omega) rfl rfl (fun h => LW.mk h.1 (by omega) h.2.2.1 h.2.2.2.1 h.2.2.2.2) (fun _ => rfl)) (by decide)
  · rw [if_neg e1]
    by_cases e2 : kn K a = 0 ∧ kn K (a + 1) = 10
    · rw [if_pos e2]
      have := kl _ e2.1 (by decide)
      exact XY.no (h.push (by omega) (by omega) (by omega) (fun _ => e2.1)) (by decide)
    · rw [if_neg e2]
      by_cases e3 : kn K a = 10
      · rw [if_pos e3]
        have := kl _ e3 (by decide)
        exact XY.no (h.push (by omega) (by omega) (by omega) (fun e => absurd e (by decide))) (by decide)
      · rw [if_neg e3]
        by_cases e4 : kn K a = 11 ∧ shp l = 2 ∧ (a : Int) = opn l + 2
        · rw [if_pos e4]
          have := kl _ e4.1 (by decide)
          exact ⟨h.same (Nat.le_refl _) (by omega) rfl rfl id (fun _ => rfl), fun _ => ⟨l, r, rfl, Or.inr e4.2.1, by show a + 1 ≤ _; omega⟩⟩
        · rw [if_neg e4]
          by_cases e5 : kn K a = 0 ∨ kn K a = 1 ∨ kn K a = 8 ∨ kn K a = 9
          · rw [if_pos e5]
            have : a < K.length := kn_lt (by omega)
            exact XY.no (h.leaf (by omega) (by omega) e5) (by decide)
          · rw [if_neg e5]
            exact XY.no (h.same (Nat.le_refl _) (by omega) rfl rfl id (fun _ => rfl)) (by decide)
theorem XY_xcl {s : Nat} (hK : K.length ≤ 195) (h : XD K C0 a0 (s, a, l :: r, C)) (hl : 0 ≤ shp l ∧ shp l ≤ 2) : XY K C0 a0 (xcl K a l r C) := by
  have b2 : a ≤ K.length + 2 := h.2.1
  have kl : ∀ v, kn K a = v → v ≠ 24 → a < K.length := fun v e hv => kn_lt (by rw [e]; exact hv)
  unfold xcl
  by_cases e0 : shp l = 0
  · rw [if_pos e0]
    exact XY.no (h.same (Nat.le_refl _) (by omega) rfl rfl id (fun _ => rfl)) (by decide)
  · rw [if_neg e0]
    by_cases e2 : shp l = 2
    · rw [if_pos e2]
      by_cases e14 : kn K a = 14
      · rw [if_pos e14]
        have := kl _ e14 (by decide)
        exact XY.no (h.same (by omega) (by omega) rfl rfl id (fun e => absurd e2 (by omega))) (by decide)
      · rw [if_neg e14]
        by_cases e11 : kn K a = 11
        · rw [if_pos e11]
          have := kl _ e11 (by decide)
          exact ⟨h.same (Nat.le_refl _) (by omega) rfl rfl id (fun e => absurd e2 (by omega)), fun _ => ⟨_, r, rfl, Or.inr e2, by show a + 1 ≤ _; omega⟩⟩
        · rw [if_neg e11]
          exact XY.no (h.same (Nat.le_refl _) (by omega) rfl rfl id (fun e => absurd e2 (by omega))) (by decide)
    · rw [if_neg e2]
      by_cases e11 : kn K a = 11
      · rw [if_pos e11]
        have := kl _ e11 (by decide)
        exact ⟨h.same (Nat.le_refl _) (by omega) rfl rfl id (fun _ => rfl), fun _ => ⟨l, r, rfl, Or.inl (by omega), by show a + 1 ≤ _; omega⟩⟩
      · rw [if_neg e11]
        exact XY.no (h.same (Nat.le_refl _) (by omega) rfl rfl id (fun _ => rfl)) (by decide)
theorem XY_xb3 {s : Nat} (hK : K.length ≤ 195) (h : XD K C0 a0 (s, a, l :: r, C)) (hl : 0 ≤ shp l ∧ shp l ≤ 2) : XY K C0 a0 (xb3 K a l r C) := by
  have b2 : a ≤ K.length + 2 := h.2.1
  unfold xb3
  by_cases e1 : kn K a = 19 ∨ kn K a = 20
  · rw [if_pos e1]
    have : a < K.length := kn_lt (by omega)
    exact XY.no (h.same (by omega) (by omega) rfl rfl (fun h => LW.mk h.1 (by decide) (by decide) (by omega) h.2.2.2.2) (fun _ => rfl)) (by decide)
  · rw [if_neg e1]
    by_cases e2 : cps l = -1
    · rw [if_pos e2]
      by_cases e3 : kn K a = 17 ∨ kn K a = 18
      · rw [if_pos e3]
        have : a < K.length := kn_lt (by omega)
        exact XY.no (h.same (by omega) (by omega) rfl rfl (fun h => LW.mk h.1 (by decide) (by decide) (by decide) (by omega)) (fun _ => rfl)) (by decide)
      · rw [if_neg e3]
        exact XY_xcl (s := 2) hK (h.same (l' := (shp l, opn l, szs l, -1, -1, -1, -1)) (Nat.le_refl _) (by omega) rfl rfl (fun h => LW.mk h.1 (by decide) (by decide) (by decide) (by decide)) (fun _ => rfl)) hl
    · rw [if_neg e2]
      exact XY_xcl (s := 2) hK (h.wds (l' := (shp l, opn l, szs l, -1, -1, -1, -1)) (Or.inr rfl) (fun h => h.2.2.2.2) rfl rfl (fun h => LW.mk h.1 (by decide) (by decide) (by decide) (by decide)) (fun _ => rfl)) hl
theorem XY_xbh (hK : K.length ≤ 195) (h : XD K C0 a0 (2, a, l :: r, C)) (hl : 0 ≤ shp l ∧ shp l ≤ 2) : XY K C0 a0 (xbh K a l r C) := by
  have b2 : a ≤ K.length + 2 := h.2.1
  unfold xbh xb2
  have h1 := (h.wds (s' := 2) (o := 16) (p := nts l) (l' := l) (Or.inl rfl) (fun h => h.2.1) rfl rfl id (fun _ => rfl)).wds (s' := 2) (o := 17) (p := tms l) (l' := l) (Or.inr rfl) (fun h => h.2.2.1) rfl rfl id (fun _ => rfl)
  by_cases e : kn K a = 21
  · rw [if_pos e]
    have : a < K.length := kn_lt (by omega)
    exact XY.no (h1.same (by omega) (by omega) rfl rfl (fun h => LW.mk h.1 (by decide) (by omega) h.2.2.2.1 h.2.2.2.2) (fun _ => rfl)) (by decide)
  · rw [if_neg e]
    exact XY_xb3 hK (h1.wds (s' := 2) (o := 17) (p := ads l) (l' := l) (Or.inr rfl) (fun h => h.2.2.2.1) rfl rfl id (fun _ => rfl)) hl
/-- shapes of what is open -/
def ShO (x : XS) : Prop := ∀ m ∈ x.2.2.1, 0 ≤ shp m ∧ shp m ≤ 2
theorem ShO_xcl (h : ShO (1, a, l :: r, C)) : ShO (xcl K a l r C) := by
  have hl := h l (List.mem_cons_self)
  have hr : ∀ m ∈ r, 0 ≤ shp m ∧ shp m ≤ 2 := fun m hm => h m (List.mem_cons_of_mem _ hm)
  have go : ∀ (s a' : Nat) (D : List Int) (m : Lv), shp m = shp l → ShO (s, a', m :: r, D) := fun s a' D m e x hx => by
    rcases List.mem_cons.mp hx with e2 | hx
    · rw [e2, e]; exact hl
    · exact hr x hx
  unfold xcl
  split
  · exact go _ _ _ _ rfl
  · split
    · split
      · exact go _ _ _ _ rfl
      · split <;> exact go _ _ _ _ rfl
    · split <;> exact go _ _ _ _ rfl
theorem ShO_xb3 (h : ShO (1, a, l :: r, C)) : ShO (xb3 K a l r C) := by
  have hl := h l (List.mem_cons_self)
  have hr : ∀ m ∈ r, 0 ≤ shp m ∧ shp m ≤ 2 := fun m hm => h m (List.mem_cons_of_mem _ hm)
  have go : ∀ (s a' : Nat) (D : List Int) (m : Lv), shp m = shp l → ShO (s, a', m :: r, D) := fun s a' D m e x hx => by
    rcases List.mem_cons.mp hx with e2 | hx
    · rw [e2, e]; exact hl
    · exact hr x hx
  unfold xb3
  split
  · exact go _ _ _ _ rfl
  · split
    · split
      · exact go _ _ _ _ rfl
      · exact ShO_xcl (go _ _ _ _ rfl)
    · exact ShO_xcl (go _ _ _ _ rfl)
theorem ShO_xst {x : XS} (h : ShO x) : ShO (xst K x) := by
  obtain ⟨s, a, L, D⟩ := x
  have sh : ∀ y : XS, ShO y → ShO (xsh y) := by
    rintro ⟨s, a, L, D⟩ hy
    match s, L with
    | 4, m :: r => exact fun x hx => hy x (List.mem_cons_of_mem _ hx)
    | 4, [] => exact hy
    | 0, _ => exact hy
    | 1, _ => exact hy
    | 2, _ => exact hy
    | 3, _ => exact hy
    | n + 5, _ => exact hy
  match s, L with
  | 1, l :: r =>
    refine sh _ ?_
    have hl := h l (List.mem_cons_self)
    have hr : ∀ m ∈ r, 0 ≤ shp m ∧ shp m ≤ 2 := fun m hm => h m (List.mem_cons_of_mem _ hm)
    have go : ∀ (s a' : Nat) (D : List Int) (m : Lv), shp m = shp l → ShO (s, a', m :: r, D) := fun s a' D m e x hx => by
      rcases List.mem_cons.mp hx with e2 | hx
      · rw [e2, e]; exact hl
      · exact hr x hx
    have pu : ∀ (s a' : Nat) (D : List Int) (q : Int), 0 ≤ q ∧ q ≤ 2 → ShO (s, a', lv0 q a :: l :: r, D) := fun s a' D q e x hx => by
      rcases List.mem_cons.mp hx with e2 | hx
      · rw [e2]; exact e
      · exact h x hx
    unfold xop
    split
    · exact go _ _ _ _ rfl
    · split
      · exact pu _ _ _ _ (by decide)
      · split
        · exact pu _ _ _ _ (by decide)
        · split
          · exact go _ _ _ _ rfl
          · split
            · exact go _ _ _ _ rfl
            · exact go _ _ _ _ rfl
  | 2, l :: r =>
    refine sh _ ?_
    have hl := h l (List.mem_cons_self)
    have hr : ∀ m ∈ r, 0 ≤ shp m ∧ shp m ≤ 2 := fun m hm => h m (List.mem_cons_of_mem _ hm)
    have go : ∀ (s a' : Nat) (D : List Int) (m : Lv), shp m = shp l → ShO (s, a', m :: r, D) := fun s a' D m e x hx => by
      rcases List.mem_cons.mp hx with e2 | hx
      · rw [e2, e]; exact hl
      · exact hr x hx
    unfold xbh xb2
    split
    · exact go _ _ _ _ rfl
    · exact ShO_xb3 (go _ _ _ _ rfl)
  | 1, [] => exact h
  | 2, [] => exact h
  | 0, _ => exact h
  | 3, _ => exact h
  | n + 4, _ => exact h
theorem XD_xst {x : XS} (hK : K.length ≤ 195) (h : XD K C0 a0 x) (hs : ShO x) (h4 : x.1 ≠ 4) : XD K C0 a0 (xst K x) := by
  obtain ⟨s, a, L, D⟩ := x
  have sh : ∀ y : XS, XY K C0 a0 y → XD K C0 a0 (xsh y) := by
    rintro ⟨s, a, L, D⟩ hy
    match s, L with
    | 4, m :: r =>
      obtain ⟨l, r', e, e2, e3⟩ := hy.2 rfl
      injection e with e5 e6
      subst e5
      exact hy.1.shut e3 e2
    | 4, [] => exact hy.1
    | 0, _ => exact hy.1
    | 1, _ => exact hy.1
    | 2, _ => exact hy.1
    | 3, _ => exact hy.1
    | n + 5, _ => exact hy.1
  match s, L with
  | 1, l :: r => exact sh _ (XY_xop hK h hs)
  | 2, l :: r => exact sh _ (XY_xbh hK h (hs l (List.mem_cons_self)))
  | 1, [] => exact h
  | 2, [] => exact h
  | 0, _ => exact h
  | 3, _ => exact h
  | n + 4, _ => exact h
theorem XD_xrun (hK : K.length ≤ 195) : ∀ (d : Nat) (x : XS), XD K C0 a0 x → ShO x → x.1 ≠ 4 → XD K C0 a0 (xrun K d x) := by
  intro d
  induction d with
  | zero => intro x h _ _; exact h
  | succ d ih =>
    intro x h hs h4
    have h1 := XD_xst hK h hs h4
    have h2 := ShO_xst (K := K) hs
    show XD K C0 a0 (if (xst K x).1 = 0 ∨ (xst K x).1 = 3 then xst K x else xrun K d (xst K x))
    split
    · exact h1
    · by_cases e : (xst K x).1 = 4
      · -- a row without levels stays as it is
        cases d with
        | zero => exact h1
        | succ d =>
          have : ∀ (d : Nat) (y : XS), y.1 = 4 → xrun K d y = (if d = 0 then (0, y.2) else xrun K d y) := fun d y hy => by
            cases d with
            | zero => rfl
            | succ d => rfl
          have st : ∀ y : XS, y.1 = 4 → xst K y = y := by
            rintro ⟨s, a, L, D⟩ hy
            change s = 4 at hy
            subst hy
            rfl
          have run : ∀ (d : Nat) (y : XS), y.1 = 4 → xrun K d y = (0, y.2) := by
            intro d
            induction d with
            | zero => intro y _; rfl
            | succ d ihd =>
              intro y hy
              show (if (xst K y).1 = 0 ∨ (xst K y).1 = 3 then xst K y else xrun K d (xst K y)) = _
              rw [st y hy, if_neg (by omega)]
              exact ihd y hy
          rw [run (d + 1) _ e]
          exact h1
      · exact ih _ h1 h2 e
theorem XD_exr {cl1 : Bool} (hK : K.length ≤ 195) (ha : a ≤ K.length) (hc : cl1 = true → kn K a = 0) : XD K C a (exr K cl1 a C) := by
  have h0 : XD K C a (1, a, [], C) := ⟨Nat.le_refl _, by show a ≤ K.length + 2; omega, ⟨[], (List.append_nil C).symm, fun w h => absurd h (List.not_mem_nil), fun t => ⟨Nat.zero_le _, fun _ => rfl⟩⟩, fun l h => absurd h (List.not_mem_nil)⟩
  refine XD_xrun hK _ _ ?_ (fun m hm => ?_) (show (1 : Nat) ≠ 4 by decide)
  · cases cl1 with
    | true =>
      show XD K C a (1, a + 2, [lv0 2 a], C)
      exact h0.push (by omega) (by omega) (by omega) (fun _ => hc rfl)
    | false =>
      refine ⟨Nat.le_refl _, by show a ≤ K.length + 2; omega, ⟨[], (List.append_nil C).symm, fun w h => absurd h (List.not_mem_nil), fun t => ?_⟩, fun l h => ?_⟩
      · show 0 + ((if (0 : Int) = 2 ∧ (a : Int) = t then 1 else 0) + 0) ≤ 1 ∧ (_ → 0 + ((if (0 : Int) = 2 ∧ (a : Int) = t then 1 else 0) + 0) = 0)
        rw [if_neg (fun e => absurd e.1 (by decide))]
        exact ⟨by decide, fun _ => rfl⟩
      · rw [List.mem_singleton.mp h]
        exact ⟨LW.mk (show (0 : Int) ≤ (a : Int) ∧ (a : Int) < 200 by omega) (by decide) (by decide) (by decide) (by decide), fun hs => absurd (show (0 : Int) = 2 from hs) (by decide), fun hs => absurd (show (0 : Int) = 1 from hs) (by decide)⟩
  · rw [List.mem_singleton.mp hm]
    show (0 : Int) ≤ (if cl1 = true then 2 else 0) ∧ (if cl1 = true then (2 : Int) else 0) ≤ 2
    split <;> decide
end M9i
