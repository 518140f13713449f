/-! THE EIGHT LINES: types, word by word -/
section Mrj
variable {X : Nat → List Int} {h h1 : Nat → Nat} {E E1 : List Int} {e t r : Nat → Int} {a u v s y fn n j k o i : Nat} {fi ty : Int} {st : List (Nat × Int)} {p q : Nat × Int} {W : List Int}
theorem u_14 (ht : u < 256) : tstep X 0 fn (mk 14 u y) (h, st, E) = (h, ((if kn (ks X 0) u = 1 then 600 else if kn (ks X 0) u = 0 then slo X 0 u else 601), ((200 * 0 + u : Nat) : Int)) :: st, E) := by
  rw [ts_14 (wo_mk (by decide)), wt_mk (by decide) ht, Int.toNat_natCast]
theorem u_17 (ht : u < 256) (hk : kn (ks X 0) u ≠ 17) : tstep X 0 fn (mk 17 u y) (h, p :: q :: st, E) = ((alT (alT (h, E) q.1 600 q.2) p.1 600 p.2).1, ((if kn (ks X 0) u = 18 then 601 else 600), q.2) :: st, (alT (alT (h, E) q.1 600 q.2) p.1 600 p.2).2) := by
  unfold tstep
  rw [wo_mk (by decide), wt_mk (by decide) ht, Int.toNat_natCast, if_neg (by decide), if_neg (by decide)]
  show (if ((17 : Nat) : Int) = 18 then _ else if ((17 : Nat) : Int) = 16 then _ else if ((17 : Nat) : Int) = 17 then (if kn (ks X 0) u = 17 then _ else ((alT (alT (h, E) q.1 600 q.2) p.1 600 p.2).1, ((if kn (ks X 0) u = 18 then 601 else 600), q.2) :: st, (alT (alT (h, E) q.1 600 q.2) p.1 600 p.2).2)) else _) = _
  rw [if_neg (by decide), if_neg (by decide), if_pos (by decide), if_neg hk]
theorem u_17e (ht : u < 256) (hk : kn (ks X 0) u = 17) : tstep X 0 fn (mk 17 u y) (h, p :: q :: st, E) = ((alT (h, E) p.1 q.1 p.2).1, (601, q.2) :: st, (alT (h, E) p.1 q.1 p.2).2) := by
  unfold tstep
  rw [wo_mk (by decide), wt_mk (by decide) ht, Int.toNat_natCast, if_neg (by decide), if_neg (by decide)]
  show (if ((17 : Nat) : Int) = 18 then _ else if ((17 : Nat) : Int) = 16 then _ else if ((17 : Nat) : Int) = 17 then (if kn (ks X 0) u = 17 then ((alT (h, E) p.1 q.1 p.2).1, (601, q.2) :: st, (alT (h, E) p.1 q.1 p.2).2) else _) else _) = _
  rw [if_neg (by decide), if_neg (by decide), if_pos (by decide), if_pos hk]
theorem u_16 (ht : u < 256) : tstep X 0 fn (mk 16 u y) (h, p :: st, E) = ((alT (h, E) p.1 601 p.2).1, (601, ((200 * 0 + u : Nat) : Int)) :: st, (alT (h, E) p.1 601 p.2).2) := by
  unfold tstep
  rw [wo_mk (by decide), wt_mk (by decide) ht, Int.toNat_natCast, if_neg (by decide), if_neg (by decide)]
  show (if ((16 : Nat) : Int) = 18 then _ else if ((16 : Nat) : Int) = 16 then ((alT (h, E) p.1 601 p.2).1, (601, ((200 * 0 + u : Nat) : Int)) :: st, (alT (h, E) p.1 601 p.2).2) else _) = _
  rw [if_neg (by decide), if_pos (by decide)]
theorem u_78 (ho : o = 7 ∨ o = 8) (ht : u < 256) : tstep X 0 fn (mk o u y) (h, p :: st, E) = ((alT (h, E) p.1 (slo X 0 u) p.2).1, st, (alT (h, E) p.1 (slo X 0 u) p.2).2) := by
  unfold tstep
  rw [wo_mk (by omega), wt_mk (by omega) ht, Int.toNat_natCast, if_neg (by omega), if_neg (by omega)]
  show (if (o : Int) = 18 then _ else if (o : Int) = 16 then _ else if (o : Int) = 17 then _ else if (o : Int) = 7 ∨ (o : Int) = 8 then ((alT (h, E) p.1 (slo X 0 u) p.2).1, st, (alT (h, E) p.1 (slo X 0 u) p.2).2) else _) = _
  rw [if_neg (by omega), if_neg (by omega), if_neg (by omega), if_pos (by omega)]
theorem u_10 : tstep X 0 fn (mk 10 u y) (h, p :: st, E) = ((alT (h, E) p.1 fn p.2).1, st, (alT (h, E) p.1 fn p.2).2) := by
  unfold tstep
  rw [wo_mk (by decide), if_neg (by decide), if_neg (by decide)]
  show (if ((10 : Nat) : Int) = 18 then _ else if ((10 : Nat) : Int) = 16 then _ else if ((10 : Nat) : Int) = 17 then _ else if ((10 : Nat) : Int) = 7 ∨ ((10 : Nat) : Int) = 8 then _ else if ((10 : Nat) : Int) = 10 then ((alT (h, E) p.1 fn p.2).1, st, (alT (h, E) p.1 fn p.2).2) else _) = _
  rw [if_neg (by decide), if_neg (by decide), if_neg (by decide), if_neg (by decide), if_pos (by decide)]
theorem u_11 : tstep X 0 fn (mk 11 u y) (h, p :: st, E) = ((alT (h, E) p.1 601 p.2).1, st, (alT (h, E) p.1 601 p.2).2) := by
  unfold tstep
  rw [wo_mk (by decide), if_neg (by decide), if_neg (by decide)]
  show (if ((11 : Nat) : Int) = 18 then _ else if ((11 : Nat) : Int) = 16 then _ else if ((11 : Nat) : Int) = 17 then _ else if ((11 : Nat) : Int) = 7 ∨ ((11 : Nat) : Int) = 8 then _ else if ((11 : Nat) : Int) = 10 then _ else if ((11 : Nat) : Int) = 11 then ((alT (h, E) p.1 601 p.2).1, st, (alT (h, E) p.1 601 p.2).2) else _) = _
  rw [if_neg (by decide), if_neg (by decide), if_neg (by decide), if_neg (by decide), if_neg (by decide), if_pos (by decide)]
theorem u_n (ho : o < 14) : tstep X 0 fn (mk o u y) (h, [], E) = (h, [], E) := ts_nil (by rw [wo_mk (by omega)]; omega) (by rw [wo_mk (by omega)]; omega)
theorem tr_c {x z : TS} (ho : o < 256 ∧ o ≠ 2) (hx : tstep X 0 fn (mk o u y) x = z) : trun X 0 (mk o u y :: W) fn x = trun X 0 W fn z := by
  have e1 : fnw 0 (mk o u y) fn = fn := by
    unfold fnw
    rw [wo_mk ho.1, if_neg (by omega)]
  rw [trun_cons, e1, hx]
theorem slo_b {i : Int} (hb : bnd X u = i) (hi : 0 ≤ i) : slo X 0 u = i.toNat := by
  unfold slo
  rw [Nat.mul_zero, Nat.zero_add, hb, if_neg (by omega)]
theorem slo_n (hb : bnd X u = -1) : slo X 0 u = u := by
  unfold slo
  rw [Nat.mul_zero, Nat.zero_add, hb, if_pos rfl]
/-- a name is put on the stack -/
theorem u_14n (ht : u < 256) (hk : kn (ks X 0) u = 0) (hs : slo X 0 u = s) : tstep X 0 fn (mk 14 u y) (h, st, E) = (h, (s, ((200 * 0 + u : Nat) : Int)) :: st, E) := by
  rw [u_14 ht, if_neg (by omega), if_pos hk, hs]
theorem u_14i (ht : u < 256) (hk : kn (ks X 0) u = 1) : tstep X 0 fn (mk 14 u y) (h, st, E) = (h, (600, ((200 * 0 + u : Nat) : Int)) :: st, E) := by
  rw [u_14 ht, if_pos hk]
theorem u_14b (ht : u < 256) (hk : kn (ks X 0) u = 9) : tstep X 0 fn (mk 14 u y) (h, st, E) = (h, (601, ((200 * 0 + u : Nat) : Int)) :: st, E) := by
  rw [u_14 ht, if_neg (by omega), if_neg (by omega)]
/-- a statement whose expr is a name, an operator and a number -/
theorem tr_ex3 {u1 u2 u3 c : Nat} (hl : u1 < 256 ∧ u2 < 256 ∧ u3 < 256) (k1 : kn (ks X 0) u1 = 0) (hs : slo X 0 u1 = s) (k2 : kn (ks X 0) u2 = 1) (k3 : kn (ks X 0) u3 ≠ 17) (hc : (if kn (ks X 0) u3 = 18 then 601 else 600) = c) (ha : alT (h, E) s 600 ((200 * 0 + u1 : Nat) : Int) = (h1, E1)) : trun X 0 (mk 6 a 0 :: mk 14 u1 0 :: mk 14 u2 0 :: mk 17 u3 0 :: W) fn (h, [], E) = trun X 0 W fn (h1, [(c, ((200 * 0 + u1 : Nat) : Int))], E1) := by
  rw [tr_c (z := (h, [], E)) (by decide) (u_n (by decide))]
  rw [tr_c (z := (h, [(s, ((200 * 0 + u1 : Nat) : Int))], E)) (by decide) (u_14n hl.1 k1 hs)]
  rw [tr_c (z := (h, [(600, ((200 * 0 + u2 : Nat) : Int)), (s, ((200 * 0 + u1 : Nat) : Int))], E)) (by decide) (u_14i hl.2.1 k2)]
  refine tr_c (by decide) ?_
  rw [u_17 hl.2.2 k3, hc]
  show ((alT (alT (h, E) s 600 ((200 * 0 + u1 : Nat) : Int)) 600 600 ((200 * 0 + u2 : Nat) : Int)).1, [(c, ((200 * 0 + u1 : Nat) : Int))], (alT (alT (h, E) s 600 ((200 * 0 + u1 : Nat) : Int)) 600 600 ((200 * 0 + u2 : Nat) : Int)).2) = _
  rw [ha, al_same rfl]
def NZt (t t' : Nat → Int) : Prop := ∀ v, t v ≠ 0 → t' v ≠ 0
theorem nz_rf : NZt t t := fun _ q => q
theorem nz_vup {i : Nat} {x : Int} (hx : x ≠ 0) : NZt t (vup t i x) := fun v q => by
  by_cases c : v = i
  · rw [c, vup_eq]; exact hx
  · rw [vup_ne c]; exact q
theorem nz_tr {t1 t2 : Nat → Int} (q1 : NZt t t1) (q2 : NZt t1 t2) : NZt t t2 := fun v q => q2 v (q1 v q)
theorem nz_212 (hx : ty ≠ 0) {i : Int} : NZt t (ty212 t r i ty).1 := nz_vup hx
theorem nz_X (hx : ty ≠ 0) : NZt t (tyX t r v ty).1 := by
  unfold tyX
  split
  · exact nz_212 hx
  · split
    · exact nz_rf
    · exact nz_rf
theorem nz_214 (hx : ty ≠ 0) : NZt t (ty214 t r ty).1 := by
  unfold ty214
  split
  · show NZt t (if r 1 = 1 then vup t 3 ty else t)
    split
    · exact nz_vup hx
    · exact nz_rf
  · split
    · exact nz_rf
    · exact nz_rf
theorem nz_at (hx : ty ≠ 0) : (tyX t r v ty).1 v ≠ 0 := by
  unfold tyX
  by_cases c : t v = 0
  · rw [if_pos c]
    show vup t (v : Int).toNat ty v ≠ 0
    rw [Int.toNat_natCast, vup_eq]
    exact hx
  · rw [if_neg c]
    split
    · exact c
    · exact c
/-- what a line does to types -/
def TLz (X : Nat → List Int) (h : Nat → Nat) (E : List Int) (W : List Int) (t : Nat → Int) (y : RT2) (a : Nat) : Prop := ∃ h' E', trun X 0 W 1 (h, [], E) = (h', [], E') ∧ TRz h' E' y.1 y.2 a ∧ NZt t y.1
/-- what a line does to the law's rows, by its kind -/
theorem nm2_4 {kd x : Int} (hk : kd = 4) : (nmt kd x e t r).2 = (vup (ty213 t r (e 0)).1 (x + 1).toNat 1, (ty213 t r (e 0)).2) := by
  unfold nmt
  rw [if_pos hk]
theorem nm2_5 {kd x : Int} (hk : kd = 5) : (nmt kd x e t r).2 = (vup t (x + 1).toNat 1, r) := by
  unfold nmt
  rw [if_neg (by omega), if_pos hk]
theorem nm2_20 {kd x : Int} (hk : kd = 20) : (nmt kd x e t r).2 = (vup t (x + 1).toNat 2, r) := by
  unfold nmt
  rw [if_neg (by omega), if_neg (by omega), if_pos hk]
theorem nm2_6 {kd x : Int} (hk : kd = 6) : (nmt kd x e t r).2 = if e 0 = 3 ∧ t 3 = 0 ∧ r 0 = 0 then (t, vup r 1 1) else if e 0 = 3 ∧ t 3 = 0 then (vup t 3 (r 0), r) else ty214 t r (t (e 0).toNat) := by
  unfold nmt
  rw [if_neg (by omega), if_neg (by omega), if_neg (by omega), if_pos hk]
theorem nm2_7 {kd x : Int} (hk : kd = 7) : (nmt kd x e t r).2 = ty214 (ty213 t r (e 1)).1 (ty213 t r (e 1)).2 1 := by
  unfold nmt
  rw [if_neg (by omega), if_neg (by omega), if_neg (by omega), if_neg (by omega), if_pos hk]
theorem nm2_10 {kd x : Int} (hk : kd = 10) : (nmt kd x e t r).2 = ((ty213 t r (e 0)).1, vup (ty213 t r (e 0)).2 2 ((ty213 t r (e 0)).2 2 + (if (ty213 t r (e 0)).1 (e 0).toNat = 2 then 1 else 0))) := by
  unfold nmt
  rw [if_neg (by omega), if_neg (by omega), if_neg (by omega), if_neg (by omega), if_neg (by omega), if_pos hk]
theorem nm2_16 {kd x : Int} (hk : kd = 16) : (nmt kd x e t r).2 = if e 1 < 0 then ty214 t r 2 else if t (e 0).toNat = 0 then ty214 (ty212 t r (e 0) (t (e 1).toNat)).1 (ty212 t r (e 0) (t (e 1).toNat)).2 2 else if t (e 1).toNat = t (e 0).toNat then ty214 t r 2 else ty214 t (vup r 2 (r 2 + 1)) 2 := by
  unfold nmt
  rw [if_neg (by omega), if_neg (by omega), if_neg (by omega), if_neg (by omega), if_neg (by omega), if_neg (by omega), if_pos hk]
theorem nm2_8 {kd x : Int} (hk : kd = 8) : (nmt kd x e t r).2 = ty213 t r (e 0) := by
  unfold nmt
  rw [if_neg (by omega), if_neg (by omega), if_neg (by omega), if_neg (by omega), if_neg (by omega), if_neg (by omega), if_neg (by omega), if_pos hk]
theorem nm2_0 {kd x : Int} (hk : kd = 3 ∨ kd = 9 ∨ kd = 22) : (nmt kd x e t r).2 = (t, r) := by
  unfold nmt
  rw [if_neg (by omega), if_neg (by omega), if_neg (by omega), if_neg (by omega), if_neg (by omega), if_neg (by omega), if_neg (by omega), if_neg (by omega)]
theorem tl_x {m : Nat} (hb : bnd X m = e 0) (he : 3 ≤ e 0) : slo X 0 m = (e 0).toNat := slo_b hb (by omega)
theorem tl_4 (H : TRz h E t r a) (ha : 6 ≤ a ∧ a < 100) (he : 3 ≤ e 0) (hv : e 0 = 3 ∨ t (e 0).toNat ≠ 0) (hb : bnd X (a + 3) = e 0 ∧ bnd X (a + 1) = ((a + 1 : Nat) : Int)) (hK : KA (ks X 0) 4 a) :
    TLz X h E (wlk 4 a j n) t (nmt ((4 : Nat) : Int) (a : Int) e t r).2 (a + 7) := by
  have k3 : kn (ks X 0) (a + 3) = 0 := hK 3 (by decide)
  have k4 : kn (ks X 0) (a + 4) = 19 := hK 4 (by decide)
  have k5 : kn (ks X 0) (a + 5) = 1 := hK 5 (by decide)
  obtain ⟨h1, E1, e1, -, H1⟩ := (al_x (fi := ((200 * 0 + (a + 3) : Nat) : Int)) (u := 600) (v := (e 0).toNat) (ty := 1) H (by omega) (by omega) (Or.inl ⟨rfl, rfl⟩) H.1.1).1
  have fr := H1.2.2.2.2.2.2.2.2 (a + 1) (by omega) (by omega)
  have h6 := H1.1.1
  have e2 : alT (h1, E1) 600 (slo X 0 (a + 1)) ((200 * 0 + (a + 3) : Nat) : Int) = (fun x => if h1 x = h1 (a + 1) then h1 600 else h1 x, E1) := by
    rw [slo_b hb.2 (by omega), Int.toNat_natCast]
    exact al_r (by omega) (by omega)
  have e213 : ty213 t r (e 0) = tyX t r (e 0).toNat 1 := by
    rw [← tyX_213 H, show (((e 0).toNat : Nat) : Int) = e 0 by omega]
  have ea : ((a : Int) + 1).toNat = a + 1 := by omega
  rw [nm2_4 (by decide), e213, ea, w_k4]
  refine ⟨_, E1, (tr_ex3 ⟨by omega, by omega, by omega⟩ k3 (tl_x hb.1 he) k5 (by omega) (if_neg (by omega)) e1).trans ((tr_c (by decide) ((u_78 (Or.inl rfl) (by omega)).trans (by rw [e2]))).trans rfl), ?_, ?_⟩
  · have D := (H1.decl (s := a + 1) (ty := 1) (k := h1 600) (by omega) ⟨by omega, by omega⟩ (Or.inl ⟨rfl, h6⟩)).wide (b := a + 7) (by omega)
    exact D
  · exact nz_tr (nz_X (by decide)) (nz_vup (by decide))
theorem tl_5 (H : TRz h E t r a) (ha : 6 ≤ a ∧ a < 100) (hb : bnd X (a + 1) = ((a + 1 : Nat) : Int)) (hK : KA (ks X 0) 5 a) :
    TLz X h E (wlk 5 a j n) t (nmt ((5 : Nat) : Int) (a : Int) e t r).2 (a + 5) := by
  have k3 : kn (ks X 0) (a + 3) = 1 := hK 3 (by decide)
  have fr := H.2.2.2.2.2.2.2.2 (a + 1) (by omega) (by omega)
  have h6 := H.1.1
  have e2 : alT (h, E) 600 (slo X 0 (a + 1)) ((200 * 0 + (a + 3) : Nat) : Int) = (fun x => if h x = h (a + 1) then h 600 else h x, E) := by
    rw [slo_b hb (by omega), Int.toNat_natCast]
    exact al_r (by omega) (by omega)
  have ea : ((a : Int) + 1).toNat = a + 1 := by omega
  rw [nm2_5 (by decide), ea, w_k5]
  refine ⟨_, E, (tr_c (by decide) (u_n (by decide))).trans ((tr_c (by decide) (u_14i (by omega) k3)).trans ((tr_c (by decide) ((u_78 (Or.inl rfl) (by omega)).trans (by rw [e2]))).trans rfl)), ?_, ?_⟩
  · have D := (H.decl (s := a + 1) (ty := 1) (k := h 600) (by omega) ⟨by omega, by omega⟩ (Or.inl ⟨rfl, h6⟩)).wide (b := a + 5) (by omega)
    exact D
  · exact nz_vup (by decide)
theorem tl_20 (H : TRz h E t r a) (ha : 6 ≤ a ∧ a < 100) (hb : bnd X (a + 1) = ((a + 1 : Nat) : Int)) (hK : KA (ks X 0) 20 a) :
    TLz X h E (wlk 20 a j n) t (nmt ((20 : Nat) : Int) (a : Int) e t r).2 (a + 6) := by
  have k4 : kn (ks X 0) (a + 4) = 9 := hK 4 (by decide)
  have fr := H.2.2.2.2.2.2.2.2 (a + 1) (by omega) (by omega)
  have h6 := H.1.2
  have e2 : alT (h, E) 601 (slo X 0 (a + 1)) ((200 * 0 + (a + 3) : Nat) : Int) = (fun x => if h x = h (a + 1) then h 601 else h x, E) := by
    rw [slo_b hb (by omega), Int.toNat_natCast]
    exact al_r (by omega) (by omega)
  have e1 : alT (h, E) 601 601 ((200 * 0 + (a + 4) : Nat) : Int) = (h, E) := al_same rfl
  have ea : ((a : Int) + 1).toNat = a + 1 := by omega
  rw [nm2_20 (by decide), ea, w_k20]
  refine ⟨_, E, (tr_c (by decide) (u_n (by decide))).trans ((tr_c (by decide) (u_14b (by omega) k4)).trans ((tr_c (by decide) ((u_16 (by omega)).trans (by rw [e1]))).trans ((tr_c (by decide) ((u_78 (Or.inl rfl) (by omega)).trans (by rw [e2]))).trans rfl))), ?_, ?_⟩
  · have D := (H.decl (s := a + 1) (ty := 2) (k := h 601) (by omega) ⟨by omega, by omega⟩ (Or.inr ⟨rfl, h6⟩)).wide (b := a + 6) (by omega)
    exact D
  · exact nz_vup (by decide)
theorem tl_6 (H : TRz h E t r a) (ha : 6 ≤ a ∧ a < 100) (he : 3 ≤ e 0) (hv : e 0 = 3 ∨ t (e 0).toNat ≠ 0) (hb : bnd X (a + 1) = e 0) (hK : KA (ks X 0) 6 a) :
    TLz X h E (wlk 6 a j n) t (nmt ((6 : Nat) : Int) (a : Int) e t r).2 (a + 3) := by
  have k1 : kn (ks X 0) (a + 1) = 0 := hK 1 (by decide)
  have key : ∀ (h' : Nat → Nat) (E' : List Int) (y : RT2), alT (h, E) (e 0).toNat 1 ((200 * 0 + (a + 1) : Nat) : Int) = (h', E') → TRz h' E' y.1 y.2 a → NZt t y.1 → TLz X h E (wlk 6 a j n) t y (a + 3) := fun h' E' y q1 q2 q3 => by
    rw [w_k6]
    exact ⟨h', E', (tr_c (by decide) (u_n (by decide))).trans ((tr_c (by decide) (u_14n (by omega) k1 (tl_x hb he))).trans ((tr_c (by decide) (u_10.trans (by rw [q1]))).trans rfl)), q2.wide (by omega), q3⟩
  rw [nm2_6 (by decide)]
  by_cases c1 : e 0 = 3 ∧ t 3 = 0 ∧ r 0 = 0
  · obtain ⟨g1, g2, g3⟩ := id c1
    have g4 : (e 0).toNat = 3 := by omega
    rw [if_pos c1]
    by_cases c2 : h 3 = h 1
    · refine key h E _ (by rw [g4]; exact al_same c2) ?_ nz_rf
      show TRz h E t (vup r 1 1) a
      have : vup r 1 1 = r := by
        have := vup_self (v := r) (i := 1)
        rwa [H.2.2.2.2.2.1 g2 g3 c2] at this
      rw [this]
      exact H
    · exact key _ E _ (by rw [g4]; exact al_l c2 (H.2.2.1 g2)) (H.join (by omega) g2 g3) nz_rf
  · rw [if_neg c1]
    by_cases c2 : e 0 = 3 ∧ t 3 = 0
    · obtain ⟨g1, g2⟩ := id c2
      have g4 : (e 0).toNat = 3 := by omega
      have l3 := H.2.2.1 g2
      have h4 := H.2.2.2.1
      have g5 : r 0 ≠ 0 := fun q => c1 ⟨g1, g2, q⟩
      have g6 : ¬ r 1 = 1 := fun q => g5 ((H.2.2.2.2.1 q).1.symm.trans g2)
      rw [if_pos c2]
      have P := H.par (ty := r 0) (k := h 1) (by omega) g2 (by unfold tyh; omega)
      have q2 : (ty212 t r 3 (r 0)).2 = r := if_neg (fun q => g6 q.2)
      rw [q2] at P
      exact key _ E _ (by rw [g4]; exact al_l (by omega) l3) P (nz_vup g5)
    · rw [if_neg c2]
      have g1 : t (e 0).toNat ≠ 0 := by
        rcases hv with q | q
        · intro q2
          refine c2 ⟨q, ?_⟩
          rwa [q] at q2
        · exact q
      have h2 := H.2.1 (e 0).toNat
      have hk : tyh (t (e 0).toNat) (h (e 0).toNat) := by unfold tyh; omega
      obtain ⟨h1, E1, e1, H1⟩ := al_ret (fi := ((200 * 0 + (a + 1) : Nat) : Int)) (u := (e 0).toNat) H (by omega) hk rfl
      exact key h1 E1 _ e1 H1 (nz_214 g1)
theorem tl_8 (H : TRz h E t r a) (ha : 6 ≤ a ∧ a < 100) (he : 3 ≤ e 0) (hv : e 0 = 3 ∨ t (e 0).toNat ≠ 0) (hb : bnd X (a + 1) = e 0) (hK : KA (ks X 0) 8 a) :
    TLz X h E (wlk 8 a j n) t (nmt ((8 : Nat) : Int) (a : Int) e t r).2 (a + 5) := by
  have k1 : kn (ks X 0) (a + 1) = 0 := hK 1 (by decide)
  have k2 : kn (ks X 0) (a + 2) = 18 := hK 2 (by decide)
  have k3 : kn (ks X 0) (a + 3) = 1 := hK 3 (by decide)
  obtain ⟨h1, E1, e1, -, H1⟩ := (al_x (fi := ((200 * 0 + (a + 1) : Nat) : Int)) (u := 600) (v := (e 0).toNat) (ty := 1) H (by omega) (by omega) (Or.inl ⟨rfl, rfl⟩) H.1.1).1
  have e2 : alT (h1, E1) 601 601 ((200 * 0 + (a + 1) : Nat) : Int) = (h1, E1) := al_same rfl
  have e213 : ty213 t r (e 0) = tyX t r (e 0).toNat 1 := by
    rw [← tyX_213 H, show (((e 0).toNat : Nat) : Int) = e 0 by omega]
  rw [nm2_8 (by decide), e213, w_k8]
  refine ⟨h1, E1, (tr_ex3 ⟨by omega, by omega, by omega⟩ k1 (tl_x hb he) k3 (by omega) (if_pos k2) e1).trans ((tr_c (by decide) (u_11.trans (by rw [e2]))).trans ((tr_c (by decide) (u_n (by decide))).trans rfl)), ?_, ?_⟩
  · exact H1.wide (by omega)
  · exact nz_X (by decide)
theorem tl_10 (H : TRz h E t r a) (ha : 6 ≤ a ∧ a < 100) (he : 3 ≤ e 0) (hv : e 0 = 3 ∨ t (e 0).toNat ≠ 0) (hb : bnd X a = e 0 ∧ bnd X (a + 2) = e 0) (hK : KA (ks X 0) 10 a) :
    TLz X h E (wlk 10 a j n) t (nmt ((10 : Nat) : Int) (a : Int) e t r).2 (a + 6) := by
  have k2 : kn (ks X 0) (a + 2) = 0 := hK 2 (by decide)
  have k3 : kn (ks X 0) (a + 3) = 20 := hK 3 (by decide)
  have k4 : kn (ks X 0) (a + 4) = 1 := hK 4 (by decide)
  obtain ⟨h1, E1, e1, -, H1⟩ := (al_x (fi := ((200 * 0 + (a + 2) : Nat) : Int)) (u := 600) (v := (e 0).toNat) (ty := 1) H (by omega) (by omega) (Or.inl ⟨rfl, rfl⟩) H.1.1).1
  have h6 := H1.1.1
  have e213 : ty213 t r (e 0) = tyX t r (e 0).toNat 1 := by
    rw [← tyX_213 H, show (((e 0).toNat : Nat) : Int) = e 0 by omega]
  have key : ∀ (h' : Nat → Nat) (E' : List Int) (r' : Nat → Int), alT (h1, E1) 600 (e 0).toNat ((200 * 0 + (a + 2) : Nat) : Int) = (h', E') → TRz h' E' (tyX t r (e 0).toNat 1).1 r' a → TLz X h E (wlk 10 a j n) t ((tyX t r (e 0).toNat 1).1, r') (a + 6) := fun h' E' r' q1 q2 => by
    rw [w_k10]
    exact ⟨h', E', (tr_ex3 ⟨by omega, by omega, by omega⟩ k2 (tl_x hb.2 he) k4 (by omega) (if_neg (by omega)) e1).trans ((tr_c (by decide) ((u_78 (Or.inr rfl) (by omega)).trans (by rw [tl_x hb.1 he, q1]))).trans rfl), q2.wide (by omega), nz_X (by decide)⟩
  rw [nm2_10 (by decide), e213]
  have nz : (tyX t r (e 0).toNat 1).1 (e 0).toNat ≠ 0 := nz_at (by decide)
  have h2 := H1.2.1 (e 0).toNat
  by_cases c : (tyX t r (e 0).toNat 1).1 (e 0).toNat = 2
  · rw [if_pos c]
    exact key h1 _ _ (al_e (by omega) (by omega) (by omega)) H1.err
  · rw [if_neg c, Int.add_zero, vup_self]
    exact key h1 E1 _ (al_same (by omega)) H1
/-- the second name, where there is none: a token of its own -/
theorem sl_y {m : Nat} (hb : bnd X m = e 1) (hy : e 1 = -1 ∨ 3 < e 1) : slo X 0 m = if e 1 = -1 then m else (e 1).toNat := by
  by_cases c : e 1 = -1
  · rw [if_pos c]
    exact slo_n (hb.trans c)
  · rw [if_neg c]
    exact slo_b hb (by omega)
theorem tl_7 (H : TRz h E t r a) (ha : 6 ≤ a ∧ a < 100) (hy : e 1 = -1 ∨ 3 < e 1) (hv : e 1 = -1 ∨ t (e 1).toNat ≠ 0) (hb : bnd X (a + 1) = e 1) (hK : KA (ks X 0) 7 a) :
    TLz X h E (wlk 7 a j n) t (nmt ((7 : Nat) : Int) (a : Int) e t r).2 (a + 5) := by
  have k1 : kn (ks X 0) (a + 1) = 0 := hK 1 (by decide)
  have k2 : kn (ks X 0) (a + 2) = 21 := hK 2 (by decide)
  have k3 : kn (ks X 0) (a + 3) = 1 := hK 3 (by decide)
  have mid : ∃ h1 E1, alT (h, E) (if e 1 = -1 then a + 1 else (e 1).toNat) 600 ((200 * 0 + (a + 1) : Nat) : Int) = (h1, E1) ∧ TRz h1 E1 (ty213 t r (e 1)).1 (ty213 t r (e 1)).2 (a + 2) ∧ NZt t (ty213 t r (e 1)).1 := by
    by_cases c : e 1 = -1
    · have fr := H.2.2.2.2.2.2.2.2 (a + 1) (by omega) (by omega)
      have h6 := H.1.1
      have e213 : ty213 t r (e 1) = (t, r) := if_pos (by omega)
      rw [if_pos c, e213]
      exact ⟨_, E, al_l (by omega) (by omega), H.fresh (by omega) ⟨by omega, by omega⟩ (Or.inl (by omega)), nz_rf⟩
    · obtain ⟨h1, E1, e1, -, H1⟩ := (al_x (fi := ((200 * 0 + (a + 1) : Nat) : Int)) (u := 600) (v := (e 1).toNat) (ty := 1) H (by omega) (Or.inr (hv.resolve_left c)) (Or.inl ⟨rfl, rfl⟩) H.1.1).1
      have e213 : ty213 t r (e 1) = tyX t r (e 1).toNat 1 := by
        rw [← tyX_213 H, show (((e 1).toNat : Nat) : Int) = e 1 by omega]
      rw [if_neg c, e213]
      exact ⟨h1, E1, e1, H1.wide (by omega), nz_X (by decide)⟩
  obtain ⟨h1, E1, e1, H1, z1⟩ := mid
  obtain ⟨h2, E2, e2, H2⟩ := al_ret (fi := ((200 * 0 + (a + 1) : Nat) : Int)) (u := 600) (ty := 1) H1 (by omega) (Or.inl ⟨rfl, rfl⟩) H1.1.1
  rw [nm2_7 (by decide), w_k7]
  refine ⟨h2, E2, (tr_ex3 ⟨by omega, by omega, by omega⟩ k1 (sl_y hb hy) k3 (by omega) (if_neg (by omega)) e1).trans ((tr_c (by decide) (u_10.trans (by rw [e2]))).trans rfl), H2.wide (by omega), ?_⟩
  exact nz_tr z1 (nz_214 (by decide))
theorem tl_16 (H : TRz h E t r a) (ha : 6 ≤ a ∧ a < 100) (he : 3 ≤ e 0 ∧ e 0 < (a : Int)) (hv0 : e 0 = 3 ∨ t (e 0).toNat ≠ 0) (hy : e 1 = -1 ∨ 3 < e 1) (hv : e 1 = -1 ∨ t (e 1).toNat ≠ 0) (hb : bnd X (a + 1) = e 0 ∧ bnd X (a + 3) = e 1) (hK : KA (ks X 0) 16 a) :
    TLz X h E (wlk 16 a j n) t (nmt ((16 : Nat) : Int) (a : Int) e t r).2 (a + 5) := by
  have k1 : kn (ks X 0) (a + 1) = 0 := hK 1 (by decide)
  have k2 : kn (ks X 0) (a + 2) = 17 := hK 2 (by decide)
  have k3 : kn (ks X 0) (a + 3) = 0 := hK 3 (by decide)
  have key : ∀ (h1 : Nat → Nat) (E1 : List Int) (t1 r1 : Nat → Int), alT (h, E) (if e 1 = -1 then a + 3 else (e 1).toNat) (e 0).toNat ((200 * 0 + (a + 3) : Nat) : Int) = (h1, E1) → TRz h1 E1 t1 r1 (a + 4) → NZt t t1 → TLz X h E (wlk 16 a j n) t (ty214 t1 r1 2) (a + 5) := fun h1 E1 t1 r1 q1 q2 q3 => by
    obtain ⟨h2, E2, e2, H2⟩ := al_ret (fi := ((200 * 0 + (a + 1) : Nat) : Int)) (u := 601) (ty := 2) q2 (by omega) (Or.inr ⟨rfl, rfl⟩) q2.1.2
    rw [w_k16]
    exact ⟨h2, E2, (tr_c (by decide) (u_n (by decide))).trans ((tr_c (by decide) (u_14n (by omega) k1 (tl_x hb.1 he.1))).trans ((tr_c (by decide) (u_14n (by omega) k3 (sl_y hb.2 hy))).trans ((tr_c (by decide) ((u_17e (by omega) k2).trans (by rw [q1]))).trans ((tr_c (by decide) (u_10.trans (by rw [e2]))).trans rfl)))), H2.wide (by omega), nz_tr q3 (nz_214 (by decide))⟩
  rw [nm2_16 (by decide)]
  by_cases c : e 1 = -1
  · have fr := H.2.2.2.2.2.2.2.2 (a + 3) (by omega) (by omega)
    have f8 := H.2.2.2.2.2.2.2.1 (a + 3) (by omega) (by omega) (e 0).toNat
    have h2 := H.2.1 (e 0).toNat
    rw [if_pos (by omega)]
    rw [if_pos c] at key
    refine key _ E t r (al_l (by omega) (by omega)) (H.fresh (by omega) ⟨by omega, by omega⟩ ?_) nz_rf
    rcases hv0 with q | q
    · exact Or.inr (by rw [q]; rfl)
    · exact Or.inl (by omega)
  · have v1 := hv.resolve_left c
    have h2 := H.2.1 (e 1).toNat
    have hk : tyh (t (e 1).toNat) (h (e 1).toNat) := by unfold tyh; omega
    obtain ⟨h1, E1, e1, -, H1⟩ := (al_x (fi := ((200 * 0 + (a + 3) : Nat) : Int)) (u := (e 1).toNat) (v := (e 0).toNat) (ty := t (e 1).toNat) H (by omega) (by omega) hk rfl).2
    rw [if_neg c] at key
    have K2 := key h1 E1 _ _ e1 (H1.wide (by omega)) (nz_X v1)
    have e0 : (((e 0).toNat : Nat) : Int) = e 0 := by omega
    have eX : tyX t r (e 0).toNat (t (e 1).toNat) = if t (e 0).toNat = 0 then ty212 t r (e 0) (t (e 1).toNat) else if t (e 0).toNat = t (e 1).toNat then (t, r) else (t, vup r 2 (r 2 + 1)) := by
      unfold tyX
      rw [e0]
    rw [eX] at K2
    rw [if_neg (by omega)]
    by_cases c1 : t (e 0).toNat = 0
    · rw [if_pos c1] at K2 ⊢
      exact K2
    · rw [if_neg c1] at K2 ⊢
      by_cases c2 : t (e 0).toNat = t (e 1).toNat
      · rw [if_pos c2] at K2
        rw [if_pos c2.symm]
        exact K2
      · rw [if_neg c2] at K2
        rw [if_neg (fun q => c2 q.symm)]
        exact K2
/-- lines that speak of no value -/
theorem tl_0 {k : Nat} (hk : k = 3 ∨ k = 9 ∨ k = 22) (H : TRz h E t r a) : TLz X h E (wlk k a j n) t (nmt (k : Int) (a : Int) e t r).2 (a + tkz k) := by
  rw [nm2_0 (by omega)]
  rcases hk with rfl | rfl | rfl
  · refine ⟨h, E, ?_, H.wide (Nat.le_add_right _ _), nz_rf⟩
    rw [w_k3]
    split
    · exact (tr_c (by decide) (u_n (by decide))).trans ((tr_c (by decide) (u_n (by decide))).trans rfl)
    · exact (tr_c (by decide) (u_n (by decide))).trans rfl
  · rw [w_k9]
    exact ⟨h, E, (tr_c (by decide) (u_n (by decide))).trans ((tr_c (by decide) (u_n (by decide))).trans ((tr_c (by decide) (u_n (by decide))).trans rfl)), H.wide (Nat.le_add_right _ _), nz_rf⟩
  · rw [w_k22]
    exact ⟨h, E, (tr_c (by decide) (u_n (by decide))).trans ((tr_c (by decide) (u_n (by decide))).trans rfl), H.wide (Nat.le_add_right _ _), nz_rf⟩
end Mrj
